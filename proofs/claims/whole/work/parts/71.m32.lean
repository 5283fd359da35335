/-! PART 71: .. level by level -/
theorem go_1 {v N bz sn s i0 j0 L : Nat} {b : BS} {x0 : MS} {lev T : Nat → Option Nat} {B : Nat → Nat} {since : Int32} {d : SD} {sb : SB} {x : MS} (hC : sendC v N bz sn b x0 lev T B) (hs : s < 4822) (hsl : slv lev s = some 2) (ha : aS lev bz sn s) (hi0 : i0 < 8) (hj0 : j0 < 8) (w2 w3 w5 w6 w8 : Int32) (h : sendS x0 since d sb x L) (hL : L ≤ 25 + 19 * (64 * i0 + 8 * j0)) :
    ∃ d' sb' x' L', FX4_goOver_n3 d sb b (nI s) (nI 1) (nI (64 * i0 + 8 * j0)) = some (d', sb') ∧
      (∃ r x1, FX8_brings x (nI v) (ep s) (nI (64 * i0 + 8 * j0)) 8 since = some (r, x1) ∧ ∀ K : MS → Option (Int32 × MS), (if r = 0 then K x1 else FX8_send_L286 (nI v) w2 w3 since w5 w6 (nI i0) w8 (nI j0) (ep s) (fun xq48 _ => K xq48) 100000 x1 0) = K x') ∧
      sendS x0 since d' sb' x' L' ∧ L' ≤ 25 + 19 * (64 * i0 + 8 * j0 + 8) := by
  rcases go_head (l := 1) (pl := 64 * i0 + 8 * j0) hC (by omega) hs hsl ha h (by omega) with ⟨d', sb', x', L', a1, a2, a3, a4⟩ | ⟨k, d1, x1, a0, a1, a2, a3, a4, a5, a6⟩
  · exact ⟨d', sb', x', L', by rw [n3_head]; exact a1 _, ⟨0, x', a2, fun K => if_pos rfl⟩, a3, by omega⟩
  · obtain ⟨d', sb', x', L', c1, c2, c3, c4⟩ := go_1L hC hs ha a0 a1 a2 hi0 hj0 (nI s) w2 w3 w5 w6 w8 8 0 100000 100000 L d1 sb x1 (by omega) (by omega) (by omega) a6 (by omega)
    refine ⟨d', sb', x', L', by rw [n3_head, a4]; exact c1 _, ⟨1, x1, a5, fun K => ?_⟩, c3, c4⟩
    rw [if_neg (by decide)]
    exact c2 _
theorem go_2L {v N bz sn s k i0 : Nat} {b : BS} {x0 : MS} {lev T : Nat → Option Nat} {B : Nat → Nat} {since : Int32} (hC : sendC v N bz sn b x0 lev T B) (hs : s < 4822) (ha : aS lev bz sn s) (hk : k < 600) (hT : T s = some k) (hlk : lev k = some 2) (hi0 : i0 < 8) (v2 w2 w3 w5 w6 : Int32) :
    ∀ (m i n9 m9 L : Nat) (d : SD) (sb : SB) (x : MS), i + m = 8 → m < n9 → m < m9 → sendS x0 since d sb x L → L ≤ 25 + 19 * (64 * i0 + 8 * i) →
      ∃ d' sb' x' L', (∀ k9 : SD → SB → Int32 → Option (SD × SB), FX4_goOver_n4_L98 b v2 (nI 2) (nI (64 * i0)) (nI k) k9 n9 d sb (nI i) = k9 d' sb' (nI 8)) ∧ (∀ k8 : MS → Int32 → Option (Int32 × MS), FX8_send_L233 (nI v) w2 w3 since w5 w6 (nI i0) (ep s) k8 m9 x (nI i) = k8 x' (nI 8)) ∧ sendS x0 since d' sb' x' L' ∧ L' ≤ 25 + 19 * (64 * i0 + 64) := by
  intro m
  induction m with
  | zero =>
    intro i n9 m9 L d sb x h1 h2 h3 h hL
    cases n9 with
    | zero => omega
    | succ n9 =>
      cases m9 with
      | zero => omega
      | succ m9 =>
        have hi : i = 8 := by omega
        subst hi
        exact ⟨d, sb, x, L, fun k9 => by rw [FX4_goOver_n4_L98, if_pos (by decide)], fun k8 => by rw [FX8_send_L233, if_pos (by decide)], h, hL⟩
  | succ m ih =>
    intro i n9 m9 L d sb x h1 h2 h3 h hL
    cases n9 with
    | zero => omega
    | succ n9 =>
      cases m9 with
      | zero => omega
      | succ m9 =>
        obtain ⟨q1, q2, q3, q4⟩ := kid (T := T) (bz := bz) (sn := sn) (i := i) hk hlk (by omega)
        obtain ⟨d1, sb1, x2, L1, c1, ⟨r, x1, c2, c2b⟩, c3, c4⟩ := go_1 (i0 := i0) (j0 := i) hC q1 q2 q3 hi0 (by omega) w2 w3 w5 w6 (ep s) h hL
        obtain ⟨d', sb', x', L', e1, e2, e3, e4⟩ := ih (i + 1) n9 m9 L1 d1 sb1 x2 (by omega) (by omega) (by omega) c3 (by rw [show 64 * i0 + 8 * (i + 1) = 64 * i0 + 8 * i + 8 by omega]; exact c4)
        refine ⟨d', sb', x', L', ?_, ?_, e3, e4⟩
        · intro k9
          rw [FX4_goOver_n4_L98, if_neg (nge_lit (C := 8) (c := 8) (i := i) rfl (by omega) (by omega)), nI8, pls ⟨1, by omega⟩ ⟨i, by omega⟩, show nI 2 - 1 = nI 1 from by decide, show (i * 8 ^ 1) = 8 * i by omega, nI_add, c1, Option.bind_some, nI_1]
          exact e1 k9
        · intro k8
          have ex : (64 : Int32) * nI i0 + 8 * nI i = nI (64 * i0 + 8 * i) := by rw [show (8 : Int32) * nI i = nI (8 * i) by rw [show (8 : Int32) = nI 8 from rfl, nI_mul]]; exact mix 64 i0 (8 * i) 64 rfl
          rw [FX8_send_L233, if_neg (nge_lit (C := 8) (c := 8) (i := i) rfl (by omega) (by omega)), told_x hC hs ha h hT, Option.bind_some, kid_ref, ex, ← q4, c2, Option.bind_some]
          refine Eq.trans (c2b (fun xq => FX8_send_L233 (nI v) w2 w3 since w5 w6 (nI i0) (ep s) k8 m9 xq (nI i + 1))) ?_
          rw [nI_1]
          exact e2 k8
theorem go_2 {v N bz sn s i0 L : Nat} {b : BS} {x0 : MS} {lev T : Nat → Option Nat} {B : Nat → Nat} {since : Int32} {d : SD} {sb : SB} {x : MS} (hC : sendC v N bz sn b x0 lev T B) (hs : s < 4822) (hsl : slv lev s = some 3) (ha : aS lev bz sn s) (hi0 : i0 < 8) (w2 w3 w5 w6 : Int32) (h : sendS x0 since d sb x L) (hL : L ≤ 25 + 19 * (64 * i0)) :
    ∃ d' sb' x' L', FX4_goOver_n4 d sb b (nI s) (nI 2) (nI (64 * i0)) = some (d', sb') ∧
      (∃ r x1, FX8_brings x (nI v) (ep s) (nI (64 * i0)) 64 since = some (r, x1) ∧ ∀ K : MS → Option (Int32 × MS), (if r = 0 then K x1 else FX8_send_L233 (nI v) w2 w3 since w5 w6 (nI i0) (ep s) (fun xq48 _ => K xq48) 100000 x1 0) = K x') ∧
      sendS x0 since d' sb' x' L' ∧ L' ≤ 25 + 19 * (64 * i0 + 64) := by
  rcases go_head (l := 2) (pl := 64 * i0) hC (by omega) hs hsl ha h (by omega) with ⟨d', sb', x', L', a1, a2, a3, a4⟩ | ⟨k, d1, x1, a0, a1, a2, a3, a4, a5, a6⟩
  · exact ⟨d', sb', x', L', by rw [n4_head]; exact a1 _, ⟨0, x', a2, fun K => if_pos rfl⟩, a3, by omega⟩
  · obtain ⟨d', sb', x', L', c1, c2, c3, c4⟩ := go_2L hC hs ha a0 a1 a2 hi0 (nI s) w2 w3 w5 w6 8 0 100000 100000 L d1 sb x1 (by omega) (by omega) (by omega) a6 (by omega)
    refine ⟨d', sb', x', L', by rw [n4_head, a4]; exact c1 _, ⟨1, x1, a5, fun K => ?_⟩, c3, c4⟩
    rw [if_neg (by decide)]
    exact c2 _
theorem go_3L {v N bz sn s k : Nat} {b : BS} {x0 : MS} {lev T : Nat → Option Nat} {B : Nat → Nat} {since : Int32} (hC : sendC v N bz sn b x0 lev T B) (hs : s < 4822) (ha : aS lev bz sn s) (hk : k < 600) (hT : T s = some k) (hlk : lev k = some 3) (v2 w2 w3 : Int32) :
    ∀ (m i n9 m9 L : Nat) (d : SD) (sb : SB) (x : MS), i + m = 8 → m < n9 → m < m9 → sendS x0 since d sb x L → L ≤ 25 + 19 * (64 * i) →
      ∃ d' sb' x' L', (∀ k9 : SD → SB → Int32 → Option (SD × SB), FX4_goOver_n5_L98 b v2 (nI 3) (nI 0) (nI k) k9 n9 d sb (nI i) = k9 d' sb' (nI 8)) ∧ (∀ k8 : MS → Int32 → Option (Int32 × MS), FX8_send_L181 (nI v) w2 w3 since (ep s) 1 k8 m9 x (nI i) = k8 x' (nI 8)) ∧ sendS x0 since d' sb' x' L' ∧ L' ≤ 25 + 19 * 512 := by
  intro m
  induction m with
  | zero =>
    intro i n9 m9 L d sb x h1 h2 h3 h hL
    cases n9 with
    | zero => omega
    | succ n9 =>
      cases m9 with
      | zero => omega
      | succ m9 =>
        have hi : i = 8 := by omega
        subst hi
        exact ⟨d, sb, x, L, fun k9 => by rw [FX4_goOver_n5_L98, if_pos (by decide)], fun k8 => by rw [FX8_send_L181, if_pos (by decide)], h, hL⟩
  | succ m ih =>
    intro i n9 m9 L d sb x h1 h2 h3 h hL
    cases n9 with
    | zero => omega
    | succ n9 =>
      cases m9 with
      | zero => omega
      | succ m9 =>
        obtain ⟨q1, q2, q3, q4⟩ := kid (T := T) (bz := bz) (sn := sn) (i := i) hk hlk (by omega)
        obtain ⟨d1, sb1, x2, L1, c1, ⟨r, x1, c2, c2b⟩, c3, c4⟩ := go_2 (i0 := i) hC q1 q2 q3 (by omega) w2 w3 (ep s) 1 h hL
        obtain ⟨d', sb', x', L', e1, e2, e3, e4⟩ := ih (i + 1) n9 m9 L1 d1 sb1 x2 (by omega) (by omega) (by omega) c3 (by rw [show 64 * (i + 1) = 64 * i + 64 by omega]; exact c4)
        refine ⟨d', sb', x', L', ?_, ?_, e3, e4⟩
        · intro k9
          rw [FX4_goOver_n5_L98, if_neg (nge_lit (C := 8) (c := 8) (i := i) rfl (by omega) (by omega)), nI8, pls ⟨2, by omega⟩ ⟨i, by omega⟩, show nI 3 - 1 = nI 2 from by decide, show (i * 8 ^ 2) = 64 * i by omega, nI_add, Nat.zero_add, c1, Option.bind_some, nI_1]
          exact e1 k9
        · intro k8
          have ex : (64 : Int32) * nI i = nI (64 * i) := by rw [show (64 : Int32) = nI 64 from rfl, nI_mul]
          rw [FX8_send_L181, if_neg (nge_lit (C := 8) (c := 8) (i := i) rfl (by omega) (by omega)), if_neg (by decide), told_x hC hs ha h hT, Option.bind_some, kid_ref, ex, ← q4, c2, Option.bind_some]
          refine Eq.trans (c2b (fun xq => FX8_send_L181 (nI v) w2 w3 since (ep s) 1 k8 m9 xq (nI i + 1))) ?_
          rw [nI_1]
          exact e2 k8
theorem go_3 {v N bz sn s L : Nat} {b : BS} {x0 : MS} {lev T : Nat → Option Nat} {B : Nat → Nat} {since : Int32} {d : SD} {sb : SB} {x : MS} (hC : sendC v N bz sn b x0 lev T B) (hs : s < 4822) (hsl : slv lev s = some 4) (ha : aS lev bz sn s) (w2 w3 : Int32) (h : sendS x0 since d sb x L) (hL : L ≤ 25) :
    ∃ d' sb' x' L', FX4_goOver_n5 d sb b (nI s) 3 0 = some (d', sb') ∧
      (∃ r x1, FX8_brings x (nI v) (ep s) 0 512 since = some (r, x1) ∧ ∀ K : MS → Option (Int32 × MS), FX8_send_L181 (nI v) w2 w3 since (ep s) r (fun xq48 _ => K xq48) 100000 x1 0 = K x') ∧
      sendS x0 since d' sb' x' L' ∧ L' ≤ 25 + 19 * 512 := by
  rcases go_head (l := 3) (pl := 0) hC (by omega) hs hsl ha h (by omega) with ⟨d', sb', x', L', a1, a2, a3, a4⟩ | ⟨k, d1, x1, a0, a1, a2, a3, a4, a5, a6⟩
  · refine ⟨d', sb', x', L', by rw [n5_head]; exact a1 _, ⟨0, x', a2, fun K => ?_⟩, a3, by omega⟩
    have : ∀ n9, FX8_send_L181 (nI v) w2 w3 since (ep s) 0 (fun xq48 _ => K xq48) (n9 + 1) x' 0 = K x' := by
      intro n9
      rw [FX8_send_L181, if_neg (by decide), if_pos rfl]
    exact this 99999
  · obtain ⟨d', sb', x', L', c1, c2, c3, c4⟩ := go_3L hC hs ha a0 a1 a2 (nI s) w2 w3 8 0 100000 100000 L d1 sb x1 (by omega) (by omega) (by omega) a6 (by omega)
    exact ⟨d', sb', x', L', by rw [n5_head]; exact (a4 _).trans (c1 _), ⟨1, x1, a5, fun K => c2 _⟩, c3, c4⟩
