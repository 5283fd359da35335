/-! PART 66: a new volume; read -/
theorem frN_all : ∀ n, frN n (fun _ => none) = n := by
  intro n
  induction n with
  | zero => rfl
  | succ n ih =>
    show frN n (fun _ => none) + (if (none : Option Nat) = none then 1 else 0) = n + 1
    rw [ih, if_pos rfl]
theorem cnt_all (k : Nat) : ∀ n, cntT n (fun _ => none) k = 0 := by
  intro n
  induction n with
  | zero => rfl
  | succ n ih =>
    show cntT n (fun _ => none) k + (if (none : Option Nat) = some k then 1 else 0) = 0
    rw [ih, if_neg (by simp)]
theorem bRel_new {N : Nat} (b : BS) (hN : N ≤ 600) : ∃ b', FX0_startAnew b (nI N) = some b' ∧ bRel N b' (fun _ => none) (fun _ => none) (fun _ => 0) none := by
  refine ⟨_, by unfold FX0_startAnew; rw [m_fill (by omega), Option.bind_some, m_fill (by omega), Option.bind_some, m_fill (by omega), Option.bind_some, m_fill (by omega), Option.bind_some], rfl, hN, ?_, ?_, ?_, ?_, ?_, ?_, ?_, ?_, ?_, [], ?_, ?_⟩
  · intro k hk
    show (if k < 600 then (-1 : Int32) else BS_lev b k) = -1
    rw [if_pos hk]
  · intro k l e; cases e
  · intro s hs
    show (if s < 4822 then (-1 : Int32) else BS_told b s) = -1
    rw [if_pos hs]
  · intro s k hs e; cases e
  · intro s hs
    show (if s < 4822 then (0 : Int32) else BS_bir b s) = nI 0
    rw [if_pos hs]; rfl
  · intro k hk
    show (if k < 600 then (0 : Int32) else BS_tel b k) = nI (cntT 4822 (fun _ => none) k)
    rw [if_pos hk, cnt_all]; rfl
  · intro s k hs e; cases e
  · show nI N = nI (frN N (fun _ => none))
    rw [frN_all]
  · intro k e; cases e
  · exact ⟨rfl, List.nodup_nil, fun i x e => by simp at e⟩
  · intro k
    constructor
    · intro e; cases e
    · rintro ⟨e, -⟩; exact absurd rfl e
theorem m8_freshL {v : Nat} (hv : v < 2) (x : MS) (v2 : Int32) (k9 : MS → Int32 → Option MS) : ∀ (m j : Nat) (f : Nat → Int32), j ≤ 600 → 600 - j < m →
    FX8_fresh_L9 (nI v) v2 k9 m (MS_setlev x f) (nI j) = k9 (MS_setlev x (fun i => if 600 * v + j ≤ i ∧ i < 600 * v + 600 then -1 else f i)) (nI 600) := by
  intro m
  induction m with
  | zero => intro j f h1 h2; omega
  | succ m ih =>
    intro j f h1 h2
    rw [FX8_fresh_L9]
    by_cases hj : j = 600
    · subst hj
      rw [if_pos (by decide)]
      have : (fun i => if 600 * v + 600 ≤ i ∧ i < 600 * v + 600 then (-1 : Int32) else f i) = f := by
        funext i
        rw [if_neg (by omega)]
      rw [this]
    · rw [if_neg (nge_lit (C := 600) (c := 600) (i := j) rfl (by omega) (by omega)), mix 600 v j 600 rfl, m_ast _ _ (by omega) (by omega), Option.bind_some, nI_1]
      have := ih (j + 1) (upd f (600 * v + j) (-1)) (by omega) (by omega)
      refine Eq.trans this ?_
      have : (fun i => if 600 * v + (j + 1) ≤ i ∧ i < 600 * v + 600 then (-1 : Int32) else upd f (600 * v + j) (-1) i) = (fun i => if 600 * v + j ≤ i ∧ i < 600 * v + 600 then (-1 : Int32) else f i) := by
        funext i
        by_cases e : i = 600 * v + j
        · rw [e, if_neg (by omega), if_pos (by omega), upd_self]
        · rw [upd_ne e]
          by_cases e2 : 600 * v + (j + 1) ≤ i ∧ i < 600 * v + 600
          · rw [if_pos e2, if_pos (by omega)]
          · rw [if_neg e2, if_neg (by omega)]
      rw [this]
theorem ref_fresh {v N : Nat} (hv : v < 2) (x : MS) : ∃ y, FX8_fresh x (nI v) (nI N) = some y ∧ fr v x y ∧ MS_many y v = nI N ∧ (∀ k, k < 600 → MS_lev y (600 * v + k) = -1) ∧ MS_tt y (22 * v) = -1 ∧ MS_tb y (22 * v) = 0 ∧ MS_gen y v = 1 ∧ MS_snaps y v = 0 ∧ MS_busy y v = 0 ∧ MS_rec y v = 0 := by
  have e1 : (22 : Int32) * nI v + 0 = nI (22 * v) := by rw [show (0 : Int32) = nI 0 from rfl, mix 22 v 0 22 rfl]; rfl
  have hL := fun k9 => m8_freshL hv (MS_setmany x (upd (MS_many x) v (nI N))) (nI N) k9 100000 0 (MS_lev x) (by omega) (by omega)
  refine ⟨MS_setrec (MS_setbusy (MS_setsnaps (MS_setgen (MS_settb (MS_settt (MS_setlev (MS_setmany x (upd (MS_many x) v (nI N))) (fun i => if 600 * v + 0 ≤ i ∧ i < 600 * v + 600 then -1 else MS_lev x i)) (upd (MS_tt x) (22 * v) (-1))) (upd (MS_tb x) (22 * v) 0)) (upd (MS_gen x) v 1)) (upd (MS_snaps x) v 0)) (upd (MS_busy x) v 0)) (upd (MS_rec x) v 0), ?_, ?_, upd_self, ?_, upd_self, upd_self, upd_self, upd_self, upd_self, upd_self⟩
  · unfold FX8_fresh
    rw [m_ast _ _ hv (by omega), Option.bind_some]
    refine Eq.trans (hL _) ?_
    rw [e1, m_ast _ _ (by omega) (by omega), Option.bind_some, m_ast _ _ (by omega) (by omega), Option.bind_some, m_ast _ _ hv (by omega), Option.bind_some, m_ast _ _ hv (by omega), Option.bind_some, nar0, m_ast _ _ hv (by omega), Option.bind_some, m_ast _ _ hv (by omega), Option.bind_some]
  · refine ⟨fun u hu hne => ⟨upd_ne hne, upd_ne hne, upd_ne hne, upd_ne hne, rfl, upd_ne hne, rfl, fun k hk => ⟨?_, rfl⟩, fun s hs4 => ?_, fun k hk => ⟨rfl, rfl⟩⟩, rfl, rfl, rfl, rfl, rfl, rfl, rfl⟩
    · show (if 600 * v + 0 ≤ 600 * u + k ∧ 600 * u + k < 600 * v + 600 then (-1 : Int32) else MS_lev x (600 * u + k)) = _
      rw [if_neg (by omega)]
    · unfold rT rB
      by_cases h4 : s < 4800
      · rw [if_pos h4, if_pos h4, if_pos h4, if_pos h4]; exact ⟨rfl, rfl⟩
      · rw [if_neg h4, if_neg h4, if_neg h4, if_neg h4]
        have h5 : s % 4800 < 22 := by have h6 : s < 4822 := hs4; omega
        have h7 : 22 * u + s % 4800 ≠ 22 * v := by omega
        exact ⟨upd_ne h7, upd_ne h7⟩
  · intro k hk
    show (if 600 * v + 0 ≤ 600 * v + k ∧ 600 * v + k < 600 * v + 600 then (-1 : Int32) else MS_lev x (600 * v + k)) = _
    rw [if_pos (by omega)]
theorem vol_new {v N : Nat} {y : MS} (w : VS) (hN : N ≤ 600) (h1 : MS_many y v = nI N) (h2 : ∀ k, k < 600 → MS_lev y (600 * v + k) = -1) (h3 : MS_tt y (22 * v) = -1) (h4 : MS_tb y (22 * v) = 0) (h5 : MS_gen y v = 1) (h6 : MS_snaps y v = 0) (h7 : MS_busy y v = 0) :
    ∃ w', FX6_startAnew w (nI N) = some w' ∧ vol v N 0 0 1 w' y (fun _ => none) (fun _ => none) (fun _ => 0) ∧ stl (fun _ => none) (fun _ => none) := by
  obtain ⟨b', a1, a2⟩ := bRel_new (VS_b w) hN
  refine ⟨VS_setbusy (VS_setsnaps (VS_setgen (VS_setb w b') 1) 0) 0, by unfold FX6_startAnew; rw [a1, Option.bind_some], ⟨a2, ⟨h2, ?_⟩, fun s k _ e => (by cases e), fun _ _ => (show 0 < 2 ^ 31 by omega), ⟨rfl, h5, by omega⟩, h1, ⟨rfl, h7, by omega⟩, ⟨rfl, h6, by omega⟩, fun k _ e => (by cases e), fun _ _ _ => rfl, fun k hk => by omega⟩, fun k hk => absurd rfl hk⟩
  intro s hs ha
  by_cases h4' : s < 4800
  · obtain ⟨_, e⟩ := (aS_lo h4').mp ha
    cases e
  · have e : s % 4800 = 0 := by
      rcases (aS_hi h4').mp ha with q | q | q
      · exact q
      · omega
      · omega
    unfold rT rB
    rw [if_neg h4', if_neg h4', e]
    exact ⟨h3, h4⟩
/-- the reference's way to a PLACE, and what it tells there -/
def wayData (x : MS) (v s p : Int32) : Option (Int64 × MS) :=
  (FX8_ways x v s p).bind fun (r26, s27) =>
          if r26 < 4 then
            some (0, s27)
          else
            (ald 4 (MS_way s27) 3).bind fun r30 =>
            (FX8_told s27 v r30).bind fun r32 =>
            if r32 = (-1) then
              some (0, s27)
            else
              (ald 4 (MS_way s27) 3).bind fun r35 =>
              (FX8_told s27 v r35).bind fun r37 =>
              (ald 1200 (MS_dat s27) ((600 * v) + r37)).bind fun r39 =>
              some (r39, s27)
theorem look_short {x y : MS} {v s p r : Int32} (h0 : FX8_ways x v s p = some (r, y)) (h : r < 4) : wayData x v s p = some (0, y) := by
  unfold wayData
  rw [h0, Option.bind_some]
  show (if r < 4 then _ else _) = _
  rw [if_pos h]
theorem look_hole {x y : MS} {v s p r q : Int32} (h0 : FX8_ways x v s p = some (r, y)) (h : ¬ r < 4) (h1 : ald 4 (MS_way y) 3 = some q) (h2 : FX8_told y v q = some (-1)) : wayData x v s p = some (0, y) := by
  unfold wayData
  rw [h0, Option.bind_some]
  show (if r < 4 then _ else _) = _
  rw [if_neg h, h1, Option.bind_some, h2, Option.bind_some, if_pos rfl]
theorem look_data {x y : MS} {v s p r q o : Int32} {d : Int64} (h0 : FX8_ways x v s p = some (r, y)) (h : ¬ r < 4) (h1 : ald 4 (MS_way y) 3 = some q) (h2 : FX8_told y v q = some o) (h3 : ¬ o = -1) (h4 : ald 1200 (MS_dat y) (600 * v + o) = some d) : wayData x v s p = some (d, y) := by
  unfold wayData
  rw [h0, Option.bind_some]
  show (if r < 4 then _ else _) = _
  rw [if_neg h, h1, Option.bind_some, h2, Option.bind_some, if_neg h3, Option.bind_some, h2, Option.bind_some, h4, Option.bind_some]
theorem vol_read {v N bz sn g p s0 : Nat} {w : VS} {x : MS} {lev T : Nat → Option Nat} {B : Nat → Nat} (hv : v < 2) (hp : p < 512) (h0 : ¬ s0 < 4800) (h1 : s0 < 4822) (hlt : liveT bz sn (s0 % 4800)) (h : vol v N bz sn g w x lev T B) :
    ∃ d x', FX6_readPlace w (nI s0) (nI p) = some d ∧ wayData x (nI v) (nI (s0 % 4800)) (nI p) = some (d, x') ∧ mF v x x' ∧ vol v N bz sn g w x' lev T B := by
  obtain ⟨hb, hr, hs, hB, ⟨hg1, hg2, hg3⟩, hN, ⟨hz1, hz2, hz3⟩, ⟨hs1, hs2, hs3⟩, hd, hT0, hM⟩ := id h
  have hk6 : ∀ k, lev k ≠ none → k < 600 := fun k hk => (bRel_lev hb hk).2
  have hT6 : ∀ s k, s < 4822 → T s = some k → k < 600 := fun s k hs2 e => hk6 k (hb.2.2.2.2.2.1 s k hs2 e)
  obtain ⟨n, W, w1, w2, w3, w4, w5⟩ := m8_ways hv hr hs hk6 hp h0 h1 hlt
  have hslot : FX6_slotToLevel w (nI s0) (nI p) 0 = some (eO (wy T s0 p 3)) := m_slotTo (l := 0) hb hs h0 h1 hp (by omega)
  have hv2 : vol v N bz sn g w (MS_setway x W) lev T B := vol_eq h ⟨rfl, rfl, rfl, rfl, rfl⟩ ⟨rfl, rfl, rfl, rfl, rfl, rfl, rfl⟩
  have done : ∀ {q : Int32}, FX0_told (VS_b w) (eO (wy T s0 p 3)) = some q → q = -1 → FX6_readPlace w (nI s0) (nI p) = some 0 := by
    intro q e1 e2
    unfold FX6_readPlace
    rw [hslot, Option.bind_some, e1, Option.bind_some, if_pos e2]
  by_cases hn : n < 4
  · have hn3 : wy T s0 p 3 = none := by
      have := wy_none T s0 p n (w5 hn) (3 - n)
      rw [show n + (3 - n) = 3 by omega] at this
      exact this
    exact ⟨0, MS_setway x W, done (q := -1) (by rw [hn3]; unfold FX0_told; rw [show eO none = -1 from rfl, m_atN]; rfl) rfl, look_short w1 (by rw [show (4 : Int32) = nI 4 from rfl]; exact nI_lt hn (by omega)), mF_way v x W, hv2⟩
  · have hn4 : n = 4 := by omega
    subst hn4
    obtain ⟨s3, c1, c2, c3, c4, c5⟩ := w4 3 (by omega)
    have hway3 : ald 4 (MS_way (MS_setway x W)) 3 = some (ep s3) := by
      rw [show (3 : Int32) = nI 3 from rfl, m_ald _ (by omega) (by omega)]
      exact congrArg some c5
    have ht8 : FX8_told (MS_setway x W) (nI v) (ep s3) = some (eO (T s3)) := by
      rw [m8_told (MS_setway x W) hv c2, rT_way, (hr.2 s3 c2 c4).1]
    have h44 : ¬ nI 4 < 4 := by decide
    have htold : FX0_told (VS_b w) (eO (wy T s0 p 3)) = some (eO (T s3)) := by
      rw [c1]
      exact (c_told hb c2).1
    cases e3 : T s3 with
    | none => exact ⟨0, MS_setway x W, done htold (by rw [e3]; rfl), look_hole w1 h44 hway3 (by rw [ht8, e3]; rfl), mF_way v x W, hv2⟩
    | some k3 =>
      have hk3 := hT6 s3 k3 c2 e3
      have hnm : ¬ eO (T s3) = -1 := by rw [e3]; exact nI_m1 (by omega)
      obtain ⟨l2, u1, u2⟩ := hs s3 k3 c2 e3
      have hl2 : l2 = 0 := by
        rw [c3] at u2
        have := Option.some.inj u2
        omega
      subst hl2
      refine ⟨MS_dat x (600 * v + k3), MS_setway x W, ?_, look_data w1 h44 hway3 ht8 hnm ?_, mF_way v x W, hv2⟩
      · unfold FX6_readPlace
        rw [hslot, Option.bind_some, htold, Option.bind_some, if_neg hnm]
        unfold FX0_number
        rw [e3, show eO (some k3) = nI k3 from rfl, m_lat _ hk3 (by omega), hd k3 hk3 u1]
        rfl
      · rw [e3, show eO (some k3) = nI k3 from rfl, mix 600 v k3 600 rfl, m_ald _ (by omega) (by omega)]
