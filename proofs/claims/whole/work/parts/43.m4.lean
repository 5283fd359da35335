/-! PART 43: what is loose becomes FREE -/
/-- the level of the block in which a slot stands; a TREE's own slots stand above level 3 -/
def slv (lev : Nat → Option Nat) (s : Nat) : Option Nat := if s < 4800 then lev (s / 8) else some 4
/-- POINTERS tell blocks of one level less -/
def bStr (lev T : Nat → Option Nat) : Prop := ∀ s k, s < 4822 → T s = some k → ∃ l, lev k = some l ∧ slv lev s = some (l + 1)
/-- what one comes to from the TREES, by so many steps -/
def rchN (T : Nat → Option Nat) : Nat → Nat → Prop
  | 0, k => ∃ s, 4800 ≤ s ∧ s < 4822 ∧ T s = some k
  | n + 1, k => ∃ p i, rchN T n p ∧ p < 600 ∧ i < 8 ∧ T (8 * p + i) = some k
def rch (T : Nat → Option Nat) (k : Nat) : Prop := ∃ n, rchN T n k
theorem m_setL40 {N : Nat} {lev T : Nat → Option Nat} {B : Nat → Nat} {k l : Nat} {ex : Option Nat} (hk : k < 600) (hlk : lev k = some l) (hl : 0 < l) (hl3 : l ≤ 3) (v1 : Int32) (k9 : BS → Int32 → Option BS) :
    ∀ (m i : Nat) (b : BS), i ≤ 8 → 8 - i < m → bRel N b lev (cpy T k i (fun _ => none)) (cpy B k i (fun _ => 0)) ex →
      ∃ b', FX0_settle_L40 v1 (nI k) k9 m b (nI i) = k9 b' (nI 8) ∧ bRel N b' lev (cpy T k 8 (fun _ => none)) (cpy B k 8 (fun _ => 0)) ex ∧ BS_num b' = BS_num b := by
  intro m
  induction m with
  | zero => intro i b h1 h2; omega
  | succ m ih =>
    intro i b h1 h2 hr
    have e8 : (8 : Int32) = nI 8 := rfl
    rw [FX0_settle_L40]
    by_cases hi : i = 8
    · subst hi
      exact ⟨b, by rw [if_pos (by rw [e8]; exact nI_le (Nat.le_refl _) (by omega))], hr, rfl⟩
    · rw [if_neg (by rw [e8]; exact nI_ge (by omega) (by omega)), m_at _ hk (by omega)]
      simp only [Option.bind_some]
      have hlev : BS_lev b k = nI l := by rw [hr.2.2.1 k hk, hlk]; rfl
      rw [hlev, if_neg (nI_nle hl (by omega)), nI8]
      obtain ⟨b1, p1, p2, p3, p4⟩ := m_point hr (s := 8 * k + i) (by omega) (o := none) (w := 0) (fun x e => by cases e)
      have p1' : FX0_point b (nI (8 * k + i)) (-1) 0 = some b1 := by rw [← nI_0]; exact p1
      rw [p1']
      simp only [Option.bind_some]
      rw [nI_1]
      rw [cpy_s T k i (fun _ => none), cpy_s B k i (fun _ => 0)] at p2
      have hex : (if none = ex then none else ex) = ex := by
        split
        · rename_i h; exact h
        · rfl
      rw [hex] at p2
      obtain ⟨b', q1, q2, q3⟩ := ih (i + 1) b1 (by omega) (by omega) p2
      exact ⟨b', q1, q2, q3.trans p3⟩
theorem bRel_lev {N : Nat} {b : BS} {lev T : Nat → Option Nat} {B : Nat → Nat} {ex : Option Nat} (h : bRel N b lev T B ex) {k : Nat} (hk : lev k ≠ none) : k < N ∧ k < 600 := by
  cases e : lev k with
  | none => exact absurd e hk
  | some l =>
    have h1 := (h.2.2.2.1 k l e).1
    have h2 := h.2.1
    omega
/-- one turn: a loose block becomes FREE -/
theorem m_kill {N : Nat} {b : BS} {lev T : Nat → Option Nat} {B : Nat → Nat} (h : bRel N b lev T B none) (hstr : bStr lev T) (hlc : ¬ BS_lc b ≤ 0) (v1 : Int32) (k9 : BS → Int32 → Option BS) (n9 : Nat) :
    ∃ k b' T' B', lev k ≠ none ∧ cntT 4822 T k = 0 ∧
      ((FX1_at 600 (BS_loo b) ((BS_lc b) - 1)).bind fun r3 =>
        FX0_settle_L40 v1 r3 (fun b_11 w3_11 =>
          (FX1_put 600 (BS_lev b_11) r3 (-1)).bind fun s12 =>
          FX0_settle_L2 k9 n9 (BS_setfr (BS_setlev b_11 s12) ((BS_fr b_11) + 1)) (v1 + 1)) 100000 (BS_setlc b ((BS_lc b) - 1)) 0) = FX0_settle_L2 k9 n9 b' (v1 + 1) ∧
      bRel N b' (vf_upd lev k none) T' B' none ∧ BS_num b' = BS_num b ∧ (∀ s, ¬ (8 * k ≤ s ∧ s < 8 * k + 8) → T' s = T s ∧ B' s = B s) ∧ (∀ s, 8 * k ≤ s → s < 8 * k + 8 → T' s = none ∧ (B' s = 0 ∨ B' s = B s)) := by
  have hall := h
  obtain ⟨h1, h2, h3, h4, h5, h6, h7, h8, h9, h10, h11, ls, ⟨l1, l2, l3⟩, l4⟩ := h
  have hk6 : ∀ k, lev k ≠ none → k < 600 := fun k hk => (bRel_lev hall hk).2
  have hlen : ls.length ≤ 600 := nodup_le 600 ls l2 (fun x hx => hk6 x ((l4 x).mp hx).1)
  have hpos : 0 < ls.length := by
    rcases Nat.eq_zero_or_pos ls.length with z | z
    · rw [z, nI_0] at l1
      rw [l1] at hlc
      exact absurd (by decide) hlc
    · exact z
  obtain ⟨k, ls0, rfl⟩ : ∃ k ls0, ls = ls0 ++ [k] := by
    refine ⟨ls.getLast (by intro e; rw [e] at hpos; exact absurd hpos (by simp)), ls.dropLast, (List.dropLast_concat_getLast _).symm⟩
  have hlen1 : (ls0 ++ [k]).length = ls0.length + 1 := by simp
  rw [hlen1] at l1 hlen
  have hkm := (l4 k).mp (by simp)
  have hkN := (bRel_lev hall hkm.1).1
  have hk := (bRel_lev hall hkm.1).2
  obtain ⟨l, hl⟩ : ∃ l, lev k = some l := by
    cases e : lev k with
    | none => exact absurd e hkm.1
    | some l => exact ⟨l, rfl⟩
  have hl3 := (h4 k l hl).2
  have hnd := List.nodup_append.mp l2
  have hk0 : k ∉ ls0 := fun hm => hnd.2.2 k hm k (by simp) rfl
  have hloo : BS_loo b ls0.length = nI k := l3 ls0.length k (by rw [List.getElem?_append_right (Nat.le_refl _), Nat.sub_self]; rfl)
  have hpop : bRel N (BS_setlc b (nI ls0.length)) lev T B (some k) := by
    refine ⟨h1, h2, h3, h4, h5, h6, h7, h8, h9, h10, ?_, ls0, ⟨rfl, hnd.1, fun i x hx => ?_⟩, fun x => ?_⟩
    · intro x e
      cases e
      exact ⟨hkm.2.1, hkm.1⟩
    · have hlt := (List.getElem?_eq_some_iff.mp hx).1
      exact l3 i x (by rw [List.getElem?_append_left hlt]; exact hx)
    · constructor
      · intro hx
        have := (l4 x).mp (List.mem_append_left _ hx)
        exact ⟨this.1, this.2.1, fun e => hk0 (by rw [Option.some.inj e]; exact hx)⟩
      · rintro ⟨a1, a2, a3⟩
        rcases List.mem_append.mp ((l4 x).mpr ⟨a1, a2, by simp⟩) with z | z
        · exact z
        · exact absurd (congrArg some (List.mem_singleton.mp z)).symm a3
  -- behind the slots: the level
  have hfin : ∀ (b2 : BS) (T2 : Nat → Option Nat) (B2 : Nat → Nat), bRel N b2 lev T2 B2 (some k) → (∀ s, 8 * k ≤ s → s < 8 * k + 8 → T2 s = none) →
      ∃ b3, (FX1_put 600 (BS_lev b2) (nI k) (-1)).bind (fun s12 => FX0_settle_L2 k9 n9 (BS_setfr (BS_setlev b2 s12) ((BS_fr b2) + 1)) (v1 + 1)) = FX0_settle_L2 k9 n9 b3 (v1 + 1) ∧ bRel N b3 (vf_upd lev k none) T2 B2 none ∧ BS_num b3 = BS_num b2 := by
    intro b2 T2 B2 hr hT2
    obtain ⟨g1, g2, g3, g4, g5, g6, g7, g8, g9, g10, g11, ls2, ⟨m1, m2, m3⟩, m4⟩ := hr
    rw [m_put _ _ hk (by omega)]
    simp only [Option.bind_some]
    have hcz := (g11 k rfl).1
    have hno : ∀ s, s < 4822 → T2 s ≠ some k := fun s hs e => by
      have := (cntT_pos 4822).mpr ⟨s, hs, e⟩
      omega
    have hfr := frN_upd lev k none N hkN
    rw [if_neg hkm.1, if_pos rfl] at hfr
    refine ⟨_, rfl, ⟨g1, g2, ?_, ?_, g5, ?_, g7, g8, g9, ?_, ?_, ls2, ⟨m1, m2, m3⟩, ?_⟩, rfl⟩
    · intro x hx
      show upd (BS_lev b2) k (-1) x = _
      by_cases e : x = k
      · subst e; rw [upd_self, vf_self]; rfl
      · rw [upd_ne e, vf_ne e]; exact g3 x hx
    · intro x y e
      by_cases e2 : x = k
      · subst e2; rw [vf_self] at e; cases e
      · rw [vf_ne e2] at e; exact g4 x y e
    · intro s x hs e
      by_cases e2 : x = k
      · subst e2; exact absurd e (hno s hs)
      · rw [vf_ne e2]; exact g6 s x hs e
    · show BS_fr b2 + 1 = _
      rw [g10, nI_1]
      congr 1
      omega
    · intro x e; cases e
    · intro x
      rw [m4 x]
      by_cases e2 : x = k
      · subst e2
        rw [vf_self]
        exact ⟨fun ⟨_, _, c⟩ => absurd rfl c, fun ⟨c, _, _⟩ => absurd rfl c⟩
      · rw [vf_ne e2]
        exact ⟨fun ⟨a, c, _⟩ => ⟨a, c, by simp⟩, fun ⟨a, c, _⟩ => ⟨a, c, fun e => e2 (Option.some.inj e).symm⟩⟩
  have hlcm : BS_lc b - 1 = nI ls0.length := by rw [l1, nI_pred]
  rw [hlcm, m_at _ (by omega) (by omega)]
  simp only [Option.bind_some]
  rw [hloo]
  by_cases hl0 : l = 0
  · subst hl0
    have hT0 : ∀ s, 8 * k ≤ s → s < 8 * k + 8 → T s = none := by
      intro s a1 a2
      cases e : T s with
      | none => rfl
      | some x =>
        obtain ⟨l', -, c2⟩ := hstr s x (by omega) e
        unfold slv at c2
        rw [if_pos (by omega), show s / 8 = k by omega, hl] at c2
        cases c2
    obtain ⟨b3, q1, q2, q3⟩ := hfin (BS_setlc b (nI ls0.length)) T B hpop hT0
    refine ⟨k, b3, T, B, hkm.1, hkm.2.1, ?_, q2, q3, fun s _ => ⟨rfl, rfl⟩, fun s a1 a2 => ⟨hT0 s a1 a2, Or.inr rfl⟩⟩
    rw [← q1, show (100000 : Nat) = 99999 + 1 from rfl, FX0_settle_L40, if_neg (by decide), m_at _ hk (by omega)]
    simp only [Option.bind_some]
    have hlev : BS_lev (BS_setlc b (nI ls0.length)) k = 0 := by
      show BS_lev b k = 0
      rw [h3 k hk, hl]; rfl
    rw [hlev, if_pos (by decide)]
  · obtain ⟨b2, p1, p2, p3⟩ := m_setL40 hk hl (by omega) hl3 v1 (fun b_11 _ => (FX1_put 600 (BS_lev b_11) (nI k) (-1)).bind fun s12 => FX0_settle_L2 k9 n9 (BS_setfr (BS_setlev b_11 s12) ((BS_fr b_11) + 1)) (v1 + 1)) 100000 0 (BS_setlc b (nI ls0.length)) (by omega) (by omega) (by rw [cpy_0, cpy_0]; exact hpop)
    rw [nI_0] at p1
    have hT2 : ∀ s, 8 * k ≤ s → s < 8 * k + 8 → cpy T k 8 (fun _ => none) s = none := fun s a1 a2 => by unfold cpy; rw [if_pos ⟨a1, a2⟩]
    obtain ⟨b3, q1, q2, q3⟩ := hfin b2 _ _ p2 hT2
    exact ⟨k, b3, _, _, hkm.1, hkm.2.1, p1.trans q1, q2, q3.trans p3, fun s hs => ⟨cpy_out hs, cpy_out hs⟩, fun s a1 a2 => ⟨hT2 s a1 a2, Or.inl (by unfold cpy; rw [if_pos ⟨a1, a2⟩])⟩⟩
