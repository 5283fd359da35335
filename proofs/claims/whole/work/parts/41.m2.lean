/-! PART 41: the blocks: what they are, POINTERS that change -/
def lsOk (ls : List Nat) (b : BS) : Prop := BS_lc b = nI ls.length ∧ ls.Nodup ∧ ∀ (i x : Nat), ls[i]? = some x → BS_loo b i = nI x
/-- the blocks b hold: levels lev, POINTERS T with BIRTHS B, counted; loose are those that nothing tells, but ex -/
def bRel (N : Nat) (b : BS) (lev T : Nat → Option Nat) (B : Nat → Nat) (ex : Option Nat) : Prop :=
  BS_cnt b = nI N ∧ N ≤ 600 ∧
  (∀ k, k < 600 → BS_lev b k = eO (lev k)) ∧
  (∀ k l, lev k = some l → k < N ∧ l ≤ 3) ∧
  (∀ s, s < 4822 → BS_told b s = eO (T s)) ∧
  (∀ s k, s < 4822 → T s = some k → lev k ≠ none) ∧
  (∀ s, s < 4822 → BS_bir b s = nI (B s)) ∧
  (∀ k, k < 600 → BS_tel b k = nI (cntT 4822 T k)) ∧
  (∀ s k, s < 4822 → T s = some k → BS_bob b k = nI (B s)) ∧
  BS_fr b = nI (frN N lev) ∧
  (∀ k, ex = some k → cntT 4822 T k = 0 ∧ lev k ≠ none) ∧
  ∃ ls : List Nat, lsOk ls b ∧ ∀ k, k ∈ ls ↔ (lev k ≠ none ∧ cntT 4822 T k = 0 ∧ ex ≠ some k)
theorem nodup_le : ∀ (n : Nat) (ls : List Nat), ls.Nodup → (∀ x ∈ ls, x < n) → ls.length ≤ n := by
  intro n
  induction n with
  | zero =>
    intro ls _ h
    cases ls with
    | nil => exact Nat.le_refl 0
    | cons x xs => exact absurd (h x List.mem_cons_self) (by omega)
  | succ n ih =>
    intro ls hn h
    by_cases hm : n ∈ ls
    · have h1 := ih (ls.erase n) (hn.erase n) (fun x hx => by
        have hx1 := (List.Nodup.mem_erase_iff hn).mp hx
        have := h x hx1.2
        have := hx1.1
        omega)
      have h2 := List.length_erase_of_mem hm
      omega
    · have h1 := ih ls hn (fun x hx => by
        have := h x hx
        have : x ≠ n := fun e => hm (e ▸ hx)
        omega)
      omega
def ptail (b1 : BS) (r1 : Int32) : Option BS :=
  if r1 = (-1) then some b1 else
    (FX1_at 600 (BS_tel b1) r1).bind fun r9 =>
    (FX1_put 600 (BS_tel b1) r1 (r9 - 1)).bind fun s11 =>
    (FX1_at 600 s11 r1).bind fun r13 =>
    if r13 = 0 then
      (FX1_put 600 (BS_loo b1) (BS_lc b1) r1).bind fun s16 =>
      some (BS_setlc (BS_setloo (BS_settel b1 s11) s16) ((BS_lc b1) + 1))
    else some (BS_settel b1 s11)
def telUp (b : BS) (o : Option Nat) : BS := match o with
  | none => b
  | some k => BS_settel b (upd (BS_tel b) k (BS_tel b k + 1))
theorem m_point_eq (b : BS) (s : Nat) (o : Option Nat) (w : Int32) (hs : s < 4822) (ho : ∀ k, o = some k → k < 600) :
    FX0_point b (nI s) (eO o) w = ptail (BS_setbir (BS_settold (telUp b o) (upd (BS_told b) s (eO o))) (upd (BS_bir b) s w)) (BS_told b s) := by
  unfold FX0_point
  rw [m_at _ hs (by omega)]
  cases o with
  | none =>
    have e : eO none = -1 := rfl
    simp only [Option.bind_some]
    rw [if_pos e, m_put _ _ hs (by omega)]
    simp only [Option.bind_some]
    rw [m_put _ _ hs (by omega)]
    rfl
  | some k =>
    have e : eO (some k) = nI k := rfl
    have hk := ho k rfl
    rw [e]
    simp only [Option.bind_some]
    rw [if_neg (nI_m1 (by omega)), m_at _ hk (by omega)]
    simp only [Option.bind_some]
    rw [m_put _ _ hk (by omega)]
    simp only [Option.bind_some]
    rw [m_put _ _ hs (by omega)]
    simp only [Option.bind_some]
    rw [m_put _ _ hs (by omega)]
    rfl
theorem m_ptail {b1 : BS} {j t m : Nat} (hj : j < 600) (ht : BS_tel b1 j = nI (t + 1)) (ht2 : t < 5000) (hm : BS_lc b1 = nI m) (hm2 : t = 0 → m < 600) :
    ptail b1 (nI j) = some (if t = 0 then BS_setlc (BS_setloo (BS_settel b1 (upd (BS_tel b1) j (nI t))) (upd (BS_loo b1) m (nI j))) (nI (m + 1)) else BS_settel b1 (upd (BS_tel b1) j (nI t))) := by
  unfold ptail
  have hu : upd (BS_tel b1) j (nI t) j = nI t := by unfold upd; rw [if_pos rfl]
  rw [if_neg (nI_m1 (by omega)), m_at _ hj (by omega)]
  simp only [Option.bind_some]
  rw [ht, nI_pred, m_put _ _ hj (by omega)]
  simp only [Option.bind_some]
  rw [m_at _ hj (by omega)]
  simp only [Option.bind_some]
  rw [hu]
  by_cases h0 : t = 0
  · subst h0
    rw [if_pos nI_0, if_pos rfl, hm, m_put _ _ (hm2 rfl) (by omega)]
    simp only [Option.bind_some]
    rw [nI_1]
  · rw [if_neg (nI_ne0 (by omega) (by omega)), if_neg h0]
theorem upd_self {f : Nat → Int32} {k : Nat} {x : Int32} : upd f k x k = x := by unfold upd; rw [if_pos rfl]
theorem upd_ne {f : Nat → Int32} {k j : Nat} {x : Int32} (h : j ≠ k) : upd f k x j = f j := by unfold upd; rw [if_neg h]
theorem vf_self {α : Type} {f : Nat → α} {k : Nat} {x : α} : vf_upd f k x k = x := by unfold vf_upd; rw [if_pos rfl]
theorem vf_ne {α : Type} {f : Nat → α} {k j : Nat} {x : α} (h : j ≠ k) : vf_upd f k x j = f j := by unfold vf_upd; rw [if_neg h]
theorem m_point {N : Nat} {b : BS} {lev T : Nat → Option Nat} {B : Nat → Nat} {ex : Option Nat} (h : bRel N b lev T B ex) {s : Nat} (hs : s < 4822) {o : Option Nat} {w : Nat}
    (ho : ∀ k, o = some k → lev k ≠ none ∧ (cntT 4822 T k ≠ 0 ∨ ex = some k) ∧ BS_bob b k = nI w) :
    ∃ b', FX0_point b (nI s) (eO o) (nI w) = some b' ∧ bRel N b' lev (vf_upd T s o) (vf_upd B s w) (if o = ex then none else ex) ∧ BS_num b' = BS_num b ∧ BS_bob b' = BS_bob b := by
  obtain ⟨h1, h2, h3, h4, h5, h6, h7, h8, h9, h10, h11, ls, ⟨l1, l2, l3⟩, l4⟩ := h
  have hk6 : ∀ k, lev k ≠ none → k < 600 := fun k hk => by
    cases e : lev k with
    | none => exact absurd e hk
    | some l => have := (h4 k l e).1; omega
  have hok : ∀ k, o = some k → k < 600 := fun k e => hk6 k (ho k e).1
  rw [m_point_eq b s o _ hs hok, h5 s hs]
  have hlen : ls.length ≤ 600 := nodup_le 600 ls l2 (fun x hx => hk6 x ((l4 x).mp hx).1)
  -- the count of the blocks behind the first step
  obtain ⟨b1, hb1⟩ : ∃ b1, b1 = BS_setbir (BS_settold (telUp b o) (upd (BS_told b) s (eO o))) (upd (BS_bir b) s (nI w)) := ⟨_, rfl⟩
  rw [← hb1]
  have t1 : ∀ k, k < 600 → BS_tel b1 k = nI (cntT 4822 T k + (if o = some k then 1 else 0)) := by
    intro k hk
    rw [hb1]
    cases o with
    | none => show BS_tel b k = _; rw [h8 k hk, if_neg (by simp), Nat.add_zero]
    | some x =>
      show upd (BS_tel b) x (BS_tel b x + 1) k = _
      by_cases hx : k = x
      · subst hx
        rw [upd_self, h8 k hk, nI_1, if_pos rfl]
      · rw [upd_ne hx, h8 k hk, if_neg (fun e => hx (Option.some.inj e).symm), Nat.add_zero]
  have e_cnt : BS_cnt b1 = BS_cnt b := by rw [hb1]; cases o <;> rfl
  have e_lev : BS_lev b1 = BS_lev b := by rw [hb1]; cases o <;> rfl
  have e_told : BS_told b1 = upd (BS_told b) s (eO o) := by rw [hb1]
  have e_bir : BS_bir b1 = upd (BS_bir b) s (nI w) := by rw [hb1]
  have e_bob : BS_bob b1 = BS_bob b := by rw [hb1]; cases o <;> rfl
  have e_num : BS_num b1 = BS_num b := by rw [hb1]; cases o <;> rfl
  have e_fr : BS_fr b1 = BS_fr b := by rw [hb1]; cases o <;> rfl
  have e_lc : BS_lc b1 = BS_lc b := by rw [hb1]; cases o <;> rfl
  have e_loo : BS_loo b1 = BS_loo b := by rw [hb1]; cases o <;> rfl
  clear hb1
  -- what does not depend on the second step
  have key : ∀ (b' : BS) (ls' : List Nat), BS_cnt b' = BS_cnt b1 → BS_lev b' = BS_lev b1 → BS_told b' = BS_told b1 → BS_bir b' = BS_bir b1 → BS_bob b' = BS_bob b1 → BS_num b' = BS_num b1 → BS_fr b' = BS_fr b1 →
      (∀ k, k < 600 → BS_tel b' k = nI (cntT 4822 (vf_upd T s o) k)) → lsOk ls' b' → (∀ k, k ∈ ls' ↔ (lev k ≠ none ∧ cntT 4822 (vf_upd T s o) k = 0 ∧ (if o = ex then none else ex) ≠ some k)) →
      bRel N b' lev (vf_upd T s o) (vf_upd B s w) (if o = ex then none else ex) ∧ BS_num b' = BS_num b ∧ BS_bob b' = BS_bob b := by
    intro b' ls' c1 c2 c3 c4 c5 c6 c7 c8 c9 c10
    refine ⟨⟨by rw [c1, e_cnt]; exact h1, h2, by rw [c2, e_lev]; exact h3, h4, ?_, ?_, ?_, c8, ?_, by rw [c7, e_fr]; exact h10, ?_, ls', c9, c10⟩, by rw [c6, e_num], by rw [c5, e_bob]⟩
    · intro i hi
      rw [c3, e_told]
      by_cases hx : i = s
      · subst hx; rw [upd_self, vf_self]
      · rw [upd_ne hx, vf_ne hx]; exact h5 i hi
    · intro i k hi e
      by_cases hx : i = s
      · subst hx; rw [vf_self] at e; exact (ho k e).1
      · rw [vf_ne hx] at e; exact h6 i k hi e
    · intro i hi
      rw [c4, e_bir]
      by_cases hx : i = s
      · subst hx; rw [upd_self, vf_self]
      · rw [upd_ne hx, vf_ne hx]; exact h7 i hi
    · intro i k hi e
      rw [c5, e_bob]
      by_cases hx : i = s
      · subst hx; rw [vf_self] at e ⊢; exact (ho k e).2.2
      · rw [vf_ne hx] at e ⊢; exact h9 i k hi e
    · intro k e
      split at e
      · cases e
      · rename_i hne
        obtain ⟨a1, a2⟩ := h11 k e
        refine ⟨?_, a2⟩
        have hc := cntT_upd T s o k 4822 hs
        have e2 : ¬ (o = some k) := fun z => hne (z.trans e.symm)
        simp only [if_neg e2] at hc
        omega
  have hcu := fun k => cntT_upd T s o k 4822 hs
  cases hT : T s with
  | none =>
    refine ⟨b1, ?_, key b1 ls rfl rfl rfl rfl rfl rfl rfl ?_ ⟨by rw [e_lc]; exact l1, l2, by rw [e_loo]; exact l3⟩ ?_⟩
    · unfold ptail
      rw [if_pos (show eO none = -1 from rfl)]
    · intro k hk
      rw [t1 k hk]
      have := hcu k
      rw [hT, if_neg (by simp)] at this
      rw [← this, Nat.add_zero]
    · intro k
      rw [l4 k]
      have hc := hcu k
      rw [hT, if_neg (by simp)] at hc
      by_cases hk : o = some k
      · rw [if_pos hk] at hc
        obtain ⟨-, a2, -⟩ := ho k hk
        constructor
        · rintro ⟨c1, c2, c3⟩
          rcases a2 with a2 | a2
          · exact absurd c2 a2
          · exact absurd a2 c3
        · rintro ⟨c1, c2, c3⟩; omega
      · rw [if_neg hk] at hc
        have : cntT 4822 (vf_upd T s o) k = cntT 4822 T k := by omega
        rw [this]
        constructor
        · rintro ⟨c1, c2, c3⟩
          refine ⟨c1, c2, ?_⟩
          split
          · simp
          · exact c3
        · rintro ⟨c1, c2, c3⟩
          refine ⟨c1, c2, ?_⟩
          split at c3
          · rename_i he; rw [← he]; exact hk
          · exact c3
  | some j =>
    have hj : j < 600 := hk6 j (h6 s j hs hT)
    have hcj := hcu j
    rw [hT, if_pos rfl] at hcj
    have hpos : 0 < cntT 4822 T j := (cntT_pos 4822).mpr ⟨s, hs, hT⟩
    obtain ⟨t, ht⟩ : ∃ t, cntT 4822 (vf_upd T s o) j = t := ⟨_, rfl⟩
    have htj : BS_tel b1 j = nI (t + 1) := by rw [t1 j hj, ← hcj, ht]
    have ht2 : t < 5000 := by
      have := cntT_le (vf_upd T s o) j 4822
      omega
    have hjl : j ∉ ls := fun hm => by have := ((l4 j).mp hm).2.1; omega
    have hm2 : ls.length < 600 := by
      have := nodup_le 600 (j :: ls) (List.nodup_cons.mpr ⟨hjl, l2⟩) (fun x hx => by
        rcases List.mem_cons.mp hx with rfl | hx
        · exact hj
        · exact hk6 x ((l4 x).mp hx).1)
      simp at this
      omega
    have htel : ∀ k, k < 600 → upd (BS_tel b1) j (nI t) k = nI (cntT 4822 (vf_upd T s o) k) := by
      intro k hk
      by_cases hx : k = j
      · subst hx; rw [upd_self, ht]
      · rw [upd_ne hx, t1 k hk]
        have := hcu k
        rw [hT, if_neg (fun e => hx (Option.some.inj e).symm)] at this
        rw [← this, Nat.add_zero]
    have hset : ∀ k, (lev k ≠ none ∧ cntT 4822 (vf_upd T s o) k = 0 ∧ (if o = ex then none else ex) ≠ some k) ↔ (k ∈ ls ∨ (k = j ∧ t = 0)) := by
      intro k
      rw [l4 k]
      have hc := hcu k
      by_cases hkj : k = j
      · subst hkj
        rw [ht]
        constructor
        · rintro ⟨c1, c2, c3⟩; exact Or.inr ⟨rfl, c2⟩
        · rintro (⟨c1, c2, c3⟩ | ⟨-, c2⟩)
          · omega
          · refine ⟨h6 s k hs hT, c2, ?_⟩
            split
            · simp
            · intro e
              have := (h11 k e).1
              omega
      · rw [hT, if_neg (fun e => hkj (Option.some.inj e).symm)] at hc
        by_cases hk : o = some k
        · rw [if_pos hk] at hc
          obtain ⟨-, a2, -⟩ := ho k hk
          constructor
          · rintro ⟨c1, c2, c3⟩; omega
          · rintro (⟨c1, c2, c3⟩ | ⟨c1, c2⟩)
            · rcases a2 with a2 | a2
              · exact absurd c2 a2
              · exact absurd a2 c3
            · exact absurd c1 hkj
        · rw [if_neg hk] at hc
          have he : cntT 4822 (vf_upd T s o) k = cntT 4822 T k := by omega
          rw [he]
          constructor
          · rintro ⟨c1, c2, c3⟩
            refine Or.inl ⟨c1, c2, ?_⟩
            split at c3
            · rename_i he2; rw [← he2]; exact hk
            · exact c3
          · rintro (⟨c1, c2, c3⟩ | ⟨c1, c2⟩)
            · refine ⟨c1, c2, ?_⟩
              split
              · simp
              · exact c3
            · exact absurd c1 hkj
    by_cases h0 : t = 0
    · refine ⟨_, m_ptail hj htj ht2 (e_lc.trans l1) (fun _ => hm2), ?_⟩
      rw [if_pos h0]
      refine key _ (ls ++ [j]) rfl rfl rfl rfl rfl rfl rfl htel ⟨by rw [List.length_append]; rfl, ?_, ?_⟩ ?_
      · rw [List.nodup_append]
        exact ⟨l2, by simp, fun a ha c hc => by
          rw [List.mem_singleton.mp hc]
          exact fun e => hjl (e ▸ ha)⟩
      · intro i x hx
        show upd (BS_loo b1) ls.length (nI j) i = nI x
        by_cases hi : i = ls.length
        · subst hi
          rw [upd_self]
          rw [List.getElem?_append_right (Nat.le_refl _), Nat.sub_self] at hx
          cases hx; rfl
        · rw [upd_ne hi, e_loo]
          have hlt : i < ls.length := by
            have := (List.getElem?_eq_some_iff.mp hx).1
            simp at this
            omega
          rw [List.getElem?_append_left hlt] at hx
          exact l3 i x hx
      · intro k
        rw [hset k, List.mem_append, List.mem_singleton]
        constructor
        · rintro (a | a)
          · exact Or.inl a
          · exact Or.inr ⟨a, h0⟩
        · rintro (a | ⟨a, -⟩)
          · exact Or.inl a
          · exact Or.inr a
    · refine ⟨_, m_ptail hj htj ht2 (e_lc.trans l1) (fun e => absurd e h0), ?_⟩
      rw [if_neg h0]
      refine key _ ls rfl rfl rfl rfl rfl rfl rfl htel ⟨by show BS_lc b1 = _; rw [e_lc]; exact l1, l2, by show ∀ (i x : Nat), ls[i]? = some x → BS_loo b1 i = nI x; rw [e_loo]; exact l3⟩ ?_
      intro k
      rw [hset k]
      constructor
      · exact Or.inl
      · rintro (a | ⟨-, a⟩)
        · exact a
        · exact absurd a h0
