/-! PART 42: a block is taken; a POINTER gets a new block -/
theorem nI8 (a i : Nat) : nI a * 8 + nI i = nI (8 * a + i) := by
  have e : (8 : Int32) = nI 8 := rfl
  rw [e, nI_mul, nI_add, Nat.mul_comm]
theorem m_takeL {b : BS} {N : Nat} {lev : Nat → Option Nat} (hcnt : BS_cnt b = nI N) (hN : N ≤ 600) (hlev : ∀ k, k < 600 → BS_lev b k = eO (lev k)) (hl3 : ∀ k l, lev k = some l → k < N ∧ l ≤ 3)
    {k : Nat} (hk : k < N) (hkn : lev k = none) (hmin : ∀ i, i < k → lev i ≠ none) (k9 : BS → Int32 → Option (Int32 × BS)) :
    ∀ (m j : Nat), j ≤ k → k - j < m → FX0_takeLeastFree_L2 k9 m b (nI j) = some (nI k, BS_setfr b (BS_fr b - 1)) := by
  intro m
  induction m with
  | zero => intro j h1 h2; omega
  | succ m ih =>
    intro j h1 h2
    rw [FX0_takeLeastFree_L2, hcnt, if_neg (nI_ge (by omega) (by omega)), m_at _ (by omega) (by omega)]
    simp only [Option.bind_some]
    rw [hlev j (by omega)]
    by_cases hj : j = k
    · subst hj
      rw [hkn, if_pos (show eO none = -1 from rfl)]
    · cases e : lev j with
      | none => exact absurd e (hmin j (by omega))
      | some l =>
        have := (hl3 j l e).2
        have e2 : eO (some l) = nI l := rfl
        rw [e2, if_neg (nI_m1 (by omega)), nI_1]
        exact ih (j + 1) (by omega) (by omega)
theorem m_take {b : BS} {N : Nat} {lev : Nat → Option Nat} (hcnt : BS_cnt b = nI N) (hN : N ≤ 600) (hlev : ∀ k, k < 600 → BS_lev b k = eO (lev k)) (hl3 : ∀ k l, lev k = some l → k < N ∧ l ≤ 3)
    {k : Nat} (hk : k < N) (hkn : lev k = none) (hmin : ∀ i, i < k → lev i ≠ none) : FX0_takeLeastFree b = some (nI k, BS_setfr b (BS_fr b - 1)) := by
  unfold FX0_takeLeastFree
  have h := m_takeL hcnt hN hlev hl3 hk hkn hmin (fun b_5 _ => some ((-1), b_5)) 100000 0 (by omega) (by omega)
  rw [nI_0] at h
  exact h
def srcT (T : Nat → Option Nat) (o : Option Nat) (i : Nat) : Option Nat := match o with
  | none => none
  | some ob => T (8 * ob + i)
def srcB (B : Nat → Nat) (s : Nat) (o : Option Nat) (i : Nat) : Nat := match o with
  | none => B s
  | some ob => B (8 * ob + i)
def cpy {α : Type} (f : Nat → α) (nb n : Nat) (g : Nat → α) : Nat → α := fun s => if 8 * nb ≤ s ∧ s < 8 * nb + n then g (s - 8 * nb) else f s
theorem cpy_0 {α : Type} (f : Nat → α) (nb : Nat) (g : Nat → α) : cpy f nb 0 g = f := by
  funext s
  unfold cpy
  rw [if_neg (by omega)]
theorem cpy_s {α : Type} (f : Nat → α) (nb n : Nat) (g : Nat → α) : vf_upd (cpy f nb n g) (8 * nb + n) (g n) = cpy f nb (n + 1) g := by
  funext s
  unfold vf_upd cpy
  by_cases h : s = 8 * nb + n
  · subst h
    rw [if_pos rfl, if_pos (by omega)]
    congr 1
    omega
  · rw [if_neg h]
    by_cases h2 : 8 * nb ≤ s ∧ s < 8 * nb + n
    · rw [if_pos h2, if_pos (by omega)]
    · rw [if_neg h2, if_neg (by omega)]
theorem cpy_out {α : Type} {f : Nat → α} {nb n : Nat} {g : Nat → α} {s : Nat} (h : ¬ (8 * nb ≤ s ∧ s < 8 * nb + n)) : cpy f nb n g s = f s := by
  unfold cpy
  rw [if_neg h]
theorem m_renewL {N : Nat} {lev T : Nat → Option Nat} {B : Nat → Nat} {s nb l : Nat} {o : Option Nat} (hs : s < 4822) (hsn : ¬ (8 * nb ≤ s ∧ s < 8 * nb + 8)) (hnb : nb < 600) (hl : 0 < l) (hl3 : l ≤ 3)
    (ho : ∀ ob, o = some ob → ob < 600 ∧ ob ≠ nb) (v3 : Int32) (k9 : BS → Int32 → Option BS) :
    ∀ (m i : Nat) (b : BS), i ≤ 8 → 8 - i < m → bRel N b lev (cpy T nb i (srcT T o)) (cpy B nb i (srcB B s o)) (some nb) →
      ∃ b', FX0_renew_L49 (nI s) (nI l) v3 (nI nb) (eO o) k9 m b (nI i) = k9 b' (nI 8) ∧ bRel N b' lev (cpy T nb 8 (srcT T o)) (cpy B nb 8 (srcB B s o)) (some nb) ∧ BS_num b' = BS_num b ∧ BS_bob b' = BS_bob b := by
  intro m
  induction m with
  | zero => intro i b h1 h2; omega
  | succ m ih =>
    intro i b h1 h2 hr
    have e8 : (8 : Int32) = nI 8 := rfl
    rw [FX0_renew_L49]
    by_cases hi : i = 8
    · subst hi
      exact ⟨b, by rw [if_pos (by rw [e8]; exact nI_le (Nat.le_refl _) (by omega))], hr, rfl, rfl⟩
    · rw [if_neg (by rw [e8]; exact nI_ge (by omega) (by omega)), if_neg (nI_nle hl (by omega))]
      have hslot : 8 * nb + i < 4822 := by omega
      have step : ∀ (u : Option Nat) (w : Nat), u = srcT T o i → w = srcB B s o i → (∀ k, u = some k → lev k ≠ none ∧ (cntT 4822 (cpy T nb i (srcT T o)) k ≠ 0 ∨ some nb = some k) ∧ BS_bob b k = nI w) → u ≠ some nb →
          ∃ b1, FX0_point b (nI nb * 8 + nI i) (eO u) (nI w) = some b1 ∧ ∃ b', FX0_renew_L49 (nI s) (nI l) v3 (nI nb) (eO o) k9 m b1 (nI i + 1) = k9 b' (nI 8) ∧ bRel N b' lev (cpy T nb 8 (srcT T o)) (cpy B nb 8 (srcB B s o)) (some nb) ∧ BS_num b' = BS_num b ∧ BS_bob b' = BS_bob b := by
        intro u w hu hw hk hne
        obtain ⟨b1, p1, p2, p3, p4⟩ := m_point hr hslot hk
        rw [if_neg hne] at p2
        rw [hu, cpy_s] at p2
        rw [hw, cpy_s] at p2
        obtain ⟨b', q1, q2, q3, q4⟩ := ih (i + 1) b1 (by omega) (by omega) p2
        exact ⟨b1, by rw [nI8]; exact p1, b', by rw [nI_1]; exact q1, q2, q3.trans p3, q4.trans p4⟩
      obtain ⟨r1, r2, r3, r4, r5, r6, r7, r8, r9, r10, r11, r12⟩ := hr
      cases o with
      | none =>
        rw [if_pos (show eO none = -1 from rfl), m_at _ hs (by omega)]
        simp only [Option.bind_some]
        rw [r7 s hs, cpy_out (by omega)]
        obtain ⟨b1, p1, b', p2, p3⟩ := step none (B s) rfl rfl (fun k e => by cases e) (by simp)
        have p1' : FX0_point b (nI nb * 8 + nI i) (-1) (nI (B s)) = some b1 := p1
        rw [p1']
        exact ⟨b', p2, p3⟩
      | some ob =>
        obtain ⟨o1, o2⟩ := ho ob rfl
        have e9 : eO (some ob) = nI ob := rfl
        rw [e9, if_neg (nI_m1 (by omega)), nI8 ob i, m_at _ (by omega) (by omega)]
        simp only [Option.bind_some]
        rw [m_at _ (by omega) (by omega)]
        simp only [Option.bind_some]
        have hout : ¬ (8 * nb ≤ 8 * ob + i ∧ 8 * ob + i < 8 * nb + i) := by omega
        have hT : cpy T nb i (srcT T (some ob)) (8 * ob + i) = T (8 * ob + i) := cpy_out hout
        have hB : cpy B nb i (srcB B s (some ob)) (8 * ob + i) = B (8 * ob + i) := cpy_out hout
        have hin : 8 * ob + i < 4822 := by omega
        rw [r5 _ hin, hT, r7 _ hin, hB]
        have hc : ∀ k, T (8 * ob + i) = some k → 0 < cntT 4822 (cpy T nb i (srcT T (some ob))) k := fun k e => (cntT_pos 4822).mpr ⟨8 * ob + i, hin, by rw [hT]; exact e⟩
        obtain ⟨b1, p1, b', p2, p3⟩ := step (T (8 * ob + i)) (B (8 * ob + i)) rfl rfl
          (fun k e => ⟨r6 _ k hin (by rw [hT]; exact e), Or.inl (by have := hc k e; omega), by rw [← hB]; exact r9 _ k hin (by rw [hT]; exact e)⟩)
          (fun e => by have := hc nb e; have := (r11 nb rfl).1; omega)
        rw [p1]
        rw [e9] at p2
        exact ⟨b', p2, p3⟩
theorem m_wants {b : BS} {T : Nat → Option Nat} {B : Nat → Nat} {s g : Nat} (hs : s < 4822) (h5 : BS_told b s = eO (T s)) (h7 : BS_bir b s = nI (B s)) (hT : ∀ k, T s = some k → k < 600) (hB : B s < 2 ^ 31) (hg : g < 2 ^ 31) :
    FX0_wantsNewBlock b (nI s) (nI g) = some (if T s = none ∨ B s ≠ g then 1 else 0) := by
  unfold FX0_wantsNewBlock
  rw [m_at _ hs (by omega)]
  simp only [Option.bind_some]
  rw [h5]
  cases e : T s with
  | none => rw [if_pos (show eO none = -1 from rfl), if_pos (Or.inl rfl)]
  | some k =>
    have := hT k e
    rw [if_neg (show ¬ eO (some k) = -1 from nI_m1 (by omega)), m_at _ hs (by omega)]
    simp only [Option.bind_some]
    rw [h7]
    by_cases hb : B s = g
    · rw [if_pos (by rw [hb]), if_neg (by simp [hb])]
    · rw [if_neg (fun z => hb ((nI_eq hB hg).mp z)), if_pos (Or.inr hb)]
theorem m_renew0 {b : BS} {T : Nat → Option Nat} {B : Nat → Nat} {s g : Nat} (l : Int32) (hs : s < 4822) (h5 : BS_told b s = eO (T s)) (h7 : BS_bir b s = nI (B s)) (hT : ∀ k, T s = some k → k < 600) (hB : B s < 2 ^ 31) (hg : g < 2 ^ 31)
    (hw : ¬ (T s = none ∨ B s ≠ g)) : FX0_renew b (nI s) l (nI g) = some b := by
  unfold FX0_renew
  rw [m_wants hs h5 h7 hT hB hg, if_neg hw]
  rfl
theorem m_renew {N : Nat} {b : BS} {lev T : Nat → Option Nat} {B : Nat → Nat} (h : bRel N b lev T B none) {s l g nb : Nat} (hs : s < 4822) (hlive : ∀ k, k < 600 → 8 * k ≤ s → s < 8 * k + 8 → lev k ≠ none) (hl : l ≤ 3)
    (hB : B s < 2 ^ 31) (hg : g < 2 ^ 31) (hw : T s = none ∨ B s ≠ g) (hnb : nb < N) (hnl : lev nb = none) (hmin : ∀ i, i < nb → lev i ≠ none) :
    ∃ b', FX0_renew b (nI s) (nI l) (nI g) = some b' ∧ bRel N b' (vf_upd lev nb (some l)) (vf_upd (cpy T nb (if l = 0 then 0 else 8) (srcT T (T s))) s (some nb)) (vf_upd (cpy B nb (if l = 0 then 0 else 8) (srcB B s (T s))) s g) none ∧ BS_num b' = BS_num b := by
  have hall := h
  obtain ⟨h1, h2, h3, h4, h5, h6, h7, h8, h9, h10, h11, ls, ⟨l1, l2, l3⟩, l4⟩ := h
  have hk6 : ∀ k, lev k ≠ none → k < 600 := fun k hk => by
    cases e : lev k with
    | none => exact absurd e hk
    | some x => have := (h4 k x e).1; omega
  have hTs : ∀ k, T s = some k → k < 600 := fun k e => hk6 k (h6 s k hs e)
  unfold FX0_renew
  rw [m_wants hs (h5 s hs) (h7 s hs) hTs hB hg, if_pos hw]
  simp only [Option.bind_some]
  rw [if_neg (by decide), m_take h1 h2 h3 h4 hnb hnl hmin]
  simp only [Option.bind_some]
  rw [m_put _ _ (by omega : nb < 600) (by omega)]
  simp only [Option.bind_some]
  rw [m_put _ _ (by omega : nb < 600) (by omega)]
  simp only [Option.bind_some]
  rw [m_at _ hs (by omega)]
  simp only [Option.bind_some]
  obtain ⟨b1, hb1⟩ : ∃ b1 : BS, b1 = BS_setbob (BS_setlev (BS_setfr b (BS_fr b - 1)) (upd (BS_lev b) nb (nI l))) (upd (BS_bob b) nb (nI g)) := ⟨_, rfl⟩
  have hno : ∀ i, i < 4822 → T i ≠ some nb := fun i hi e => h6 i nb hi e hnl
  have hc0 : cntT 4822 T nb = 0 := by
    rcases Nat.eq_zero_or_pos (cntT 4822 T nb) with z | z
    · exact z
    · obtain ⟨i, hi, e⟩ := (cntT_pos 4822).mp z
      exact absurd e (hno i hi)
  have hfr := frN_upd lev nb (some l) N hnb
  rw [if_pos hnl, if_neg (by simp)] at hfr
  have hR1 : bRel N b1 (vf_upd lev nb (some l)) T B (some nb) := by
    rw [hb1]
    refine ⟨h1, h2, ?_, ?_, h5, ?_, h7, h8, ?_, ?_, ?_, ls, ⟨l1, l2, l3⟩, ?_⟩
    · intro k hk
      show upd (BS_lev b) nb (nI l) k = _
      by_cases hx : k = nb
      · subst hx; rw [upd_self, vf_self]; rfl
      · rw [upd_ne hx, vf_ne hx]; exact h3 k hk
    · intro k x e
      by_cases hx : k = nb
      · subst hx; rw [vf_self] at e; cases e; exact ⟨hnb, hl⟩
      · rw [vf_ne hx] at e; exact h4 k x e
    · intro i k hi e
      by_cases hx : k = nb
      · subst hx; rw [vf_self]; simp
      · rw [vf_ne hx]; exact h6 i k hi e
    · intro i k hi e
      show upd (BS_bob b) nb (nI g) k = _
      by_cases hx : k = nb
      · subst hx; exact absurd e (hno i hi)
      · rw [upd_ne hx]; exact h9 i k hi e
    · show BS_fr b - 1 = _
      rw [h10, show frN N lev = frN N (vf_upd lev nb (some l)) + 1 by omega, nI_pred]
    · intro k e
      cases e
      exact ⟨hc0, by rw [vf_self]; simp⟩
    · intro k
      rw [l4 k]
      by_cases hx : k = nb
      · subst hx
        constructor
        · rintro ⟨c, -, -⟩; exact absurd hnl c
        · rintro ⟨-, -, c⟩; exact absurd rfl c
      · rw [vf_ne hx]
        exact ⟨fun ⟨a, c, _⟩ => ⟨a, c, fun e => hx (Option.some.inj e).symm⟩, fun ⟨a, c, _⟩ => ⟨a, c, by simp⟩⟩
  have hnum1 : BS_num b1 = BS_num b := by rw [hb1]
  have hbob1 : BS_bob b1 nb = nI g := by rw [hb1]; exact upd_self
  have htold1 : BS_told b s = eO (T s) := h5 s hs
  have hsn : ¬ (8 * nb ≤ s ∧ s < 8 * nb + 8) := fun z => hlive nb (by omega) z.1 z.2 hnl
  have hob : ∀ ob, T s = some ob → ob < 600 ∧ ob ≠ nb := fun ob e => ⟨hTs ob e, fun z => hno s hs (z ▸ e)⟩
  have hfin : ∀ (b2 : BS) (n : Nat), bRel N b2 (vf_upd lev nb (some l)) (cpy T nb n (srcT T (T s))) (cpy B nb n (srcB B s (T s))) (some nb) → BS_num b2 = BS_num b1 → BS_bob b2 = BS_bob b1 →
      ∃ b', (FX0_point b2 (nI s) (nI nb) (nI g)).bind (fun s27 => some s27) = some b' ∧ bRel N b' (vf_upd lev nb (some l)) (vf_upd (cpy T nb n (srcT T (T s))) s (some nb)) (vf_upd (cpy B nb n (srcB B s (T s))) s g) none ∧ BS_num b' = BS_num b := by
    intro b2 n hr e1 e2
    obtain ⟨b3, p1, p2, p3, p4⟩ := m_point hr hs (o := some nb) (w := g) (fun k e => by
      cases e
      exact ⟨by rw [vf_self]; simp, Or.inr rfl, by rw [e2]; exact hbob1⟩)
    rw [if_pos rfl] at p2
    have p1' : FX0_point b2 (nI s) (nI nb) (nI g) = some b3 := p1
    exact ⟨b3, by rw [p1']; rfl, p2, by rw [p3, e1, hnum1]⟩
  show ∃ b', FX0_renew_L49 (nI s) (nI l) (nI g) (nI nb) (BS_told b s) _ 100000 (BS_setbob (BS_setlev (BS_setfr b (BS_fr b - 1)) (upd (BS_lev b) nb (nI l))) (upd (BS_bob b) nb (nI g))) 0 = some b' ∧ _
  rw [← hb1, htold1]
  by_cases hl0 : l = 0
  · subst hl0
    rw [if_pos rfl]
    have e8 : ¬ (8 : Int32) ≤ 0 := by decide
    obtain ⟨b', q1, q2⟩ := hfin b1 0 (by rw [cpy_0, cpy_0]; exact hR1) rfl rfl
    refine ⟨b', ?_, q2⟩
    rw [show (100000 : Nat) = 99999 + 1 from rfl, FX0_renew_L49, if_neg e8, if_pos (by decide)]
    exact q1
  · rw [if_neg hl0]
    obtain ⟨b2, q1, q2, q3, q4⟩ := m_renewL (v3 := nI g) (k9 := fun b_26 _ => (FX0_point b_26 (nI s) (nI nb) (nI g)).bind fun s27 => some s27) hs hsn (by omega) (by omega) hl hob 100000 0 b1 (by omega) (by omega) (by rw [cpy_0, cpy_0]; exact hR1)
    rw [nI_0] at q1
    obtain ⟨b', t1, t2⟩ := hfin b2 8 q2 q3 q4
    refine ⟨b', ?_, t2⟩
    rw [← t1]
    exact q1
