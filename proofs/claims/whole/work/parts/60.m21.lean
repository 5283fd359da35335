/-! PART 60: both make a PLACE a HOLE, the same -/
theorem nge_lit {c i : Nat} {C : Int32} (hC : C = nI c) (h : i < c) (hc : c < 2 ^ 31) : ¬ C ≤ nI i := by rw [hC]; exact nI_ge h hc
theorem nlt_lit {c i : Nat} {C : Int32} (hC : C = nI c) (h : i ≤ c) (hc : c < 2 ^ 31) : ¬ C < nI i := by rw [hC]; exact nI_nlt h hc
theorem nlt_0 {j : Nat} (h : j < 2 ^ 31) : ¬ nI j < 0 := by rw [show (0 : Int32) = nI 0 from rfl]; exact nI_nlt (Nat.zero_le _) h
def allN (T : Nat → Option Nat) (k : Nat) : Prop := ∀ i, i < 8 → T (8 * k + i) = none
theorem m_holesL {b : BS} {T : Nat → Option Nat} {k : Nat} (hb : ∀ s, s < 4822 → BS_told b s = eO (T s)) (hT : ∀ s k, s < 4822 → T s = some k → k < 600) (hk : k < 600) :
    ∀ (m i : Nat), i ≤ 8 → 8 - i < m → (∀ j, j < i → T (8 * k + j) = none) → ∃ r, FX0_hasOnlyHoles_L2 b (nI k) (fun _ => some 1) m (nI i) = some r ∧ (allN T k → r = 1) ∧ (¬ allN T k → r = 0) := by
  intro m
  induction m with
  | zero => intro i h1 h2; omega
  | succ m ih =>
    intro i h1 h2 h3
    rw [FX0_hasOnlyHoles_L2]
    by_cases hi : i = 8
    · subst hi
      rw [if_pos (by decide)]
      exact ⟨1, rfl, fun _ => rfl, fun z => absurd h3 z⟩
    · rw [if_neg (nge_lit (C := 8) (c := 8) (i := i) rfl (by omega) (by omega)), nI8, m_at _ (by omega) (by omega)]
      simp only [Option.bind_some]
      rw [hb _ (by omega)]
      cases e : T (8 * k + i) with
      | none =>
        rw [if_pos (show eO none = -1 from rfl), nI_1]
        refine ih (i + 1) (by omega) (by omega) (fun j hj => ?_)
        by_cases hji : j = i
        · rw [hji]; exact e
        · exact h3 j (by omega)
      | some k2 =>
        rw [if_neg (show ¬ eO (some k2) = -1 from nI_m1 (by have := hT _ _ (by omega) e; omega))]
        exact ⟨0, rfl, fun z => absurd (e.symm.trans (z i (by omega))) (by simp), fun _ => rfl⟩
theorem m_holes {b : BS} {T : Nat → Option Nat} {k : Nat} (hb : ∀ s, s < 4822 → BS_told b s = eO (T s)) (hT : ∀ s k, s < 4822 → T s = some k → k < 600) (hk : k < 600) :
    ∃ r, FX0_hasOnlyHoles b (nI k) = some r ∧ (allN T k → r = 1) ∧ (¬ allN T k → r = 0) :=
  m_holesL hb hT hk 100000 0 (by omega) (by omega) (fun j hj => by omega)
theorem m8_holesL {x : MS} {v k : Nat} {T : Nat → Option Nat} (hv : v < 2) (hx : ∀ i, i < 8 → rT x v (8 * k + i) = eO (T (8 * k + i))) (hT : ∀ s k, s < 4822 → T s = some k → k < 600) (hk : k < 600) :
    ∀ (m i : Nat), i ≤ 8 → 8 - i < m → (∀ j, j < i → T (8 * k + j) = none) → ∃ r, FX8_hasNothing_L2 x (nI v) (nI k) (fun _ => some 1) m (nI i) = some r ∧ (allN T k → r = 1) ∧ (¬ allN T k → r = 0) := by
  intro m
  induction m with
  | zero => intro i h1 h2; omega
  | succ m ih =>
    intro i h1 h2 h3
    rw [FX8_hasNothing_L2]
    by_cases hi : i = 8
    · subst hi
      rw [if_pos (by decide)]
      exact ⟨1, rfl, fun _ => rfl, fun z => absurd h3 z⟩
    · rw [if_neg (nge_lit (C := 8) (c := 8) (i := i) rfl (by omega) (by omega)), show (8 : Int32) * nI k + nI i = nI (8 * k + i) by rw [show (8 : Int32) = nI 8 from rfl, nI_mul, nI_add], ← ep_lo (show 8 * k + i < 4800 by omega), m8_told x hv (by omega)]
      simp only [Option.bind_some]
      rw [hx i (by omega)]
      cases e : T (8 * k + i) with
      | none =>
        rw [if_pos (show eO none = -1 from rfl), nI_1]
        refine ih (i + 1) (by omega) (by omega) (fun j hj => ?_)
        by_cases hji : j = i
        · rw [hji]; exact e
        · exact h3 j (by omega)
      | some k2 =>
        rw [if_neg (show ¬ eO (some k2) = -1 from nI_m1 (by have := hT _ _ (by omega) e; omega))]
        exact ⟨0, rfl, fun z => absurd (e.symm.trans (z i (by omega))) (by simp), fun _ => rfl⟩
theorem m8_holes {x : MS} {v k : Nat} {T : Nat → Option Nat} (hv : v < 2) (hx : ∀ i, i < 8 → rT x v (8 * k + i) = eO (T (8 * k + i))) (hT : ∀ s k, s < 4822 → T s = some k → k < 600) (hk : k < 600) :
    ∃ r, FX8_hasNothing x (nI v) (nI k) = some r ∧ (allN T k → r = 1) ∧ (¬ allN T k → r = 0) :=
  m8_holesL hv hx hT hk 100000 0 (by omega) (by omega) (fun j hj => by omega)
theorem wy_n {T : Nat → Option Nat} {s0 p j : Nat} (h : wy T s0 p j = none) : wy T s0 p (j + 1) = none := by rw [wy, h]
theorem m_slotToL {w : VS} {N s0 p : Nat} {lev T : Nat → Option Nat} {B : Nat → Nat} (h : bRel N (VS_b w) lev T B none) (hs : bStr lev T) (h0 : ¬ s0 < 4800) (h1 : s0 < 4822) (hp : p < 512) (v1 : Int32) :
    ∀ (m j n9 l : Nat), j + m + l = 3 → m < n9 → FX6_slotToLevel_L6 w v1 (nI p) (nI l) (fun w4_6 _ => some w4_6) n9 (eO (wy T s0 p j)) (nI (l + m)) = some (eO (wy T s0 p (3 - l))) := by
  have hk6 : ∀ k, lev k ≠ none → k < 600 := fun k hk => (bRel_lev h hk).2
  intro m
  induction m with
  | zero =>
    intro j n9 l h2 h3
    cases n9 with
    | zero => omega
    | succ n9 =>
      rw [FX6_slotToLevel_L6, if_pos (nI_le (by omega) (by omega)), show 3 - l = j by omega]
  | succ m ih =>
    intro j n9 l h2 h3
    cases n9 with
    | zero => omega
    | succ n9 =>
      rw [FX6_slotToLevel_L6, if_neg (nI_ge (by omega) (by omega)), show l + (m + 1) = (l + m) + 1 from rfl, nI_dn]
      have next := ih (j + 1) n9 l (by omega) (by omega)
      unfold FX0_told
      cases e : wy T s0 p j with
      | none =>
        rw [wy_n e] at next
        rw [show eO none = -1 from rfl, m_atN]
        simp only [Option.bind_some]
        rw [m_slotInN]
        exact next
      | some s =>
        obtain ⟨a1, a2, -⟩ := wy_slv hs hk6 h0 h1 hp j s e (by omega)
        rw [show eO (some s) = nI s from rfl, m_at _ a1 (by omega)]
        simp only [Option.bind_some]
        rw [h.2.2.2.2.1 s a1]
        rw [wy_s T s0 p j e] at next
        cases e2 : T s with
        | none =>
          rw [e2] at next
          rw [show eO none = -1 from rfl, m_slotInN]
          exact next
        | some k =>
          rw [e2] at next
          obtain ⟨l2, b1, b2⟩ := hs s k a1 e2
          rw [a2] at b2
          have := Option.some.inj b2
          have hk := hk6 k (by rw [b1]; simp)
          rw [show eO (some k) = nI k from rfl, m_slotIn (j := j + 1) hk hp (by omega) (by omega) (by rw [h.2.2.1 k hk, b1, show 4 - (j + 1) = l2 by omega]; rfl)]
          exact next
theorem m_slotTo {w : VS} {N s0 p l : Nat} {lev T : Nat → Option Nat} {B : Nat → Nat} (h : bRel N (VS_b w) lev T B none) (hs : bStr lev T) (h0 : ¬ s0 < 4800) (h1 : s0 < 4822) (hp : p < 512) (hl : l ≤ 3) :
    FX6_slotToLevel w (nI s0) (nI p) (nI l) = some (eO (wy T s0 p (3 - l))) := by
  have q := m_slotToL h hs h0 h1 hp (nI s0) (3 - l) 0 100000 l (by omega) (by omega)
  rw [show l + (3 - l) = 3 by omega] at q
  exact q
theorem rRel_pt {x : MS} {v bz sn s u : Nat} {o : Option Nat} {lev T : Nat → Option Nat} {B : Nat → Nat} (hv : v < 2) (h : rRel x v bz sn lev T B) (hs : s < 4822) : rRel (rPt x v s (eO o) (nI u)) v bz sn lev (vf_upd T s o) (vf_upd B s u) := by
  refine ⟨fun k hk => ?_, fun i hi ha => ?_⟩
  · rw [show MS_lev (rPt x v s (eO o) (nI u)) = MS_lev x by unfold rPt; split <;> rfl]
    exact h.1 k hk
  · rw [rPt_T hv hs i hi, rPt_B hv hs i hi]
    by_cases e : i = s
    · rw [if_pos e, if_pos e, e, vf_self, vf_self]; exact ⟨rfl, rfl⟩
    · rw [if_neg e, if_neg e, vf_ne e, vf_ne e]; exact h.2 i hi ha
theorem bStr_none {lev T : Nat → Option Nat} {s : Nat} (h : bStr lev T) : bStr lev (vf_upd T s none) := by
  intro i k hi e
  by_cases e2 : i = s
  · rw [e2, vf_self] at e; cases e
  · rw [vf_ne e2] at e; exact h i k hi e
theorem two_none {N v bz sn g s : Nat} {b : BS} {x : MS} {lev T : Nat → Option Nat} {B : Nat → Nat} (h : two N v bz sn g b x lev T B) (hv : v < 2) (hg : g < 2 ^ 31) (hs : s < 4822) :
    ∃ b', FX0_point b (nI s) (-1) (nI g) = some b' ∧ two N v bz sn g b' (rPt x v s (-1) (nI g)) lev (vf_upd T s none) (vf_upd B s g) ∧ BS_num b' = BS_num b := by
  obtain ⟨b', a1, a2, a3, -⟩ := m_point h.1 hs (o := none) (w := g) (fun k e => by cases e)
  refine ⟨b', a1, ⟨?_, rRel_pt (o := none) hv h.2.1 hs, ?_, bStr_none h.2.2.2.1, ?_, ?_⟩, a3⟩
  · rw [if_pos rfl] at a2; exact a2
  · intro k hk
    rw [show MS_free (rPt x v s (-1) (nI g)) = MS_free x by unfold rPt; split <;> rfl]
    exact h.2.2.1 k hk
  · rw [show MS_gen (rPt x v s (-1) (nI g)) = MS_gen x by unfold rPt; split <;> rfl]
    exact h.2.2.2.2.1
  · intro i hi
    by_cases e : i = s
    · rw [e, vf_self]; exact hg
    · rw [vf_ne e]; exact h.2.2.2.2.2 i hi
theorem told_k {N s k : Nat} {b : BS} {lev T : Nat → Option Nat} {B : Nat → Nat} (h : bRel N b lev T B none) (hs : s < 4822) (e : T s = some k) : FX0_told b (nI s) = some (nI k) := by
  unfold FX0_told
  rw [m_at _ hs (by omega)]
  simp only [Option.bind_some]
  rw [h.2.2.2.2.1 s hs, e]
  rfl
theorem cls_stay {w : VS} {b : BS} {N s0 p : Nat} {lev T : Nat → Option Nat} {B : Nat → Nat} (h : bRel N b lev T B none) (hs : bStr lev T) (h0 : ¬ s0 < 4800) (h1 : s0 < 4822) (hp : p < 512) (v3 : Int32) :
    ∀ (j n9 : Nat), j ≤ 3 → j < n9 → (∀ i, i < j → ∃ s k, wy T s0 p i = some s ∧ T s = some k ∧ ¬ allN T k) → FX6_clearPlace_L102 (nI s0) (nI p) v3 (fun vq26 _ => some (1, vq26)) n9 (VS_setb w b) (nI (4 - j)) = some (1, VS_setb w b) := by
  have hk6 : ∀ k, lev k ≠ none → k < 600 := fun k hk => (bRel_lev h hk).2
  have hT6 : ∀ s k, s < 4822 → T s = some k → k < 600 := fun s k hs2 e => hk6 k (h.2.2.2.2.2.1 s k hs2 e)
  intro j
  induction j with
  | zero =>
    intro n9 _ h2 _
    cases n9 with
    | zero => omega
    | succ n9 => rw [FX6_clearPlace_L102, if_pos (by decide)]
  | succ j ih =>
    intro n9 h2 h3 h4
    cases n9 with
    | zero => omega
    | succ n9 =>
      obtain ⟨s, k, c1, c2, c3⟩ := h4 j (by omega)
      obtain ⟨a1, a2, -⟩ := wy_slv hs hk6 h0 h1 hp j s c1 (by omega)
      have e1 : FX6_slotToLevel (VS_setb w b) (nI s0) (nI p) (nI (4 - (j + 1))) = some (nI s) := by
        rw [m_slotTo (w := VS_setb w b) h hs h0 h1 hp (by omega), show 3 - (4 - (j + 1)) = j by omega, c1]
        rfl
      obtain ⟨r, d1, -, d3⟩ := m_holes h.2.2.2.2.1 hT6 (hT6 s k a1 c2)
      have e2 : FX6_makeHoleIfEmpty (VS_setb w b) (nI s) = some (VS_setb w b) := by
        unfold FX6_makeHoleIfEmpty
        rw [show FX0_told (VS_b (VS_setb w b)) (nI s) = some (nI k) from told_k h a1 c2]
        simp only [Option.bind_some]
        rw [show FX0_hasOnlyHoles (VS_b (VS_setb w b)) (nI k) = some r from d1, d3 c3]
        simp only [Option.bind_some]
        rw [if_pos True.intro]
      rw [FX6_clearPlace_L102, if_neg (nlt_lit (C := 3) (c := 3) (i := 4 - (j + 1)) rfl (by omega) (by omega)), e1]
      simp only [Option.bind_some]
      rw [e2]
      simp only [Option.bind_some]
      rw [nI_1, show 4 - (j + 1) + 1 = 4 - j by omega]
      exact ih n9 (by omega) (by omega) (fun i hi => h4 i (by omega))
theorem both_holes {N v bz sn g p s0 : Nat} {w : VS} (hv : v < 2) (hg : g < 2 ^ 31) (hp : p < 512) (h0 : ¬ s0 < 4800) (h1 : s0 < 4822) (hgw : VS_gen w = nI g) (W : Nat → Int32) (v2 v3 v3' v4 : Int32) :
    ∀ (j m n9 : Nat) (b : BS) (x : MS) (lev T : Nat → Option Nat) (B : Nat → Nat), j ≤ 3 → j < m → j < n9 → two N v bz sn g b x lev T B → MS_way x = W → (∀ i, i < j → ∃ s, wy T s0 p i = some s ∧ T s ≠ none ∧ aS lev bz sn s ∧ W i = ep s) →
      ∃ b' x' T' B', FX6_clearPlace_L102 (nI s0) (nI p) v3 (fun vq26 _ => some (1, vq26)) n9 (VS_setb w b) (nI (4 - j)) = some (1, VS_setb w b') ∧
        FX8_clears_L86 (nI v) v2 v3' v4 (fun xq40 _ => some (0, xq40)) m x (nI j + (-1)) = some (0, x') ∧
        two N v bz sn g b' x' lev T' B' ∧ mF v x x' ∧ MS_dat x' = MS_dat x ∧ BS_num b' = BS_num b ∧ (∀ i, 4800 ≤ i → i < 4822 → i ≠ s0 → T' i = T i ∧ B' i = B i) := by
  intro j
  induction j with
  | zero =>
    intro m n9 b x lev T B _ h3 h4 h hW hw
    cases m with
    | zero => omega
    | succ m =>
      cases n9 with
      | zero => omega
      | succ n9 =>
        refine ⟨b, x, T, B, ?_, ?_, h, mF_refl v x, rfl, rfl, fun _ _ _ _ => ⟨rfl, rfl⟩⟩
        · rw [FX6_clearPlace_L102, if_pos (by decide)]
        · rw [FX8_clears_L86, if_pos (by decide)]
  | succ j ih =>
    intro m n9 b x lev T B h2 h3 h4 h hW hw
    have hk6 : ∀ k, lev k ≠ none → k < 600 := fun k hk => (bRel_lev h.1 hk).2
    have hT6 : ∀ s k, s < 4822 → T s = some k → k < 600 := fun s k hs2 e => hk6 k (h.1.2.2.2.2.2.1 s k hs2 e)
    have hs := h.2.2.2.1
    obtain ⟨s, c1, c2, c3, c4⟩ := hw j (by omega)
    obtain ⟨a1, a2, a3⟩ := wy_slv hs hk6 h0 h1 hp j s c1 (by omega)
    obtain ⟨k, ek⟩ : ∃ k, T s = some k := by
      cases e : T s with
      | none => exact absurd e c2
      | some k => exact ⟨k, rfl⟩
    have hk := hT6 s k a1 ek
    obtain ⟨l2, b1, b2⟩ := hs s k a1 ek
    rw [a2] at b2
    have hl2 := Option.some.inj b2
    have hin : ∀ i, i < 8 → rT x v (8 * k + i) = eO (T (8 * k + i)) := fun i hi => (h.2.1.2 (8 * k + i) (by omega) ((aS_lo (by omega)).mpr ⟨2 - j, by rw [show (8 * k + i) / 8 = k by omega, b1]; congr 1; omega⟩)).1
    by_cases hA : allN T k
    · obtain ⟨r, d1, d2, -⟩ := m_holes h.1.2.2.2.2.1 hT6 hk
      obtain ⟨r8, f1, f2, -⟩ := m8_holes hv hin hT6 hk
      obtain ⟨b1', p1, p2, p3⟩ := two_none h hv hg a1
      cases m with
      | zero => omega
      | succ m =>
        cases n9 with
        | zero => omega
        | succ n9 =>
          have hway : MS_way (rPt x v s (-1) (nI g)) = W := by rw [← hW]; unfold rPt; split <;> rfl
          obtain ⟨b', x', T', B', q1, q2, q3, q4, q5, q6, q7⟩ := ih m n9 b1' (rPt x v s (-1) (nI g)) lev (vf_upd T s none) (vf_upd B s g) (by omega) (by omega) (by omega) p2 hway (fun i hi => by
            obtain ⟨s2, u1, u2, u3, u4⟩ := hw i (by omega)
            obtain ⟨y1, y2, -⟩ := wy_slv hs hk6 h0 h1 hp i s2 u1 (by omega)
            have hne : s2 ≠ s := fun z => by
              rw [z, a2] at y2
              have := Option.some.inj y2
              omega
            exact ⟨s2, wy_keep hs hk6 h0 h1 hp (by omega : j ≤ 4) a2 (fun i2 _ z2 _ => vf_ne z2) i s2 (by omega) u1, by rw [vf_ne hne]; exact u2, u3, u4⟩)
          refine ⟨b', x', T', B', ?_, ?_, q3, mF_trans (mF_rPt x _ _ a1) q4, q5.trans (by unfold rPt; split <;> rfl), q6.trans p3, ?_⟩
          · have e1 : FX6_slotToLevel (VS_setb w b) (nI s0) (nI p) (nI (4 - (j + 1))) = some (nI s) := by
              rw [m_slotTo (w := VS_setb w b) h.1 hs h0 h1 hp (by omega), show 3 - (4 - (j + 1)) = j by omega, c1]
              rfl
            have e2 : FX6_makeHoleIfEmpty (VS_setb w b) (nI s) = some (VS_setb w b1') := by
              unfold FX6_makeHoleIfEmpty
              rw [show FX0_told (VS_b (VS_setb w b)) (nI s) = some (nI k) from told_k h.1 a1 ek]
              simp only [Option.bind_some]
              rw [show FX0_hasOnlyHoles (VS_b (VS_setb w b)) (nI k) = some r from d1, d2 hA]
              simp only [Option.bind_some]
              rw [if_neg (by decide)]
              show (FX0_point b (nI s) (-1) (VS_gen w)).bind _ = _
              rw [hgw, p1]
              rfl
            rw [FX6_clearPlace_L102, if_neg (nlt_lit (C := 3) (c := 3) (i := 4 - (j + 1)) rfl (by omega) (by omega)), e1]
            simp only [Option.bind_some]
            rw [e2]
            simp only [Option.bind_some]
            rw [nI_1, show 4 - (j + 1) + 1 = 4 - j by omega]
            exact q1
          · rw [nI_dn, FX8_clears_L86, if_neg (nlt_0 (by omega)), m_ald _ (by omega) (by omega)]
            simp only [Option.bind_some]
            rw [hW, c4, m8_told x hv a1]
            simp only [Option.bind_some]
            rw [(h.2.1.2 s a1 c3).1, ek, show eO (some k) = nI k from rfl, f1, f2 hA]
            simp only [Option.bind_some]
            rw [if_neg (by decide), m_ald _ hv (by omega)]
            simp only [Option.bind_some]
            rw [h.2.2.2.2.1, m8_point x hv a1]
            simp only [Option.bind_some]
            exact q2
          · intro i z1 z2 z3
            have y := q7 i z1 z2 z3
            by_cases hne : i = s
            · by_cases hj0 : j = 0
              · subst hj0
                cases c1
                exact absurd hne z3
              · have := a3 hj0
                omega
            · rw [vf_ne hne, vf_ne hne] at y
              exact y
    · obtain ⟨r8, f1, -, f2⟩ := m8_holes hv hin hT6 hk
      refine ⟨b, x, T, B, ?_, ?_, h, mF_refl v x, rfl, rfl, fun _ _ _ _ => ⟨rfl, rfl⟩⟩
      · refine cls_stay h.1 hs h0 h1 hp v3 (j + 1) n9 h2 h4 (fun i hi => ?_)
        by_cases hij : i = j
        · subst hij
          exact ⟨s, k, c1, ek, hA⟩
        · obtain ⟨s2, u1, u2, u3, u4⟩ := hw i (by omega)
          obtain ⟨s3, t1, t2, -, -⟩ := hw (i + 1) (by omega)
          cases e : T s2 with
          | none => exact absurd e u2
          | some k2 =>
            refine ⟨s2, k2, u1, e, fun z => ?_⟩
            rw [wy_s T s0 p i u1, e] at t1
            cases t1
            exact t2 (z _ (dg_lt hp))
      · cases m with
        | zero => omega
        | succ m =>
          rw [nI_dn, FX8_clears_L86, if_neg (nlt_0 (by omega)), m_ald _ (by omega) (by omega)]
          simp only [Option.bind_some]
          rw [hW, c4, m8_told x hv a1]
          simp only [Option.bind_some]
          rw [(h.2.1.2 s a1 c3).1, ek, show eO (some k) = nI k from rfl, f1, f2 hA]
          simp only [Option.bind_some]
          rw [if_pos True.intro]
