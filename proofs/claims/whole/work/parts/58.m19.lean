/-! PART 58: three steps on, of both -/
theorem wy_slv {lev T : Nat → Option Nat} {s0 p : Nat} (hs : bStr lev T) (hk6 : ∀ k, lev k ≠ none → k < 600) (h0 : ¬ s0 < 4800) (h1 : s0 < 4822) (hp : p < 512) : ∀ (j s : Nat), wy T s0 p j = some s → j ≤ 4 → s < 4822 ∧ slv lev s = some (4 - j) ∧ (j ≠ 0 → s < 4800) := by
  intro j
  induction j with
  | zero =>
    intro s e _
    have e' : some s0 = some s := e
    cases e'
    exact ⟨h1, by unfold slv; rw [if_neg h0], fun z => absurd rfl z⟩
  | succ j ih =>
    intro s e hj
    cases e1 : wy T s0 p j with
    | none => rw [show wy T s0 p (j + 1) = none by rw [wy, e1]] at e; cases e
    | some s1 =>
      obtain ⟨a1, a2, -⟩ := ih s1 e1 (by omega)
      rw [wy_s T s0 p j e1] at e
      cases e2 : T s1 with
      | none => rw [e2] at e; cases e
      | some k =>
        rw [e2] at e
        cases e
        obtain ⟨l, b1, b2⟩ := hs s1 k a1 e2
        have hk := hk6 k (by rw [b1]; simp)
        have hd := dg_lt (j := j + 1) hp
        rw [a2] at b2
        have := Option.some.inj b2
        refine ⟨by omega, ?_, fun _ => by omega⟩
        unfold slv
        rw [if_pos (by omega), show (8 * k + dg p (j + 1)) / 8 = k by omega, b1]
        congr 1
        omega
theorem wy_keep {lev T T' : Nat → Option Nat} {s0 p s j0 : Nat} (hs : bStr lev T) (hk6 : ∀ k, lev k ≠ none → k < 600) (h0 : ¬ s0 < 4800) (h1 : s0 < 4822) (hp : p < 512) (hj0 : j0 ≤ 4) (hl : slv lev s = some (4 - j0))
    (hT : ∀ i, i < 4822 → i ≠ s → (i < 4800 → lev (i / 8) ≠ none) → T' i = T i) : ∀ (j s1 : Nat), j ≤ j0 → wy T s0 p j = some s1 → wy T' s0 p j = some s1 := by
  intro j
  induction j with
  | zero => intro s1 _ e; exact e
  | succ j ih =>
    intro s1 hj e
    cases e1 : wy T s0 p j with
    | none => rw [show wy T s0 p (j + 1) = none by rw [wy, e1]] at e; cases e
    | some s2 =>
      obtain ⟨a1, a2, a3⟩ := wy_slv hs hk6 h0 h1 hp j s2 e1 (by omega)
      have hne : s2 ≠ s := fun z => by
        rw [z, hl] at a2
        have := Option.some.inj a2
        omega
      rw [wy_s T s0 p j e1] at e
      rw [wy_s T' s0 p j (ih s2 (by omega) e1), hT s2 a1 hne (fun z => by
        unfold slv at a2
        rw [if_pos z] at a2
        rw [a2]; simp)]
      exact e
theorem wc_none (T : Nat → Option Nat) (B : Nat → Nat) (g p : Nat) (r j w : Nat) : wc T B g p r j none w = r := by
  cases r with
  | zero => rfl
  | succ r => rw [wc_s, if_pos (Or.inl rfl)]; exact Nat.add_comm 1 r
theorem wc_congr {lev T T' : Nat → Option Nat} {B B' : Nat → Nat} {g p s j0 : Nat} (hs : bStr lev T) (hk6 : ∀ k, lev k ≠ none → k < 600) (hp : p < 512) (hl : slv lev s = some (4 - j0))
    (hT : ∀ i, i < 4822 → i ≠ s → (i < 4800 → lev (i / 8) ≠ none) → T' i = T i ∧ B' i = B i) : ∀ (r j : Nat) (t : Option Nat) (w : Nat), j0 < j → r + j ≤ 4 → (∀ ob, t = some ob → lev ob = some (3 - j)) → wc T' B' g p r j t w = wc T B g p r j t w := by
  intro r
  induction r with
  | zero => intro j t w _ _ _; rfl
  | succ r ih =>
    intro j t w hj hr ht
    rw [wc_s, wc_s]
    cases t with
    | none => rfl
    | some ob =>
      have hl1 := ht ob rfl
      have ho := hk6 ob (by rw [hl1]; simp)
      have hd := dg_lt (j := j + 1) hp
      have hne : 8 * ob + dg p (j + 1) ≠ s := fun z => by
        rw [← z] at hl
        unfold slv at hl
        rw [if_pos (by omega), show (8 * ob + dg p (j + 1)) / 8 = ob by omega, hl1] at hl
        have := Option.some.inj hl
        omega
      obtain ⟨a1, a2⟩ := hT (8 * ob + dg p (j + 1)) (by omega) hne (fun _ => by rw [show (8 * ob + dg p (j + 1)) / 8 = ob by omega, hl1]; simp)
      simp only
      rw [a1, a2, ih (j + 1) _ _ (by omega) (by omega) (fun ob2 e => by
        obtain ⟨l, b1, b2⟩ := hs _ ob2 (by omega) e
        unfold slv at b2
        rw [if_pos (by omega), show (8 * ob + dg p (j + 1)) / 8 = ob by omega, hl1] at b2
        have := Option.some.inj b2
        rw [b1]
        congr 1
        omega)]
theorem sl_in {lev : Nat → Option Nat} {k d l : Nat} (hk : k < 600) (hd : d < 8) (h : lev k = some l) : slv lev (8 * k + d) = some l := by
  unfold slv
  rw [if_pos (by omega), show (8 * k + d) / 8 = k by omega, h]
theorem two_steps {N v bz sn g p s0 : Nat} (hv : v < 2) (hg : g < 2 ^ 31) (hp : p < 512) (h0 : ¬ s0 < 4800) (h1 : s0 < 4822) :
    ∀ (m j s : Nat) (b : BS) (x : MS) (lev T : Nat → Option Nat) (B : Nat → Nat), two N v bz sn g b x lev T B → j + m ≤ 3 → s < 4822 → wy T s0 p j = some s → aS lev bz sn s → wc T B g p m j (T s) (B s) ≤ frN N lev →
    ∃ b' x' lev' T' B' s',
      (∀ (v1 : Int32) (v3 : Int64) (w : VS) k9 n9, VS_gen w = nI g → FX6_writePlace_L25 v1 (nI p) v3 k9 (n9 + m) (VS_setb w b) (nI s) (nI (3 - j)) = FX6_writePlace_L25 v1 (nI p) v3 k9 n9 (VS_setb w b') (nI s') (nI (3 - (j + m)))) ∧
      (∀ (v1 : Int32) (w : VS) k9 n9, VS_gen w = nI g → FX6_clearPlace_L44 v1 (nI p) k9 (n9 + m) (VS_setb w b) (nI s) (nI (3 - j)) = FX6_clearPlace_L44 v1 (nI p) k9 n9 (VS_setb w b') (nI s') (nI (3 - (j + m)))) ∧
      (∀ (v2 : Int32) (c : Nat) k9 n9, j + m ≤ c → c ≤ 4 → FX8_renews_L8 (nI v) v2 (nI p) (nI c) k9 (n9 + m) x (ep s) (nI j) = FX8_renews_L8 (nI v) v2 (nI p) (nI c) k9 n9 x' (ep s') (nI (j + m))) ∧
      two N v bz sn g b' x' lev' T' B' ∧ mF v x x' ∧ MS_dat x' = MS_dat x ∧ BS_num b' = BS_num b ∧ s' < 4822 ∧ wy T' s0 p (j + m) = some s' ∧ aS lev' bz sn s' ∧
      (∀ r, r + j + m ≤ 4 → frN N lev' + wc T B g p (m + r) j (T s) (B s) = frN N lev + wc T' B' g p r (j + m) (T' s') (B' s')) ∧
      (∀ k y, lev k = some y → lev' k = some y) ∧ (∀ k, lev' k = some 0 → lev k = some 0) ∧ (∀ i, 4800 ≤ i → i < 4822 → i ≠ s → T' i = T i ∧ B' i = B i) := by
  intro m
  induction m with
  | zero =>
    intro j s b x lev T B h hj hs hw ha hc
    refine ⟨b, x, lev, T, B, s, fun _ _ _ _ _ _ => rfl, fun _ _ _ _ _ => rfl, fun _ _ _ _ _ _ => rfl, h, mF_refl v x, rfl, rfl, hs, hw, ha, fun r _ => ?_, fun _ _ e => e, fun _ e => e, fun _ _ _ _ => ⟨rfl, rfl⟩⟩
    rw [Nat.zero_add, Nat.add_zero]
  | succ m ih =>
    intro j s b x lev T B h hj hs hw ha hc
    have hk6 : ∀ k, lev k ≠ none → k < 600 := fun k hk => (bRel_lev h.1 hk).2
    obtain ⟨-, hl, -⟩ := wy_slv h.2.2.2.1 hk6 h0 h1 hp j s hw (by omega)
    rw [wc_s] at hc
    obtain ⟨b1, x1, lev1, T1, B1, k, r1, r2, r3, r4, r5, r6, r7, r8, r9, r10, r11, r12, r13, r14, r15⟩ := two_step h hv hg hs (by omega : j ≤ 3) hl ha (fun z => by rw [if_pos z] at hc; omega)
    have hN6 : N ≤ 600 := h.1.2.1
    have hd := dg_lt (j := j + 1) hp
    have hk : k < 600 := by omega
    have hw1 : wy T1 s0 p j = some s := wy_keep h.2.2.2.1 hk6 h0 h1 hp (by omega) hl (fun i a1 a2 a3 => (r14 i a1 a2 a3).1) j s (Nat.le_refl _) hw
    have hw2 : wy T1 s0 p (j + 1) = some (8 * k + dg p (j + 1)) := by rw [wy_s T1 s0 p j hw1, r7]
    have hsrc := r13 (by omega) (dg p (j + 1)) hd
    have hwc : ∀ r, r + j + 1 ≤ 4 → wc T B g p (r + 1) j (T s) (B s) = (if T s = none ∨ B s ≠ g then 1 else 0) + wc T1 B1 g p r (j + 1) (T1 (8 * k + dg p (j + 1))) (B1 (8 * k + dg p (j + 1))) := by
      intro r hr
      rw [wc_s, hsrc.1, hsrc.2]
      cases e : T s with
      | none =>
        rw [show srcT T none (dg p (j + 1)) = none from rfl, wc_none]
      | some ob =>
        obtain ⟨l, o1, o2⟩ := h.2.2.2.1 s ob hs e
        rw [hl] at o2
        have := Option.some.inj o2
        have ho := hk6 ob (by rw [o1]; simp)
        rw [show srcT T (some ob) (dg p (j + 1)) = T (8 * ob + dg p (j + 1)) from rfl, show srcB B s (some ob) (dg p (j + 1)) = B (8 * ob + dg p (j + 1)) from rfl]
        simp only
        rw [wc_congr h.2.2.2.1 hk6 hp hl r14 r (j + 1) _ _ (by omega) (by omega) (fun ob2 e2 => by
          obtain ⟨l2, c1, c2⟩ := h.2.2.2.1 _ ob2 (by omega) e2
          rw [sl_in ho hd o1] at c2
          have := Option.some.inj c2
          rw [c1]
          congr 1
          omega)]
    have hc1 : wc T1 B1 g p m (j + 1) (T1 (8 * k + dg p (j + 1))) (B1 (8 * k + dg p (j + 1))) ≤ frN N lev1 := by
      have := hwc m (by omega)
      rw [wc_s] at this
      omega
    obtain ⟨b', x', lev', T', B', s', q1, q1c, q2, q3, q4, q5, q6, q7, q8, q9, q10, q11, q12, q13⟩ := ih (j + 1) (8 * k + dg p (j + 1)) b1 x1 lev1 T1 B1 r3 (by omega) (by omega) hw2 ((aS_lo (by omega)).mpr ⟨2 - j, by rw [show (8 * k + dg p (j + 1)) / 8 = k by omega, r9]; congr 1; omega⟩) hc1
    have ej : j + 1 + m = j + (m + 1) := by omega
    have e3 : (3 - j) = (3 - (j + 1)) + 1 := by omega
    have hslot : ∀ b2 : BS, bRel N b2 lev1 T1 B1 none → (FX0_told b2 (nI s)).bind (fun r => FX0_slotIn b2 r (nI p)) = some (nI (8 * k + dg p (j + 1))) := by
      intro b2 hb2
      unfold FX0_told
      rw [m_at _ hs (by omega)]
      simp only [Option.bind_some]
      rw [hb2.2.2.2.2.1 s hs, r7]
      exact m_slotIn hk hp (by omega) (by omega) (by rw [hb2.2.2.1 k hk, r9, show 4 - (j + 1) = 3 - j by omega]; rfl)
    have hsl : (FX0_told b1 (nI s)).bind (fun r => FX0_slotIn b1 r (nI p)) = some (nI (8 * k + dg p (j + 1))) := hslot b1 r3.1
    have hpos : ¬ nI (3 - j) ≤ 0 := nI_nle (by omega) (by omega)
    rw [ej] at q1 q1c q2 q8 q10
    refine ⟨b', x', lev', T', B', s', ?_, ?_, ?_, q3, mF_trans r4 q4, q5.trans r5, q6.trans r6, q7, q8, q9, ?_, fun k y e => q11 k y (r12 k y e), ?_, ?_⟩
    · intro v1 v3 w k9 n9 hgw
      rw [show n9 + (m + 1) = (n9 + m) + 1 from rfl, FX6_writePlace_L25, if_neg hpos]
      show (FX0_renew b (nI s) (nI (3 - j)) (VS_gen w)).bind _ = _
      rw [hgw, r1]
      simp only [Option.bind_some]
      cases e : FX0_told b1 (nI s) with
      | none => rw [e] at hsl; cases hsl
      | some r =>
        rw [e] at hsl
        simp only [Option.bind_some] at hsl ⊢
        rw [hsl]
        simp only [Option.bind_some]
        rw [e3, nI_dn]
        exact q1 v1 v3 w k9 n9 hgw
    · intro v1 w k9 n9 hgw
      rw [show n9 + (m + 1) = (n9 + m) + 1 from rfl, FX6_clearPlace_L44, if_neg hpos]
      show (FX0_renew b (nI s) (nI (3 - j)) (VS_gen w)).bind _ = _
      rw [hgw, r1]
      simp only [Option.bind_some]
      cases e : FX0_told b1 (nI s) with
      | none => rw [e] at hsl; cases hsl
      | some r =>
        rw [e] at hsl
        simp only [Option.bind_some] at hsl ⊢
        rw [hsl]
        simp only [Option.bind_some]
        rw [e3, nI_dn]
        exact q1c v1 w k9 n9 hgw
    · intro v2 c k9 n9 hc2 hc4
      rw [show n9 + (m + 1) = (n9 + m) + 1 from rfl, r2 v2 (nI p) c k9 (n9 + m) (by omega) (by omega)]
      unfold rNext
      rw [if_neg (by omega), m8_turn hp (by omega) (by omega)]
      simp only [Option.bind_some]
      rw [show (8 : Int32) = nI 8 from rfl, nI_mul, nI_add, ← ep_lo (show 8 * k + dg p (j + 1) < 4800 by omega)]
      exact q2 v2 c k9 n9 (by omega) hc4
    · intro r hr
      have a1 := q10 r (by omega)
      have a2 := hwc (m + r) (by omega)
      rw [show m + 1 + r = m + r + 1 by omega, a2]
      omega
    · intro k2 e
      have e2 := q12 k2 e
      by_cases hk2 : k2 = k
      · rw [hk2, r9] at e2
        have := Option.some.inj e2
        omega
      · rw [r15 k2 hk2] at e2; exact e2
    · intro i a1 a2 a3
      have c1 := q13 i a1 a2 (by omega)
      have c2 := r14 i a2 a3 (fun z => by omega)
      exact ⟨c1.1.trans c2.1, c1.2.trans c2.2⟩
