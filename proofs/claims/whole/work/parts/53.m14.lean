/-! PART 53: both renew a POINTER, the same -/
theorem bStr_ren {lev T : Nat → Option Nat} {s l nb n : Nat} (h : bStr lev T) (hs : s < 4822) (hl : slv lev s = some (l + 1)) (hnb : nb < 600) (hnl : lev nb = none) (hn : n = if l = 0 then 0 else 8) (hk6 : ∀ k, lev k ≠ none → k < 600) :
    bStr (vf_upd lev nb (some l)) (vf_upd (cpy T nb n (srcT T (T s))) s (some nb)) := by
  have hslv : ∀ i, i < 4822 → slv lev i ≠ none → slv (vf_upd lev nb (some l)) i = slv lev i := by
    intro i hi hne
    unfold slv at hne ⊢
    by_cases h4 : i < 4800
    · rw [if_pos h4] at hne ⊢
      rw [if_pos h4, vf_ne (fun e => hne (by rw [e]; exact hnl))]
    · rw [if_neg h4, if_neg h4]
  have hlevk : ∀ k y, lev k = some y → vf_upd lev nb (some l) k = some y := by
    intro k y e
    rw [vf_ne (fun z => by rw [z, hnl] at e; cases e)]
    exact e
  have hn8 : n ≤ 8 := by rw [hn]; split <;> omega
  intro i k hi e
  by_cases his : i = s
  · subst his
    rw [vf_self] at e
    cases e
    exact ⟨l, vf_self, by rw [hslv i hi (by rw [hl]; simp)]; exact hl⟩
  · rw [vf_ne his] at e
    by_cases hin : 8 * nb ≤ i ∧ i < 8 * nb + n
    · unfold cpy at e
      rw [if_pos hin] at e
      have hl0 : l ≠ 0 := fun z => by rw [if_pos z] at hn; omega
      cases hT : T s with
      | none => rw [hT] at e; cases e
      | some ob =>
        rw [hT] at e
        obtain ⟨y, o1, o2⟩ := h s ob hs hT
        rw [hl] at o2
        have hy : y = l := by have := Option.some.inj o2; omega
        subst hy
        have e' : T (8 * ob + (i - 8 * nb)) = some k := e
        have h6 : ob < 600 := hk6 ob (by rw [o1]; simp)
        obtain ⟨z, q1, q2⟩ := h _ k (by omega) e'
        have hz : slv lev (8 * ob + (i - 8 * nb)) = some y := by
          unfold slv
          rw [if_pos (by omega), show (8 * ob + (i - 8 * nb)) / 8 = ob by omega]
          exact o1
        rw [hz] at q2
        refine ⟨z, hlevk k z q1, ?_⟩
        unfold slv
        rw [if_pos (by omega), show i / 8 = nb by omega, vf_self]
        exact q2
    · rw [cpy_out hin] at e
      obtain ⟨y, q1, q2⟩ := h i k hi e
      exact ⟨y, hlevk k y q1, by rw [hslv i hi (by rw [q2]; simp)]; exact q2⟩
/-- both hold the same blocks of one volume, while one of them is written -/
def two (N v bz sn g : Nat) (b : BS) (x : MS) (lev T : Nat → Option Nat) (B : Nat → Nat) : Prop :=
  bRel N b lev T B none ∧ rRel x v bz sn lev T B ∧ rFree x v N lev ∧ bStr lev T ∧ MS_gen x v = nI g ∧ ∀ s, s < 4822 → B s < 2 ^ 31
theorem two_step {N v bz sn g : Nat} {b : BS} {x : MS} {lev T : Nat → Option Nat} {B : Nat → Nat} (h : two N v bz sn g b x lev T B) (hv : v < 2) (hg : g < 2 ^ 31) {s j : Nat} (hs : s < 4822) (hj : j ≤ 3) (hl : slv lev s = some (4 - j)) (ha : aS lev bz sn s)
    (hfr : (T s = none ∨ B s ≠ g) → 0 < frN N lev) :
    ∃ b' x' lev' T' B' k, FX0_renew b (nI s) (nI (3 - j)) (nI g) = some b' ∧
      (∀ (v2 v3 : Int32) (c : Nat) (k9 : MS → Int32 → Int32 → Option MS) (n9 : Nat), j < c → c < 2 ^ 31 → FX8_renews_L8 (nI v) v2 v3 (nI c) k9 (n9 + 1) x (ep s) (nI j) = rNext v3 (FX8_renews_L8 (nI v) v2 v3 (nI c) k9 n9) s j k x') ∧
      two N v bz sn g b' x' lev' T' B' ∧ mF v x x' ∧ MS_dat x' = MS_dat x ∧ BS_num b' = BS_num b ∧ T' s = some k ∧ B' s = g ∧ lev' k = some (3 - j) ∧ k < N ∧
      frN N lev' + (if T s = none ∨ B s ≠ g then 1 else 0) = frN N lev ∧
      (∀ k' y, lev k' = some y → lev' k' = some y) ∧
      (j < 3 → ∀ i, i < 8 → T' (8 * k + i) = srcT T (T s) i ∧ B' (8 * k + i) = srcB B s (T s) i) ∧
      (∀ i, i < 4822 → i ≠ s → (i < 4800 → lev (i / 8) ≠ none) → T' i = T i ∧ B' i = B i) ∧ (∀ k', k' ≠ k → lev' k' = lev k') := by
  obtain ⟨h1, h2, h3, h4, h5, h6⟩ := h
  have hN2 : N ≤ 600 := h1.2.1
  have hlN := h1.2.2.2.1
  have hk6 : ∀ k, lev k ≠ none → k < 600 := fun k hk => by
    cases e : lev k with
    | none => exact absurd e hk
    | some y => have := (hlN k y e).1; omega
  have hTs : ∀ k, T s = some k → lev k = some (3 - j) ∧ k < N := fun k e => by
    obtain ⟨y, q1, q2⟩ := h4 s k hs e
    rw [hl] at q2
    have := Option.some.inj q2
    have hy : y = 3 - j := by omega
    rw [hy] at q1
    exact ⟨q1, (hlN k _ q1).1⟩
  obtain ⟨hrT, hrB⟩ := h2.2 s hs ha
  by_cases hw : T s = none ∨ B s ≠ g
  · obtain ⟨nb, n1, n2, n3⟩ := frN_pos N (hfr hw)
    have hlive : ∀ k, k < 600 → 8 * k ≤ s → s < 8 * k + 8 → lev k ≠ none := fun k hk a1 a2 e => by
      unfold slv at hl
      rw [if_pos (by omega), show s / 8 = k by omega, e] at hl
      cases hl
    obtain ⟨b', r1, r2, r3⟩ := m_renew h1 hs hlive (by omega : 3 - j ≤ 3) (h6 s hs) hg hw n1 n2 n3
    obtain ⟨n, hn⟩ : ∃ n, n = (if 3 - j = 0 then 0 else 8) := ⟨_, rfl⟩
    have hn' : n = (if j = 3 then 0 else 8) := by rw [hn]; split <;> split <;> omega
    have hn8 : n ≤ 8 := by rw [hn]; split <;> omega
    have hren := rRel_ren (l := 3 - j) (g := g) hv h2 hs ha (by omega : nb < 600) n2 (fun ob e => ⟨(hTs ob e).1, by have := (hTs ob e).2; omega⟩)
    rw [← hn] at hren r2
    have hsn : ¬ (8 * nb ≤ s ∧ s < 8 * nb + 8) := fun z => hlive nb (by omega) z.1 z.2 n2
    refine ⟨b', rnX x v s nb (3 - j) n (T s) (nI g), _, _, _, nb, r1, ?_, ⟨r2, hren, rFree_ren h3, bStr_ren h4 hs (by rw [hl]; congr 1; omega) (by omega) n2 hn hk6, ?_, ?_⟩, mF_rnX x _ _ hs (by omega) hn8, (rnX_dat x _ _).1, r3, vf_self, vf_self, vf_self, n1, ?_, ?_, ?_, ?_, fun k' e => vf_ne e⟩
    · intro v2 v3 c k9 n9 hc hc2
      rw [hn']
      exact m8_renW hv hs hN2 h3 n1 n2 n3 hj hc2 hc hrT rfl h5 (by rw [hrB]; rcases hw with z | z; exact Or.inl z; exact Or.inr (fun e => z ((nI_eq (h6 s hs) hg).mp e)))
        (fun ob e => ⟨by have := (hTs ob e).2; omega, fun z => by have := (hTs ob e).1; rw [z, n2] at this; cases this⟩) v2 v3 k9 n9
    · rw [(rnX_dat x _ _).2.2]; exact h5
    · intro i hi
      by_cases e : i = s
      · rw [e, vf_self]; exact hg
      · rw [vf_ne e]
        unfold cpy
        split
        · unfold srcB
          cases hT : T s with
          | none => exact h6 s hs
          | some ob =>
            have := (hTs ob hT).2
            exact h6 _ (by omega)
        · exact h6 i hi
    · rw [if_pos hw]
      have := frN_upd lev nb (some (3 - j)) N n1
      rw [if_pos n2, if_neg (by simp)] at this
      omega
    · intro k' y e
      rw [vf_ne (fun z => by rw [z, n2] at e; cases e)]
      exact e
    · intro hj3 i hi
      have hn88 : n = 8 := by rw [hn, if_neg (by omega)]
      rw [vf_ne (by omega), vf_ne (by omega), hn88]
      unfold cpy
      rw [if_pos (by omega), if_pos (by omega), show 8 * nb + i - 8 * nb = i by omega]
      exact ⟨rfl, rfl⟩
    · intro i hi his hli
      rw [vf_ne his, vf_ne his]
      have hout : ¬ (8 * nb ≤ i ∧ i < 8 * nb + n) := fun z => hli (by omega) (by rw [show i / 8 = nb by omega]; exact n2)
      rw [cpy_out hout, cpy_out hout]
      exact ⟨rfl, rfl⟩
  · have hr0 := m_renew0 (nI (3 - j)) hs (h1.2.2.2.2.1 s hs) (h1.2.2.2.2.2.2.1 s hs) (fun k e => by have := (hTs k e).2; omega) (h6 s hs) hg hw
    have hB : B s = g := Classical.byContradiction fun z => hw (Or.inr z)
    cases hT : T s with
    | none => exact absurd (Or.inl hT) hw
    | some ob =>
      obtain ⟨o1, o2⟩ := hTs ob hT
      refine ⟨b, x, lev, T, B, ob, hr0, ?_, ⟨h1, h2, h3, h4, h5, h6⟩, mF_refl v x, rfl, rfl, hT, hB, o1, o2, ?_, fun _ _ e => e, ?_, fun _ _ _ _ => ⟨rfl, rfl⟩, fun _ _ => rfl⟩
      · intro v2 v3 c k9 n9 hc hc2
        exact m8_renN hv hs hj hc2 hc (by rw [hrT, hT]; rfl) (by omega) (by rw [hrB, hB]) h5 v2 v3 k9 n9
      · rw [hT] at hw
        rw [if_neg hw]
        rfl
      · intro _ i _
        exact ⟨rfl, rfl⟩
