/-! PART 49: the reference begins; one POINTER of its way is renewed -/
theorem m8_beginsL {x : MS} {v N : Nat} {lev : Nat → Option Nat} (hv : v < 2) (hN : MS_many x v = nI N) (hN2 : N ≤ 600) (hlev : ∀ k, k < 600 → MS_lev x (600 * v + k) = eO (lev k)) (hlN : ∀ k y, lev k = some y → k < N ∧ y ≤ 3) :
    ∀ (m j : Nat) (g : Nat → Int32), j ≤ N → N - j < m → (∀ k, k < j → g (600 * v + k) = if lev k = none then 1 else 0) → (∀ i, (∀ k, k < N → i ≠ 600 * v + k) → g i = MS_free x i) →
      ∃ g', FX8_begins_L2 (nI v) (fun xq11 _ => some xq11) m (MS_setfree x g) (nI j) = some (MS_setfree x g') ∧ (∀ k, k < N → g' (600 * v + k) = if lev k = none then 1 else 0) ∧ (∀ i, (∀ k, k < N → i ≠ 600 * v + k) → g' i = MS_free x i) := by
  intro m
  induction m with
  | zero => intro j g h1 h2; omega
  | succ m ih =>
    intro j g h1 h2 h3 h4
    rw [FX8_begins_L2, m_ald _ hv (by omega)]
    simp only [Option.bind_some]
    rw [show MS_many (MS_setfree x g) v = nI N from hN]
    by_cases hj : j = N
    · subst hj
      exact ⟨g, by rw [if_pos (nI_le (Nat.le_refl _) (by omega))], h3, h4⟩
    · rw [if_neg (nI_ge (by omega) (by omega)), mix 600 v j 600 rfl, m_ald _ (by omega) (by omega)]
      simp only [Option.bind_some]
      rw [show MS_lev (MS_setfree x g) (600 * v + j) = eO (lev j) from hlev j (by omega)]
      have put : ∀ (w : Int32), w = (if lev j = none then 1 else 0) → ∃ g', FX8_begins_L2 (nI v) (fun xq11 _ => some xq11) m (MS_setfree x (upd g (600 * v + j) w)) (nI j + 1) = some (MS_setfree x g') ∧ (∀ k, k < N → g' (600 * v + k) = if lev k = none then 1 else 0) ∧ (∀ i, (∀ k, k < N → i ≠ 600 * v + k) → g' i = MS_free x i) := by
        intro w hw
        rw [nI_1]
        refine ih (j + 1) _ (by omega) (by omega) ?_ ?_
        · intro k hk
          by_cases e : k = j
          · subst e; rw [upd_self]; exact hw
          · rw [upd_ne (by omega)]; exact h3 k (by omega)
        · intro i hi
          rw [upd_ne (hi j (by omega))]
          exact h4 i hi
      cases e : lev j with
      | none =>
        rw [if_pos (show eO none = -1 from rfl), m_ast _ _ (by omega) (by omega), nar1]
        exact put 1 (by rw [e]; rfl)
      | some l =>
        have := (hlN j l e).2
        have e2 : eO (some l) = nI l := rfl
        rw [e2, if_neg (nI_m1 (by omega)), m_ast _ _ (by omega) (by omega), nar0]
        exact put 0 (by rw [e]; rfl)
theorem m8_begins {x : MS} {v N : Nat} {lev : Nat → Option Nat} (hv : v < 2) (hN : MS_many x v = nI N) (hN2 : N ≤ 600) (hlev : ∀ k, k < 600 → MS_lev x (600 * v + k) = eO (lev k)) (hlN : ∀ k y, lev k = some y → k < N ∧ y ≤ 3) :
    ∃ g', FX8_begins x (nI v) = some (MS_setfree x g') ∧ rFree (MS_setfree x g') v N lev ∧ (∀ i, (∀ k, k < N → i ≠ 600 * v + k) → g' i = MS_free x i) := by
  obtain ⟨g', h1, h2, h3⟩ := m8_beginsL hv hN hN2 hlev hlN 100000 0 (MS_free x) (by omega) (by omega) (fun k hk => by omega) (fun i _ => rfl)
  rw [nI_0] at h1
  exact ⟨g', h1, h2, h3⟩
theorem cpX_0 (x : MS) (v nb : Nat) (w : Int32) (o : Option Nat) : cpX x v nb 0 w o = x := by
  unfold cpX
  rw [cpI_0, cpI_0]
/-- the reference's state when slot s has got the new block nb -/
def rnX (x : MS) (v s nb l n : Nat) (o : Option Nat) (g : Int32) : MS := rPt (cpX (tkX x v nb (nI l)) v nb n (rB x v s) o) v s (nI nb) g
def rNext (v3 : Int32) (rec : MS → Int32 → Int32 → Option MS) (s j nb : Nat) (x : MS) : Option MS :=
  if j = 3 then rec x (ep s) (nI 4) else (FX8_turn v3 (nI (j + 1))).bind fun r => rec x ((8 * nI nb) + r) (nI (j + 1))
theorem m8_renW {x : MS} {v N nb s j c g : Nat} {b : Int32} {lev : Nat → Option Nat} {o : Option Nat} (hv : v < 2) (hs : s < 4822) (hN2 : N ≤ 600) (hf : rFree x v N lev) (hnb : nb < N) (hnl : lev nb = none) (hmin : ∀ i, i < nb → lev i ≠ none)
    (hj : j ≤ 3) (hc : c < 2 ^ 31) (hcj : j < c) (hT : rT x v s = eO o) (hB : rB x v s = b) (hg : MS_gen x v = nI g) (hw : o = none ∨ b ≠ nI g) (ho : ∀ ob, o = some ob → ob < 600 ∧ ob ≠ nb)
    (v2 v3 : Int32) (k9 : MS → Int32 → Int32 → Option MS) (n9 : Nat) :
    FX8_renews_L8 (nI v) v2 v3 (nI c) k9 (n9 + 1) x (ep s) (nI j) =
      rNext v3 (FX8_renews_L8 (nI v) v2 v3 (nI c) k9 n9) s j nb (rnX x v s nb (3 - j) (if j = 3 then 0 else 8) o (nI g)) := by
  have e3 : (3 : Int32) = nI 3 := rfl
  have hsub : (3 : Int32) - nI j = nI (3 - j) := by
    rcases (show j = 0 ∨ j = 1 ∨ j = 2 ∨ j = 3 by omega) with rfl | rfl | rfl | rfl <;> decide
  have hsame : rB (tkX x v nb (nI (3 - j))) v s = rB x v s := rfl
  -- what is done once the block is wanted
  have body : ((FX8_take x (nI v) (3 - nI j)).bind fun (r7, s8) =>
        FX8_renews_L64 (nI v) v2 v3 (nI c) (ep s) (nI j) (eO o) b r7 (fun xq21 w10_21 =>
          (ald 2 (MS_gen xq21) (nI v)).bind fun r22 =>
          (FX8_point xq21 (nI v) (ep s) r7 r22).bind fun s24 =>
          if 3 ≤ nI j then
            FX8_renews_L8 (nI v) v2 v3 (nI c) k9 n9 s24 (ep s) (nI j + 1)
          else
            (FX8_told s24 (nI v) (ep s)).bind fun r27 =>
            (FX8_turn v3 (nI j + 1)).bind fun r29 =>
            FX8_renews_L8 (nI v) v2 v3 (nI c) k9 n9 s24 ((8 * r27) + r29) (nI j + 1)) 100000 s8 0) =
      rNext v3 (FX8_renews_L8 (nI v) v2 v3 (nI c) k9 n9) s j nb (rnX x v s nb (3 - j) (if j = 3 then 0 else 8) o (nI g)) := by
    rw [m8_take hv hN2 hf hnb hnl hmin, hsub]
    simp only [Option.bind_some]
    by_cases h3 : j = 3
    · subst h3
      have e8 : ¬ (8 : Int32) ≤ 0 := by decide
      have h33 : (3 : Int32) ≤ nI 3 := by decide
      rw [show (100000 : Nat) = 99999 + 1 from rfl, FX8_renews_L64, if_neg e8, if_pos h33, m_ald _ hv (by omega)]
      simp only [Option.bind_some]
      rw [show MS_gen (tkX x v nb (nI (3 - 3))) v = nI g from hg, m8_point _ hv hs]
      simp only [Option.bind_some]
      rw [if_pos h33]
      unfold rNext rnX
      rw [if_pos rfl, if_pos trivial, cpX_0, nI_1]
    · have h33 : ¬ (3 : Int32) ≤ nI j := by rw [e3]; exact nI_ge (by omega) (by omega)
      have hl := m8_renL64 (x := tkX x v nb (nI (3 - j))) (k := j) (nb := nb) (o := o) hv (by omega) ho (by omega) v2 v3 (nI c) (ep s) b (fun xq21 w10_21 =>
          (ald 2 (MS_gen xq21) (nI v)).bind fun r22 =>
          (FX8_point xq21 (nI v) (ep s) (nI nb) r22).bind fun s24 =>
          if 3 ≤ nI j then
            FX8_renews_L8 (nI v) v2 v3 (nI c) k9 n9 s24 (ep s) (nI j + 1)
          else
            (FX8_told s24 (nI v) (ep s)).bind fun r27 =>
            (FX8_turn v3 (nI j + 1)).bind fun r29 =>
            FX8_renews_L8 (nI v) v2 v3 (nI c) k9 n9 s24 ((8 * r27) + r29) (nI j + 1)) 100000 0 (by omega) (by omega)
      rw [cpX_0, nI_0] at hl
      rw [hl, m_ald _ hv (by omega)]
      simp only [Option.bind_some]
      rw [show MS_gen (cpX (tkX x v nb (nI (3 - j))) v nb 8 b o) v = nI g from hg, m8_point _ hv hs]
      simp only [Option.bind_some]
      rw [if_neg h33, m8_told _ hv hs, rPt_T hv hs s hs, if_pos rfl]
      simp only [Option.bind_some]
      unfold rNext rnX
      rw [if_neg h3, if_neg h3, hB, nI_1]
  rw [FX8_renews_L8, if_neg (nI_ge hcj hc), m8_told _ hv hs]
  simp only [Option.bind_some]
  rw [m8_born _ hv hs]
  simp only [Option.bind_some]
  rw [hT, hB]
  cases o with
  | none =>
    rw [if_pos (show eO none = -1 from rfl)]
    exact body
  | some ob =>
    have := (ho ob rfl).1
    rw [if_neg (show ¬ eO (some ob) = -1 from nI_m1 (by omega)), m_ald _ hv (by omega)]
    simp only [Option.bind_some]
    rw [hg, if_neg (by rcases hw with z | z; exact absurd z (by simp); exact z)]
    exact body
theorem m8_renN {x : MS} {v s j c g ob : Nat} (hv : v < 2) (hs : s < 4822) (hj : j ≤ 3) (hc : c < 2 ^ 31) (hcj : j < c) (hT : rT x v s = nI ob) (hob : ob < 600) (hB : rB x v s = nI g) (hg : MS_gen x v = nI g)
    (v2 v3 : Int32) (k9 : MS → Int32 → Int32 → Option MS) (n9 : Nat) :
    FX8_renews_L8 (nI v) v2 v3 (nI c) k9 (n9 + 1) x (ep s) (nI j) = rNext v3 (FX8_renews_L8 (nI v) v2 v3 (nI c) k9 n9) s j ob x := by
  have e3 : (3 : Int32) = nI 3 := rfl
  rw [FX8_renews_L8, if_neg (nI_ge hcj hc), m8_told _ hv hs]
  simp only [Option.bind_some]
  rw [m8_born _ hv hs]
  simp only [Option.bind_some]
  rw [hT, hB, if_neg (nI_m1 (by omega)), m_ald _ hv (by omega)]
  simp only [Option.bind_some]
  rw [hg, if_pos rfl]
  unfold rNext
  by_cases h3 : j = 3
  · subst h3
    rw [if_pos rfl, if_pos (by decide), nI_1]
  · rw [if_neg h3, if_neg (by rw [e3]; exact nI_ge (by omega) (by omega)), nI_1]
