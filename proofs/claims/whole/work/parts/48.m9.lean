/-! PART 48: the reference renews a POINTER -/
def rFree (x : MS) (v N : Nat) (lev : Nat → Option Nat) : Prop := ∀ k, k < N → MS_free x (600 * v + k) = if lev k = none then 1 else 0
theorem m8_takeL {x : MS} {v N nb : Nat} {lev : Nat → Option Nat} (hv : v < 2) (hN2 : N ≤ 600) (hf : rFree x v N lev) (hnb : nb < N) (hnl : lev nb = none) (hmin : ∀ i, i < nb → lev i ≠ none) (v2 : Int32) (k9 : MS → Int32 → Option (Int32 × MS)) :
    ∀ (m j : Nat), j ≤ nb → nb - j < m → FX8_take_L2 (nI v) v2 k9 m x (nI j) = k9 x (nI nb) := by
  intro m
  induction m with
  | zero => intro j h1 h2; omega
  | succ m ih =>
    intro j h1 h2
    rw [FX8_take_L2, mix 600 v j 600 rfl, m_ald _ (by omega) (by omega)]
    simp only [Option.bind_some]
    rw [hf j (by omega)]
    by_cases hj : j = nb
    · subst hj
      rw [if_pos hnl, if_neg (by decide)]
    · rw [if_neg (hmin j (by omega))]
      simp only [if_true]
      rw [nI_1]
      exact ih (j + 1) (by omega) (by omega)
def tkX (x : MS) (v nb : Nat) (l : Int32) : MS := MS_setlev (MS_setfree x (upd (MS_free x) (600 * v + nb) 0)) (upd (MS_lev x) (600 * v + nb) l)
theorem m8_take {x : MS} {v N nb : Nat} {lev : Nat → Option Nat} (hv : v < 2) (hN2 : N ≤ 600) (hf : rFree x v N lev) (hnb : nb < N) (hnl : lev nb = none) (hmin : ∀ i, i < nb → lev i ≠ none) (l : Int32) :
    FX8_take x (nI v) l = some (nI nb, tkX x v nb l) := by
  unfold FX8_take
  have h := m8_takeL hv hN2 hf hnb hnl hmin l (fun xq4 w3_4 =>
    (ast 1200 (MS_free xq4) ((600 * (nI v)) + w3_4) (vp_nar .boolean 0)).bind fun g5 =>
    (ast 1200 (MS_lev xq4) ((600 * (nI v)) + w3_4) l).bind fun g7 =>
    some (w3_4, (MS_setlev (MS_setfree xq4 g5) g7))) 100000 0 (by omega) (by omega)
  rw [nI_0] at h
  rw [h, mix 600 v nb 600 rfl, m_ast _ _ (by omega) (by omega)]
  simp only [Option.bind_some]
  rw [m_ast _ _ (by omega) (by omega), nar0]
  rfl
def cpI {α : Type} (f : Nat → α) (base n : Nat) (g : Nat → α) : Nat → α := fun i => if base ≤ i ∧ i < base + n then g (i - base) else f i
theorem cpI_0 {α : Type} (f : Nat → α) (base : Nat) (g : Nat → α) : cpI f base 0 g = f := by
  funext i
  unfold cpI
  rw [if_neg (by omega)]
theorem cpI_s (f : Nat → Int32) (base n : Nat) (g : Nat → Int32) : upd (cpI f base n g) (base + n) (g n) = cpI f base (n + 1) g := by
  funext i
  unfold upd cpI
  by_cases h : i = base + n
  · subst h
    rw [if_pos rfl, if_pos (by omega)]
    congr 1
    omega
  · rw [if_neg h]
    by_cases h2 : base ≤ i ∧ i < base + n
    · rw [if_pos h2, if_pos (by omega)]
    · rw [if_neg h2, if_neg (by omega)]
theorem cpI_out {α : Type} {f : Nat → α} {base n : Nat} {g : Nat → α} {i : Nat} (h : ¬ (base ≤ i ∧ i < base + n)) : cpI f base n g i = f i := by
  unfold cpI
  rw [if_neg h]
/-- what the reference copies into the new block's slots -/
def sT (x : MS) (v : Nat) (o : Option Nat) (i : Nat) : Int32 := match o with
  | none => -1
  | some ob => MS_tel x (4800 * v + (8 * ob + i))
def sB (x : MS) (v : Nat) (w : Int32) (o : Option Nat) (i : Nat) : Int32 := match o with
  | none => w
  | some ob => MS_bir x (4800 * v + (8 * ob + i))
def cpX (x : MS) (v nb n : Nat) (w : Int32) (o : Option Nat) : MS := MS_setbir (MS_settel x (cpI (MS_tel x) (4800 * v + 8 * nb) n (sT x v o))) (cpI (MS_bir x) (4800 * v + 8 * nb) n (sB x v w o))
theorem kml8 (b i : Nat) : (8 * nI b) + nI i = nI (8 * b + i) := by rw [kmul 8 b 8 rfl, nI_add]
theorem m8_renL64 {x : MS} {v nb k : Nat} {o : Option Nat} (hv : v < 2) (hnb : nb < 600) (ho : ∀ ob, o = some ob → ob < 600 ∧ ob ≠ nb) (hk : k < 3) (v2 v3 v4 v5 w : Int32) (k9 : MS → Int32 → Option MS) :
    ∀ (m i : Nat), i ≤ 8 → 8 - i < m → FX8_renews_L64 (nI v) v2 v3 v4 v5 (nI k) (eO o) w (nI nb) k9 m (cpX x v nb i w o) (nI i) = k9 (cpX x v nb 8 w o) (nI 8) := by
  intro m
  induction m with
  | zero => intro i h1 h2; omega
  | succ m ih =>
    intro i h1 h2
    have e8 : (8 : Int32) = nI 8 := rfl
    have e3 : (3 : Int32) = nI 3 := rfl
    rw [FX8_renews_L64]
    by_cases hi : i = 8
    · subst hi
      rw [if_pos (by rw [e8]; exact nI_le (Nat.le_refl _) (by omega))]
    · rw [if_neg (by rw [e8]; exact nI_ge (by omega) (by omega)), if_neg (by rw [e3]; exact nI_ge (by omega) (by omega))]
      have hs : 8 * nb + i < 4800 := by omega
      have put : ∀ (a c : Int32), a = sT x v o i → c = sB x v w o i → FX8_point (cpX x v nb i w o) (nI v) ((8 * nI nb) + nI i) a c = some (cpX x v nb (i + 1) w o) := by
        intro a c ha hc
        rw [kml8, ← ep_lo hs, m8_point _ hv (by omega)]
        unfold rPt
        rw [if_pos hs, ha, hc]
        unfold cpX
        show some (MS_setbir (MS_settel x (upd (cpI (MS_tel x) (4800 * v + 8 * nb) i (sT x v o)) (4800 * v + (8 * nb + i)) (sT x v o i))) (upd (cpI (MS_bir x) (4800 * v + 8 * nb) i (sB x v w o)) (4800 * v + (8 * nb + i)) (sB x v w o i))) = _
        rw [← Nat.add_assoc, cpI_s, cpI_s]
      cases o with
      | none =>
        rw [if_pos (show eO none = -1 from rfl), put (-1) w rfl rfl]
        simp only [Option.bind_some]
        rw [nI_1]
        exact ih (i + 1) (by omega) (by omega)
      | some ob =>
        obtain ⟨o1, o2⟩ := ho ob rfl
        have e9 : eO (some ob) = nI ob := rfl
        have hso : 8 * ob + i < 4800 := by omega
        rw [e9, if_neg (nI_m1 (by omega)), kml8 ob i, ← ep_lo hso, m8_told _ hv (by omega)]
        simp only [Option.bind_some]
        rw [m8_born _ hv (by omega)]
        simp only [Option.bind_some]
        have h1 : rT (cpX x v nb i w (some ob)) v (8 * ob + i) = sT x v (some ob) i := by
          unfold rT
          rw [if_pos hso]
          show cpI (MS_tel x) (4800 * v + 8 * nb) i (sT x v (some ob)) (4800 * v + (8 * ob + i)) = _
          rw [cpI_out (by omega)]
          rfl
        have h2' : rB (cpX x v nb i w (some ob)) v (8 * ob + i) = sB x v w (some ob) i := by
          unfold rB
          rw [if_pos hso]
          show cpI (MS_bir x) (4800 * v + 8 * nb) i (sB x v w (some ob)) (4800 * v + (8 * ob + i)) = _
          rw [cpI_out (by omega)]
          rfl
        rw [put _ _ h1 h2']
        simp only [Option.bind_some]
        rw [nI_1]
        have := ih (i + 1) (by omega) (by omega)
        rw [e9] at this
        exact this
