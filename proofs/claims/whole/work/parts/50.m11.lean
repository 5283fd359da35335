/-! PART 50: the reference's blocks hold the same as the class's -/
/-- a slot that counts: of a living inner block, or of a TREE that is there -/
def aS (lev : Nat → Option Nat) (bz sn s : Nat) : Prop := if s < 4800 then (∃ y, lev (s / 8) = some (y + 1)) else liveT bz sn (s % 4800)
def rRel (x : MS) (v bz sn : Nat) (lev T : Nat → Option Nat) (B : Nat → Nat) : Prop :=
  (∀ k, k < 600 → MS_lev x (600 * v + k) = eO (lev k)) ∧
  (∀ s, s < 4822 → aS lev bz sn s → rT x v s = eO (T s) ∧ rB x v s = nI (B s))
theorem aS_lo {lev : Nat → Option Nat} {bz sn s : Nat} (h : s < 4800) : aS lev bz sn s ↔ ∃ y, lev (s / 8) = some (y + 1) := by unfold aS; rw [if_pos h]
theorem aS_hi {lev : Nat → Option Nat} {bz sn s : Nat} (h : ¬ s < 4800) : aS lev bz sn s ↔ liveT bz sn (s % 4800) := by unfold aS; rw [if_neg h]
theorem rRel_ren {x : MS} {v bz sn s nb l g : Nat} {lev T : Nat → Option Nat} {B : Nat → Nat} (hv : v < 2) (h : rRel x v bz sn lev T B) (hs : s < 4822) (ha : aS lev bz sn s) (hnb : nb < 600) (hnl : lev nb = none)
    (hlv : ∀ ob, T s = some ob → lev ob = some l ∧ ob < 600) :
    rRel (rnX x v s nb l (if l = 0 then 0 else 8) (T s) (nI g)) v bz sn (vf_upd lev nb (some l)) (vf_upd (cpy T nb (if l = 0 then 0 else 8) (srcT T (T s))) s (some nb)) (vf_upd (cpy B nb (if l = 0 then 0 else 8) (srcB B s (T s))) s g) := by
  obtain ⟨h1, h2⟩ := h
  obtain ⟨ht, hb⟩ := h2 s hs ha
  obtain ⟨n, hn⟩ : ∃ n, n = (if l = 0 then 0 else 8) := ⟨_, rfl⟩
  rw [← hn]
  refine ⟨?_, ?_⟩
  · intro k hk
    have e : MS_lev (rnX x v s nb l n (T s) (nI g)) = upd (MS_lev x) (600 * v + nb) (nI l) := by
      unfold rnX rPt
      by_cases h : s < 4800
      · rw [if_pos h]; rfl
      · rw [if_neg h]; rfl
    rw [e]
    by_cases hx : k = nb
    · subst hx; rw [upd_self, vf_self]; rfl
    · rw [upd_ne (by omega), vf_ne hx]; exact h1 k hk
  · intro i hi hai
    have e1 : rT (rnX x v s nb l n (T s) (nI g)) v i = if i = s then nI nb else rT (cpX (tkX x v nb (nI l)) v nb n (rB x v s) (T s)) v i := rPt_T hv hs i hi
    have e2 : rB (rnX x v s nb l n (T s) (nI g)) v i = if i = s then nI g else rB (cpX (tkX x v nb (nI l)) v nb n (rB x v s) (T s)) v i := rPt_B hv hs i hi
    rw [e1, e2]
    by_cases his : i = s
    · rw [if_pos his, if_pos his, his, vf_self, vf_self]
      exact ⟨rfl, rfl⟩
    · rw [if_neg his, if_neg his, vf_ne his, vf_ne his]
      by_cases hlo : i < 4800
      · rw [aS_lo hlo] at hai
        obtain ⟨y, hy⟩ := hai
        have c1 : rT (cpX (tkX x v nb (nI l)) v nb n (rB x v s) (T s)) v i = cpI (MS_tel x) (4800 * v + 8 * nb) n (sT x v (T s)) (4800 * v + i) := by
          unfold rT
          rw [if_pos hlo]
          rfl
        have c2 : rB (cpX (tkX x v nb (nI l)) v nb n (rB x v s) (T s)) v i = cpI (MS_bir x) (4800 * v + 8 * nb) n (sB x v (rB x v s) (T s)) (4800 * v + i) := by
          unfold rB
          rw [if_pos hlo]
          rfl
        rw [c1, c2]
        by_cases hin : i / 8 = nb
        · rw [hin, vf_self] at hy
          have hl := Option.some.inj hy
          have hn8 : n = 8 := by rw [hn, if_neg (by omega)]
          subst hn8
          have hr : 4800 * v + 8 * nb ≤ 4800 * v + i ∧ 4800 * v + i < 4800 * v + 8 * nb + 8 := by omega
          have hr2 : 8 * nb ≤ i ∧ i < 8 * nb + 8 := by omega
          have q1 : cpI (MS_tel x) (4800 * v + 8 * nb) 8 (sT x v (T s)) (4800 * v + i) = sT x v (T s) (i - 8 * nb) := by
            unfold cpI; rw [if_pos hr]; congr 1; omega
          have q2 : cpI (MS_bir x) (4800 * v + 8 * nb) 8 (sB x v (rB x v s) (T s)) (4800 * v + i) = sB x v (rB x v s) (T s) (i - 8 * nb) := by
            unfold cpI; rw [if_pos hr]; congr 1; omega
          have q3 : cpy T nb 8 (srcT T (T s)) i = srcT T (T s) (i - 8 * nb) := by unfold cpy; rw [if_pos hr2]
          have q4 : cpy B nb 8 (srcB B s (T s)) i = srcB B s (T s) (i - 8 * nb) := by unfold cpy; rw [if_pos hr2]
          rw [q1, q2, q3, q4]
          cases hob : T s with
          | none => exact ⟨rfl, hb⟩
          | some ob =>
            obtain ⟨o1, o2⟩ := hlv ob hob
            have hlo2 : 8 * ob + (i - 8 * nb) < 4800 := by omega
            obtain ⟨w1, w2⟩ := h2 (8 * ob + (i - 8 * nb)) (by omega) ((aS_lo hlo2).mpr ⟨y, by rw [show (8 * ob + (i - 8 * nb)) / 8 = ob by omega, o1, hl]⟩)
            unfold rT at w1
            unfold rB at w2
            rw [if_pos hlo2] at w1 w2
            exact ⟨w1, w2⟩
        · rw [vf_ne hin] at hy
          have hn8 : n ≤ 8 := by rw [hn]; split <;> omega
          rw [cpI_out (by omega), cpI_out (by omega), cpy_out (by omega), cpy_out (by omega)]
          have w := h2 i hi ((aS_lo hlo).mpr ⟨y, hy⟩)
          unfold rT rB at w
          rw [if_pos hlo, if_pos hlo] at w
          exact w
      · have hn8 : n ≤ 8 := by rw [hn]; split <;> omega
        rw [cpy_out (by omega), cpy_out (by omega)]
        have w := h2 i hi ((aS_hi hlo).mpr ((aS_hi hlo).mp hai))
        unfold rT rB at w ⊢
        rw [if_neg hlo, if_neg hlo] at w ⊢
        exact w
theorem rFree_ren {x : MS} {v N s nb l n : Nat} {lev : Nat → Option Nat} {o : Option Nat} {g : Int32} (hf : rFree x v N lev) : rFree (rnX x v s nb l n o g) v N (vf_upd lev nb (some l)) := by
  intro k hk
  have e : MS_free (rnX x v s nb l n o g) = upd (MS_free x) (600 * v + nb) 0 := by
    unfold rnX rPt
    by_cases h : s < 4800
    · rw [if_pos h]; rfl
    · rw [if_neg h]; rfl
  rw [e]
  by_cases hx : k = nb
  · subst hx; rw [upd_self, vf_self, if_neg (by simp)]
  · rw [upd_ne (by omega), vf_ne hx]; exact hf k hk
