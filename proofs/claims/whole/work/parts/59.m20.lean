/-! PART 59: both write a PLACE, the same -/
theorem wc_le (T : Nat → Option Nat) (B : Nat → Nat) (g p : Nat) : ∀ (m j : Nat) (t : Option Nat) (w : Nat), wc T B g p m j t w ≤ m := by
  intro m
  induction m with
  | zero => intro j t w; exact Nat.le_refl 0
  | succ m ih =>
    intro j t w
    rw [wc_s]
    cases t with
    | none => simp only; split <;> omega
    | some ob =>
      have := ih (j + 1) (T (8 * ob + dg p (j + 1))) (B (8 * ob + dg p (j + 1)))
      simp only
      split <;> omega
theorem wy_none (T : Nat → Option Nat) (s0 p j : Nat) (h : wy T s0 p j = none) : ∀ i, wy T s0 p (j + i) = none := by
  intro i
  induction i with
  | zero => exact h
  | succ i ih => rw [show j + (i + 1) = (j + i) + 1 from rfl, wy, ih]
theorem mF_way (v : Nat) (x : MS) (W : Nat → Int32) : mF v x (MS_setway x W) :=
  ⟨⟨rfl, rfl, rfl, rfl, rfl, rfl, rfl, rfl, rfl, rfl, rfl, rfl, rfl, rfl, rfl, rfl, rfl, rfl⟩, fun _ _ => ⟨rfl, rfl⟩, fun _ _ => ⟨rfl, rfl⟩, fun _ _ => ⟨rfl, rfl⟩⟩
theorem mF_dat (v k : Nat) (x : MS) (z : Int64) (hk : k < 600) : mF v x (MS_setdat x (vp_updL (MS_dat x) (600 * v + k) z)) :=
  ⟨⟨rfl, rfl, rfl, rfl, rfl, rfl, rfl, rfl, rfl, rfl, rfl, rfl, rfl, rfl, rfl, rfl, rfl, rfl⟩, fun i hi => ⟨rfl, by
    show vp_updL (MS_dat x) (600 * v + k) z i = MS_dat x i
    unfold vp_updL
    rw [if_neg (by omega)]⟩, fun _ _ => ⟨rfl, rfl⟩, fun _ _ => ⟨rfl, rfl⟩⟩
theorem cls_wc0 {w : VS} {N g p s0 : Nat} {lev T : Nat → Option Nat} {B : Nat → Nat} (h : bRel N (VS_b w) lev T B none) (hs : bStr lev T) (hgw : VS_gen w = nI g) (hg : g < 2 ^ 31) (hB : ∀ s, s < 4822 → B s < 2 ^ 31) (hp : p < 512) (h0 : ¬ s0 < 4800) (h1 : s0 < 4822) :
    FX6_newBlocksWanted w (nI s0) (nI p) 0 = some (nI (wc T B g p 4 0 (T s0) (B s0))) := by
  have h := cls_wc (lo := 0) h hs hgw hg hB (by omega) hp (nI s0) 4 100000 0 0 s0 (by omega) (by omega) h1 (by unfold slv; rw [if_neg h0])
  rw [show 0 + wc T B g p 4 0 (T s0) (B s0) = wc T B g p 4 0 (T s0) (B s0) from Nat.zero_add _] at h
  exact h
theorem cls_wc1 {w : VS} {N g p s0 : Nat} {lev T : Nat → Option Nat} {B : Nat → Nat} (h : bRel N (VS_b w) lev T B none) (hs : bStr lev T) (hgw : VS_gen w = nI g) (hg : g < 2 ^ 31) (hB : ∀ s, s < 4822 → B s < 2 ^ 31) (hp : p < 512) (h0 : ¬ s0 < 4800) (h1 : s0 < 4822) :
    FX6_newBlocksWanted w (nI s0) (nI p) 1 = some (nI (wc T B g p 3 0 (T s0) (B s0))) := by
  have h := cls_wc (lo := 1) h hs hgw hg hB (by omega) hp (nI s0) 3 100000 0 0 s0 (by omega) (by omega) h1 (by unfold slv; rw [if_neg h0])
  rw [Nat.zero_add] at h
  exact h
theorem way_3 {x : MS} {v bz sn s0 p s : Nat} {lev T : Nat → Option Nat} {B : Nat → Nat} (hv : v < 2) (hr : rRel x v bz sn lev T B) (hs : bStr lev T) (hk6 : ∀ k, lev k ≠ none → k < 600) (hp : p < 512) (h0 : ¬ s0 < 4800) (h1 : s0 < 4822) (hlt : liveT bz sn (s0 % 4800)) (hw : wy T s0 p 3 = some s) :
    ∃ W, FX8_ways x (nI v) (nI (s0 % 4800)) (nI p) = some (nI 4, MS_setway x W) ∧ wyOk lev T bz sn s0 p W 4 ∧ W 3 = ep s := by
  obtain ⟨n, W, a1, a2, a3, a4, a5⟩ := m8_ways hv hr hs hk6 hp h0 h1 hlt
  have hn : n = 4 := by
    rcases Nat.lt_or_ge n 4 with z | z
    · have := wy_none T s0 p n (a5 z) (3 - n)
      rw [show n + (3 - n) = 3 by omega, hw] at this
      cases this
    · omega
  subst hn
  refine ⟨W, a1, a4, ?_⟩
  obtain ⟨s2, b1, -, -, -, b5⟩ := a4 3 (by omega)
  rw [hw] at b1
  cases b1
  exact b5
theorem cls_write_no {w : VS} {s p a c : Int32} (z : Int64) (h1 : FX6_newBlocksWanted w s p 0 = some a) (h2 : FX0_free (VS_b w) = some c) (h : ¬ a ≤ c) : FX6_writePlace w s p z = some (0, w) := by
  unfold FX6_writePlace
  rw [h1, Option.bind_some, h2, Option.bind_some, if_neg h]
theorem cls_write_go {w : VS} {s p a c : Int32} {z : Int64} {q : Int32 × VS} (h1 : FX6_newBlocksWanted w s p 0 = some a) (h2 : FX0_free (VS_b w) = some c) (h : a ≤ c)
    (h3 : FX6_writePlace_L25 s p z (fun vq13 w5_13 w6_13 =>
          (FX0_renew (VS_b vq13) w5_13 0 (VS_gen vq13)).bind fun s14 =>
          (FX0_told s14 w5_13).bind fun r16 =>
          (FX0_putNumber s14 r16 z).bind fun s18 =>
          some (1, (VS_setb (VS_setb vq13 s14) s18))) 100000 w s 3 = some q) : FX6_writePlace w s p z = some q := by
  unfold FX6_writePlace
  rw [h1, Option.bind_some, h2, Option.bind_some, if_pos h]
  exact h3
theorem ref_write_no {x y : MS} {v s p r a c : Int32} (z : Int64) (h0 : FX8_ways x v s p = some (r, y)) (h1 : FX8_wanted y v r 4 = some a) (h2 : FX8_freeMany y v = some c) (h : ¬ a ≤ c) : FX8_writes x v s p z = some (5, y) := by
  unfold FX8_writes
  rw [h0, Option.bind_some]
  show (FX8_wanted y v r 4).bind _ = _
  rw [h1, Option.bind_some, h2, Option.bind_some, if_neg h]
theorem ref_write_go {x y : MS} {v s p r a c : Int32} {z : Int64} {q : Int32 × MS} (h0 : FX8_ways x v s p = some (r, y)) (h1 : FX8_wanted y v r 4 = some a) (h2 : FX8_freeMany y v = some c) (h : a ≤ c)
    (h3 : ((FX8_renews y v s p 4).bind fun s9 =>
    (FX8_ways s9 v s p).bind fun (r11, s12) =>
    (ald 4 (MS_way s12) 3).bind fun r14 =>
    (FX8_told s12 v r14).bind fun r16 =>
    (lst 1200 (MS_dat s12) ((600 * v) + r16) z).bind fun g18 =>
    some ((0 : Int32), (MS_setdat s12 g18))) = some q) : FX8_writes x v s p z = some q := by
  unfold FX8_writes
  rw [h0, Option.bind_some]
  show (FX8_wanted y v r 4).bind _ = _
  rw [h1, Option.bind_some, h2, Option.bind_some, if_pos h]
  exact h3
theorem rT_way (x : MS) (W : Nat → Int32) (v s : Nat) : rT (MS_setway x W) v s = rT x v s := by unfold rT; rfl
theorem ref_write_end {y : MS} {v s k : Nat} (z : Int64) (hv : v < 2) (hs : s < 4822) (hk : k < 600) (hW : MS_way y 3 = ep s) (hT : rT y v s = nI k) :
    ((ald 4 (MS_way y) 3).bind fun r14 =>
    (FX8_told y (nI v) r14).bind fun r16 =>
    (lst 1200 (MS_dat y) ((600 * nI v) + r16) z).bind fun g18 =>
    some ((0 : Int32), (MS_setdat y g18))) = some (0, MS_setdat y (vp_updL (MS_dat y) (600 * v + k) z)) := by
  rw [show (3 : Int32) = nI 3 from rfl, m_ald _ (by omega) (by omega), Option.bind_some, hW, m8_told y hv hs, Option.bind_some, hT, mix 600 v k 600 rfl, m_lst _ _ (by omega) (by omega), Option.bind_some]
theorem both_writes {N v bz sn g p s0 : Nat} {w : VS} {x : MS} {lev T : Nat → Option Nat} {B : Nat → Nat} (z : Int64) (hv : v < 2) (hg : g < 2 ^ 31) (hp : p < 512) (h0 : ¬ s0 < 4800) (h1 : s0 < 4822) (hlt : liveT bz sn (s0 % 4800))
    (h : two N v bz sn g (VS_b w) x lev T B) (hgw : VS_gen w = nI g) (hN : MS_many x v = nI N) (hd : ∀ k, k < 600 → lev k = some 0 → BS_num (VS_b w) k = MS_dat x (600 * v + k)) :
    ∃ r b' x' lev' T' B', FX6_writePlace w (nI s0) (nI p) z = some (r, VS_setb w b') ∧ FX8_writes x (nI v) (nI (s0 % 4800)) (nI p) z = some (if r = 0 then 5 else 0, x') ∧ (r = 0 ∨ r = 1) ∧
      two N v bz sn g b' x' lev' T' B' ∧ mF v x x' ∧ (∀ k, k < 600 → lev' k = some 0 → BS_num b' k = MS_dat x' (600 * v + k)) ∧ (∀ i, 4800 ≤ i → i < 4822 → i ≠ s0 → T' i = T i ∧ B' i = B i) := by
  have hk6 : ∀ k, lev k ≠ none → k < 600 := fun k hk => (bRel_lev h.1 hk).2
  obtain ⟨hb, hr, hf, hs, hgx, hB⟩ := id h
  have hN6 : N ≤ 600 := hb.2.1
  have hfl := frN_le lev N
  have hwl := wc_le T B g p 4 0 (T s0) (B s0)
  obtain ⟨n, W, w1, w2, w3, w4, w5⟩ := m8_ways hv hr hs hk6 hp h0 h1 hlt
  have hwant : FX8_wanted (MS_setway x W) (nI v) (nI n) 4 = some (nI (wc T B g p 4 0 (T s0) (B s0))) := by
    have q := m8_want (x := MS_setway x W) (c := 4) hv hr hs hk6 hB hgx hg (Nat.le_refl 4) w3 w4 w5 4 100000 0 0 s0 (by omega) (by omega) (by omega) rfl
    rw [Nat.zero_add] at q
    exact q
  have hfree : FX8_freeMany (MS_setway x W) (nI v) = some (nI (frN N lev)) := m8_freeMany (x := MS_setway x W) hv hN hN6 hf
  have hwant0 := cls_wc0 hb hs hgw hg hB hp h0 h1
  have hfree0 : FX0_free (VS_b w) = some (nI (frN N lev)) := by
    unfold FX0_free
    rw [hb.2.2.2.2.2.2.2.2.2.1]
  by_cases hc : wc T B g p 4 0 (T s0) (B s0) ≤ frN N lev
  · have h' : two N v bz sn g (VS_b w) (MS_setway x W) lev T B := h
    have hc3 : wc T B g p 3 0 (T s0) (B s0) ≤ frN N lev := by
      refine Nat.le_trans ?_ hc
      have : ∀ (m j : Nat) (t : Option Nat) (u : Nat), wc T B g p m j t u ≤ wc T B g p (m + 1) j t u := by
        intro m
        induction m with
        | zero => intro j t u; exact Nat.zero_le _
        | succ m ih =>
          intro j t u
          rw [wc_s, wc_s T B g p (m + 1)]
          cases t with
          | none => simp only; omega
          | some ob =>
            have := ih (j + 1) (T (8 * ob + dg p (j + 1))) (B (8 * ob + dg p (j + 1)))
            simp only
            omega
      exact this 3 0 _ _
    obtain ⟨b1, x1, lev1, T1, B1, s1, q1, -, q2, q3, q4, q5, q6, q7, q8, q9, q10, q11, q12, q13⟩ := two_steps hv hg hp h0 h1 3 0 s0 (VS_b w) (MS_setway x W) lev T B h' (by omega) h1 rfl ((aS_hi h0).mpr hlt) hc3
    have hk61 : ∀ k, lev1 k ≠ none → k < 600 := fun k hk => (bRel_lev q3.1 hk).2
    obtain ⟨-, hl1, hlo⟩ := wy_slv q3.2.2.2.1 hk61 h0 h1 hp 3 s1 q8 (by omega)
    have hlo := hlo (by omega)
    have hwc1 := q10 1 (by omega)
    rw [show 3 + 1 = 4 from rfl, wc_s T1 B1] at hwc1
    have hfr1 : (T1 s1 = none ∨ B1 s1 ≠ g) → 0 < frN N lev1 := fun e => by
      rw [if_pos e] at hwc1
      omega
    obtain ⟨b2, x2, lev2, T2, B2, k, r1, r2, r3, r4, r5, r6, r7, r8, r9, r10, r11, r12, r13, r14, r15⟩ := two_step q3 hv hg q7 (by omega : 3 ≤ 3) hl1 q9 hfr1
    have hk : k < 600 := by omega
    have hw2 : wy T2 s0 p 3 = some s1 := wy_keep q3.2.2.2.1 hk61 h0 h1 hp (by omega) hl1 (fun i a1 a2 a3 => (r14 i a1 a2 a3).1) 3 s1 (Nat.le_refl _) q8
    obtain ⟨W2, u1, u2, u3⟩ := way_3 hv r3.2.1 r3.2.2.2.1 (fun k hk => (bRel_lev r3.1 hk).2) hp h0 h1 hlt hw2
    refine ⟨1, BS_setnum b2 (vp_updL (BS_num b2) k z), MS_setdat (MS_setway x2 W2) (vp_updL (MS_dat x2) (600 * v + k) z), lev2, T2, B2, ?_, ?_, Or.inr rfl, r3, ?_, ?_, ?_⟩
    · refine cls_write_go hwant0 hfree0 (nI_le hc (by omega)) ?_
      have E : ∀ n9, 3 < n9 → FX6_writePlace_L25 (nI s0) (nI p) z (fun vq13 w5_13 w6_13 =>
          (FX0_renew (VS_b vq13) w5_13 0 (VS_gen vq13)).bind fun s14 =>
          (FX0_told s14 w5_13).bind fun r16 =>
          (FX0_putNumber s14 r16 z).bind fun s18 =>
          some (1, (VS_setb (VS_setb vq13 s14) s18))) n9 (VS_setb w (VS_b w)) (nI s0) (nI (3 - 0)) = some (1, VS_setb w (BS_setnum b2 (vp_updL (BS_num b2) k z))) := by
        intro n9 h9
        obtain ⟨m, rfl⟩ : ∃ m, n9 = m + 1 + 3 := ⟨n9 - 4, by omega⟩
        rw [q1 (nI s0) z w _ (m + 1) hgw, FX6_writePlace_L25, if_pos (by decide)]
        show (FX0_renew b1 (nI s1) 0 (VS_gen w)).bind _ = _
        rw [hgw, show (0 : Int32) = nI (3 - 3) from rfl, r1]
        simp only [Option.bind_some]
        unfold FX0_told FX0_putNumber
        rw [m_at _ q7 (by omega)]
        simp only [Option.bind_some]
        rw [r3.1.2.2.2.2.1 s1 q7, r7, show eO (some k) = nI k from rfl, m_lput _ _ hk (by omega)]
        rfl
      have E1 := E 100000 (by omega)
      rw [show VS_setb w (VS_b w) = w from rfl, show nI (3 - 0) = 3 from rfl] at E1
      exact E1
    · refine ref_write_go w1 hwant hfree (nI_le hc (by omega)) ?_
      have e : FX8_renews (MS_setway x W) (nI v) (nI (s0 % 4800)) (nI p) 4 = some x2 := by
        have E : ∀ n9, 4 < n9 → FX8_renews_L8 (nI v) (nI (s0 % 4800)) (nI p) (nI 4) (fun xq52 w5_52 w6_52 => some xq52) n9 (MS_setway x W) (ep s0) (nI 0) = some x2 := by
          intro n9 h9
          obtain ⟨m, rfl⟩ : ∃ m, n9 = m + 1 + 1 + 3 := ⟨n9 - 5, by omega⟩
          rw [q2 (nI (s0 % 4800)) 4 _ (m + 1 + 1) (by omega) (by omega)]
          refine Eq.trans (r2 (nI (s0 % 4800)) (nI p) 4 _ (m + 1) (by omega) (by omega)) ?_
          unfold rNext
          rw [if_pos rfl, FX8_renews_L8, if_pos (by decide)]
        have E1 := E 100000 (by omega)
        rw [ep_hi (by omega), show nI 0 = 0 from rfl, show nI 4 = 4 from rfl] at E1
        exact E1
      rw [e, Option.bind_some, u1, Option.bind_some]
      rw [if_neg (by decide)]
      refine ref_write_end z hv q7 hk u3 ?_
      rw [rT_way, (r3.2.1.2 s1 q7 ((aS_lo hlo).mpr (by
        obtain ⟨y, hy⟩ := (aS_lo hlo).mp q9
        exact ⟨y, r12 _ _ hy⟩))).1, r7]
      rfl
    · exact mF_trans (mF_way v x W) (mF_trans q4 (mF_trans r4 (mF_trans (mF_way v x2 W2) (mF_dat v k (MS_setway x2 W2) z hk))))
    · intro k2 hk2 e
      show vp_updL (BS_num b2) k z k2 = vp_updL (MS_dat x2) (600 * v + k) z (600 * v + k2)
      unfold vp_updL
      by_cases hne : k2 = k
      · rw [if_pos hne, if_pos (by omega)]
      · rw [if_neg hne, if_neg (by omega), r6, q6, r5, q5]
        refine hd k2 hk2 (q12 k2 ?_)
        rw [← r15 k2 hne]; exact e
    · intro i a1 a2 a3
      have c1 := q13 i a1 a2 a3
      have c2 := r14 i a2 (by omega) (fun z => by omega)
      exact ⟨c2.1.trans c1.1, c2.2.trans c1.2⟩
  · exact ⟨0, VS_b w, MS_setway x W, lev, T, B, cls_write_no z hwant0 hfree0 (nI_ge (by omega) (by omega)), ref_write_no z w1 hwant hfree (nI_ge (by omega) (by omega)), Or.inl rfl, h, mF_way v x W, hd, fun _ _ _ _ => ⟨rfl, rfl⟩⟩
