/-! PART 61: both clear a PLACE, the same -/
theorem wy_some {T : Nat → Option Nat} {s0 p j s : Nat} (h : wy T s0 p (j + 1) = some s) : ∃ s1 k, wy T s0 p j = some s1 ∧ T s1 = some k ∧ s = 8 * k + dg p (j + 1) := by
  cases e : wy T s0 p j with
  | none => rw [wy_n e] at h; cases h
  | some s1 =>
    rw [wy_s T s0 p j e] at h
    cases e2 : T s1 with
    | none => rw [e2] at h; cases h
    | some k =>
      rw [e2] at h
      exact ⟨s1, k, rfl, e2, (Option.some.inj h).symm⟩
theorem wy_lt {T : Nat → Option Nat} {s0 p j s : Nat} (h : wy T s0 p j = some s) : ∀ i, i < j → ∃ s1, wy T s0 p i = some s1 ∧ T s1 ≠ none := by
  intro i hi
  cases e : wy T s0 p (i + 1) with
  | none =>
    have := wy_none T s0 p (i + 1) e (j - (i + 1))
    rw [show i + 1 + (j - (i + 1)) = j by omega, h] at this
    cases this
  | some s2 =>
    obtain ⟨s1, k, a1, a2, -⟩ := wy_some e
    exact ⟨s1, a1, by rw [a2]; simp⟩
theorem cls_clear_done {w : VS} {s p q o : Int32} (h1 : FX6_slotToLevel w s p 0 = some q) (h2 : FX0_told (VS_b w) q = some o) (h : o = -1) : FX6_clearPlace w s p = some (1, w) := by
  unfold FX6_clearPlace
  rw [h1, Option.bind_some, h2, Option.bind_some, if_pos h]
theorem cls_clear_no {w : VS} {s p q o a c : Int32} (h1 : FX6_slotToLevel w s p 0 = some q) (h2 : FX0_told (VS_b w) q = some o) (h : ¬ o = -1) (h3 : FX6_newBlocksWanted w s p 1 = some a) (h4 : FX0_free (VS_b w) = some c) (h5 : ¬ a ≤ c) : FX6_clearPlace w s p = some (0, w) := by
  unfold FX6_clearPlace
  rw [h1, Option.bind_some, h2, Option.bind_some, if_neg h, h3, Option.bind_some, h4, Option.bind_some, if_neg h5]
theorem cls_clear_go {w : VS} {s p q o a c : Int32} {r : Int32 × VS} (h1 : FX6_slotToLevel w s p 0 = some q) (h2 : FX0_told (VS_b w) q = some o) (h : ¬ o = -1) (h3 : FX6_newBlocksWanted w s p 1 = some a) (h4 : FX0_free (VS_b w) = some c) (h5 : a ≤ c)
    (h6 : FX6_clearPlace_L44 s p (fun vq18 w3_18 w4_18 =>
        (FX0_point (VS_b vq18) w3_18 (-1) (VS_gen vq18)).bind fun s19 =>
        FX6_clearPlace_L102 s p w3_18 (fun vq26 w4_26 => some (1, vq26)) 100000 (VS_setb vq18 s19) 1) 100000 w s 3 = some r) : FX6_clearPlace w s p = some r := by
  unfold FX6_clearPlace
  rw [h1, Option.bind_some, h2, Option.bind_some, if_neg h, h3, Option.bind_some, h4, Option.bind_some, if_pos h5]
  exact h6
theorem ref_clear_short {x y : MS} {v s p r : Int32} (h0 : FX8_ways x v s p = some (r, y)) (h : r < 4) : FX8_clears x v s p = some (0, y) := by
  unfold FX8_clears
  rw [h0, Option.bind_some]
  show (if r < 4 then _ else _) = _
  rw [if_pos h]
theorem ref_clear_hole {x y : MS} {v s p r q : Int32} (h0 : FX8_ways x v s p = some (r, y)) (h : ¬ r < 4) (h1 : ald 4 (MS_way y) 3 = some q) (h2 : FX8_told y v q = some (-1)) : FX8_clears x v s p = some (0, y) := by
  unfold FX8_clears
  rw [h0, Option.bind_some]
  show (if r < 4 then _ else _) = _
  rw [if_neg h, h1, Option.bind_some, h2, Option.bind_some, if_pos rfl]
theorem ref_clear_no {x y : MS} {v s p r q o a c : Int32} (h0 : FX8_ways x v s p = some (r, y)) (h : ¬ r < 4) (h1 : ald 4 (MS_way y) 3 = some q) (h2 : FX8_told y v q = some o) (h3 : ¬ o = -1)
    (h4 : FX8_wanted y v 4 3 = some a) (h5 : FX8_freeMany y v = some c) (h6 : ¬ a ≤ c) : FX8_clears x v s p = some (5, y) := by
  unfold FX8_clears
  rw [h0, Option.bind_some]
  show (if r < 4 then _ else _) = _
  rw [if_neg h, h1, Option.bind_some, h2, Option.bind_some, if_neg h3, h4, Option.bind_some, h5, Option.bind_some, if_neg h6]
theorem ref_clear_go {x y y2 y3 : MS} {v s p r q o a c r2 q2 g : Int32} {z : Int32 × MS} (h0 : FX8_ways x v s p = some (r, y)) (h : ¬ r < 4) (h1 : ald 4 (MS_way y) 3 = some q) (h2 : FX8_told y v q = some o) (h3 : ¬ o = -1)
    (h4 : FX8_wanted y v 4 3 = some a) (h5 : FX8_freeMany y v = some c) (h6 : a ≤ c) (h7 : FX8_renews y v s p 3 = some y2) (h8 : FX8_ways y2 v s p = some (r2, y3)) (h9 : ald 4 (MS_way y3) 3 = some q2) (h10 : ald 2 (MS_gen y3) v = some g)
    (h11 : ((FX8_point y3 v q2 (-1) g).bind fun s24 => FX8_clears_L86 v s p r (fun xq40 w5_40 => some (0, xq40)) 100000 s24 2) = some z) : FX8_clears x v s p = some z := by
  unfold FX8_clears
  rw [h0, Option.bind_some]
  show (if r < 4 then _ else _) = _
  rw [if_neg h, h1, Option.bind_some, h2, Option.bind_some, if_neg h3, h4, Option.bind_some, h5, Option.bind_some, if_pos h6, h7, Option.bind_some, h8, Option.bind_some]
  show (ald 4 (MS_way y3) 3).bind _ = _
  rw [h9, Option.bind_some, h10, Option.bind_some]
  exact h11
theorem both_clears {N v bz sn g p s0 : Nat} {w : VS} {x : MS} {lev T : Nat → Option Nat} {B : Nat → Nat} (hv : v < 2) (hg : g < 2 ^ 31) (hp : p < 512) (h0 : ¬ s0 < 4800) (h1 : s0 < 4822) (hlt : liveT bz sn (s0 % 4800))
    (h : two N v bz sn g (VS_b w) x lev T B) (hgw : VS_gen w = nI g) (hN : MS_many x v = nI N) (hd : ∀ k, k < 600 → lev k = some 0 → BS_num (VS_b w) k = MS_dat x (600 * v + k)) :
    ∃ r b' x' lev' T' B', FX6_clearPlace w (nI s0) (nI p) = some (r, VS_setb w b') ∧ FX8_clears x (nI v) (nI (s0 % 4800)) (nI p) = some (if r = 0 then 5 else 0, x') ∧ (r = 0 ∨ r = 1) ∧
      two N v bz sn g b' x' lev' T' B' ∧ mF v x x' ∧ (∀ k, k < 600 → lev' k = some 0 → BS_num b' k = MS_dat x' (600 * v + k)) ∧ (∀ i, 4800 ≤ i → i < 4822 → i ≠ s0 → T' i = T i ∧ B' i = B i) := by
  have hk6 : ∀ k, lev k ≠ none → k < 600 := fun k hk => (bRel_lev h.1 hk).2
  obtain ⟨hb, hr, hf, hs, hgx, hB⟩ := id h
  have hT6 : ∀ s k, s < 4822 → T s = some k → k < 600 := fun s k hs2 e => hk6 k (hb.2.2.2.2.2.1 s k hs2 e)
  have hN6 : N ≤ 600 := hb.2.1
  have hfl := frN_le lev N
  have hwl := wc_le T B g p 3 0 (T s0) (B s0)
  obtain ⟨n, W, w1, w2, w3, w4, w5⟩ := m8_ways hv hr hs hk6 hp h0 h1 hlt
  have hslot : FX6_slotToLevel w (nI s0) (nI p) 0 = some (eO (wy T s0 p 3)) := m_slotTo (l := 0) hb hs h0 h1 hp (by omega)
  by_cases hn : n < 4
  · have hn3 : wy T s0 p 3 = none := by
      have := wy_none T s0 p n (w5 hn) (3 - n)
      rw [show n + (3 - n) = 3 by omega] at this
      exact this
    exact ⟨1, VS_b w, MS_setway x W, lev, T, B, cls_clear_done (o := -1) hslot (by rw [hn3]; unfold FX0_told; rw [show eO none = -1 from rfl, m_atN]; rfl) rfl, ref_clear_short w1 (by rw [show (4 : Int32) = nI 4 from rfl]; exact nI_lt hn (by omega)), Or.inr rfl, h, mF_way v x W, hd, fun _ _ _ _ => ⟨rfl, rfl⟩⟩
  · have hn4 : n = 4 := by omega
    subst hn4
    obtain ⟨s3, c1, c2, c3, c4, c5⟩ := w4 3 (by omega)
    have hway3 : ald 4 (MS_way (MS_setway x W)) 3 = some (ep s3) := by
      rw [show (3 : Int32) = nI 3 from rfl, m_ald _ (by omega) (by omega)]
      exact congrArg some c5
    have ht8 : FX8_told (MS_setway x W) (nI v) (ep s3) = some (eO (T s3)) := by
      rw [m8_told (MS_setway x W) hv c2, rT_way, (hr.2 s3 c2 c4).1]
    have h44 : ¬ nI 4 < 4 := by decide
    have htold : FX0_told (VS_b w) (eO (wy T s0 p 3)) = some (eO (T s3)) := by
      rw [c1]
      unfold FX0_told
      rw [show eO (some s3) = nI s3 from rfl, m_at _ c2 (by omega)]
      simp only [Option.bind_some]
      rw [hb.2.2.2.2.1 s3 c2]
    cases e3 : T s3 with
    | none =>
      exact ⟨1, VS_b w, MS_setway x W, lev, T, B, cls_clear_done hslot (by rw [htold, e3]; rfl) rfl, ref_clear_hole w1 h44 hway3 (by rw [ht8, e3]; rfl), Or.inr rfl, h, mF_way v x W, hd, fun _ _ _ _ => ⟨rfl, rfl⟩⟩
    | some k3 =>
      have hk3 := hT6 s3 k3 c2 e3
      have hnm : ¬ eO (T s3) = -1 := by rw [e3]; exact nI_m1 (by omega)
      have hwant : FX8_wanted (MS_setway x W) (nI v) 4 3 = some (nI (wc T B g p 3 0 (T s0) (B s0))) := by
        have q := m8_want (x := MS_setway x W) (c := 3) hv hr hs hk6 hB hgx hg (by omega) (Nat.le_refl 4) w4 w5 3 100000 0 0 s0 (by omega) (by omega) (by omega) rfl
        rw [Nat.zero_add] at q
        exact q
      have hfree : FX8_freeMany (MS_setway x W) (nI v) = some (nI (frN N lev)) := m8_freeMany (x := MS_setway x W) hv hN hN6 hf
      have hwant0 := cls_wc1 hb hs hgw hg hB hp h0 h1
      have hfree0 : FX0_free (VS_b w) = some (nI (frN N lev)) := by
        unfold FX0_free
        rw [hb.2.2.2.2.2.2.2.2.2.1]
      by_cases hc : wc T B g p 3 0 (T s0) (B s0) ≤ frN N lev
      · have h' : two N v bz sn g (VS_b w) (MS_setway x W) lev T B := h
        obtain ⟨b1, x1, lev1, T1, B1, s1, -, q1, q2, q3, q4, q5, q6, q7, q8, q9, q10, q11, q12, q13⟩ := two_steps hv hg hp h0 h1 3 0 s0 (VS_b w) (MS_setway x W) lev T B h' (by omega) h1 rfl ((aS_hi h0).mpr hlt) hc
        have hk61 : ∀ k, lev1 k ≠ none → k < 600 := fun k hk => (bRel_lev q3.1 hk).2
        obtain ⟨-, hl1, hlo⟩ := wy_slv q3.2.2.2.1 hk61 h0 h1 hp 3 s1 q8 (by omega)
        have hlo := hlo (by omega)
        obtain ⟨W2, u1, u2, u3⟩ := way_3 hv q3.2.1 q3.2.2.2.1 hk61 hp h0 h1 hlt q8
        obtain ⟨b2, p1, p2, p3⟩ := two_none (x := MS_setway x1 W2) q3 hv hg q7
        have hway : MS_way (rPt (MS_setway x1 W2) v s1 (-1) (nI g)) = W2 := by unfold rPt; split <;> rfl
        have hkeep : ∀ i s2, i < 3 → wy T1 s0 p i = some s2 → s2 ≠ s1 := by
          intro i s2 hi e
          obtain ⟨-, y2, -⟩ := wy_slv q3.2.2.2.1 hk61 h0 h1 hp i s2 e (by omega)
          intro z
          rw [z, hl1] at y2
          have := Option.some.inj y2
          omega
        obtain ⟨b3, x3, T3, B3, r1, r2, r3, r4, r5, r6, r7⟩ := both_holes (w := w) hv hg hp h0 h1 hgw W2 (nI (s0 % 4800)) (nI s1) (nI p) (nI 4) 3 100000 100000 b2 (rPt (MS_setway x1 W2) v s1 (-1) (nI g)) lev1 (vf_upd T1 s1 none) (vf_upd B1 s1 g) (by omega) (by omega) (by omega) p2 hway (fun i hi => by
          obtain ⟨s2, y1, y2⟩ := wy_lt q8 i hi
          have hne := hkeep i s2 hi y1
          obtain ⟨s4, t1, t2, t3, t4, t5⟩ := u2 i (by omega)
          rw [y1] at t1
          cases t1
          exact ⟨s2, wy_keep q3.2.2.2.1 hk61 h0 h1 hp (by omega : 3 ≤ 4) hl1 (fun i2 _ z2 _ => vf_ne z2) i s2 (by omega) y1, by rw [vf_ne hne]; exact y2, t4, t5⟩)
        rw [show nI (4 - 3) = 1 from rfl] at r1
        rw [show nI 3 + (-1) = 2 by decide] at r2
        refine ⟨1, b3, x3, lev1, T3, B3, ?_, ?_, Or.inr rfl, r3, mF_trans (mF_way v x W) (mF_trans q4 (mF_trans (mF_way v x1 W2) (mF_trans (mF_rPt _ _ _ q7) r4))), ?_, ?_⟩
        · refine cls_clear_go hslot htold hnm hwant0 hfree0 (nI_le hc (by omega)) ?_
          have E : ∀ n9, 3 < n9 → FX6_clearPlace_L44 (nI s0) (nI p) (fun vq18 w3_18 w4_18 =>
              (FX0_point (VS_b vq18) w3_18 (-1) (VS_gen vq18)).bind fun s19 =>
              FX6_clearPlace_L102 (nI s0) (nI p) w3_18 (fun vq26 w4_26 => some (1, vq26)) 100000 (VS_setb vq18 s19) 1) n9 (VS_setb w (VS_b w)) (nI s0) (nI (3 - 0)) = some (1, VS_setb w b3) := by
            intro n9 h9
            obtain ⟨m, rfl⟩ : ∃ m, n9 = m + 1 + 3 := ⟨n9 - 4, by omega⟩
            rw [q1 (nI s0) w _ (m + 1) hgw, FX6_clearPlace_L44, if_pos (by decide)]
            show (FX0_point b1 (nI s1) (-1) (VS_gen w)).bind _ = _
            rw [hgw, p1]
            simp only [Option.bind_some]
            exact r1
          have E1 := E 100000 (by omega)
          rw [show VS_setb w (VS_b w) = w from rfl, show nI (3 - 0) = 3 from rfl] at E1
          exact E1
        · have e : FX8_renews (MS_setway x W) (nI v) (nI (s0 % 4800)) (nI p) 3 = some x1 := by
            have E : ∀ n9, 4 < n9 → FX8_renews_L8 (nI v) (nI (s0 % 4800)) (nI p) (nI 3) (fun xq52 w5_52 w6_52 => some xq52) n9 (MS_setway x W) (ep s0) (nI 0) = some x1 := by
              intro n9 h9
              obtain ⟨m, rfl⟩ : ∃ m, n9 = m + 1 + 3 := ⟨n9 - 4, by omega⟩
              rw [q2 (nI (s0 % 4800)) 3 _ (m + 1) (by omega) (by omega), FX8_renews_L8, if_pos (by decide)]
            have E1 := E 100000 (by omega)
            rw [ep_hi (by omega), show nI 0 = 0 from rfl, show nI 3 = 3 from rfl] at E1
            exact E1
          refine ref_clear_go w1 h44 hway3 ht8 hnm hwant hfree (nI_le hc (by omega)) e u1 (q2 := ep s1) (g := nI g) ?_ ?_ ?_
          · rw [show (3 : Int32) = nI 3 from rfl, m_ald _ (by omega) (by omega)]
            exact congrArg some u3
          · rw [m_ald _ hv (by omega)]
            exact congrArg some q3.2.2.2.2.1
          · rw [m8_point (MS_setway x1 W2) hv q7, Option.bind_some]
            exact r2
        · intro k2 hk2 e
          rw [r6, p3, q6, r5, show MS_dat (rPt (MS_setway x1 W2) v s1 (-1) (nI g)) = MS_dat x1 by unfold rPt; split <;> rfl, q5]
          exact hd k2 hk2 (q12 k2 e)
        · intro i a1 a2 a3
          have y1 := r7 i a1 a2 a3
          rw [vf_ne (by omega), vf_ne (by omega)] at y1
          have y2 := q13 i a1 a2 a3
          exact ⟨y1.1.trans y2.1, y1.2.trans y2.2⟩
      · exact ⟨0, VS_b w, MS_setway x W, lev, T, B, cls_clear_no hslot htold hnm hwant0 hfree0 (nI_ge (by omega) (by omega)), ref_clear_no w1 h44 hway3 ht8 hnm hwant hfree (nI_ge (by omega) (by omega)), Or.inl rfl, h, mF_way v x W, hd, fun _ _ _ _ => ⟨rfl, rfl⟩⟩
