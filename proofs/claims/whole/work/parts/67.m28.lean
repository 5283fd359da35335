/-! PART 67: a SNAPSHOT destroyed; rollback -/
/-- while SNAPSHOTS move down: as vol, but both count one less than there are -/
def dInv (v N sn g : Nat) (w : VS) (x : MS) (lev T : Nat → Option Nat) (B : Nat → Nat) : Prop :=
  bRel N (VS_b w) lev T B none ∧ rRel x v 0 (sn + 1) lev T B ∧ bStr lev T ∧ (∀ s, s < 4822 → B s < 2 ^ 31) ∧
  (VS_gen w = nI g ∧ MS_gen x v = nI g ∧ g < 2 ^ 31) ∧ MS_many x v = nI N ∧ (VS_busy w = nI 0 ∧ MS_busy x v = nI 0) ∧ (VS_snaps w = nI sn ∧ MS_snaps x v = nI sn ∧ sn < 20) ∧
  (∀ k, k < 600 → lev k = some 0 → BS_num (VS_b w) k = MS_dat x (600 * v + k)) ∧
  (∀ t, t < 22 → ¬ liveT 0 (sn + 1) t → T (4800 + t) = none) ∧
  (∀ k, k < sn + 1 → VS_mk w k = MS_sm x (20 * v + k) ∧ VS_gn w k = MS_sg x (20 * v + k))
theorem dInv_step {v N sn g i : Nat} {w : VS} {x : MS} {lev T : Nat → Option Nat} {B : Nat → Nat} (hv : v < 2) (h : dInv v N sn g w x lev T B) (hi : i < sn) (v1 v2 : Int32) :
    ∃ w' y T' B', (∀ k9 n9, FX6_dropSnapshot_L12 v1 k9 (n9 + 1) w (nI i) = FX6_dropSnapshot_L12 v1 k9 n9 w' (nI (i + 1))) ∧ (∀ k9 n9, FX8_destroy_L63 (nI v) v2 k9 (n9 + 1) x (nI i) = FX8_destroy_L63 (nI v) v2 k9 n9 y (nI (i + 1))) ∧ dInv v N sn g w' y lev T' B' ∧ fr v x y ∧ MS_rec y = MS_rec x := by
  obtain ⟨hb, hr, hs, hB, ⟨hg1, hg2, hg3⟩, hN, ⟨hz1, hz2⟩, ⟨hs1, hs2, hs3⟩, hd, hT0, hM⟩ := id h
  obtain ⟨b', a1, a2, a3⟩ := m_cp (s0 := 4802 + i) (s1 := 4803 + i) hb (by omega) (by omega)
  obtain ⟨t1, t2⟩ := c_told hb (show 4803 + i < 4822 by omega)
  have hq := hr.2 (4803 + i) (by omega) ((aS_hi (by omega)).mpr (Or.inr (Or.inr (by omega))))
  have hrt : rT x v (4803 + i) = MS_tt x (22 * v + (3 + i)) := by unfold rT; rw [if_neg (by omega), show (4803 + i) % 4800 = 3 + i by omega]
  have hrb : rB x v (4803 + i) = MS_tb x (22 * v + (3 + i)) := by unfold rB; rw [if_neg (by omega), show (4803 + i) % 4800 = 3 + i by omega]
  have hr' := rRel_pt (s := 4802 + i) (u := B (4803 + i)) (o := T (4803 + i)) hv hr (by omega)
  rw [rPt_tree x _ _ (by omega) (show (4802 + i) % 4800 = 2 + i by omega)] at hr'
  rw [← hq.1, ← hq.2, hrt, hrb] at hr'
  refine ⟨VS_setgn (VS_setmk (VS_setb w b') (vp_updL (VS_mk w) i (VS_mk w (i + 1)))) (upd (VS_gn w) i (VS_gn w (i + 1))), MS_setsm (MS_setsg (MS_settb (MS_settt x (upd (MS_tt x) (22 * v + (2 + i)) (MS_tt x (22 * v + (3 + i))))) (upd (MS_tb x) (22 * v + (2 + i)) (MS_tb x (22 * v + (3 + i))))) (upd (MS_sg x) (20 * v + i) (MS_sg x (20 * v + (i + 1))))) (vp_updL (MS_sm x) (20 * v + i) (MS_sm x (20 * v + (i + 1)))), _, _, ?_, ?_, ⟨a2, rRel_eq hr' ⟨rfl, rfl, rfl, rfl, rfl⟩, bStr_cp hs (by omega) (by omega) (by omega), upB hB (hB _ (by omega)), ⟨hg1, hg2, hg3⟩, hN, ⟨hz1, hz2⟩, ⟨hs1, hs2, hs3⟩, ?_, ?_, ?_⟩, ?_, rfl⟩
  · intro k9 n9
    have e1 : (4802 : Int32) + nI i + 1 = nI (4803 + i) := by rw [i4802, nI_add, nI_1]; congr 1; omega
    have e2 : nI (4803 + i) - 1 = nI (4802 + i) := by rw [show 4803 + i = (4802 + i) + 1 by omega, nI_pred]
    rw [FX6_dropSnapshot_L12, hs1, if_neg (nI_ge hi (by omega)), e1, t1, Option.bind_some, t2, Option.bind_some, e2, a1, Option.bind_some, nI_1, m_lat _ (by omega) (by omega), Option.bind_some, m_lput _ _ (by omega) (by omega), Option.bind_some, m_at _ (by omega) (by omega), Option.bind_some, m_put _ _ (by omega) (by omega), Option.bind_some]
  · intro k9 n9
    have e2 : ((22 : Int32) * nI v + 2) + nI i = nI (22 * v + (2 + i)) := by rw [show (2 : Int32) = nI 2 from rfl, mix 22 v 2 22 rfl, nI_add, Nat.add_assoc]
    have e3 : (20 : Int32) * nI v + nI i = nI (20 * v + i) := mix 20 v i 20 rfl
    have e4 : nI (22 * v + (2 + i)) + 1 = nI (22 * v + (3 + i)) := by rw [nI_1]; congr 1; omega
    have e5 : nI (20 * v + i) + 1 = nI (20 * v + (i + 1)) := by rw [nI_1]; congr 1
    rw [FX8_destroy_L63, m_ald _ hv (by omega), Option.bind_some, hs2, if_neg (nI_ge hi (by omega)), e2, e3, e4, e5, m_ald _ (by omega) (by omega), Option.bind_some, m_ast _ _ (by omega) (by omega), Option.bind_some, m_ald _ (by omega) (by omega), Option.bind_some, m_ast _ _ (by omega) (by omega), Option.bind_some,
      m_ald _ (by omega) (by omega), Option.bind_some, m_ast _ _ (by omega) (by omega), Option.bind_some, m_ald _ (by omega) (by omega), Option.bind_some, m_lst _ _ (by omega) (by omega), Option.bind_some, nI_1]
  · intro k hk e
    exact (congrFun a3 k).trans (hd k hk e)
  · intro t ht hl
    rw [vf_ne (by
      intro e
      exact hl (Or.inr (Or.inr (by omega))))]
    exact hT0 t ht hl
  · intro k hk
    show vp_updL (VS_mk w) i (VS_mk w (i + 1)) k = vp_updL (MS_sm x) (20 * v + i) (MS_sm x (20 * v + (i + 1))) (20 * v + k) ∧ upd (VS_gn w) i (VS_gn w (i + 1)) k = upd (MS_sg x) (20 * v + i) (MS_sg x (20 * v + (i + 1))) (20 * v + k)
    have q := hM (i + 1) (by omega)
    unfold vp_updL
    by_cases e : k = i
    · rw [if_pos e, if_pos (by omega), e, upd_self, upd_self]; exact q
    · rw [if_neg e, if_neg (by omega), upd_ne e, upd_ne (by omega)]; exact hM k hk
  · refine ⟨fun u hu hne => ⟨rfl, rfl, rfl, rfl, rfl, rfl, rfl, fun _ _ => ⟨rfl, rfl⟩, fun s hs4 => ?_, fun k hk => ?_⟩, rfl, rfl, rfl, rfl, rfl, rfl, rfl⟩
    · unfold rT rB
      by_cases h4 : s < 4800
      · rw [if_pos h4, if_pos h4, if_pos h4, if_pos h4]; exact ⟨rfl, rfl⟩
      · rw [if_neg h4, if_neg h4, if_neg h4, if_neg h4]
        have h5 : s % 4800 < 22 := by have h6 : s < 4822 := hs4; omega
        have h7 : 22 * u + s % 4800 ≠ 22 * v + (2 + i) := by omega
        exact ⟨upd_ne h7, upd_ne h7⟩
    · have h7 : 20 * u + k ≠ 20 * v + i := by omega
      refine ⟨upd_ne h7, ?_⟩
      show vp_updL (MS_sm x) (20 * v + i) _ (20 * u + k) = _
      unfold vp_updL
      rw [if_neg h7]
theorem dInv_loop {v N sn g : Nat} {lev : Nat → Option Nat} (hv : v < 2) (v1 v2 : Int32) (k9 : VS → Int32 → Option (Int32 × VS)) (k8 : MS → Int32 → Option (Int32 × MS)) : ∀ (r n9 m9 i : Nat) (w : VS) (x : MS) (T : Nat → Option Nat) (B : Nat → Nat), r < n9 → r < m9 → i + r = sn → dInv v N sn g w x lev T B →
    ∃ w' y T' B', FX6_dropSnapshot_L12 v1 k9 n9 w (nI i) = k9 w' (nI sn) ∧ FX8_destroy_L63 (nI v) v2 k8 m9 x (nI i) = k8 y (nI sn) ∧ dInv v N sn g w' y lev T' B' ∧ fr v x y ∧ MS_rec y = MS_rec x := by
  intro r
  induction r with
  | zero =>
    intro n9 m9 i w x T B h1 h2 h3 h
    cases n9 with
    | zero => omega
    | succ n9 =>
      cases m9 with
      | zero => omega
      | succ m9 =>
        have hi : i = sn := by omega
        subst hi
        refine ⟨w, x, T, B, ?_, ?_, h, fr_refl v x, rfl⟩
        · rw [FX6_dropSnapshot_L12, h.2.2.2.2.2.2.2.1.1, if_pos (nI_le (Nat.le_refl _) (by have := h.2.2.2.2.2.2.2.1.2.2; omega))]
        · rw [FX8_destroy_L63, m_ald _ hv (by omega), Option.bind_some, h.2.2.2.2.2.2.2.1.2.1, if_pos (nI_le (Nat.le_refl _) (by have := h.2.2.2.2.2.2.2.1.2.2; omega))]
  | succ r ih =>
    intro n9 m9 i w x T B h1 h2 h3 h
    cases n9 with
    | zero => omega
    | succ n9 =>
      cases m9 with
      | zero => omega
      | succ m9 =>
        obtain ⟨w1, x1, T1, B1, a1, a2, a3, a4, a5⟩ := dInv_step hv h (by omega : i < sn) v1 v2
        obtain ⟨w2, x2, T2, B2, c1, c2, c3, c4, c5⟩ := ih n9 m9 (i + 1) w1 x1 T1 B1 (by omega) (by omega) (by omega) a3
        exact ⟨w2, x2, T2, B2, (a1 k9 n9).trans c1, (a2 k8 m9).trans c2, c3, fr_trans a4 c4, c5.trans a5⟩
theorem dInv_end {v N sn g : Nat} {w : VS} {x : MS} {lev T : Nat → Option Nat} {B : Nat → Nat} (h : dInv v N sn g w x lev T B) :
    ∃ b', FX0_point (VS_b w) (nI (4802 + sn)) (-1) 0 = some b' ∧ vol v N 0 sn g (VS_setb w b') x lev (vf_upd T (4802 + sn) none) (vf_upd B (4802 + sn) 0) := by
  obtain ⟨hb, hr, hs, hB, ⟨hg1, hg2, hg3⟩, hN, ⟨hz1, hz2⟩, ⟨hs1, hs2, hs3⟩, hd, hT0, hM⟩ := h
  obtain ⟨b', a1, a2, a3⟩ := m_un (s0 := 4802 + sn) hb (by omega)
  refine ⟨b', a1, a2, ?_, bStr_none hs, upB hB (by omega), ⟨hg1, hg2, hg3⟩, hN, ⟨hz1, hz2, by omega⟩, ⟨hs1, hs2, by omega⟩, ?_, ?_, fun k hk => hM k (by omega)⟩
  · refine rRel_sub hr (fun i hi ha => ?_)
    by_cases h4 : i < 4800
    · exact ⟨(aS_lo h4).mpr ((aS_lo h4).mp ha), vf_ne (by omega), vf_ne (by omega)⟩
    · have hne : i ≠ 4802 + sn := by
        intro e
        rcases (aS_hi h4).mp ha with q | q | q <;> omega
      refine ⟨(aS_hi h4).mpr ?_, vf_ne hne, vf_ne hne⟩
      rcases (aS_hi h4).mp ha with q | q | q
      · exact Or.inl q
      · exact Or.inr (Or.inl q)
      · exact Or.inr (Or.inr (by omega))
  · intro k hk e
    exact (congrFun a3 k).trans (hd k hk e)
  · intro t ht hl
    by_cases e : 4800 + t = 4802 + sn
    · rw [e, vf_self]
    · rw [vf_ne e]
      refine hT0 t ht (fun q => hl ?_)
      rcases q with q | q | q
      · exact Or.inl q
      · exact Or.inr (Or.inl q)
      · exact Or.inr (Or.inr (by omega))
/-- what the reference does from the count on -/
def destroyRest (x0 : MS) (p1 p2 : Int32) : Option (Int32 × MS) :=
        (ald 2 (MS_snaps x0) p1).bind fun r10 =>
        (ast 2 (MS_snaps x0) p1 (r10 - 1)).bind fun g12 =>
        FX8_destroy_L63 p1 p2 (fun xq33 w3_33 =>
          (FX8_sweeps xq33 p1).bind fun s34 =>
          (ald 2 (MS_snaps s34) p1).bind fun r36 =>
          some (r36, s34)) 100000 (MS_setsnaps x0 g12) p2
theorem vol_destroy {v N sn g k : Nat} {w : VS} {x : MS} {lev T : Nat → Option Nat} {B : Nat → Nat} (hv : v < 2) (h : vol v N 0 (sn + 1) g w x lev T B) (hk : k < sn + 1) :
    ∃ w' y lev' T' B', FX6_dropSnapshot w (nI k) = some (nI sn, w') ∧ destroyRest x (nI v) (nI k) = some (nI sn, y) ∧ vol v N 0 sn g w' y lev' T' B' ∧ stl lev' T' ∧ fr v x y ∧ MS_rec y = MS_rec x := by
  obtain ⟨hb, hr, hs, hB, ⟨hg1, hg2, hg3⟩, hN, ⟨hz1, hz2, hz3⟩, ⟨hs1, hs2, hs3⟩, hd, hT0, hM⟩ := h
  have hdi : dInv v N sn g (VS_setsnaps w (nI sn)) (MS_setsnaps x (upd (MS_snaps x) v (nI sn))) lev T B :=
    ⟨hb, rRel_eq hr ⟨rfl, rfl, rfl, rfl, rfl⟩, hs, hB, ⟨hg1, hg2, hg3⟩, hN, ⟨hz1, hz2⟩, ⟨rfl, upd_self, by omega⟩, hd, hT0, hM⟩
  have hf0 : fr v x (MS_setsnaps x (upd (MS_snaps x) v (nI sn))) := by
    refine ⟨fun u hu hne => ⟨rfl, rfl, upd_ne hne, rfl, rfl, rfl, rfl, fun _ _ => ⟨rfl, rfl⟩, fun s hs4 => ?_, fun k hk => ⟨rfl, rfl⟩⟩, rfl, rfl, rfl, rfl, rfl, rfl, rfl⟩
    unfold rT rB
    exact ⟨rfl, rfl⟩
  obtain ⟨w1, y1, T1, B1, a1, a2, a3, a4, a5⟩ := dInv_loop hv (nI k) (nI k) (fun vq16 w2_16 =>
    (FX0_point (VS_b vq16) (4802 + (VS_snaps vq16)) (-1) 0).bind fun s17 =>
    (FX0_settle s17).bind fun s19 =>
    some ((VS_snaps vq16), (VS_setb (VS_setb vq16 s17) s19))) (fun xq33 w3_33 =>
          (FX8_sweeps xq33 (nI v)).bind fun s34 =>
          (ald 2 (MS_snaps s34) (nI v)).bind fun r36 =>
          some (r36, s34)) (sn - k) 100000 100000 k _ _ T B (by omega) (by omega) (by omega) hdi
  obtain ⟨b2, p1, p2⟩ := dInv_end a3
  obtain ⟨w3, y3, lev3, T3, B3, c1, c2, c3, c4, c5⟩ := vol_settle hv p2
  have hsn1 := a3.2.2.2.2.2.2.2.1.1
  refine ⟨w3, y3, lev3, T3, B3, ?_, ?_, c3, c4, fr_trans hf0 (fr_trans a4 (fr_mF c5)), c5.1.2.2.2.2.2.2.2.2.1.trans a5⟩
  · unfold FX6_dropSnapshot
    rw [hs1, nI_pred]
    refine Eq.trans a1 ?_
    rw [hsn1, i4802, nI_add, p1, Option.bind_some]
    unfold FX6_settle at c1
    have c1' : (FX0_settle b2).bind (fun s1 => some (VS_setb (VS_setb w1 b2) s1)) = some w3 := c1
    cases e : FX0_settle b2 with
    | none => rw [e] at c1'; cases c1'
    | some s1 =>
      rw [e, Option.bind_some] at c1'
      rw [Option.bind_some]
      have e2 := Option.some.inj c1'
      rw [← e2]
  · unfold destroyRest
    rw [m_ald _ hv (by omega), Option.bind_some, hs2, nI_pred, m_ast _ _ hv (by omega), Option.bind_some]
    refine Eq.trans a2 ?_
    rw [c2, Option.bind_some, m_ald _ hv (by omega), Option.bind_some, c3.2.2.2.2.2.2.2.1.2.1]
/-- the reference: LIVE is made the latest SNAPSHOT -/
def rollRest (x0 : MS) (p1 : Int32) : Option (Int32 × MS) :=
        (ald 2 (MS_snaps x0) p1).bind fun r10 =>
        (ald 44 (MS_tt x0) (((22 * p1) + 2) + (r10 - 1))).bind fun r12 =>
        (ast 44 (MS_tt x0) ((22 * p1) + 0) r12).bind fun g14 =>
        (ald 44 (MS_tb x0) (((22 * p1) + 2) + (r10 - 1))).bind fun r16 =>
        (ast 44 (MS_tb x0) ((22 * p1) + 0) r16).bind fun g18 =>
        (FX8_sweeps (MS_settb (MS_settt x0 g14) g18) p1).bind fun s20 =>
        some ((r10 - 1), s20)
theorem vol_roll {v N sn g : Nat} {w : VS} {x : MS} {lev T : Nat → Option Nat} {B : Nat → Nat} (hv : v < 2) (h : vol v N 0 (sn + 1) g w x lev T B) :
    ∃ w' y lev' T' B', FX6_returnToLatest w = some (nI sn, w') ∧ rollRest x (nI v) = some (nI sn, y) ∧ vol v N 0 (sn + 1) g w' y lev' T' B' ∧ stl lev' T' ∧ mF v x y := by
  have hs1 := h.2.2.2.2.2.2.2.1.1
  have hs2 := h.2.2.2.2.2.2.2.1.2.1
  have hs3 := h.2.2.2.2.2.2.2.1.2.2
  obtain ⟨b1, x1, a1, a2, a3, a4⟩ := vol_live (t := 2 + sn) hv h (by omega) (Or.inr (Or.inr (by omega)))
  obtain ⟨w3, y3, lev3, T3, B3, c1, c2, c3, c4, c5⟩ := vol_settle hv a3
  obtain ⟨t1, t2⟩ := c_told h.1 (show 4800 + (2 + sn) < 4822 by omega)
  refine ⟨w3, y3, lev3, T3, B3, ?_, ?_, c3, c4, mF_trans a4 c5⟩
  · have e1 : (4802 : Int32) + nI (sn + 1) - 1 = nI (4800 + (2 + sn)) := by rw [i4802, nI_add, show 4802 + (sn + 1) = (4800 + (2 + sn)) + 1 by omega, nI_pred]
    unfold FX6_returnToLatest
    rw [hs1, e1, t1, Option.bind_some, t2, Option.bind_some, a1, Option.bind_some, nI_pred]
    unfold FX6_settle at c1
    have c1' : (FX0_settle b1).bind (fun s1 => some (VS_setb (VS_setb w b1) s1)) = some w3 := c1
    cases e : FX0_settle b1 with
    | none => rw [e] at c1'; cases c1'
    | some s1 =>
      rw [e, Option.bind_some] at c1'
      rw [Option.bind_some]
      have e2 := Option.some.inj c1'
      rw [← e2]
  · have e0 : (22 : Int32) * nI v + 0 = nI (22 * v) := by rw [show (0 : Int32) = nI 0 from rfl, mix 22 v 0 22 rfl]; rfl
    have e2 : ((22 : Int32) * nI v + 2) + nI sn = nI (22 * v + (2 + sn)) := by rw [show (2 : Int32) = nI 2 from rfl, mix 22 v 2 22 rfl, nI_add, Nat.add_assoc]
    unfold rollRest
    rw [m_ald _ hv (by omega), Option.bind_some, hs2, nI_pred, e2, e0, m_ald _ (by omega) (by omega), Option.bind_some, m_ast _ _ (by omega) (by omega), Option.bind_some, m_ald _ (by omega) (by omega), Option.bind_some, m_ast _ _ (by omega) (by omega), Option.bind_some, ← a2, c2, Option.bind_some]
