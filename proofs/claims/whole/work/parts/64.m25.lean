/-! PART 64: TREES: read, SNAPSHOT, HIDDEN -/
theorem rPt_tree {v s t : Nat} (x : MS) (a b : Int32) (h0 : ¬ s < 4800) (ht : s % 4800 = t) : rPt x v s a b = MS_settb (MS_settt x (upd (MS_tt x) (22 * v + t) a)) (upd (MS_tb x) (22 * v + t) b) := by
  unfold rPt
  rw [if_neg h0, ht]
theorem rRel_ptG {x : MS} {v bz sn bz' sn' s u : Nat} {o : Option Nat} {lev T : Nat → Option Nat} {B : Nat → Nat} (hv : v < 2) (h : rRel x v bz sn lev T B) (hs : s < 4822) (ha : ∀ i, i < 4822 → aS lev bz' sn' i → i ≠ s → aS lev bz sn i) :
    rRel (rPt x v s (eO o) (nI u)) v bz' sn' lev (vf_upd T s o) (vf_upd B s u) := by
  refine ⟨fun k hk => ?_, fun i hi hb => ?_⟩
  · rw [show MS_lev (rPt x v s (eO o) (nI u)) = MS_lev x by unfold rPt; split <;> rfl]
    exact h.1 k hk
  · rw [rPt_T hv hs i hi, rPt_B hv hs i hi]
    by_cases e : i = s
    · rw [if_pos e, if_pos e, e, vf_self, vf_self]; exact ⟨rfl, rfl⟩
    · rw [if_neg e, if_neg e, vf_ne e, vf_ne e]; exact h.2 i hi (ha i hi hb e)
theorem rRel_sub {x : MS} {v bz sn bz' sn' : Nat} {lev T T' : Nat → Option Nat} {B B' : Nat → Nat} (h : rRel x v bz sn lev T B) (ha : ∀ i, i < 4822 → aS lev bz' sn' i → aS lev bz sn i ∧ T' i = T i ∧ B' i = B i) : rRel x v bz' sn' lev T' B' :=
  ⟨h.1, fun i hi hb => by
    obtain ⟨a1, a2, a3⟩ := ha i hi hb
    rw [a2, a3]
    exact h.2 i hi a1⟩
/-- what a state tells of slots -/
def sEq (x y : MS) : Prop := MS_lev y = MS_lev x ∧ MS_tel y = MS_tel x ∧ MS_bir y = MS_bir x ∧ MS_tt y = MS_tt x ∧ MS_tb y = MS_tb x
theorem rRel_eq {x y : MS} {v bz sn : Nat} {lev T : Nat → Option Nat} {B : Nat → Nat} (h : rRel x v bz sn lev T B) (e : sEq x y) : rRel y v bz sn lev T B := by
  obtain ⟨e1, e2, e3, e4, e5⟩ := e
  refine ⟨fun k hk => by rw [e1]; exact h.1 k hk, fun i hi ha => ?_⟩
  have q := h.2 i hi ha
  unfold rT rB at q ⊢
  rw [e2, e3, e4, e5]
  exact q
theorem bStr_cp {lev T : Nat → Option Nat} {s0 s1 : Nat} (h : bStr lev T) (h0 : ¬ s0 < 4800) (h1 : ¬ s1 < 4800) (h2 : s1 < 4822) : bStr lev (vf_upd T s0 (T s1)) := by
  intro i k hi e
  by_cases e2 : i = s0
  · rw [e2, vf_self] at e
    obtain ⟨l, a1, a2⟩ := h s1 k h2 e
    refine ⟨l, a1, ?_⟩
    unfold slv at a2 ⊢
    rw [if_neg h1] at a2
    rw [e2, if_neg h0]
    exact a2
  · rw [vf_ne e2] at e; exact h i k hi e
theorem m_cp {N : Nat} {b : BS} {lev T : Nat → Option Nat} {B : Nat → Nat} {s0 s1 : Nat} (h : bRel N b lev T B none) (h0 : s0 < 4822) (h1 : s1 < 4822) :
    ∃ b', FX0_point b (nI s0) (eO (T s1)) (nI (B s1)) = some b' ∧ bRel N b' lev (vf_upd T s0 (T s1)) (vf_upd B s0 (B s1)) none ∧ BS_num b' = BS_num b := by
  obtain ⟨b', a1, a2, a3, -⟩ := m_point h h0 (o := T s1) (w := B s1) (fun k e => ⟨h.2.2.2.2.2.1 s1 k h1 e, Or.inl (by have := (cntT_pos 4822).mpr ⟨s1, h1, e⟩; omega), h.2.2.2.2.2.2.2.2.1 s1 k h1 e⟩)
  refine ⟨b', a1, ?_, a3⟩
  split at a2 <;> exact a2
theorem m_un {N : Nat} {b : BS} {lev T : Nat → Option Nat} {B : Nat → Nat} {s0 : Nat} (h : bRel N b lev T B none) (h0 : s0 < 4822) :
    ∃ b', FX0_point b (nI s0) (-1) 0 = some b' ∧ bRel N b' lev (vf_upd T s0 none) (vf_upd B s0 0) none ∧ BS_num b' = BS_num b := by
  obtain ⟨b', a1, a2, a3, -⟩ := m_point h h0 (o := none) (w := 0) (fun k e => by cases e)
  refine ⟨b', a1, ?_, a3⟩
  rw [if_pos rfl] at a2
  exact a2
theorem stl_cp {lev T : Nat → Option Nat} {s0 : Nat} {o : Option Nat} (h : stl lev T) (hs : s0 < 4822) (h0 : T s0 = none) : stl lev (vf_upd T s0 o) := by
  intro k hk
  have q := cntT_upd T s0 o k 4822 hs
  rw [h0, if_neg (by simp)] at q
  have := h k hk
  omega
theorem upB {B : Nat → Nat} {s0 u : Nat} (h : ∀ s, s < 4822 → B s < 2 ^ 31) (hu : u < 2 ^ 31) : ∀ s, s < 4822 → vf_upd B s0 u s < 2 ^ 31 := by
  intro s hs
  by_cases e : s = s0
  · rw [e, vf_self]; exact hu
  · rw [vf_ne e]; exact h s hs
theorem c_told {N : Nat} {b : BS} {lev T : Nat → Option Nat} {B : Nat → Nat} {s : Nat} (h : bRel N b lev T B none) (hs : s < 4822) : FX0_told b (nI s) = some (eO (T s)) ∧ FX0_birth b (nI s) = some (nI (B s)) := by
  unfold FX0_told FX0_birth
  rw [m_at _ hs (by omega), m_at _ hs (by omega), h.2.2.2.2.1 s hs, h.2.2.2.2.2.2.1 s hs]
  exact ⟨rfl, rfl⟩
theorem lv0 (bz sn : Nat) : liveT bz sn (4800 % 4800) := Or.inl rfl
theorem i4800 : (4800 : Int32) = nI 4800 := rfl
theorem i4801 : (4801 : Int32) = nI 4801 := rfl
theorem i4802 : (4802 : Int32) = nI 4802 := rfl
/-- both keep a mark -/
theorem cls_keep {v N bz sn g : Nat} {w : VS} {x : MS} {lev T : Nat → Option Nat} {B : Nat → Nat} (z : Int64) (h : vol v N bz sn g w x lev T B) (hsn : sn < 20) :
    ∃ b', FX6_keepLive w z = some (nI sn, VS_setgen (VS_setsnaps (VS_setgn (VS_setmk (VS_setb w b') (vp_updL (VS_mk w) sn z)) (upd (VS_gn w) sn (nI g))) (nI (sn + 1))) (nI (g + 1))) ∧
      bRel N b' lev (vf_upd T (4802 + sn) (T 4800)) (vf_upd B (4802 + sn) (B 4800)) none ∧ BS_num b' = BS_num (VS_b w) := by
  obtain ⟨b', a1, a2, a3⟩ := m_cp (s0 := 4802 + sn) (s1 := 4800) h.1 (by omega) (by omega)
  refine ⟨b', ?_, a2, a3⟩
  obtain ⟨t1, t2⟩ := c_told h.1 (show 4800 < 4822 by omega)
  unfold FX6_keepLive
  rw [i4800, t1, Option.bind_some, t2, Option.bind_some, h.2.2.2.2.2.2.2.1.1, i4802, nI_add, a1, Option.bind_some, m_lput _ _ hsn (by omega), Option.bind_some, m_put _ _ hsn (by omega), Option.bind_some, h.2.2.2.2.1.1, nI_1, nI_1]
theorem ref_snaps {v sn g : Nat} {x : MS} (z : Int64) (hv : v < 2) (h1 : MS_snaps x v = nI sn) (h2 : MS_gen x v = nI g) (hsn : sn < 20) :
    ∃ y, FX8_snaps x (nI v) 0 z = some y ∧ y = MS_setgen (MS_setsnaps (MS_setsm (MS_setsg (MS_settb (MS_settt x (upd (MS_tt x) (22 * v + (2 + sn)) (MS_tt x (22 * v)))) (upd (MS_tb x) (22 * v + (2 + sn)) (MS_tb x (22 * v)))) (upd (MS_sg x) (20 * v + sn) (nI g))) (vp_updL (MS_sm x) (20 * v + sn) z)) (upd (MS_snaps x) v (nI (sn + 1)))) (upd (MS_gen x) v (nI (g + 1))) := by
  refine ⟨_, ?_, rfl⟩
  have e1 : (22 : Int32) * nI v + 0 = nI (22 * v) := by rw [show (0 : Int32) = nI 0 from rfl, mix 22 v 0 22 rfl]; rfl
  have e2 : ((22 : Int32) * nI v + 2) + nI sn = nI (22 * v + (2 + sn)) := by rw [show (2 : Int32) = nI 2 from rfl, mix 22 v 2 22 rfl, nI_add, Nat.add_assoc]
  have e3 : (20 : Int32) * nI v + nI sn = nI (20 * v + sn) := mix 20 v sn 20 rfl
  unfold FX8_snaps
  rw [m_ald _ hv (by omega), Option.bind_some, h1, e1, e2, e3, m_ald _ (by omega) (by omega), Option.bind_some, m_ast _ _ (by omega) (by omega), Option.bind_some, m_ald _ (by omega) (by omega), Option.bind_some, m_ast _ _ (by omega) (by omega), Option.bind_some,
    m_ald _ hv (by omega), Option.bind_some, h2, m_ast _ _ (by omega) (by omega), Option.bind_some, m_lst _ _ (by omega) (by omega), Option.bind_some, Option.bind_some, m_ast _ _ hv (by omega), Option.bind_some, Option.bind_some, m_ast _ _ hv (by omega), Option.bind_some, nI_1, nI_1]
theorem vol_keep {v N bz sn g : Nat} {w : VS} {x : MS} {lev T : Nat → Option Nat} {B : Nat → Nat} (z : Int64) (hv : v < 2) (h : vol v N bz sn g w x lev T B) (hsn : sn < 20) (hg : g + 1 < 2 ^ 31) :
    ∃ w' y T' B', FX6_keepLive w z = some (nI sn, w') ∧ FX8_snaps x (nI v) 0 z = some y ∧ vol v N bz (sn + 1) (g + 1) w' y lev T' B' ∧ (stl lev T → stl lev T') ∧ fr v x y ∧ MS_at y = MS_at x ∧ MS_rec y = MS_rec x ∧ MS_tgt y = MS_tgt x ∧ T' 4801 = T 4801 := by
  obtain ⟨b', a1, a2, a3⟩ := cls_keep z h hsn
  obtain ⟨hb, hr, hs, hB, ⟨hg1, hg2, hg3⟩, hN, ⟨hz1, hz2, hz3⟩, ⟨hs1, hs2, hs3⟩, hd, hT0, hM⟩ := id h
  obtain ⟨y, c1, c2⟩ := ref_snaps z hv hs2 hg2 hsn
  have hq := hr.2 4800 (by omega) ((aS_hi (by omega)).mpr (lv0 bz sn))
  have hr' : rRel (rPt x v (4802 + sn) (eO (T 4800)) (nI (B 4800))) v bz (sn + 1) lev (vf_upd T (4802 + sn) (T 4800)) (vf_upd B (4802 + sn) (B 4800)) := by
    refine rRel_ptG hv hr (by omega) (fun i hi ha hne => ?_)
    by_cases h4 : i < 4800
    · exact (aS_lo h4).mpr ((aS_lo h4).mp ha)
    · refine (aS_hi h4).mpr ?_
      rcases (aS_hi h4).mp ha with q | q | q
      · exact Or.inl q
      · exact Or.inr (Or.inl q)
      · exact Or.inr (Or.inr (by omega))
  have hrt : rT x v 4800 = MS_tt x (22 * v) := by unfold rT; rw [if_neg (by omega)]; rfl
  have hrb : rB x v 4800 = MS_tb x (22 * v) := by unfold rB; rw [if_neg (by omega)]; rfl
  rw [rPt_tree x _ _ (by omega) (show (4802 + sn) % 4800 = 2 + sn by omega)] at hr'
  rw [← hq.1, ← hq.2, hrt, hrb] at hr'
  refine ⟨_, y, _, _, a1, c1, ⟨a2, rRel_eq hr' ?_, bStr_cp hs (by omega) (by omega) (by omega), upB hB (hB 4800 (by omega)), ⟨rfl, ?_, hg⟩, ?_, ⟨hz1, ?_, hz3⟩, ⟨rfl, ?_, by omega⟩, ?_, ?_, ?_⟩, ?_, ?_, ?_, ?_, ?_, ?_⟩
  · rw [c2]; exact ⟨rfl, rfl, rfl, rfl, rfl⟩
  · rw [c2]; exact upd_self
  · rw [c2]; exact hN
  · rw [c2]; exact hz2
  · rw [c2]; exact upd_self
  · intro k hk e
    rw [c2]
    exact (congrFun a3 k).trans (hd k hk e)
  · intro t ht hl
    rw [vf_ne (by
      intro e
      exact hl (Or.inr (Or.inr (by omega))))]
    exact hT0 t ht (fun q => hl (by
      rcases q with q | q | q
      · exact Or.inl q
      · exact Or.inr (Or.inl q)
      · exact Or.inr (Or.inr (by omega))))
  · intro k hk
    rw [c2]
    show vp_updL (VS_mk w) sn z k = vp_updL (MS_sm x) (20 * v + sn) z (20 * v + k) ∧ upd (VS_gn w) sn (nI g) k = upd (MS_sg x) (20 * v + sn) (nI g) (20 * v + k)
    unfold vp_updL
    by_cases e : k = sn
    · rw [if_pos e, if_pos (by omega), e, upd_self, upd_self]; exact ⟨rfl, rfl⟩
    · rw [if_neg e, if_neg (by omega), upd_ne e, upd_ne (by omega)]; exact hM k (by omega)
  · intro hst
    exact stl_cp hst (by omega) (by
      have := hT0 (2 + sn) (by omega) (fun q => by
        rcases q with q | q | q <;> omega)
      rw [show 4800 + (2 + sn) = 4802 + sn by omega] at this
      exact this)
  · rw [c2]
    refine ⟨fun u hu hne => ⟨rfl, upd_ne hne, upd_ne hne, rfl, rfl, rfl, rfl, fun _ _ => ⟨rfl, rfl⟩, fun s hs4 => ?_, fun k hk => ?_⟩, rfl, rfl, rfl, rfl, rfl, rfl, rfl⟩
    · unfold rT rB
      by_cases h4 : s < 4800
      · rw [if_pos h4, if_pos h4, if_pos h4, if_pos h4]; exact ⟨rfl, rfl⟩
      · rw [if_neg h4, if_neg h4, if_neg h4, if_neg h4]
        exact ⟨upd_ne (by omega), upd_ne (by omega)⟩
    · refine ⟨upd_ne (by omega), ?_⟩
      show vp_updL (MS_sm x) (20 * v + sn) z (20 * u + k) = _
      unfold vp_updL
      rw [if_neg (by omega)]
  · rw [c2]
  · rw [c2]
  · rw [c2]
  · exact vf_ne (by omega)
/-- LIVE is made what another TREE is -/
theorem vol_live {v N bz sn g t : Nat} {w : VS} {x : MS} {lev T : Nat → Option Nat} {B : Nat → Nat} (hv : v < 2) (h : vol v N bz sn g w x lev T B) (ht : t < 22) (hl : liveT bz sn t) :
    ∃ b' y, FX0_point (VS_b w) 4800 (eO (T (4800 + t))) (nI (B (4800 + t))) = some b' ∧ y = MS_settb (MS_settt x (upd (MS_tt x) (22 * v) (MS_tt x (22 * v + t)))) (upd (MS_tb x) (22 * v) (MS_tb x (22 * v + t))) ∧
      vol v N bz sn g (VS_setb w b') y lev (vf_upd T 4800 (T (4800 + t))) (vf_upd B 4800 (B (4800 + t))) ∧ mF v x y := by
  obtain ⟨b', a1, a2, a3⟩ := m_cp (s0 := 4800) (s1 := 4800 + t) h.1 (by omega) (by omega)
  have hq := h.2.1.2 (4800 + t) (by omega) ((aS_hi (by omega)).mpr (by rw [show (4800 + t) % 4800 = t by omega]; exact hl))
  have hrt : rT x v (4800 + t) = MS_tt x (22 * v + t) := by unfold rT; rw [if_neg (by omega), show (4800 + t) % 4800 = t by omega]
  have hrb : rB x v (4800 + t) = MS_tb x (22 * v + t) := by unfold rB; rw [if_neg (by omega), show (4800 + t) % 4800 = t by omega]
  have hy : rPt x v 4800 (eO (T (4800 + t))) (nI (B (4800 + t))) = MS_settb (MS_settt x (upd (MS_tt x) (22 * v) (MS_tt x (22 * v + t)))) (upd (MS_tb x) (22 * v) (MS_tb x (22 * v + t))) := by
    rw [rPt_tree x _ _ (by omega) (show 4800 % 4800 = 0 by omega), ← hq.1, ← hq.2, hrt, hrb]
    rfl
  have hm : mF v x (rPt x v 4800 (eO (T (4800 + t))) (nI (B (4800 + t)))) := mF_rPt x _ _ (by omega)
  refine ⟨b', _, a1, hy, vol_mE h hm a2 (rRel_pt hv h.2.1 (by omega)) (bStr_cp h.2.2.1 (by omega) (by omega) (by omega)) (upB h.2.2.2.1 (h.2.2.2.1 _ (by omega))) ?_ ?_, hm⟩
  · intro k hk e
    rw [a3, show MS_dat (rPt x v 4800 (eO (T (4800 + t))) (nI (B (4800 + t)))) = MS_dat x by unfold rPt; split <;> rfl]
    exact h.2.2.2.2.2.2.2.2.1 k hk e
  · intro s s1 s2 e hn
    by_cases e4 : s = 4800
    · exact absurd (Or.inl rfl) (hn 0 e4)
    · rw [vf_ne e4]; exact e
/-- HIDDEN is made what LIVE is -/
theorem vol_hide {v N sn g : Nat} {w : VS} {x : MS} {lev T : Nat → Option Nat} {B : Nat → Nat} (hv : v < 2) (h : vol v N 0 sn g w x lev T B) :
    ∃ w' y T' B', FX6_makeHidden w = some w' ∧ y = MS_setbusy (MS_settb (MS_settt x (upd (MS_tt x) (22 * v + 1) (MS_tt x (22 * v)))) (upd (MS_tb x) (22 * v + 1) (MS_tb x (22 * v)))) (upd (MS_busy x) v 1) ∧ vol v N 1 sn g w' y lev T' B' ∧ (stl lev T → stl lev T') ∧ fr v x y := by
  obtain ⟨b', a1, a2, a3⟩ := m_cp (s0 := 4801) (s1 := 4800) h.1 (by omega) (by omega)
  obtain ⟨hb, hr, hs, hB, ⟨hg1, hg2, hg3⟩, hN, ⟨hz1, hz2, hz3⟩, ⟨hs1, hs2, hs3⟩, hd, hT0, hM⟩ := id h
  obtain ⟨t1, t2⟩ := c_told hb (show 4800 < 4822 by omega)
  have hq := hr.2 4800 (by omega) ((aS_hi (by omega)).mpr (lv0 0 sn))
  have hrt : rT x v 4800 = MS_tt x (22 * v) := by unfold rT; rw [if_neg (by omega)]; rfl
  have hrb : rB x v 4800 = MS_tb x (22 * v) := by unfold rB; rw [if_neg (by omega)]; rfl
  have hr' : rRel (rPt x v 4801 (eO (T 4800)) (nI (B 4800))) v 1 sn lev (vf_upd T 4801 (T 4800)) (vf_upd B 4801 (B 4800)) := by
    refine rRel_ptG hv hr (by omega) (fun i hi ha hne => ?_)
    by_cases h4 : i < 4800
    · exact (aS_lo h4).mpr ((aS_lo h4).mp ha)
    · refine (aS_hi h4).mpr ?_
      rcases (aS_hi h4).mp ha with q | q | q
      · exact Or.inl q
      · omega
      · exact Or.inr (Or.inr q)
  rw [rPt_tree x _ _ (by omega) (show 4801 % 4800 = 1 by omega)] at hr'
  rw [← hq.1, ← hq.2, hrt, hrb] at hr'
  refine ⟨VS_setbusy (VS_setb w b') 1, _, _, _, ?_, rfl, ⟨a2, rRel_eq hr' ⟨rfl, rfl, rfl, rfl, rfl⟩, bStr_cp hs (by omega) (by omega) (by omega), upB hB (hB 4800 (by omega)), ⟨hg1, hg2, hg3⟩, hN, ⟨rfl, upd_self, by omega⟩, ⟨hs1, hs2, hs3⟩, ?_, ?_, hM⟩, ?_, ?_⟩
  · unfold FX6_makeHidden
    rw [i4800, t1, Option.bind_some, t2, Option.bind_some, i4801, a1, Option.bind_some]
  · intro k hk e
    exact (congrFun a3 k).trans (hd k hk e)
  · intro t ht hl
    rw [vf_ne (by
      intro e
      exact hl (Or.inr (Or.inl ⟨by omega, rfl⟩)))]
    exact hT0 t ht (fun q => hl (by
      rcases q with q | q | q
      · exact Or.inl q
      · omega
      · exact Or.inr (Or.inr q)))
  · intro hst
    exact stl_cp hst (by omega) (hT0 1 (by omega) (fun q => by rcases q with q | q | q <;> omega))
  · refine ⟨fun u hu hne => ⟨rfl, rfl, rfl, upd_ne hne, rfl, rfl, rfl, fun _ _ => ⟨rfl, rfl⟩, fun s hs4 => ?_, fun k hk => ⟨rfl, rfl⟩⟩, rfl, rfl, rfl, rfl, rfl, rfl, rfl⟩
    unfold rT rB
    by_cases h4 : s < 4800
    · rw [if_pos h4, if_pos h4, if_pos h4, if_pos h4]; exact ⟨rfl, rfl⟩
    · rw [if_neg h4, if_neg h4, if_neg h4, if_neg h4]
      have h5 : s % 4800 < 22 := by have h6 : s < 4822 := hs4; omega
      have h7 : 22 * u + s % 4800 ≠ 22 * v + 1 := by omega
      exact ⟨upd_ne h7, upd_ne h7⟩
