/-! PART 78: step and crash of both -/
theorem rec_any {v N sn g pos rc L : Nat} {sb : SB} {r : RC} {w : VS} {x : MS} {lev T : Nat → Option Nat} {B : Nat → Nat} (hv : v < 2) (hg : g + 1 < 2 ^ 31) (hr : rcS v r x pos rc) (hs : strR sb x L) (h : vol v N 1 sn g w x lev T B) : recOut v N sn g pos sb r w x := by
  obtain ⟨x1, hb, h1, hf, hm⟩ := vol_begins hv h
  obtain ⟨f1, f2, f3, f4⟩ := fr_frec hm
  have hL := hs.2.2.1
  have hp2 := hr.2.2.2.2.2.2
  by_cases hp : pos < L
  · have hb5 := (hs.2.2.2 pos (by omega)).2
    have e1 := at_in hs hp
    have hnear := rec_near hv hs hr.2.1 hp hb
    have q2 := b_255 hb5 (r := 2) (by omega)
    have q3 := b_255 hb5 (r := 3) (by omega)
    have q4 := b_255 hb5 (r := 4) (by omega)
    have q2' : (MS_str x pos &&& 255 = 2) ↔ MS_str x pos = 2 := q2
    have q3' : (MS_str x pos &&& 255 = 3) ↔ MS_str x pos = 3 := q3
    have q4' : (MS_str x pos &&& 255 = 4) ↔ MS_str x pos = 4 := q4
    by_cases c2 : MS_str x pos = 2
    · exact rec_2 hv hr hs hp hb h1 hf hm c2 (by rw [e1, q2'.mpr c2])
    · by_cases c3 : MS_str x pos = 3
      · exact rec_3 hv hr hs hp hb h1 hf hm c3 (by rw [e1, q3'.mpr c3])
      · by_cases c4 : MS_str x pos = 4
        · exact rec_4 hv hg hr hs hp hb h1 hm c4 (by rw [e1, q4'.mpr c4])
        · exact out_stop hv hr h1 f1 f2 (Or.inl rfl) (tk_other (c := MS_str x pos &&& 255) (by rw [hr.1]; exact e1) (fun z => c2 (q2'.mp z)) (fun z => c3 (q3'.mp z)) (fun z => c4 (q4'.mp z))) (fun s hs => by rw [hnear]; exact rest_other c2 c3 c4 hs)
  · have e1 := at_out hs (by omega : L ≤ pos) (by omega)
    exact out_stop hv hr h1 f1 f2 (Or.inl rfl) (tk_other (c := -1) (by rw [hr.1]; exact e1) (by decide) (by decide) (by decide)) (fun s hs' => rec_far hv hs hr.2.1 (by omega) (by omega) hb hs')
/-- what step comes to -/
def stepOut (v N sn g : Nat) (code : Int32) (r' : RC) (w' : VS) (x x' : MS) : Prop :=
  fr v x x' ∧ RC_rec r' = MS_rec x' v ∧
    ((code = 7 ∧ ∃ lev T B pos' rc', vol v N 1 sn g w' x' lev T B ∧ stl lev T ∧ rcS v r' x' pos' rc') ∨
     (code = 0 ∧ ∃ lev T B, vol v N 0 (sn + 1) (g + 1) w' x' lev T B ∧ stl lev T ∧ sn + 1 ≤ 20) ∨
     ((code = 1 ∨ code = 5) ∧ ∃ lev T B, vol v N 0 sn g w' x' lev T B ∧ stl lev T))
def takeEndK (rq9 : RC) (vq9 : VS) (w2_9 : Int32) : Option (Int32 × RC × VS) :=
    if w2_9 = 1 then
      (FX6_dropHidden vq9).bind fun s11 =>
      some (w2_9, rq9, s11)
    else
      if w2_9 = 5 then
        (FX6_dropHidden vq9).bind fun s14 =>
        some (w2_9, rq9, s14)
      else
        some (w2_9, rq9, vq9)
theorem L5_out {sb : SB} {n i c : Int32} {r : RC} {w : VS} (hc : ¬ c = 7) (n9 : Nat) : FX3_takeRecords_L5 sb n (fun rq9 vq9 w2_9 _ => takeEndK rq9 vq9 w2_9) (n9 + 1) r w c i = takeEndK r w c := by
  rw [FX3_takeRecords_L5]
  split
  · rfl
  · rfl
theorem L49_out {v n i c : Int32} {x : MS} (hc : ¬ c = 7) (n9 : Nat) : FX8_step_L49 v n (fun xq13 w3_13 _ => some (w3_13, xq13)) (n9 + 1) x c i = some (c, x) := by
  rw [FX8_step_L49]
  split
  · rfl
  · rfl
theorem step_L {v N sn g L j : Nat} {sb : SB} (hv : v < 2) (hg : g + 1 < 2 ^ 31) (hj : j < 2 ^ 31) : ∀ (m n9 m9 i pos rc : Nat) (r : RC) (w : VS) (x : MS) (lev T : Nat → Option Nat) (B : Nat → Nat), 9766 - pos < m → m < n9 → m < m9 → i ≤ j → rcS v r x pos rc → strR sb x L → vol v N 1 sn g w x lev T B → stl lev T →
    ∃ code r' w' x', FX3_takeRecords_L5 sb (nI j) (fun rq9 vq9 w2_9 _ => takeEndK rq9 vq9 w2_9) n9 r w 7 (nI i) = some (code, r', w') ∧ FX8_step_L49 (nI v) (nI j) (fun xq13 w3_13 _ => some (w3_13, xq13)) m9 x 7 (nI i) = some (code, x') ∧ stepOut v N sn g code r' w' x x' := by
  intro m
  induction m with
  | zero => intro n9 m9 i pos rc r w x lev T B h0; omega
  | succ m ih =>
    intro n9 m9 i pos rc r w x lev T B h0 h1 h2 h3 hr hs h hst
    obtain ⟨n8, rfl⟩ : ∃ n8, n9 = n8 + 1 + 1 := ⟨n9 - 2, by omega⟩
    obtain ⟨m8, rfl⟩ : ∃ m8, m9 = m8 + 1 + 1 := ⟨m9 - 2, by omega⟩
    by_cases hij : i = j
    · subst hij
      refine ⟨7, r, w, x, ?_, ?_, fr_refl v x, by rw [hr.2.2.1, hr.2.2.2.1], Or.inl ⟨rfl, lev, T, B, pos, rc, h, hst, hr⟩⟩
      · rw [FX3_takeRecords_L5, if_pos (nI_le (Nat.le_refl _) (by omega))]
        unfold takeEndK
        rw [if_neg (by decide), if_neg (by decide)]
      · rw [FX8_step_L49, if_pos (nI_le (Nat.le_refl _) (by omega))]
    · obtain ⟨code, r', w1, x', a1, a2, a3, a4, a5⟩ := rec_any hv hg hr hs h
      have E2 : FX8_step_L49 (nI v) (nI j) (fun xq13 w3_13 _ => some (w3_13, xq13)) (m8 + 1 + 1) x 7 (nI i) = FX8_step_L49 (nI v) (nI j) (fun xq13 w3_13 _ => some (w3_13, xq13)) (m8 + 1) x' code (nI (i + 1)) := by
        rw [FX8_step_L49, if_neg (nI_ge (by omega) (by omega)), if_pos rfl, a2, Option.bind_some, nI_1]
      have E1 : ∀ w', FX6_settle w1 = some w' → FX3_takeRecords_L5 sb (nI j) (fun rq9 vq9 w2_9 _ => takeEndK rq9 vq9 w2_9) (n8 + 1 + 1) r w 7 (nI i) = FX3_takeRecords_L5 sb (nI j) (fun rq9 vq9 w2_9 _ => takeEndK rq9 vq9 w2_9) (n8 + 1) r' w' code (nI (i + 1)) := by
        intro w' hw
        rw [FX3_takeRecords_L5, if_neg (nI_ge (by omega) (by omega)), if_pos rfl, a1, Option.bind_some]
        show (FX6_settle w1).bind _ = _
        rw [hw, Option.bind_some, nI_1]
      rcases a5 with ⟨rfl, w', lev', T', B', pos', rc', b1, b2, b3, b4, b5⟩ | ⟨rfl, w', lev', T', B', b1, b2, b3, b4⟩ | ⟨hc, w2, w', lev', T', B', b1, b2, b3, b4⟩
      · obtain ⟨code, r2, w2, x2, c1, c2, c3, c4, c5⟩ := ih (n8 + 1) (m8 + 1) (i + 1) pos' rc' r' w' x' lev' T' B' (by have := b4.2.2.2.2.2.2; omega) (by omega) (by omega) (by omega) b4 (str_fr hs a3) b2 b3
        exact ⟨code, r2, w2, x2, (E1 w' b1).trans c1, E2.trans c2, fr_trans a3 c3, c4, c5⟩
      · refine ⟨0, r', w', x', ?_, E2.trans (L49_out (by decide) m8), a3, a4, Or.inr (Or.inl ⟨rfl, lev', T', B', b2, b3, b4⟩)⟩
        refine (E1 w' b1).trans ((L5_out (by decide) n8).trans ?_)
        unfold takeEndK
        rw [if_neg (by decide), if_neg (by decide)]
      · have hc7 : ¬ code = 7 := by rcases hc with rfl | rfl <;> decide
        refine ⟨code, r', w', x', ?_, E2.trans (L49_out hc7 m8), a3, a4, Or.inr (Or.inr ⟨hc, lev', T', B', b3, b4⟩)⟩
        refine (E1 w2 b1).trans ((L5_out hc7 n8).trans ?_)
        unfold takeEndK
        rcases hc with rfl | rfl
        · rw [if_pos rfl, b2, Option.bind_some]
        · rw [if_neg (by decide), if_pos rfl, b2, Option.bind_some]
theorem both_step {v N sn g L j pos rc : Nat} {sb : SB} {r : RC} {w : VS} {x : MS} {lev T : Nat → Option Nat} {B : Nat → Nat} (hv : v < 2) (hg : g + 1 < 2 ^ 31) (hj : j < 2 ^ 31) (hr : rcS v r x pos rc) (hs : strR sb x L) (h : vol v N 1 sn g w x lev T B) (hst : stl lev T) :
    ∃ code r' w' x', FX3_takeRecords r w sb (nI j) = some (code, r', w') ∧ FX8_step_L49 (nI v) (nI j) (fun xq13 w3_13 _ => some (w3_13, xq13)) 100000 x 7 0 = some (code, x') ∧ stepOut v N sn g code r' w' x x' := by
  obtain ⟨code, r', w', x', a1, a2, a3⟩ := step_L hv hg hj 9767 100000 100000 0 pos rc r w x lev T B (by omega) (by omega) (by omega) (by omega) hr hs h hst
  exact ⟨code, r', w', x', a1, a2, a3⟩
