/-! PART 75: one RECORD, of both -/
def rcS (v : Nat) (r : RC) (x : MS) (pos rc : Nat) : Prop := RC_pos r = nI pos ∧ MS_at x v = nI pos ∧ RC_rec r = nI rc ∧ MS_rec x v = nI rc ∧ RC_tgt r = MS_tgt x v ∧ 13 * rc ≤ pos ∧ pos ≤ 9766
/-- what one RECORD comes to -/
def recOut (v N sn g pos : Nat) (sb : SB) (r : RC) (w : VS) (x : MS) : Prop :=
  ∃ code r' w1 x', FX3_takeRecord r w sb = some (code, r', w1) ∧ FX8_record x (nI v) = some (code, x') ∧ fr v x x' ∧ RC_rec r' = MS_rec x' v ∧
    ((code = 7 ∧ ∃ w' lev T B pos' rc', FX6_settle w1 = some w' ∧ vol v N 1 sn g w' x' lev T B ∧ stl lev T ∧ rcS v r' x' pos' rc' ∧ pos < pos') ∨
     (code = 0 ∧ ∃ w' lev T B, FX6_settle w1 = some w' ∧ vol v N 0 (sn + 1) (g + 1) w' x' lev T B ∧ stl lev T ∧ sn + 1 ≤ 20) ∨
     ((code = 1 ∨ code = 5) ∧ ∃ w2 w' lev T B, FX6_settle w1 = some w2 ∧ FX6_dropHidden w2 = some w' ∧ vol v N 0 sn g w' x' lev T B ∧ stl lev T))
theorem str_fr {v L : Nat} {sb : SB} {x y : MS} (h : strR sb x L) (hf : fr v x y) : strR sb y L := by
  obtain ⟨a1, a2, a3, a4⟩ := h
  obtain ⟨-, -, b2, b3, -⟩ := hf
  exact ⟨a1, by rw [b3]; exact a2, a3, by rw [b2]; exact a4⟩
theorem fr_at {v : Nat} (x : MS) (a : Int32) : fr v x (MS_setat x (upd (MS_at x) v a)) := by
  refine ⟨fun u hu hne => ⟨rfl, rfl, rfl, rfl, upd_ne hne, rfl, rfl, fun _ _ => ⟨rfl, rfl⟩, fun s _ => ?_, fun k hk => ⟨rfl, rfl⟩⟩, rfl, rfl, rfl, rfl, rfl, rfl, rfl⟩
  unfold rT rB
  exact ⟨rfl, rfl⟩
theorem fr_rec {v : Nat} (x : MS) (a : Int32) : fr v x (MS_setrec x (upd (MS_rec x) v a)) := by
  refine ⟨fun u hu hne => ⟨rfl, rfl, rfl, rfl, rfl, upd_ne hne, rfl, fun _ _ => ⟨rfl, rfl⟩, fun s _ => ?_, fun k hk => ⟨rfl, rfl⟩⟩, rfl, rfl, rfl, rfl, rfl, rfl, rfl⟩
  unfold rT rB
  exact ⟨rfl, rfl⟩
theorem fr_frec {v : Nat} {x y : MS} (h : mF v x y) : fr v x y ∧ MS_rec y = MS_rec x ∧ MS_at y = MS_at x ∧ MS_tgt y = MS_tgt x := ⟨fr_mF h, h.1.2.2.2.2.2.2.2.2.1, h.1.2.2.2.2.2.2.2.1, h.1.2.2.2.2.2.2.2.2.2.1⟩
theorem vol_at {v N bz sn g : Nat} {w : VS} {x : MS} {lev T : Nat → Option Nat} {B : Nat → Nat} (f : Nat → Int32) (h : vol v N bz sn g w x lev T B) : vol v N bz sn g w (MS_setat x f) lev T B := vol_eq h ⟨rfl, rfl, rfl, rfl, rfl⟩ ⟨rfl, rfl, rfl, rfl, rfl, rfl, rfl⟩
theorem vol_rec {v N bz sn g : Nat} {w : VS} {x : MS} {lev T : Nat → Option Nat} {B : Nat → Nat} (f : Nat → Int32) (h : vol v N bz sn g w x lev T B) : vol v N bz sn g w (MS_setrec x f) lev T B := vol_eq h ⟨rfl, rfl, rfl, rfl, rfl⟩ ⟨rfl, rfl, rfl, rfl, rfl, rfl, rfl⟩
/-- it ends here: BAD or FULL -/
theorem out_stop {v N sn g pos rc : Nat} {sb : SB} {r : RC} {w w1 : VS} {x x1 : MS} {lev T : Nat → Option Nat} {B : Nat → Nat} {code : Int32} (hv : v < 2) (hr : rcS v r x pos rc) (h : vol v N 1 sn g w1 x1 lev T B) (hf : fr v x x1) (hrec : MS_rec x1 = MS_rec x) (hc : code = 1 ∨ code = 5)
    (h1 : FX3_takeRecord r w sb = some (code, r, w1)) (h2 : ∀ s, FX8_stops x1 (nI v) = some s → FX8_record x (nI v) = some (code, s)) : recOut v N sn g pos sb r w x := by
  obtain ⟨w2, w', x', lev', T', B', a1, a2, a3, a4, a5, a6, a7⟩ := vol_stop hv h
  refine ⟨code, r, w1, x', h1, h2 x' a3, fr_trans hf a6, ?_, Or.inr (Or.inr ⟨hc, w2, w', lev', T', B', a1, a2, a4, a5⟩)⟩
  rw [a7, hrec, hr.2.2.1, hr.2.2.2.1]
/-- the reference's start of a RECORD -/
theorem rec_far {v L pos : Nat} {x x1 s : MS} {sb : SB} (hv : v < 2) (hs : strR sb x L) (ha : MS_at x v = nI pos) (hp : L ≤ pos) (hp2 : pos < 2 ^ 31) (hb : FX8_begins x (nI v) = some x1) (h : FX8_stops x1 (nI v) = some s) : FX8_record x (nI v) = some (1, s) := by
  unfold FX8_record
  rw [m_ald _ hv (by omega), Option.bind_some, ha, hs.2.1, if_pos (nI_le hp hp2), hb, Option.bind_some, h, Option.bind_some]
def recRest (p1 : Int32) (r10 : Int32) (s12 : MS) : Option (Int32 × MS) :=
    if r10 = 2 then
      (FX8_writesHere s12 p1).bind fun (r46, s47) =>
      if r46 = 0 then
        (ald 2 (MS_rec s47) p1).bind fun r50 =>
        (ast 2 (MS_rec s47) p1 (r50 + 1)).bind fun g52 =>
        if r10 = 4 then
          (FX8_stops (MS_setrec s47 g52) p1).bind fun s57 =>
          some (0, s57)
        else
          (FX8_sweeps (MS_setrec s47 g52) p1).bind fun s55 =>
          some (7, s55)
      else
        (FX8_stops s47 p1).bind fun s59 =>
        some (r46, s59)
    else
      if r10 = 3 then
        (FX8_clearsHere s12 p1).bind fun (r31, s32) =>
        if r31 = 0 then
          (ald 2 (MS_rec s32) p1).bind fun r35 =>
          (ast 2 (MS_rec s32) p1 (r35 + 1)).bind fun g37 =>
          if r10 = 4 then
            (FX8_stops (MS_setrec s32 g37) p1).bind fun s42 =>
            some (0, s42)
          else
            (FX8_sweeps (MS_setrec s32 g37) p1).bind fun s40 =>
            some (7, s40)
        else
          (FX8_stops s32 p1).bind fun s44 =>
          some (r31, s44)
      else
        if r10 = 4 then
          (FX8_endsHere s12 p1).bind fun (r19, s20) =>
          if r19 = 0 then
            (ald 2 (MS_rec s20) p1).bind fun r23 =>
            (ast 2 (MS_rec s20) p1 (r23 + 1)).bind fun g25 =>
            (FX8_stops (MS_setrec s20 g25) p1).bind fun s27 =>
            some (0, s27)
          else
            (FX8_stops s20 p1).bind fun s29 =>
            some (r19, s29)
        else
          (FX8_stops s12 p1).bind fun s17 =>
          some (1, s17)
theorem rec_near {v L pos : Nat} {x x1 : MS} {sb : SB} (hv : v < 2) (hs : strR sb x L) (ha : MS_at x v = nI pos) (hp : pos < L) (hb : FX8_begins x (nI v) = some x1) : FX8_record x (nI v) = recRest (nI v) (MS_str x pos) x1 := by
  have h3 := hs.2.2.1
  unfold FX8_record
  rw [m_ald _ hv (by omega), Option.bind_some, ha, hs.2.1, if_neg (nI_ge hp (by omega)), Option.bind_some, m_ald _ (by omega) (by omega), Option.bind_some, hb, Option.bind_some]
  rfl
theorem rest_other {v : Nat} {c : Int32} {x1 s : MS} (h2 : ¬ c = 2) (h3 : ¬ c = 3) (h4 : ¬ c = 4) (h : FX8_stops x1 (nI v) = some s) : recRest (nI v) c x1 = some (1, s) := by
  unfold recRest
  rw [if_neg h2, if_neg h3, if_neg h4, h, Option.bind_some]
theorem rest_2stop {v : Nat} {q : Int32} {x1 x2 s : MS} (h2 : FX8_writesHere x1 (nI v) = some (q, x2)) (h3 : ¬ q = 0) (h : FX8_stops x2 (nI v) = some s) : recRest (nI v) 2 x1 = some (q, s) := by
  unfold recRest
  rw [if_pos rfl, h2, Option.bind_some]
  show (if q = 0 then _ else _) = _
  rw [if_neg h3, h, Option.bind_some]
theorem rest_2go {v : Nat} {x1 x2 s : MS} (hv : v < 2) (h2 : FX8_writesHere x1 (nI v) = some (0, x2)) (h : FX8_sweeps (MS_setrec x2 (upd (MS_rec x2) v (MS_rec x2 v + 1))) (nI v) = some s) : recRest (nI v) 2 x1 = some (7, s) := by
  unfold recRest
  rw [if_pos rfl, h2, Option.bind_some]
  show (if (0 : Int32) = 0 then _ else _) = _
  rw [if_pos rfl, m_ald _ hv (by omega), Option.bind_some, m_ast _ _ hv (by omega), Option.bind_some, if_neg (by decide), h, Option.bind_some]
theorem rest_3stop {v : Nat} {q : Int32} {x1 x2 s : MS} (h2 : FX8_clearsHere x1 (nI v) = some (q, x2)) (h3 : ¬ q = 0) (h : FX8_stops x2 (nI v) = some s) : recRest (nI v) 3 x1 = some (q, s) := by
  unfold recRest
  rw [if_neg (by decide), if_pos rfl, h2, Option.bind_some]
  show (if q = 0 then _ else _) = _
  rw [if_neg h3, h, Option.bind_some]
theorem rest_3go {v : Nat} {x1 x2 s : MS} (hv : v < 2) (h2 : FX8_clearsHere x1 (nI v) = some (0, x2)) (h : FX8_sweeps (MS_setrec x2 (upd (MS_rec x2) v (MS_rec x2 v + 1))) (nI v) = some s) : recRest (nI v) 3 x1 = some (7, s) := by
  unfold recRest
  rw [if_neg (by decide), if_pos rfl, h2, Option.bind_some]
  show (if (0 : Int32) = 0 then _ else _) = _
  rw [if_pos rfl, m_ald _ hv (by omega), Option.bind_some, m_ast _ _ hv (by omega), Option.bind_some, if_neg (by decide), h, Option.bind_some]
theorem rest_4stop {v : Nat} {q : Int32} {x1 x2 s : MS} (h2 : FX8_endsHere x1 (nI v) = some (q, x2)) (h3 : ¬ q = 0) (h : FX8_stops x2 (nI v) = some s) : recRest (nI v) 4 x1 = some (q, s) := by
  unfold recRest
  rw [if_neg (by decide), if_neg (by decide), if_pos rfl, h2, Option.bind_some]
  show (if q = 0 then _ else _) = _
  rw [if_neg h3, h, Option.bind_some]
theorem rest_4go {v : Nat} {x1 x2 s : MS} (hv : v < 2) (h2 : FX8_endsHere x1 (nI v) = some (0, x2)) (h : FX8_stops (MS_setrec x2 (upd (MS_rec x2) v (MS_rec x2 v + 1))) (nI v) = some s) : recRest (nI v) 4 x1 = some (0, s) := by
  unfold recRest
  rw [if_neg (by decide), if_neg (by decide), if_pos rfl, h2, Option.bind_some]
  show (if (0 : Int32) = 0 then _ else _) = _
  rw [if_pos rfl, m_ald _ hv (by omega), Option.bind_some, m_ast _ _ hv (by omega), Option.bind_some, h, Option.bind_some]
/-- the class -/
def tkRest (r0 : RC) (sb0 : SB) (r3 : Int32) (o : Option (Int32 × VS)) : Option (Int32 × RC × VS) :=
      o.bind fun (r20, s21) =>
      if r20 = 7 then
        some (r20, (RC_setrec (RC_setpos r0 ((RC_pos r0) + r3)) ((RC_rec r0) + 1)), s21)
      else
        if r20 = 0 then
          some (r20, (RC_setrec (RC_setpos r0 ((RC_pos r0) + r3)) ((RC_rec r0) + 1)), s21)
        else
          some (r20, r0, s21)
theorem tk_rec (r0 : RC) (v0 : VS) (sb0 : SB) : FX3_takeRecord r0 v0 sb0 =
  (FX5_at sb0 (RC_pos r0)).bind fun r1 =>
  (FX3_sizeOf r1).bind fun r3 =>
  (FX5_isWhole sb0 (RC_pos r0) r3).bind fun r5 =>
  if r5 = 0 then
    some (1, r0, v0)
  else
    if r1 = 2 then tkRest r0 sb0 r3 (FX3_takeWrite r0 v0 sb0)
    else
      if r1 = 3 then tkRest r0 sb0 r3 (FX3_takeClear r0 v0 sb0)
      else tkRest r0 sb0 r3 (FX3_takeEnd r0 v0 sb0) := rfl
theorem tkRest_go {r0 : RC} {sb0 : SB} {r3 q : Int32} {w : VS} (h : q = 7 ∨ q = 0) : tkRest r0 sb0 r3 (some (q, w)) = some (q, (RC_setrec (RC_setpos r0 ((RC_pos r0) + r3)) ((RC_rec r0) + 1)), w) := by
  unfold tkRest
  rw [Option.bind_some]
  show (if q = 7 then _ else _) = _
  rcases h with rfl | rfl
  · rw [if_pos rfl]
  · rw [if_neg (by decide), if_pos rfl]
theorem tkRest_stop {r0 : RC} {sb0 : SB} {r3 q : Int32} {w : VS} (h : q = 1 ∨ q = 5) : tkRest r0 sb0 r3 (some (q, w)) = some (q, r0, w) := by
  unfold tkRest
  rw [Option.bind_some]
  show (if q = 7 then _ else _) = _
  rcases h with rfl | rfl
  · rw [if_neg (by decide), if_neg (by decide)]
  · rw [if_neg (by decide), if_neg (by decide)]
theorem size0 {c : Int32} (h2 : ¬ c = 2) (h3 : ¬ c = 3) (h4 : ¬ c = 4) : FX3_sizeOf c = some 0 := by
  unfold FX3_sizeOf
  rw [if_neg h2, if_neg h3, if_neg h4]
theorem whole0 (sb : SB) (p : Int32) : FX5_isWhole sb p 0 = some 0 := by
  unfold FX5_isWhole
  rw [if_pos (by decide)]
theorem tk_other {r : RC} {w : VS} {sb : SB} {c : Int32} (h1 : FX5_at sb (RC_pos r) = some c) (h2 : ¬ c = 2) (h3 : ¬ c = 3) (h4 : ¬ c = 4) : FX3_takeRecord r w sb = some (1, r, w) := by
  rw [tk_rec, h1, Option.bind_some, size0 h2 h3 h4, Option.bind_some, whole0, Option.bind_some, if_pos rfl]
theorem tk_torn {r : RC} {w : VS} {sb : SB} {c q : Int32} (h1 : FX5_at sb (RC_pos r) = some c) (h2 : FX3_sizeOf c = some q) (h3 : FX5_isWhole sb (RC_pos r) q = some 0) : FX3_takeRecord r w sb = some (1, r, w) := by
  rw [tk_rec, h1, Option.bind_some, h2, Option.bind_some, h3, Option.bind_some, if_pos rfl]
theorem tk_2 {r : RC} {w : VS} {sb : SB} (h1 : FX5_at sb (RC_pos r) = some 2) (h3 : FX5_isWhole sb (RC_pos r) 19 = some 1) : FX3_takeRecord r w sb = tkRest r sb 19 (FX3_takeWrite r w sb) := by
  rw [tk_rec, h1, Option.bind_some, show FX3_sizeOf 2 = some 19 from rfl, Option.bind_some, h3, Option.bind_some, if_neg (by decide), if_pos rfl]
theorem tk_3 {r : RC} {w : VS} {sb : SB} (h1 : FX5_at sb (RC_pos r) = some 3) (h3 : FX5_isWhole sb (RC_pos r) 13 = some 1) : FX3_takeRecord r w sb = tkRest r sb 13 (FX3_takeClear r w sb) := by
  rw [tk_rec, h1, Option.bind_some, show FX3_sizeOf 3 = some 13 from rfl, Option.bind_some, h3, Option.bind_some, if_neg (by decide), if_neg (by decide), if_pos rfl]
theorem tk_4 {r : RC} {w : VS} {sb : SB} (h1 : FX5_at sb (RC_pos r) = some 4) (h3 : FX5_isWhole sb (RC_pos r) 13 = some 1) : FX3_takeRecord r w sb = tkRest r sb 13 (FX3_takeEnd r w sb) := by
  rw [tk_rec, h1, Option.bind_some, show FX3_sizeOf 4 = some 13 from rfl, Option.bind_some, h3, Option.bind_some, if_neg (by decide), if_neg (by decide), if_neg (by decide)]
