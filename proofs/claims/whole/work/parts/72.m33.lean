/-! PART 72: both send -/
theorem fS_V {x y : MS} (h : fS x y) (u : Nat) : sameV u x y := by
  obtain ⟨a1, a2, a3, a4, a5, a6, a7, a8, a9, a10, a11, a12, a13, a14, a15, a16, a17⟩ := id h
  refine ⟨by rw [a2], by rw [a9], by rw [a10], by rw [a13], by rw [a14], by rw [a15], by rw [a16], fun k _ => by rw [a3, a6]; exact ⟨rfl, rfl⟩, fun s _ => fS_rT h u s, fun k _ => by rw [a11, a12]; exact ⟨rfl, rfl⟩⟩
theorem ep_snap (kt : Nat) (h : kt < 20) : (-3 : Int32) - nI kt = ep (4802 + kt) := by
  rw [ep_hi (by omega), show (4802 + kt) % 4800 = 2 + kt by omega, ← nI_add]
  show (-3 : Int32) - nI kt = (-1) - (2 + nI kt)
  rw [Int32.sub_eq_add_neg, Int32.sub_eq_add_neg, Int32.neg_add, Int32.sub_eq_add_neg (-2), ← Int32.add_assoc]
  rfl
/-- the reference's rest of send, from the first byte on -/
def send0 (X : MS) : MS := MS_setsn (MS_setcl (MS_setwr (MS_setrecs (MS_setrf (MS_setlen X 0) 0) 0) 0) 0) 0
def sendEnd (xq70 : MS) : Option (Int32 × MS) :=
              (FX8_put xq70 4 1).bind fun s71 =>
              (FX8_put s71 (((MS_recs s71) : Int32).toInt64) 4).bind fun s73 =>
              (FX8_ends s73).bind fun s75 =>
              some ((MS_len s75), s75)
def sendN (X : MS) (p1 p2 p3 : Int32) : Option (Int32 × MS) :=
            (FX8_put (send0 X) 1 1).bind fun s57 =>
            (FX8_put s57 0 8).bind fun s59 =>
            (ald 40 (MS_sm s59) ((20 * p1) + p3)).bind fun r61 =>
            (FX8_put s59 r61 8).bind fun s63 =>
            (FX8_ends s63).bind fun s65 =>
            (FX8_brings s65 p1 ((-3) - p3) 0 512 0).bind fun (r67, s68) =>
            FX8_send_L181 p1 p2 p3 0 ((-3) - p3) r67 (fun xq70 _ => sendEnd xq70) 100000 s68 0
def sendB (X : MS) (p1 p2 p3 r10 : Int32) : Option (Int32 × MS) :=
            (FX8_put (send0 X) 1 1).bind fun s12 =>
            (ald 40 (MS_sm s12) ((20 * p1) + p2)).bind fun r14 =>
            (FX8_put s12 r14 8).bind fun s16 =>
            (ald 40 (MS_sm s16) ((20 * p1) + p3)).bind fun r18 =>
            (FX8_put s16 r18 8).bind fun s20 =>
            (FX8_ends s20).bind fun s22 =>
            (FX8_brings s22 p1 ((-3) - p3) 0 512 r10).bind fun (r24, s25) =>
            FX8_send_L181 p1 p2 p3 r10 ((-3) - p3) r24 (fun xq50 _ => sendEnd xq50) 100000 s25 0
theorem send_go {v N bz sn g kt : Nat} {w : VS} {x0 : MS} {lev T : Nat → Option Nat} {B : Nat → Nat} {since : Int32} {d : SD} {sb : SB} {x : MS} (hv : v < 2) (h : vol v N bz sn g w x0 lev T B) (hkt : kt < sn) (p2 : Int32) (hs : sendS x0 since d sb x 25) :
    ∃ d' sb' sb'' x' L', FX4_goOver_n5 d sb (VS_b w) (4802 + nI kt) 3 0 = some (d', sb') ∧ FX5_addEnd sb' ((1 + SD_wr d') + SD_cl d') = some sb'' ∧
      ((FX8_brings x (nI v) ((-3) - nI kt) 0 512 since).bind fun (r67, s68) => FX8_send_L181 (nI v) p2 (nI kt) since ((-3) - nI kt) r67 (fun xq70 _ => sendEnd xq70) 100000 s68 0) = some (SB_len sb'', x') ∧ strR sb'' x' L' ∧ fS x0 x' ∧ SD_wr d' = MS_wr x' ∧ SD_cl d' = MS_cl x' ∧ SD_sn d' = MS_sn x' := by
  have hC : sendC v N bz sn (VS_b w) x0 lev T B := ⟨hv, h.1, h.2.1, h.2.2.1, h.2.2.2.2.2.2.2.2.1⟩
  have hsn := h.2.2.2.2.2.2.2.1.2.2
  obtain ⟨d', sb', x1, L1, a1, ⟨r, x2, a2, a3⟩, a4, a5⟩ := go_3 (s := 4802 + kt) hC (by omega) (by unfold slv; rw [if_neg (by omega)]) ((aS_hi (by omega)).mpr (Or.inr (Or.inr (by omega)))) p2 (nI kt) hs (by omega)
  obtain ⟨i1, i2, i3, i4, i5, i6, i7, i8⟩ := a4
  obtain ⟨sb'', y, c1, c2, c3, c4, c5, c6, c7⟩ := both_end1 i1 i2 (by omega)
  refine ⟨d', sb', sb'', y, L1 + 13, ?_, ?_, ?_, c3, fS_trans i8 c4, by rw [c5]; exact i4, by rw [c6]; exact i5, by rw [c7]; exact i6⟩
  · rw [i4802, nI_add]; exact a1
  · rw [i4, i5, ← i7]; exact c1
  · rw [ep_snap kt (by omega), a2, Option.bind_some]
    refine Eq.trans (a3 sendEnd) ?_
    exact c2
theorem send_start {sb : SB} {X : MS} {L : Nat} (h : strR sb X L) : strR (SB_setlen sb 0) (send0 X) 0 ∧ fS X (send0 X) :=
  ⟨⟨rfl, rfl, by omega, h.2.2.2⟩, rfl, rfl, rfl, rfl, rfl, rfl, rfl, rfl, rfl, rfl, rfl, rfl, rfl, rfl, rfl, rfl, rfl⟩
theorem vol_sendN {v N bz sn g kt L : Nat} {w : VS} {X : MS} {lev T : Nat → Option Nat} {B : Nat → Nat} {sb : SB} (d : SD) (hv : v < 2) (h : vol v N bz sn g w X lev T B) (hkt : kt < sn) (hs : strR sb X L) :
    ∃ d' sb' x' L', FX4_fillStream d sb w (-1) (nI kt) = some (d', sb') ∧ sendN X (nI v) (-1) (nI kt) = some (SB_len sb', x') ∧ strR sb' x' L' ∧ fS X x' ∧ SD_wr d' = MS_wr x' ∧ SD_cl d' = MS_cl x' ∧ SD_sn d' = MS_sn x' := by
  have hsn := h.2.2.2.2.2.2.2.1.2.2
  have hM := h.2.2.2.2.2.2.2.2.2.2 kt hkt
  obtain ⟨s1, s2⟩ := send_start hs
  obtain ⟨sb1, y1, y2, y, a1, a2, a3, a4, a5, a6, a7, a8, a9, a10, a11, a12, a13⟩ := both_begin 0 (MS_sm X (20 * v + kt)) s1 rfl
  have hS : sendS X 0 (SD_setsince (SD_setsn (SD_setcl (SD_setwr d 0) 0) 0) 0) sb1 y 25 := by
    refine ⟨a7, a13, rfl, ?_, ?_, ?_, ?_, fS_trans s2 a8⟩
    · rw [a10]; rfl
    · rw [a11]; rfl
    · rw [a12]; rfl
    · rw [a9, a10, a11]
      show (0 : Int32) + 1 = (1 + 0) + 0
      decide
  obtain ⟨d', sb', sb'', x', L', c1, c2, c3, c4, c5, c6, c7, c8⟩ := send_go hv h hkt (-1) hS
  have e3 : (20 : Int32) * nI v + nI kt = nI (20 * v + kt) := mix 20 v kt 20 rfl
  have hsm : MS_sm y2 = MS_sm X := (fS_trans s2 a5).2.2.2.2.2.2.2.2.2.2.2.1
  obtain ⟨y3, z1, z2⟩ := Option.bind_eq_some_iff.mp a6
  refine ⟨d', sb'', x', L', ?_, ?_, c4, c5, c6, c7, c8⟩
  · unfold FX4_fillStream FX5_shorten FX6_markOf FX6_blocks
    rw [if_pos rfl, Option.bind_some, m_lat _ (by omega) (by omega), Option.bind_some, Option.bind_some, hM.1, a1, Option.bind_some, Option.bind_some, c1, Option.bind_some]
    show (FX5_addEnd sb' ((1 + SD_wr d') + SD_cl d')).bind _ = _
    rw [c2, Option.bind_some]
  · unfold sendN
    rw [a2, Option.bind_some, a4, Option.bind_some, hsm, e3, m_ald _ (by omega) (by omega), Option.bind_some, z1, Option.bind_some, z2, Option.bind_some]
    exact c3
theorem vol_sendB {v N bz sn g kb kt L : Nat} {w : VS} {X : MS} {lev T : Nat → Option Nat} {B : Nat → Nat} {sb : SB} (d : SD) (hv : v < 2) (h : vol v N bz sn g w X lev T B) (hkt : kt < sn) (hkb : kb < kt) (hs : strR sb X L) :
    ∃ d' sb' x' L', FX4_fillStream d sb w (nI kb) (nI kt) = some (d', sb') ∧ sendB X (nI v) (nI kb) (nI kt) (MS_sg X (20 * v + kb)) = some (SB_len sb', x') ∧ strR sb' x' L' ∧ fS X x' ∧ SD_wr d' = MS_wr x' ∧ SD_cl d' = MS_cl x' ∧ SD_sn d' = MS_sn x' := by
  have hsn := h.2.2.2.2.2.2.2.1.2.2
  have hM := h.2.2.2.2.2.2.2.2.2.2 kt hkt
  have hMb := h.2.2.2.2.2.2.2.2.2.2 kb (by omega)
  obtain ⟨s1, s2⟩ := send_start hs
  obtain ⟨sb1, y1, y2, y, a1, a2, a3, a4, a5, a6, a7, a8, a9, a10, a11, a12, a13⟩ := both_begin (MS_sm X (20 * v + kb)) (MS_sm X (20 * v + kt)) s1 rfl
  have hS : sendS X (MS_sg X (20 * v + kb)) (SD_setsince (SD_setsn (SD_setcl (SD_setwr d 0) 0) 0) (MS_sg X (20 * v + kb))) sb1 y 25 := by
    refine ⟨a7, a13, rfl, ?_, ?_, ?_, ?_, fS_trans s2 a8⟩
    · rw [a10]; rfl
    · rw [a11]; rfl
    · rw [a12]; rfl
    · rw [a9, a10, a11]
      show (0 : Int32) + 1 = (1 + 0) + 0
      decide
  obtain ⟨d', sb', sb'', x', L', c1, c2, c3, c4, c5, c6, c7, c8⟩ := send_go hv h hkt (nI kb) hS
  have e3 : (20 : Int32) * nI v + nI kt = nI (20 * v + kt) := mix 20 v kt 20 rfl
  have e4 : (20 : Int32) * nI v + nI kb = nI (20 * v + kb) := mix 20 v kb 20 rfl
  have hsm : MS_sm y2 = MS_sm X := (fS_trans s2 a5).2.2.2.2.2.2.2.2.2.2.2.1
  have hsm1 : MS_sm y1 = MS_sm X := (fS_trans s2 a3).2.2.2.2.2.2.2.2.2.2.2.1
  obtain ⟨y3, z1, z2⟩ := Option.bind_eq_some_iff.mp a6
  refine ⟨d', sb'', x', L', ?_, ?_, c4, c5, c6, c7, c8⟩
  · unfold FX4_fillStream FX5_shorten FX6_markOf FX6_generationOf FX6_blocks
    rw [if_neg (nI_m1 (by omega)), m_at _ (by omega) (by omega), Option.bind_some, Option.bind_some, Option.bind_some, m_lat _ (by omega) (by omega), Option.bind_some, Option.bind_some, m_lat _ (by omega) (by omega), Option.bind_some, Option.bind_some, hMb.2, hMb.1, hM.1, a1, Option.bind_some, Option.bind_some, c1, Option.bind_some]
    show (FX5_addEnd sb' ((1 + SD_wr d') + SD_cl d')).bind _ = _
    rw [c2, Option.bind_some]
  · unfold sendB
    rw [a2, Option.bind_some, hsm1, e4, m_ald _ (by omega) (by omega), Option.bind_some, a4, Option.bind_some, hsm, e3, m_ald _ (by omega) (by omega), Option.bind_some, z1, Option.bind_some, z2, Option.bind_some]
    exact c3
