/-! PART 90: the law: what holds in it, a call of its own methods, reads of the script -/
def R_law : String := "TwinVolumesLaw"
def lw_P (b : Addr) (xs : List Int32) (args : Array Value) (s : State) : Prop := args = #[.ref b] ∧ s.IntsAt b xs ∧ xs.length ≤ 2560 ∧ (Jvm.Cond.and given_1 narrow_1).before args s = true
def lw_Q (_ : Array Value) (s : State) (o : Outcome) (t : State) : Prop := o = .returned (some (.int 1)) ∧ Framed s o t [] 601024 7293034
def lw_Z (below : List Frame) (a : Array Value) (s : State) : State → Prop := fun t => ∃ o, t.status = .running ∧ Ended t below o ∧ lw_Q a s o t
/-- the law's own end, with 1 on the stack, nothing written that was there before, its room as the claim has it -/
theorem lw_ret {p : Program} {l : Launch} {e : Env} {s : State} {m : MethodId} {below : List Frame} {meth : Method} {c : Code} {b : Nat} (hx : p.tables.exec = Jvm.exec) (hb : c.code = code) (hr : meth.sig.returnType = ret) (hlocks : meth.locks = false) {pc : Nat} {H : Heap} {ls : Array Slot} (hdg : decode code pc = .ok (.ireturn, 1)) : W p l e room_1 s m #[Value.ref b] below meth c H [] 601024 7293034 (lw_Z below #[Value.ref b] s) (F0 m pc ls [.int 1]) := by
  intro T hT X
  obtain ⟨fs, hret, hrun, hended, hW, hframe⟩ := X.leave (v := some (.int 1)) (hlocks := hlocks) (fun h => by rw [hr] at h; cases h)
  have hmeth' : T.vm.method? m = some meth := X.method'
  refine ⟨T.setFrames fs, ?_, .returned (some (.int 1)), hrun, hended, rfl, ⟨_, rfl⟩, hW, hframe⟩
  jvm_step X.here [X.here.top, hx, hb, hdg, hmeth', hr, ret, narrow_b1]
  (try refine ⟨rfl, ?_⟩); (try refine ⟨rfl, ?_⟩)
  first | (intro acts; rw [hret _ acts rfl rfl rfl]) | rw [hret _ _ rfl rfl rfl]
  exact Steps.refl _
/-- what holds at the law's entry: the machine, the code, the tables' words (any of lw_tbl by 'hts w (by decide +kernel)'), the script of L ints xs at the cell b, what the Statement gives of the start (any of its parts by flat_of_before) -/
def lw_At (p : Program) (s : State) (m : MethodId) (meth : Method) (c : Code) (b L : Nat) (xs : Nat → Int32) : Prop :=
  p.tables.exec = Jvm.exec ∧ c.code = code ∧ meth.sig.returnType = ret ∧ c.maxLocals = 8 ∧ s.vm.findClass R_law = some m.cls ∧ (∀ w ∈ lw_tbl, w.before #[Value.ref b] s = true) ∧ va_X b L xs s s.heap ∧ b < s.heap.size ∧ meth.locks = false ∧ (Jvm.Cond.and given_1 narrow_1).before #[Value.ref b] s = true
/-- the script, as it lies from the start on -/
def gB (b L : Nat) (xs : Nat → Int32) (s : State) : Prop := va_X b L xs s s.heap ∧ b < s.heap.size
section gLaw
variable {p : Program} {l : Launch} {e : Env} {R : Room} {s : State} {m : MethodId} {args : Array Value} {below : List Frame} {meth : Method} {c : Code} {cells slots : Nat} {D : va_G} {AD : Nat → Prop} {nL : Nat} {Q : State → Prop} {ws : va_W} {Lo : List (Nat × Value)} {rest : List Value}
variable {cc : ByteArray} {own : String} {Ts : List Cond} {tys : List (ClassId × FieldType)} {ret' : Option FieldType} {pc : Nat}
theorem gB_out {b L : Nat} {xs : Nat → Int32} (h : gB b L xs s) : ¬ va_A [] s.heap.size b := by
  rintro (⟨k, e, h1⟩ | h1)
  · cases h1
  · exact absurd h.2 (Nat.not_lt.mpr h1)
theorem g_sld {AS : Nat → Prop} {b L : Nat} {xs : Nat → Int32} {i v : Int32} {pc' : Nat} (C : gC p s m args meth c cc nL own Ts D tys ret' AS) (hB : gB b L xs s) (hin : vp_in i L) (hv : xs i.toNatClampNeg = v) (hdg : decode cc pc = .ok (.iaload, 1)) (hpc : pc + 1 = pc')
    (kk : gG p l e R s m args below meth c cells slots D AD (va_A [] s.heap.size) nL Q ws pc' Lo (.int v :: rest)) : gG p l e R s m args below meth c cells slots D AD (va_A [] s.heap.size) nL Q ws pc Lo (.int i :: .ref b :: rest) := by
  subst hpc
  subst hv
  exact fun H locs ls hP hD hS hl => va_sld C.1 C.2.1 hB.1 hB.2 (gB_out hB) hS hin hdg (kk H locs ls hP hD hS hl)
theorem g_slen {AS : Nat → Prop} {b L : Nat} {xs : Nat → Int32} {pc' : Nat} (C : gC p s m args meth c cc nL own Ts D tys ret' AS) (hB : gB b L xs s) (hdg : decode cc pc = .ok (.arraylength, 1)) (hpc : pc + 1 = pc')
    (kk : gG p l e R s m args below meth c cells slots D AD (va_A [] s.heap.size) nL Q ws pc' Lo (.int (Int32.ofNat L) :: rest)) : gG p l e R s m args below meth c cells slots D AD (va_A [] s.heap.size) nL Q ws pc Lo (.ref b :: rest) := by
  subst hpc
  exact fun H locs ls hP hD hS hl => va_slen C.1 C.2.1 hB.1 hB.2 (gB_out hB) hS hdg (kk H locs ls hP hD hS hl)
/-- what a static call with the exceptions' words needs -/
theorem g_preL {W00 W0 : va_W} {H : Heap} {locs : List Loc} {As : List Value} (C : gC p s m args meth c cc nL own Ts D tys ret' (va_A W00 s.heap.size)) (hX : gX s) (hZ : gZ (va_A W00 s.heap.size) s s.heap) (hP : va_P D vwCl ws H) (hD : va_D (va_A W00 s.heap.size) ws) (hS : va_S (va_A W00 s.heap.size) s.heap H locs) (isC : List Nat) (hC : isC.map (fun i => ws[i]?) = W0.map some) (hn : va_nd isC = true) :
    PreS s H (va_Pc As (gPX D tys W0 H.size)) As := by
  obtain ⟨-, a3⟩ := g_runS (As := As) C hP hD isC hC hn
  have hF := va_free hD hS (fun q h => Or.inr h) isC hC
  have hZ2 : gZ (va_A W0 H.size) s H := (hZ.kept hS.2.1).narrow hF
  exact ⟨gPX_blind, fun U hU hW => ⟨rfl, (a3 U hU hW).2, hX.moved hW.alike, by rw [hU]; exact hZ2.moved hW.alike⟩⟩
/-- a call of one of the law's own methods -/
theorem g_callL {y : MethodName} {wy wy' : List Cond} {rm : Room} {W00 W0 wr : va_W} {S : Type} {P : Int32 → S → Prop} {W1 : S → va_W} {As st : List Value} {n index maxL : Nat} {bytes : ByteArray} {r9 : Option FieldType} {hh : List (Nat × Nat × Nat × Nat)} {pc' : Nat} (C : gC p s m args meth c cc nL own Ts D tys ret' (va_A W00 s.heap.size)) (hX : gX s) (hZ : gZ (va_A W00 s.heap.size) s s.heap)
    (hM : ∀ sz, Met l y wy rm (va_Pc As (gPX D tys W0 sz)) (gXQi D W0 sz P W1) 1 6 (va_A W0 sz)) (g : GoodIn Ts (va_wsS own index y wy)) (hd : gY y n) (hw : wy = Cond.codeWith y bytes maxL r9 hh :: wy') (hrm : rm.cells = 1 ∧ rm.slots = 6) (hR : gRm rm R maxL) (hn : As.length = n)
    (isC isR : List Nat) (hC : isC.map (fun i => ws[i]?) = W0.map some) (hRr : isR.map (fun i => ws[i]?) = wr.map some) (hn9 : va_nd isC = true) (hnR : va_nd isR = true) (hdis : ∀ i ∈ isR, i ∉ isC) (ha : ∀ u, addr (W1 u) = addr W0) (hst : st = As.reverse ++ rest) (hcat : (rest.map fun v => v.category).sum ≤ 8) (hdg : decode cc pc = .ok (.invokestatic index, 3)) (hpc : pc + 3 = pc') (hcs : cells + 1 ≤ R.cells ∧ slots + 6 ≤ R.slots)
    (kk : ∀ (r : Int32) (u : S), P r u → gG p l e R s m args below meth c (cells + 1) (slots + 6) D (va_A W00 s.heap.size) (va_A W00 s.heap.size) nL Q (wr ++ W1 u) pc' Lo (.int r :: rest)) : gG p l e R s m args below meth c cells slots D (va_A W00 s.heap.size) (va_A W00 s.heap.size) nL Q ws pc Lo st := by
  subst hpc
  subst hst
  intro H locs ls hP hD hS hl
  have hF := va_free hD hS (fun q h => Or.inr h) isC hC
  refine va_calli (vx_runSW (g_sz C) (hM H.size) (vx_cwSW n C.2.2.2.2.1 g hw hrm.1 hrm.2 hd hR) (g_preL C hX hZ hP hD hS isC hC hn9) rfl hn hl.1 rfl (g_room hcat) hdg hcs) hS (fun q _ h => hF q h) hF (fun r u t H1 locs1 ht hvm hp hB hz1 hk1 hS' => ?_)
  have hB1 : va_P D vwCl (W1 u) t.heap := hB
  rw [ht] at hB1
  obtain ⟨hP', hD'⟩ := g_two hP hD hS isC isR hC hRr hn9 hnR hdis (ha u) hk1 hB1
  exact kk r u hp H1 locs1 ls hP' hD' hS' hl
/-- the law's end -/
theorem g_end {b : Nat} {ws : va_W} (C : gC p s m #[Value.ref b] meth c code 8 own Ts D tys ret (va_A [] s.heap.size)) (hk : cells ≤ 601024) (hm : slots ≤ 7293034) (hdg : decode code pc = .ok (.ireturn, 1)) : gG p l e room_1 s m #[Value.ref b] below meth c cells slots D AD (va_A [] s.heap.size) 8 (lw_Z below #[Value.ref b] s) ws pc Lo [.int 1] := by
  intro H locs ls hP hD hS hl
  refine va_forget (fun q hq => ?_) ?_
  · rcases hS.2.2 q hq with ⟨k, e, h1⟩ | h1
    · cases h1
    · exact h1
  · exact W.widen (k := 601024) (n := 7293034) hk hm (lw_ret C.1 C.2.1 C.2.2.2.2.2.2.1 C.2.2.2.2.2.2.2.1 hdg)
end gLaw
