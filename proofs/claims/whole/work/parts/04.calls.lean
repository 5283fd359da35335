/-! PART 04: contracts in worlds, their entry, their ends, their calls -/
def gP (D : va_G) (tys : List (ClassId × FieldType)) (W0 : va_W) (sz : Nat) : State → Prop := fun U => U.heap.size = sz ∧ va_P D vwCl W0 U.heap ∧ va_K D vwCl tys U ∧ va_D (fun _ => True) W0 ∧ gN U
theorem gP_blind {av : List Value} {D : va_G} {tys : List (ClassId × FieldType)} {W0 : va_W} {sz : Nat} : FrameBlind (va_Pc av (gP D tys W0 sz)) := fun a U g mk q => ⟨q.1, q.2.1, q.2.2.1, va_K.moved (u := U) (U := U.calling g mk a) (Vm.Alike.refl U.vm) q.2.2.2.1, q.2.2.2.2.1, gN_same rfl q.2.2.2.2.2⟩
def gQi (D : va_G) (W0 : va_W) (sz : Nat) (r : Int32) (W1 : va_W) : Array Value → State → Outcome → State → Prop := va_Qi (fun (r' : Int32) (_ : Unit) => r' = r) (fun _ t => va_P D vwCl W1 t.heap) (va_A W0 sz)
def gQl (D : va_G) (W0 : va_W) (sz : Nat) (r : Int64) (W1 : va_W) : Array Value → State → Outcome → State → Prop := va_Ql (fun (r' : Int64) (_ : Unit) => r' = r) (fun _ t => va_P D vwCl W1 t.heap) (va_A W0 sz)
def gQv (D : va_G) (W0 : va_W) (sz : Nat) (W1 : va_W) : Array Value → State → Outcome → State → Prop := va_Qv (fun (_ : Unit) => True) (fun _ t => va_P D vwCl W1 t.heap) (va_A W0 sz)
def gRQi (r : Int32) : Array Value → State → Outcome → State → Prop := va_Qi (fun (r' : Int32) (_ : Unit) => r' = r) (fun _ _ => True) (fun _ => False)
def gRQl (r : Int64) : Array Value → State → Outcome → State → Prop := va_Ql (fun (r' : Int64) (_ : Unit) => r' = r) (fun _ _ => True) (fun _ => False)
def gRQq (r : Option Nat) : Array Value → State → Outcome → State → Prop := va_Qq (fun (r' : Option Nat) (_ : Unit) => r' = r) (fun _ _ => True) (fun _ => False)
def gMi (l : Launch) (y : MethodName) (wy : List Cond) (rm : Room) (D : va_G) (tys : List (ClassId × FieldType)) (av : List Value) (W0 : va_W) (r : Int32) (W1 : va_W) : Prop := ∀ sz, Met l y wy rm (va_Pc av (gP D tys W0 sz)) (gQi D W0 sz r W1) 0 0 (va_A W0 sz)
def gMl (l : Launch) (y : MethodName) (wy : List Cond) (rm : Room) (D : va_G) (tys : List (ClassId × FieldType)) (av : List Value) (W0 : va_W) (r : Int64) (W1 : va_W) : Prop := ∀ sz, Met l y wy rm (va_Pc av (gP D tys W0 sz)) (gQl D W0 sz r W1) 0 0 (va_A W0 sz)
def gMv (l : Launch) (y : MethodName) (wy : List Cond) (rm : Room) (D : va_G) (tys : List (ClassId × FieldType)) (av : List Value) (W0 : va_W) (W1 : va_W) : Prop := ∀ sz, Met l y wy rm (va_Pc av (gP D tys W0 sz)) (gQv D W0 sz W1) 0 0 (va_A W0 sz)
def gRi (l : Launch) (y : MethodName) (wy : List Cond) (rm : Room) (D : va_G) (tys : List (ClassId × FieldType)) (av : List Value) (W0 : va_W) (r : Int32) : Prop := ∀ sz, Met l y wy rm (va_Pc av (gP D tys W0 sz)) (gRQi r) 0 0 (fun _ => False)
def gRl (l : Launch) (y : MethodName) (wy : List Cond) (rm : Room) (D : va_G) (tys : List (ClassId × FieldType)) (av : List Value) (W0 : va_W) (r : Int64) : Prop := ∀ sz, Met l y wy rm (va_Pc av (gP D tys W0 sz)) (gRQl r) 0 0 (fun _ => False)
def gRq (l : Launch) (y : MethodName) (wy : List Cond) (rm : Room) (D : va_G) (tys : List (ClassId × FieldType)) (av : List Value) (W0 : va_W) (r : Option Nat) : Prop := ∀ sz, Met l y wy rm (va_Pc av (gP D tys W0 sz)) (gRQq r) 0 0 (fun _ => False)
/-- the entry: all that a body has, out of the contract's start -/
theorem g_enter {l : Launch} {y : MethodName} {wy wy' : List Cond} {rm : Room} {D : va_G} {tys : List (ClassId × FieldType)} {av : List Value} {W0 : va_W} {Qc : Nat → Array Value → State → Outcome → State → Prop} {free : Nat → Nat → Prop} {cc : ByteArray} {maxL : Nat} {ret : Option FieldType} {L : List (Nat × Value)} {own : String} (AD : Nat → Nat → Prop) (hAD : ∀ sz, (AD sz = fun _ => True) ∨ AD sz = va_A W0 sz) (hown9 : y.cls = own) (hy : plainName y.cls = true) (hw : wy = Cond.code y cc maxL ret :: wy') (hlen : (lg_sl av).length ≤ maxL) (hL : lv_args 0 av = L)
    (body : ∀ (p : Program) (e : Env) (s : State) (m : MethodId) (args : Array Value) (below : List Frame) (meth : Method) (c : Code), gC p s m args meth c cc maxL own wy D tys ret (free s.heap.size) → gG p l e (headSpec wy rm).room s m args below meth c 0 0 D (AD s.heap.size) (free s.heap.size) maxL (MQ below (Qc s.heap.size) args s 0 0 (free s.heap.size)) W0 0 L []) :
    ∀ sz, Met l y wy rm (va_Pc av (gP D tys W0 sz)) (Qc sz) 0 0 (free sz) := by
  intro sz
  refine Met.ofW (cc := cc) (maxL := maxL) (ret := ret) hy hw ?_
  intro p e s m args below meth c s₁ B hml hv
  obtain ⟨rfl, hsz, hP, hK, hD0, hN⟩ := hv
  subst hown9
  subst hsz
  have hx := B.exec
  have hts := atoms_spec (ws := wy) B.pre
  have hown : s.vm.findClass y.cls = some m.cls := findClass_of_methodNamed B.named
  have hl := lv_entry av hlen
  rw [lg_entry_eq]
  generalize (lg_sl av ++ List.replicate (maxL - (lg_sl av).length) Slot.unset).toArray = ls at hl ⊢
  rw [hL] at hl
  have hD : va_D (AD s.heap.size) W0 := by
    rcases hAD s.heap.size with h | h
    · rw [h]; exact hD0
    · rw [h]; exact hD0.self
  exact body p e s m _ below meth c ⟨hx, B.bytes, hml, hown, hts, hK, B.returns, B.notSynchronized, hN⟩ s.heap [] ls hP hD va_S.rf hl
section gEnds
variable {p : Program} {l : Launch} {e : Env} {R : Room} {s : State} {m : MethodId} {args : Array Value} {below : List Frame} {meth : Method} {c : Code} {D : va_G} {AD AS : Nat → Prop} {nL : Nat} {Q : State → Prop} {ws : va_W} {L : List (Nat × Value)} {rest : List Value}
variable {cc : ByteArray} {own : String} {Ts : List Cond} {tys : List (ClassId × FieldType)} {ret : Option FieldType} {pc : Nat} {cells slots : Nat}
theorem g_w {cl : List vw_C} {W : va_W} {t : State} {H : Heap} (hP : va_P D cl W H) (ht : t.heap = H) : va_P D cl W t.heap := by
  rw [ht]
  exact hP
theorem g_F {A : Nat → Prop} {t : State} {H : Heap} {locs : List Loc} (hS : va_S A s.heap H locs) (ht : t.heap = H) : va_F A s t := hS.F ht
theorem g_iret {W0 W1 : va_W} {r v : Int32} (C : gC p s m args meth c cc nL own Ts D tys (some .int) (va_A W0 s.heap.size)) (hr : v = r) (hW : ws = W1) (hdg : decode cc pc = .ok (.ireturn, 1)) : gG p l e R s m args below meth c 0 0 D AD (va_A W0 s.heap.size) nL (MQ below (gQi D W0 s.heap.size r W1) args s 0 0 (va_A W0 s.heap.size)) ws pc L [.int v] := by
  subst hr; subst hW
  exact fun H locs ls hP hD hS hl => W.iret C.1 C.2.1 C.2.2.2.2.2.2.1 (fun t ht hW => ⟨⟨v, (), rfl, rfl, g_w hP ht⟩, hS.F ht⟩) hS.2.2 hdg C.2.2.2.2.2.2.2.1
theorem g_zret {W0 W1 : va_W} {r v : Int32} (C : gC p s m args meth c cc nL own Ts D tys (some .boolean) (va_A W0 s.heap.size)) (hz : narrow .boolean (.int v) = .int v) (hr : v = r) (hW : ws = W1) (hdg : decode cc pc = .ok (.ireturn, 1)) : gG p l e R s m args below meth c 0 0 D AD (va_A W0 s.heap.size) nL (MQ below (gQi D W0 s.heap.size r W1) args s 0 0 (va_A W0 s.heap.size)) ws pc L [.int v] := by
  subst hr; subst hW
  exact fun H locs ls hP hD hS hl => W.zret C.1 C.2.1 C.2.2.2.2.2.2.1 hz (fun t ht hW => ⟨⟨v, (), rfl, rfl, g_w hP ht⟩, hS.F ht⟩) hS.2.2 hdg C.2.2.2.2.2.2.2.1
theorem g_lret {W0 W1 : va_W} {r v : Int64} (C : gC p s m args meth c cc nL own Ts D tys (some .long) (va_A W0 s.heap.size)) (hr : v = r) (hW : ws = W1) (hdg : decode cc pc = .ok (.lreturn, 1)) : gG p l e R s m args below meth c 0 0 D AD (va_A W0 s.heap.size) nL (MQ below (gQl D W0 s.heap.size r W1) args s 0 0 (va_A W0 s.heap.size)) ws pc L [.long v] := by
  subst hr; subst hW
  exact fun H locs ls hP hD hS hl => W.lret C.1 C.2.1 C.2.2.2.2.2.2.1 (fun t ht hW => ⟨⟨v, (), rfl, rfl, g_w hP ht⟩, hS.F ht⟩) hS.2.2 hdg C.2.2.2.2.2.2.2.1
theorem g_vret {W0 W1 : va_W} (C : gC p s m args meth c cc nL own Ts D tys none (va_A W0 s.heap.size)) (hW : ws = W1) (hdg : decode cc pc = .ok (.return_, 1)) : gG p l e R s m args below meth c 0 0 D AD (va_A W0 s.heap.size) nL (MQ below (gQv D W0 s.heap.size W1) args s 0 0 (va_A W0 s.heap.size)) ws pc L [] := by
  subst hW
  exact fun H locs ls hP hD hS hl => W.vret C.1 C.2.1 C.2.2.2.2.2.2.1 (fun t ht hW => ⟨⟨(), rfl, trivial, g_w hP ht⟩, hS.F ht⟩) hS.2.2 hdg C.2.2.2.2.2.2.2.1
theorem g_iretR {r v : Int32} (C : gC p s m args meth c cc nL own Ts D tys (some .int) (fun _ => False)) (hr : v = r) (hdg : decode cc pc = .ok (.ireturn, 1)) : gG p l e R s m args below meth c 0 0 D AD (fun _ => False) nL (MQ below (gRQi r) args s 0 0 (fun _ => False)) ws pc L [.int v] := by
  subst hr
  exact fun H locs ls hP hD hS hl => W.iret C.1 C.2.1 C.2.2.2.2.2.2.1 (fun t ht hW => ⟨⟨v, (), rfl, rfl, trivial⟩, hS.F ht⟩) hS.2.2 hdg C.2.2.2.2.2.2.2.1
theorem g_zretR {r v : Int32} (C : gC p s m args meth c cc nL own Ts D tys (some .boolean) (fun _ => False)) (hz : narrow .boolean (.int v) = .int v) (hr : v = r) (hdg : decode cc pc = .ok (.ireturn, 1)) : gG p l e R s m args below meth c 0 0 D AD (fun _ => False) nL (MQ below (gRQi r) args s 0 0 (fun _ => False)) ws pc L [.int v] := by
  subst hr
  exact fun H locs ls hP hD hS hl => W.zret C.1 C.2.1 C.2.2.2.2.2.2.1 hz (fun t ht hW => ⟨⟨v, (), rfl, rfl, trivial⟩, hS.F ht⟩) hS.2.2 hdg C.2.2.2.2.2.2.2.1
theorem g_lretR {r v : Int64} (C : gC p s m args meth c cc nL own Ts D tys (some .long) (fun _ => False)) (hr : v = r) (hdg : decode cc pc = .ok (.lreturn, 1)) : gG p l e R s m args below meth c 0 0 D AD (fun _ => False) nL (MQ below (gRQl r) args s 0 0 (fun _ => False)) ws pc L [.long v] := by
  subst hr
  exact fun H locs ls hP hD hS hl => W.lret C.1 C.2.1 C.2.2.2.2.2.2.1 (fun t ht hW => ⟨⟨v, (), rfl, rfl, trivial⟩, hS.F ht⟩) hS.2.2 hdg C.2.2.2.2.2.2.2.1
theorem g_aretR {r : Option Nat} {v : Value} {n : String} (C : gC p s m args meth c cc nL own Ts D tys (some (.object n)) (fun _ => False)) (hr : v = va_rf r) (hdg : decode cc pc = .ok (.areturn, 1)) : gG p l e R s m args below meth c 0 0 D AD (fun _ => False) nL (MQ below (gRQq r) args s 0 0 (fun _ => False)) ws pc L [v] := by
  subst hr
  exact fun H locs ls hP hD hS hl => W.aret C.1 C.2.1 C.2.2.2.2.2.2.1 (Or.inl ⟨n, rfl⟩) (by cases r with | none => exact Or.inl rfl | some a => exact Or.inr ⟨a, rfl⟩) (fun t ht hW => ⟨⟨r, (), rfl, rfl, trivial⟩, hS.F ht⟩) hS.2.2 hdg C.2.2.2.2.2.2.2.1
-- calls
abbrev gY (y : MethodName) (n : Nat) : Prop := y.cls ≠ "java/lang/invoke/MethodHandle" ∧ y.cls ≠ "java/lang/invoke/VarHandle" ∧ (parseMethodDescriptor y.desc).map (fun d => d.parameters.length) = some n
abbrev gRm (rm : Room) (R : Room) (maxL : Nat) : Prop := rm.frames + 1 ≤ R.frames ∧ 8 + (maxL + 11) + rm.locals ≤ R.locals
theorem g_room {pc' : Nat} {ls : Array Slot} {st : List Value} (h : (rest.map fun v => v.category).sum ≤ 8) : 2 * (F0 m pc' ls st).monitorRoom + (rest.map fun v => v.category).sum ≤ 8 := by
  show 2 * 0 + _ ≤ 8
  omega
theorem g_sz (C : gC p s m args meth c cc nL own Ts D tys ret AS) : CallFix p m c cc nL s args Ts own := ⟨C.1, C.2.1, C.2.2.1, C.2.2.2.1, C.2.2.2.2.1⟩
theorem g_run {W0 : va_W} {ci : Nat} {q0 : Nat} {fs : List Value} {q : vw_C} {H : Heap} {b : Nat} {As : List Value} (C : gC p s m args meth c cc nL own Ts D tys ret AS) (hP : va_P D vwCl ws H) (hD : va_D AD ws) (isC : List Nat) (hC : isC.map (fun i => ws[i]?) = W0.map some) (hn : va_nd isC = true) (hc : vwCl[ci]? = some q) (he : ws[q0]? = some (b, .inr (ci, fs))) : PreV s H q.1 b (va_Pc (.ref b :: As) (gP D tys W0 H.size)) As := by
  have hf : isC.filterMap (fun i => ws[i]?) = W0 := by
    have h1 : isC.filterMap (fun i => ws[i]?) = (isC.map (fun i => ws[i]?)).filterMap id := by rw [List.filterMap_map]; rfl
    rw [h1, hC, List.filterMap_map]
    induction W0 with
    | nil => rfl
    | cons x xs ih => simp
  have hD' : va_D AD W0 := hD.sub isC hn hC
  exact ⟨gP_blind, va_recv C.2.2.2.2.2.1 hP hc he, fun U hU hW => ⟨rfl, by rw [hU], by rw [hU]; exact hP.sub isC hf, va_K.moved hW.alike C.2.2.2.2.2.1, hD'.weaken (fun _ _ _ _ => trivial), gN_warm hW C.2.2.2.2.2.2.2.2⟩⟩
theorem g_runS {W0 : va_W} {H : Heap} {As : List Value} (C : gC p s m args meth c cc nL own Ts D tys ret AS) (hP : va_P D vwCl ws H) (hD : va_D AD ws) (isC : List Nat) (hC : isC.map (fun i => ws[i]?) = W0.map some) (hn : va_nd isC = true) : PreS s H (va_Pc As (gP D tys W0 H.size)) As := by
  have hf : isC.filterMap (fun i => ws[i]?) = W0 := by
    have h1 : isC.filterMap (fun i => ws[i]?) = (isC.map (fun i => ws[i]?)).filterMap id := by rw [List.filterMap_map]; rfl
    rw [h1, hC, List.filterMap_map]
    induction W0 with
    | nil => rfl
    | cons x xs ih => simp
  have hD' : va_D AD W0 := hD.sub isC hn hC
  exact ⟨gP_blind, fun U hU hW => ⟨rfl, by rw [hU], by rw [hU]; exact hP.sub isC hf, va_K.moved hW.alike C.2.2.2.2.2.1, hD'.weaken (fun _ _ _ _ => trivial), gN_warm hW C.2.2.2.2.2.2.2.2⟩⟩
theorem g_callViM {y : MethodName} {wy wy' : List Cond} {rm : Room} {W00 : va_W} {W0 : va_W} {W1 W' : va_W} {r : Int32} {b : Nat} {As : List Value} {st : List Value} {n index maxL : Nat} {bytes : ByteArray} {ret' : Option FieldType} {pc' : Nat} (C : gC p s m args meth c cc nL own Ts D tys ret (va_A W00 s.heap.size)) (hM : gMi l y wy rm D tys (.ref b :: As) W0 r W1) {q0 ci : Nat} {fs : List Value} {T : u_T} {N : Nat} {C' : String} (he : ws[q0]? = some (b, .inr (ci, fs))) (hc : vwCl[ci]? = some (C', T, N)) (g : GoodIn Ts (wsV own index C' y wy)) (hcl : y.cls = C') (hd : gY y n) (hw : wy = Cond.code y bytes maxL ret' :: wy') (hrm : rm.cells = 0 ∧ rm.slots = 0) (hR : gRm rm R maxL) (hn : As.length = n) (isC : List Nat) (hC : isC.map (fun i => ws[i]?) = W0.map some) (hn9 : va_nd isC = true) (hl9 : W1.length = W0.length) (hJ : gJoin ws isC W1 = W') (haddr : W'.map (fun q => q.1) = ws.map (fun q => q.1)) (hst : st = As.reverse ++ .ref b :: rest) (hcat : (rest.map fun v => v.category).sum ≤ 8) (hdg : decode cc pc = .ok (.invokevirtual index, 3)) (hpc : pc + 3 = pc') (kk : gG p l e R s m args below meth c cells slots D (va_A W00 s.heap.size) (va_A W00 s.heap.size) nL Q W' pc' L (.int r :: rest)) (hcs : cells ≤ R.cells ∧ slots ≤ R.slots := by exact ⟨Nat.zero_le _, Nat.zero_le _⟩) : gG p l e R s m args below meth c cells slots D (va_A W00 s.heap.size) (va_A W00 s.heap.size) nL Q ws pc L st := by
  subst hpc
  subst hst
  intro H locs ls hP hD hS hl
  have hF := va_free hD hS (fun q h => Or.inr h) isC hC
  refine va_calli (va_runV (g_sz C) (hM H.size) (cwV n C.2.2.2.2.1 g hw hrm.1 hrm.2 ⟨hcl, hd.1, hd.2.1, hd.2.2⟩ hR) (g_run C hP hD isC hC hn9 hc he) rfl hn hl.1 rfl (g_room hcat) hdg ⟨hcs.1, hcs.2⟩) hS (fun q _ h => hF q h) hF (fun r' u t H1 locs1 ht hvm hw' hB' hz1 hk1 hS' => ?_)
  · subst hw'
    have hB9 : va_P D vwCl W1 t.heap := hB'
    rw [ht] at hB9
    have hP' := g_join hP hD isC hC hl9 hk1 hB9 hJ
    exact kk H1 locs1 ls hP' (hD.addr haddr) hS' hl
theorem g_callViR {y : MethodName} {wy wy' : List Cond} {rm : Room} {W0 : va_W} {r : Int32} {b : Nat} {As : List Value} {st : List Value} {n index maxL : Nat} {bytes : ByteArray} {ret' : Option FieldType} {pc' : Nat} (C : gC p s m args meth c cc nL own Ts D tys ret AS) (hM : gRi l y wy rm D tys (.ref b :: As) W0 r) {q0 ci : Nat} {fs : List Value} {T : u_T} {N : Nat} {C' : String} (he : ws[q0]? = some (b, .inr (ci, fs))) (hc : vwCl[ci]? = some (C', T, N)) (g : GoodIn Ts (wsV own index C' y wy)) (hcl : y.cls = C') (hd : gY y n) (hw : wy = Cond.code y bytes maxL ret' :: wy') (hrm : rm.cells = 0 ∧ rm.slots = 0) (hR : gRm rm R maxL) (hn : As.length = n) (isC : List Nat) (hC : isC.map (fun i => ws[i]?) = W0.map some) (hn9 : va_nd isC = true) (hst : st = As.reverse ++ .ref b :: rest) (hcat : (rest.map fun v => v.category).sum ≤ 8) (hdg : decode cc pc = .ok (.invokevirtual index, 3)) (hpc : pc + 3 = pc') (kk : gG p l e R s m args below meth c cells slots D AD AS nL Q ws pc' L (.int r :: rest)) (hcs : cells ≤ R.cells ∧ slots ≤ R.slots := by exact ⟨Nat.zero_le _, Nat.zero_le _⟩) : gG p l e R s m args below meth c cells slots D AD AS nL Q ws pc L st := by
  subst hpc
  subst hst
  intro H locs ls hP hD hS hl
  skip
  refine va_calli (va_runV (g_sz C) (hM H.size) (cwV n C.2.2.2.2.1 g hw hrm.1 hrm.2 ⟨hcl, hd.1, hd.2.1, hd.2.2⟩ hR) (g_run C hP hD isC hC hn9 hc he) rfl hn hl.1 rfl (g_room hcat) hdg ⟨hcs.1, hcs.2⟩) hS (fun q _ h => h.elim) (fun q h => h.elim) (fun r' u t H1 locs1 ht hvm hw' hB' hz1 hk1 hS' => ?_)
  · subst hw'
    exact kk H1 locs1 ls (hP.kept (fun k q hk => hk1 q.1 (hP k q hk).lt id)) hD hS' hl
theorem g_callVlM {y : MethodName} {wy wy' : List Cond} {rm : Room} {W00 : va_W} {W0 : va_W} {W1 W' : va_W} {r : Int64} {b : Nat} {As : List Value} {st : List Value} {n index maxL : Nat} {bytes : ByteArray} {ret' : Option FieldType} {pc' : Nat} (C : gC p s m args meth c cc nL own Ts D tys ret (va_A W00 s.heap.size)) (hM : gMl l y wy rm D tys (.ref b :: As) W0 r W1) {q0 ci : Nat} {fs : List Value} {T : u_T} {N : Nat} {C' : String} (he : ws[q0]? = some (b, .inr (ci, fs))) (hc : vwCl[ci]? = some (C', T, N)) (g : GoodIn Ts (wsV own index C' y wy)) (hcl : y.cls = C') (hd : gY y n) (hw : wy = Cond.code y bytes maxL ret' :: wy') (hrm : rm.cells = 0 ∧ rm.slots = 0) (hR : gRm rm R maxL) (hn : As.length = n) (isC : List Nat) (hC : isC.map (fun i => ws[i]?) = W0.map some) (hn9 : va_nd isC = true) (hl9 : W1.length = W0.length) (hJ : gJoin ws isC W1 = W') (haddr : W'.map (fun q => q.1) = ws.map (fun q => q.1)) (hst : st = As.reverse ++ .ref b :: rest) (hcat : (rest.map fun v => v.category).sum ≤ 8) (hdg : decode cc pc = .ok (.invokevirtual index, 3)) (hpc : pc + 3 = pc') (kk : gG p l e R s m args below meth c cells slots D (va_A W00 s.heap.size) (va_A W00 s.heap.size) nL Q W' pc' L (.long r :: rest)) (hcs : cells ≤ R.cells ∧ slots ≤ R.slots := by exact ⟨Nat.zero_le _, Nat.zero_le _⟩) : gG p l e R s m args below meth c cells slots D (va_A W00 s.heap.size) (va_A W00 s.heap.size) nL Q ws pc L st := by
  subst hpc
  subst hst
  intro H locs ls hP hD hS hl
  have hF := va_free hD hS (fun q h => Or.inr h) isC hC
  refine va_calll (va_runV (g_sz C) (hM H.size) (cwV n C.2.2.2.2.1 g hw hrm.1 hrm.2 ⟨hcl, hd.1, hd.2.1, hd.2.2⟩ hR) (g_run C hP hD isC hC hn9 hc he) rfl hn hl.1 rfl (g_room hcat) hdg ⟨hcs.1, hcs.2⟩) hS (fun q _ h => hF q h) hF (fun r' u t H1 locs1 ht hvm hw' hB' hz1 hk1 hS' => ?_)
  · subst hw'
    have hB9 : va_P D vwCl W1 t.heap := hB'
    rw [ht] at hB9
    have hP' := g_join hP hD isC hC hl9 hk1 hB9 hJ
    exact kk H1 locs1 ls hP' (hD.addr haddr) hS' hl
theorem g_callVlR {y : MethodName} {wy wy' : List Cond} {rm : Room} {W0 : va_W} {r : Int64} {b : Nat} {As : List Value} {st : List Value} {n index maxL : Nat} {bytes : ByteArray} {ret' : Option FieldType} {pc' : Nat} (C : gC p s m args meth c cc nL own Ts D tys ret AS) (hM : gRl l y wy rm D tys (.ref b :: As) W0 r) {q0 ci : Nat} {fs : List Value} {T : u_T} {N : Nat} {C' : String} (he : ws[q0]? = some (b, .inr (ci, fs))) (hc : vwCl[ci]? = some (C', T, N)) (g : GoodIn Ts (wsV own index C' y wy)) (hcl : y.cls = C') (hd : gY y n) (hw : wy = Cond.code y bytes maxL ret' :: wy') (hrm : rm.cells = 0 ∧ rm.slots = 0) (hR : gRm rm R maxL) (hn : As.length = n) (isC : List Nat) (hC : isC.map (fun i => ws[i]?) = W0.map some) (hn9 : va_nd isC = true) (hst : st = As.reverse ++ .ref b :: rest) (hcat : (rest.map fun v => v.category).sum ≤ 8) (hdg : decode cc pc = .ok (.invokevirtual index, 3)) (hpc : pc + 3 = pc') (kk : gG p l e R s m args below meth c cells slots D AD AS nL Q ws pc' L (.long r :: rest)) (hcs : cells ≤ R.cells ∧ slots ≤ R.slots := by exact ⟨Nat.zero_le _, Nat.zero_le _⟩) : gG p l e R s m args below meth c cells slots D AD AS nL Q ws pc L st := by
  subst hpc
  subst hst
  intro H locs ls hP hD hS hl
  skip
  refine va_calll (va_runV (g_sz C) (hM H.size) (cwV n C.2.2.2.2.1 g hw hrm.1 hrm.2 ⟨hcl, hd.1, hd.2.1, hd.2.2⟩ hR) (g_run C hP hD isC hC hn9 hc he) rfl hn hl.1 rfl (g_room hcat) hdg ⟨hcs.1, hcs.2⟩) hS (fun q _ h => h.elim) (fun q h => h.elim) (fun r' u t H1 locs1 ht hvm hw' hB' hz1 hk1 hS' => ?_)
  · subst hw'
    exact kk H1 locs1 ls (hP.kept (fun k q hk => hk1 q.1 (hP k q hk).lt id)) hD hS' hl
theorem g_callVvM {y : MethodName} {wy wy' : List Cond} {rm : Room} {W00 : va_W} {W0 : va_W} {W1 W' : va_W} {b : Nat} {As : List Value} {st : List Value} {n index maxL : Nat} {bytes : ByteArray} {ret' : Option FieldType} {pc' : Nat} (C : gC p s m args meth c cc nL own Ts D tys ret (va_A W00 s.heap.size)) (hM : gMv l y wy rm D tys (.ref b :: As) W0 W1) {q0 ci : Nat} {fs : List Value} {T : u_T} {N : Nat} {C' : String} (he : ws[q0]? = some (b, .inr (ci, fs))) (hc : vwCl[ci]? = some (C', T, N)) (g : GoodIn Ts (wsV own index C' y wy)) (hcl : y.cls = C') (hd : gY y n) (hw : wy = Cond.code y bytes maxL ret' :: wy') (hrm : rm.cells = 0 ∧ rm.slots = 0) (hR : gRm rm R maxL) (hn : As.length = n) (isC : List Nat) (hC : isC.map (fun i => ws[i]?) = W0.map some) (hn9 : va_nd isC = true) (hl9 : W1.length = W0.length) (hJ : gJoin ws isC W1 = W') (haddr : W'.map (fun q => q.1) = ws.map (fun q => q.1)) (hst : st = As.reverse ++ .ref b :: rest) (hcat : (rest.map fun v => v.category).sum ≤ 8) (hdg : decode cc pc = .ok (.invokevirtual index, 3)) (hpc : pc + 3 = pc') (kk : gG p l e R s m args below meth c cells slots D (va_A W00 s.heap.size) (va_A W00 s.heap.size) nL Q W' pc' L rest) (hcs : cells ≤ R.cells ∧ slots ≤ R.slots := by exact ⟨Nat.zero_le _, Nat.zero_le _⟩) : gG p l e R s m args below meth c cells slots D (va_A W00 s.heap.size) (va_A W00 s.heap.size) nL Q ws pc L st := by
  subst hpc
  subst hst
  intro H locs ls hP hD hS hl
  have hF := va_free hD hS (fun q h => Or.inr h) isC hC
  refine va_callv (va_runV (g_sz C) (hM H.size) (cwV n C.2.2.2.2.1 g hw hrm.1 hrm.2 ⟨hcl, hd.1, hd.2.1, hd.2.2⟩ hR) (g_run C hP hD isC hC hn9 hc he) rfl hn hl.1 rfl (g_room hcat) hdg ⟨hcs.1, hcs.2⟩) hS (fun q _ h => hF q h) hF (fun u t H1 locs1 ht hvm hw' hB' hz1 hk1 hS' => ?_)
  · have hB9 : va_P D vwCl W1 t.heap := hB'
    rw [ht] at hB9
    have hP' := g_join hP hD isC hC hl9 hk1 hB9 hJ
    exact kk H1 locs1 ls hP' (hD.addr haddr) hS' hl
theorem g_callVqR {y : MethodName} {wy wy' : List Cond} {rm : Room} {W0 : va_W} {r : Option Nat} {b : Nat} {As : List Value} {st : List Value} {n index maxL : Nat} {bytes : ByteArray} {ret' : Option FieldType} {pc' : Nat} (C : gC p s m args meth c cc nL own Ts D tys ret AS) (hM : gRq l y wy rm D tys (.ref b :: As) W0 r) {q0 ci : Nat} {fs : List Value} {T : u_T} {N : Nat} {C' : String} (he : ws[q0]? = some (b, .inr (ci, fs))) (hc : vwCl[ci]? = some (C', T, N)) (g : GoodIn Ts (wsV own index C' y wy)) (hcl : y.cls = C') (hd : gY y n) (hw : wy = Cond.code y bytes maxL ret' :: wy') (hrm : rm.cells = 0 ∧ rm.slots = 0) (hR : gRm rm R maxL) (hn : As.length = n) (isC : List Nat) (hC : isC.map (fun i => ws[i]?) = W0.map some) (hn9 : va_nd isC = true) (hst : st = As.reverse ++ .ref b :: rest) (hcat : (rest.map fun v => v.category).sum ≤ 8) (hdg : decode cc pc = .ok (.invokevirtual index, 3)) (hpc : pc + 3 = pc') (kk : gG p l e R s m args below meth c cells slots D AD AS nL Q ws pc' L (va_rf r :: rest)) (hcs : cells ≤ R.cells ∧ slots ≤ R.slots := by exact ⟨Nat.zero_le _, Nat.zero_le _⟩) : gG p l e R s m args below meth c cells slots D AD AS nL Q ws pc L st := by
  subst hpc
  subst hst
  intro H locs ls hP hD hS hl
  skip
  refine va_callq (va_runV (g_sz C) (hM H.size) (cwV n C.2.2.2.2.1 g hw hrm.1 hrm.2 ⟨hcl, hd.1, hd.2.1, hd.2.2⟩ hR) (g_run C hP hD isC hC hn9 hc he) rfl hn hl.1 rfl (g_room hcat) hdg ⟨hcs.1, hcs.2⟩) hS (fun q _ h => h.elim) (fun q h => h.elim) (fun r' u t H1 locs1 ht hvm hw' hB' hz1 hk1 hS' => ?_)
  · subst hw'
    exact kk H1 locs1 ls (hP.kept (fun k q hk => hk1 q.1 (hP k q hk).lt id)) hD hS' hl
theorem g_callSiM {y : MethodName} {wy wy' : List Cond} {rm : Room} {W00 : va_W} {W0 : va_W} {W1 W' : va_W} {r : Int32} {As : List Value} {st : List Value} {n index maxL : Nat} {bytes : ByteArray} {ret' : Option FieldType} {pc' : Nat} (C : gC p s m args meth c cc nL own Ts D tys ret (va_A W00 s.heap.size)) (hM : gMi l y wy rm D tys As W0 r W1) (g : GoodIn Ts (va_wsS own index y wy)) (hd : gY y n) (hw : wy = Cond.code y bytes maxL ret' :: wy') (hrm : rm.cells = 0 ∧ rm.slots = 0) (hR : gRm rm R maxL) (hn : As.length = n) (isC : List Nat) (hC : isC.map (fun i => ws[i]?) = W0.map some) (hn9 : va_nd isC = true) (hl9 : W1.length = W0.length) (hJ : gJoin ws isC W1 = W') (haddr : W'.map (fun q => q.1) = ws.map (fun q => q.1)) (hst : st = As.reverse ++ rest) (hcat : (rest.map fun v => v.category).sum ≤ 8) (hdg : decode cc pc = .ok (.invokestatic index, 3)) (hpc : pc + 3 = pc') (kk : gG p l e R s m args below meth c cells slots D (va_A W00 s.heap.size) (va_A W00 s.heap.size) nL Q W' pc' L (.int r :: rest)) (hcs : cells ≤ R.cells ∧ slots ≤ R.slots := by exact ⟨Nat.zero_le _, Nat.zero_le _⟩) : gG p l e R s m args below meth c cells slots D (va_A W00 s.heap.size) (va_A W00 s.heap.size) nL Q ws pc L st := by
  subst hpc
  subst hst
  intro H locs ls hP hD hS hl
  have hF := va_free hD hS (fun q h => Or.inr h) isC hC
  refine va_calli (va_runS (g_sz C) (hM H.size) (va_cwS n C.2.2.2.2.1 g hw hrm.1 hrm.2 hd hR) (g_runS C hP hD isC hC hn9) rfl hn hl.1 rfl (g_room hcat) hdg ⟨hcs.1, hcs.2⟩) hS (fun q _ h => hF q h) hF (fun r' u t H1 locs1 ht hvm hw' hB' hz1 hk1 hS' => ?_)
  · subst hw'
    have hB9 : va_P D vwCl W1 t.heap := hB'
    rw [ht] at hB9
    have hP' := g_join hP hD isC hC hl9 hk1 hB9 hJ
    exact kk H1 locs1 ls hP' (hD.addr haddr) hS' hl
theorem g_callSiR {y : MethodName} {wy wy' : List Cond} {rm : Room} {W0 : va_W} {r : Int32} {As : List Value} {st : List Value} {n index maxL : Nat} {bytes : ByteArray} {ret' : Option FieldType} {pc' : Nat} (C : gC p s m args meth c cc nL own Ts D tys ret AS) (hM : gRi l y wy rm D tys As W0 r) (g : GoodIn Ts (va_wsS own index y wy)) (hd : gY y n) (hw : wy = Cond.code y bytes maxL ret' :: wy') (hrm : rm.cells = 0 ∧ rm.slots = 0) (hR : gRm rm R maxL) (hn : As.length = n) (isC : List Nat) (hC : isC.map (fun i => ws[i]?) = W0.map some) (hn9 : va_nd isC = true) (hst : st = As.reverse ++ rest) (hcat : (rest.map fun v => v.category).sum ≤ 8) (hdg : decode cc pc = .ok (.invokestatic index, 3)) (hpc : pc + 3 = pc') (kk : gG p l e R s m args below meth c cells slots D AD AS nL Q ws pc' L (.int r :: rest)) (hcs : cells ≤ R.cells ∧ slots ≤ R.slots := by exact ⟨Nat.zero_le _, Nat.zero_le _⟩) : gG p l e R s m args below meth c cells slots D AD AS nL Q ws pc L st := by
  subst hpc
  subst hst
  intro H locs ls hP hD hS hl
  skip
  refine va_calli (va_runS (g_sz C) (hM H.size) (va_cwS n C.2.2.2.2.1 g hw hrm.1 hrm.2 hd hR) (g_runS C hP hD isC hC hn9) rfl hn hl.1 rfl (g_room hcat) hdg ⟨hcs.1, hcs.2⟩) hS (fun q _ h => h.elim) (fun q h => h.elim) (fun r' u t H1 locs1 ht hvm hw' hB' hz1 hk1 hS' => ?_)
  · subst hw'
    exact kk H1 locs1 ls (hP.kept (fun k q hk => hk1 q.1 (hP k q hk).lt id)) hD hS' hl
theorem g_callSlM {y : MethodName} {wy wy' : List Cond} {rm : Room} {W00 : va_W} {W0 : va_W} {W1 W' : va_W} {r : Int64} {As : List Value} {st : List Value} {n index maxL : Nat} {bytes : ByteArray} {ret' : Option FieldType} {pc' : Nat} (C : gC p s m args meth c cc nL own Ts D tys ret (va_A W00 s.heap.size)) (hM : gMl l y wy rm D tys As W0 r W1) (g : GoodIn Ts (va_wsS own index y wy)) (hd : gY y n) (hw : wy = Cond.code y bytes maxL ret' :: wy') (hrm : rm.cells = 0 ∧ rm.slots = 0) (hR : gRm rm R maxL) (hn : As.length = n) (isC : List Nat) (hC : isC.map (fun i => ws[i]?) = W0.map some) (hn9 : va_nd isC = true) (hl9 : W1.length = W0.length) (hJ : gJoin ws isC W1 = W') (haddr : W'.map (fun q => q.1) = ws.map (fun q => q.1)) (hst : st = As.reverse ++ rest) (hcat : (rest.map fun v => v.category).sum ≤ 8) (hdg : decode cc pc = .ok (.invokestatic index, 3)) (hpc : pc + 3 = pc') (kk : gG p l e R s m args below meth c cells slots D (va_A W00 s.heap.size) (va_A W00 s.heap.size) nL Q W' pc' L (.long r :: rest)) (hcs : cells ≤ R.cells ∧ slots ≤ R.slots := by exact ⟨Nat.zero_le _, Nat.zero_le _⟩) : gG p l e R s m args below meth c cells slots D (va_A W00 s.heap.size) (va_A W00 s.heap.size) nL Q ws pc L st := by
  subst hpc
  subst hst
  intro H locs ls hP hD hS hl
  have hF := va_free hD hS (fun q h => Or.inr h) isC hC
  refine va_calll (va_runS (g_sz C) (hM H.size) (va_cwS n C.2.2.2.2.1 g hw hrm.1 hrm.2 hd hR) (g_runS C hP hD isC hC hn9) rfl hn hl.1 rfl (g_room hcat) hdg ⟨hcs.1, hcs.2⟩) hS (fun q _ h => hF q h) hF (fun r' u t H1 locs1 ht hvm hw' hB' hz1 hk1 hS' => ?_)
  · subst hw'
    have hB9 : va_P D vwCl W1 t.heap := hB'
    rw [ht] at hB9
    have hP' := g_join hP hD isC hC hl9 hk1 hB9 hJ
    exact kk H1 locs1 ls hP' (hD.addr haddr) hS' hl
theorem g_callSlR {y : MethodName} {wy wy' : List Cond} {rm : Room} {W0 : va_W} {r : Int64} {As : List Value} {st : List Value} {n index maxL : Nat} {bytes : ByteArray} {ret' : Option FieldType} {pc' : Nat} (C : gC p s m args meth c cc nL own Ts D tys ret AS) (hM : gRl l y wy rm D tys As W0 r) (g : GoodIn Ts (va_wsS own index y wy)) (hd : gY y n) (hw : wy = Cond.code y bytes maxL ret' :: wy') (hrm : rm.cells = 0 ∧ rm.slots = 0) (hR : gRm rm R maxL) (hn : As.length = n) (isC : List Nat) (hC : isC.map (fun i => ws[i]?) = W0.map some) (hn9 : va_nd isC = true) (hst : st = As.reverse ++ rest) (hcat : (rest.map fun v => v.category).sum ≤ 8) (hdg : decode cc pc = .ok (.invokestatic index, 3)) (hpc : pc + 3 = pc') (kk : gG p l e R s m args below meth c cells slots D AD AS nL Q ws pc' L (.long r :: rest)) (hcs : cells ≤ R.cells ∧ slots ≤ R.slots := by exact ⟨Nat.zero_le _, Nat.zero_le _⟩) : gG p l e R s m args below meth c cells slots D AD AS nL Q ws pc L st := by
  subst hpc
  subst hst
  intro H locs ls hP hD hS hl
  skip
  refine va_calll (va_runS (g_sz C) (hM H.size) (va_cwS n C.2.2.2.2.1 g hw hrm.1 hrm.2 hd hR) (g_runS C hP hD isC hC hn9) rfl hn hl.1 rfl (g_room hcat) hdg ⟨hcs.1, hcs.2⟩) hS (fun q _ h => h.elim) (fun q h => h.elim) (fun r' u t H1 locs1 ht hvm hw' hB' hz1 hk1 hS' => ?_)
  · subst hw'
    exact kk H1 locs1 ls (hP.kept (fun k q hk => hk1 q.1 (hP k q hk).lt id)) hD hS' hl
theorem g_callSvM {y : MethodName} {wy wy' : List Cond} {rm : Room} {W00 : va_W} {W0 : va_W} {W1 W' : va_W} {As : List Value} {st : List Value} {n index maxL : Nat} {bytes : ByteArray} {ret' : Option FieldType} {pc' : Nat} (C : gC p s m args meth c cc nL own Ts D tys ret (va_A W00 s.heap.size)) (hM : gMv l y wy rm D tys As W0 W1) (g : GoodIn Ts (va_wsS own index y wy)) (hd : gY y n) (hw : wy = Cond.code y bytes maxL ret' :: wy') (hrm : rm.cells = 0 ∧ rm.slots = 0) (hR : gRm rm R maxL) (hn : As.length = n) (isC : List Nat) (hC : isC.map (fun i => ws[i]?) = W0.map some) (hn9 : va_nd isC = true) (hl9 : W1.length = W0.length) (hJ : gJoin ws isC W1 = W') (haddr : W'.map (fun q => q.1) = ws.map (fun q => q.1)) (hst : st = As.reverse ++ rest) (hcat : (rest.map fun v => v.category).sum ≤ 8) (hdg : decode cc pc = .ok (.invokestatic index, 3)) (hpc : pc + 3 = pc') (kk : gG p l e R s m args below meth c cells slots D (va_A W00 s.heap.size) (va_A W00 s.heap.size) nL Q W' pc' L rest) (hcs : cells ≤ R.cells ∧ slots ≤ R.slots := by exact ⟨Nat.zero_le _, Nat.zero_le _⟩) : gG p l e R s m args below meth c cells slots D (va_A W00 s.heap.size) (va_A W00 s.heap.size) nL Q ws pc L st := by
  subst hpc
  subst hst
  intro H locs ls hP hD hS hl
  have hF := va_free hD hS (fun q h => Or.inr h) isC hC
  refine va_callv (va_runS (g_sz C) (hM H.size) (va_cwS n C.2.2.2.2.1 g hw hrm.1 hrm.2 hd hR) (g_runS C hP hD isC hC hn9) rfl hn hl.1 rfl (g_room hcat) hdg ⟨hcs.1, hcs.2⟩) hS (fun q _ h => hF q h) hF (fun u t H1 locs1 ht hvm hw' hB' hz1 hk1 hS' => ?_)
  · have hB9 : va_P D vwCl W1 t.heap := hB'
    rw [ht] at hB9
    have hP' := g_join hP hD isC hC hl9 hk1 hB9 hJ
    exact kk H1 locs1 ls hP' (hD.addr haddr) hS' hl
theorem g_callSqR {y : MethodName} {wy wy' : List Cond} {rm : Room} {W0 : va_W} {r : Option Nat} {As : List Value} {st : List Value} {n index maxL : Nat} {bytes : ByteArray} {ret' : Option FieldType} {pc' : Nat} (C : gC p s m args meth c cc nL own Ts D tys ret AS) (hM : gRq l y wy rm D tys As W0 r) (g : GoodIn Ts (va_wsS own index y wy)) (hd : gY y n) (hw : wy = Cond.code y bytes maxL ret' :: wy') (hrm : rm.cells = 0 ∧ rm.slots = 0) (hR : gRm rm R maxL) (hn : As.length = n) (isC : List Nat) (hC : isC.map (fun i => ws[i]?) = W0.map some) (hn9 : va_nd isC = true) (hst : st = As.reverse ++ rest) (hcat : (rest.map fun v => v.category).sum ≤ 8) (hdg : decode cc pc = .ok (.invokestatic index, 3)) (hpc : pc + 3 = pc') (kk : gG p l e R s m args below meth c cells slots D AD AS nL Q ws pc' L (va_rf r :: rest)) (hcs : cells ≤ R.cells ∧ slots ≤ R.slots := by exact ⟨Nat.zero_le _, Nat.zero_le _⟩) : gG p l e R s m args below meth c cells slots D AD AS nL Q ws pc L st := by
  subst hpc
  subst hst
  intro H locs ls hP hD hS hl
  skip
  refine va_callq (va_runS (g_sz C) (hM H.size) (va_cwS n C.2.2.2.2.1 g hw hrm.1 hrm.2 hd hR) (g_runS C hP hD isC hC hn9) rfl hn hl.1 rfl (g_room hcat) hdg ⟨hcs.1, hcs.2⟩) hS (fun q _ h => h.elim) (fun q h => h.elim) (fun r' u t H1 locs1 ht hvm hw' hB' hz1 hk1 hS' => ?_)
  · subst hw'
    exact kk H1 locs1 ls (hP.kept (fun k q hk => hk1 q.1 (hP k q hk).lt id)) hD hS' hl
theorem g_callSNiR {y : MethodName} {wy wy' : List Cond} {rm : Room} {W0 : va_W} {r : Int32} {As : List Value} {st : List Value} {n index maxL : Nat} {bytes : ByteArray} {ret' : Option FieldType} {host : String} {pc' : Nat} (C : gC p s m args meth c cc nL own Ts D tys ret AS) (hM : gRi l y wy rm D tys As W0 r) (hl9 : va_Nw (.methodLinkNest own index y host) s) (g : GoodIn Ts wy) (hd : y.cls ≠ "java/lang/invoke/MethodHandle" ∧ y.cls ≠ "java/lang/invoke/VarHandle" ∧ (parseMethodDescriptor y.desc).map (fun d => d.parameters.length) = some n) (hs9 : Cond.static y ∈ Ts) (hi9 : Cond.initialized y.cls ∈ Ts) (hw : wy = Cond.code y bytes maxL ret' :: wy') (hrm : rm.cells = 0 ∧ rm.slots = 0) (hR : gRm rm R maxL) (hn : As.length = n) (isC : List Nat) (hC : isC.map (fun i => ws[i]?) = W0.map some) (hn9 : va_nd isC = true) (hst : st = As.reverse ++ rest) (hcat : (rest.map fun v => v.category).sum ≤ 8) (hdg : decode cc pc = .ok (.invokestatic index, 3)) (hpc : pc + 3 = pc') (kk : gG p l e R s m args below meth c cells slots D AD AS nL Q ws pc' L (.int r :: rest)) (hcs : cells ≤ R.cells ∧ slots ≤ R.slots := by exact ⟨Nat.zero_le _, Nat.zero_le _⟩) : gG p l e R s m args below meth c cells slots D AD AS nL Q ws pc L st := by
  subst hpc
  subst hst
  intro H locs ls hP hD hS hl
  refine va_calli (va_runSN (g_sz C) (hM H.size) ⟨va_cnB n C.2.2.2.2.1 g hw hrm.1 hrm.2 hl9 (C.2.2.2.2.1 _ hi9) hd hR, C.2.2.2.2.1 _ hs9, trivial⟩ (g_runS C hP hD isC hC hn9) rfl hn hl.1 rfl (g_room hcat) hdg ⟨hcs.1, hcs.2⟩) hS (fun q _ h => h.elim) (fun q h => h.elim) (fun r' u t H1 locs1 ht hvm hw' hB' hz1 hk1 hS' => ?_)
  · subst hw'
    exact kk H1 locs1 ls (hP.kept (fun k q hk => hk1 q.1 (hP k q hk).lt id)) hD hS' hl
theorem sw_out3 {x : Int32} (lo : Int) (h0 : ¬ x = Int32.ofInt lo) (h1 : ¬ x = Int32.ofInt (lo + 1)) (h2 : ¬ x = Int32.ofInt (lo + 2)) : x.toInt < lo ∨ lo + 2 < x.toInt := by
  by_cases a : x.toInt < lo
  · exact Or.inl a
  · by_cases b : lo + 2 < x.toInt
    · exact Or.inr b
    · exfalso
      have e : ∀ v : Int, x.toInt = v → x = Int32.ofInt v := fun v hv => by rw [← hv, Int32.ofInt_toInt]
      rcases (by omega : x.toInt = lo ∨ x.toInt = lo + 1 ∨ x.toInt = lo + 2) with z | z | z
      · exact h0 (e _ z)
      · exact h1 (e _ z)
      · exact h2 (e _ z)
theorem sw_out4 {x : Int32} (lo : Int) (h0 : ¬ x = Int32.ofInt lo) (h1 : ¬ x = Int32.ofInt (lo + 1)) (h2 : ¬ x = Int32.ofInt (lo + 2)) (h3 : ¬ x = Int32.ofInt (lo + 3)) : x.toInt < lo ∨ lo + 3 < x.toInt := by
  by_cases b : x.toInt = lo + 3
  · exact absurd (by rw [← b, Int32.ofInt_toInt]) h3
  · rcases sw_out3 lo h0 h1 h2 with z | z
    · exact Or.inl z
    · right; omega
theorem sw_out5 {x : Int32} (lo : Int) (h0 : ¬ x = Int32.ofInt lo) (h1 : ¬ x = Int32.ofInt (lo + 1)) (h2 : ¬ x = Int32.ofInt (lo + 2)) (h3 : ¬ x = Int32.ofInt (lo + 3)) (h4 : ¬ x = Int32.ofInt (lo + 4)) : x.toInt < lo ∨ lo + 4 < x.toInt := by
  by_cases b : x.toInt = lo + 4
  · exact absurd (by rw [← b, Int32.ofInt_toInt]) h4
  · rcases sw_out4 lo h0 h1 h2 h3 with z | z
    · exact Or.inl z
    · right; omega
theorem sw_out9 {x : Int32} (lo : Int) (h0 : ¬ x = Int32.ofInt lo) (h1 : ¬ x = Int32.ofInt (lo + 1)) (h2 : ¬ x = Int32.ofInt (lo + 2)) (h3 : ¬ x = Int32.ofInt (lo + 3)) (h4 : ¬ x = Int32.ofInt (lo + 4)) (h5 : ¬ x = Int32.ofInt (lo + 5)) (h6 : ¬ x = Int32.ofInt (lo + 6)) (h7 : ¬ x = Int32.ofInt (lo + 7)) (h8 : ¬ x = Int32.ofInt (lo + 8)) : x.toInt < lo ∨ lo + 8 < x.toInt := by
  have e : ∀ v : Int, ¬ x = Int32.ofInt v → ¬ x.toInt = v := fun v hv z => hv (by rw [← z, Int32.ofInt_toInt])
  have a5 := e _ h5
  have a6 := e _ h6
  have a7 := e _ h7
  have a8 := e _ h8
  rcases sw_out5 lo h0 h1 h2 h3 h4 with z | z
  · exact Or.inl z
  · right; omega
end gEnds
