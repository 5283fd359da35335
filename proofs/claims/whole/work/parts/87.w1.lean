/-! PART 87: the law's own methods: a call that throws, caught -/
theorem g_enterW {l : Launch} {y : MethodName} {wy wy' : List Cond} {rm : Room} {D : va_G} {tys : List (ClassId × FieldType)} {av : List Value} {W0 : va_W} {Qc : Nat → Array Value → State → Outcome → State → Prop} {cc : ByteArray} {maxL : Nat} {ret : Option FieldType} {hh : List (Nat × Nat × Nat × Nat)} {L : List (Nat × Value)} {own : String} (hown9 : y.cls = own) (hy : plainName y.cls = true) (hw : wy = Cond.codeWith y cc maxL ret hh :: wy') (hlen : (lg_sl av).length ≤ maxL) (hL : lv_args 0 av = L)
    (body : ∀ (p : Program) (e : Env) (s : State) (m : MethodId) (args : Array Value) (below : List Frame) (meth : Method) (c : Code), gC p s m args meth c cc maxL own wy D tys ret (va_A W0 s.heap.size) → c.exceptionTable.toList = tableOf hh → gX s → gZ (va_A W0 s.heap.size) s s.heap → gG p l e (headSpec wy rm).room s m args below meth c 0 0 D (va_A W0 s.heap.size) (va_A W0 s.heap.size) maxL (MQ below (Qc s.heap.size) args s 1 6 (va_A W0 s.heap.size)) W0 0 L []) :
    ∀ sz, Met l y wy rm (va_Pc av (gPX D tys W0 sz)) (Qc sz) 1 6 (va_A W0 sz) := by
  intro sz
  refine va_MetW (cc := cc) (maxL := maxL) (ret := ret) hy hw ?_
  intro p e s m args below meth c s₁ B hml hv
  obtain ⟨rfl, ⟨hsz, hP, hK, hD0, hN⟩, hX, hZ⟩ := hv
  subst hown9
  subst hsz
  have hx := B.exec
  have hts := atoms_spec (ws := wy) B.pre
  have hown : s.vm.findClass y.cls = some m.cls := findClass_of_methodNamed B.named
  have htab := vx_table (x := y) B (hts _ (by rw [hw]; exact List.mem_cons_self))
  have hl := lv_entry av hlen
  rw [lg_entry_eq]
  generalize (lg_sl av ++ List.replicate (maxL - (lg_sl av).length) Slot.unset).toArray = ls at hl ⊢
  rw [hL] at hl
  exact body p e s m _ below meth c ⟨hx, B.bytes, hml, hown, hts, hK, B.returns, B.notSynchronized, hN⟩ htab hX hZ s.heap [] ls hP hD0.self va_S.rf hl
/-- an exception that is caught here: its row of the table -/
def gRow (own : String) (Ts : List Cond) (hh : List (Nat × Nat × Nat × Nat)) (pc : Nat) (E : String) (tgt : Nat) : Prop :=
  E ∈ xAll ∧ ∃ (pre : List ExceptionTableEntry) (x : ExceptionTableEntry) (suf : List ExceptionTableEntry), tableOf hh = pre ++ x :: suf ∧ (∀ z ∈ pre, ∃ T ∈ xAll, E ≠ T ∧ z.catchType ≠ 0 ∧ Cond.classLink own z.catchType T ∈ Ts) ∧ covers x pc = true ∧ x.catchType ≠ 0 ∧ Cond.classLink own x.catchType E ∈ Ts ∧ x.handlerPc = tgt
section gWrap
variable {p : Program} {l : Launch} {e : Env} {R : Room} {s : State} {m : MethodId} {args : Array Value} {below : List Frame} {meth : Method} {c : Code} {cells slots : Nat} {D : va_G} {AD AS : Nat → Prop} {nL : Nat} {Q : State → Prop} {ws : va_W} {L : List (Nat × Value)} {rest : List Value}
variable {cc : ByteArray} {own : String} {Ts : List Cond} {tys : List (ClassId × FieldType)} {ret : Option FieldType} {pc : Nat}
theorem g_iretW {S : Type} {W0 : va_W} {W1 : S → va_W} {P : Int32 → S → Prop} {v : Int32} (u : S) (C : gC p s m args meth c cc nL own Ts D tys (some .int) (va_A W0 s.heap.size)) (hp : P v u) (hW : ws = W1 u) (hk : cells ≤ 1) (hm : slots ≤ 6) (hdg : decode cc pc = .ok (.ireturn, 1)) : gG p l e R s m args below meth c cells slots D AD (va_A W0 s.heap.size) nL (MQ below (gXQi D W0 s.heap.size P W1) args s 1 6 (va_A W0 s.heap.size)) ws pc L [.int v] := by
  subst hW
  exact fun H locs ls hP hD hS hl => W.widen (k := 1) (n := 6) hk hm (W.iret C.1 C.2.1 C.2.2.2.2.2.2.1 (fun t ht hW => ⟨⟨v, u, rfl, hp, g_w hP ht⟩, hS.F ht⟩) hS.2.2 hdg C.2.2.2.2.2.2.2.1)
theorem g_preX {W00 W0 : va_W} {ci q0 : Nat} {fs : List Value} {q : vw_C} {H : Heap} {locs : List Loc} {b : Nat} {As : List Value} (C : gC p s m args meth c cc nL own Ts D tys ret (va_A W00 s.heap.size)) (hX : gX s) (hZ : gZ (va_A W00 s.heap.size) s s.heap) (hP : va_P D vwCl ws H) (hD : va_D (va_A W00 s.heap.size) ws) (hS : va_S (va_A W00 s.heap.size) s.heap H locs) (isC : List Nat) (hC : isC.map (fun i => ws[i]?) = W0.map some) (hn : va_nd isC = true) (hc : vwCl[ci]? = some q) (he : ws[q0]? = some (b, .inr (ci, fs))) :
    PreV s H q.1 b (va_Pc (.ref b :: As) (gPX D tys W0 H.size)) As := by
  obtain ⟨-, a2, a3⟩ := g_run (As := As) C hP hD isC hC hn hc he
  have hF := va_free hD hS (fun q h => Or.inr h) isC hC
  have hZ2 : gZ (va_A W0 H.size) s H := (hZ.kept hS.2.1).narrow hF
  exact ⟨gPX_blind, a2, fun U hU hW => ⟨rfl, (a3 U hU hW).2, hX.moved hW.alike, by rw [hU]; exact hZ2.moved hW.alike⟩⟩
theorem g_two {W00 W0 wr W1 : va_W} {H H1 : Heap} {locs : List Loc} (hP : va_P D vwCl ws H) (hD : va_D (va_A W00 s.heap.size) ws) (hS : va_S (va_A W00 s.heap.size) s.heap H locs) (isC isR : List Nat) (hC : isC.map (fun i => ws[i]?) = W0.map some) (hRr : isR.map (fun i => ws[i]?) = wr.map some) (hn9 : va_nd isC = true) (hnR : va_nd isR = true) (hdis : ∀ i ∈ isR, i ∉ isC) (ha : addr W1 = addr W0) (hk : ∀ q : Nat, q < H.size → ¬ va_A W0 H.size q → H1[q]? = H[q]?) (hP1 : va_P D vwCl W1 H1) : va_P D vwCl (wr ++ W1) H1 ∧ va_D (va_A W00 s.heap.size) (wr ++ W1) := by
  have hF := va_free hD hS (fun q h => Or.inr h) isC hC
  have hD0 : va_D (va_A W00 s.heap.size) W0 := hD.sub isC hn9 hC
  have hD1 : va_D (va_A W0 H.size) W1 := by
    refine D_of_nodup (by rw [ha]; exact nodup_of_D hD0) (fun q hq => ?_)
    have h2 : q.1 ∈ addr W0 := by rw [← ha]; exact List.mem_map_of_mem hq
    obtain ⟨q2, h3, h4⟩ := List.mem_map.mp h2
    obtain ⟨k, hk2⟩ := List.mem_iff_getElem?.mp h3
    exact Or.inl ⟨k, q2.2, by rw [hk2, ← h4]⟩
  exact va_join hP hD isC isR hC hRr hnR hdis hk hF hP1 hD1
/-- a call that answers an int or throws, caught by this method's table -/
theorem g_callXi {y : MethodName} {wy wy' : List Cond} {rm : Room} {W00 W0 wr : va_W} {S : Type} {res : Except String (Int32 × S)} {W1 : S → va_W} {b : Nat} {As st : List Value} {n index maxL : Nat} {bytes : ByteArray} {ret' : Option FieldType} {pc' : Nat} {hh : List (Nat × Nat × Nat × Nat)} (C : gC p s m args meth c cc nL own Ts D tys ret (va_A W00 s.heap.size)) (htab : c.exceptionTable.toList = tableOf hh) (hX : gX s) (hZ : gZ (va_A W00 s.heap.size) s s.heap)
    (hM : gXi l y wy rm D tys (.ref b :: As) W0 res W1) {q0 ci : Nat} {fs : List Value} {T : u_T} {N : Nat} {C' : String} (he : ws[q0]? = some (b, .inr (ci, fs))) (hc : vwCl[ci]? = some (C', T, N)) (g : GoodIn Ts (wsV own index C' y wy)) (hcl : y.cls = C') (hd : gY y n) (hw : wy = Cond.code y bytes maxL ret' :: wy') (hrm : rm.cells = 1 ∧ rm.slots = 6) (hR : gRm rm R maxL) (hn : As.length = n)
    (isC isR : List Nat) (hC : isC.map (fun i => ws[i]?) = W0.map some) (hRr : isR.map (fun i => ws[i]?) = wr.map some) (hws : ws = wr ++ W0) (hn9 : va_nd isC = true) (hnR : va_nd isR = true) (hdis : ∀ i ∈ isR, i ∉ isC) (ha : ∀ u, addr (W1 u) = addr W0) (hst : st = As.reverse ++ .ref b :: rest) (hcat : (rest.map fun v => v.category).sum ≤ 8) (hdg : decode cc pc = .ok (.invokevirtual index, 3)) (hpc : pc + 3 = pc') (hcs : cells + 1 ≤ R.cells ∧ slots + 6 ≤ R.slots)
    (kx : ∀ E, res = .error E → ∃ tgt, gRow own Ts hh pc E tgt ∧ ∀ q9 : Nat, gG p l e R s m args below meth c (cells + 1) (slots + 6) D (va_A W00 s.heap.size) (va_A W00 s.heap.size) nL Q ws tgt L [.ref q9])
    (kk : ∀ (r : Int32) (u : S), res = .ok (r, u) → gG p l e R s m args below meth c (cells + 1) (slots + 6) D (va_A W00 s.heap.size) (va_A W00 s.heap.size) nL Q (wr ++ W1 u) pc' L (.int r :: rest)) : gG p l e R s m args below meth c cells slots D (va_A W00 s.heap.size) (va_A W00 s.heap.size) nL Q ws pc L st := by
  subst hpc
  subst hst
  intro H locs ls hP hD hS hl
  have hF := va_free hD hS (fun q h => Or.inr h) isC hC
  refine vx_calli (vx_runV (g_sz C) (hM H.size) (cwV n C.2.2.2.2.1 g hw hrm.1 hrm.2 ⟨hcl, hd.1, hd.2.1, hd.2.2⟩ hR) (g_preX C hX hZ hP hD hS isC hC hn9 hc he) rfl hn hl.1 rfl (g_room hcat) hdg hcs) hS (fun q _ h => hF q h) hF (fun q _ h => hF q h) ?_ ?_
  · intro E ce q9 u t H1 locs1 ht hvm hp hB hz1 hk1 hS' hce hcv hcl9
    obtain ⟨hE, hB1⟩ := hB
    rw [ht] at hB1
    obtain ⟨hP', hD'⟩ := g_two hP hD hS isC isR hC hRr hn9 hnR hdis rfl hk1 hB1
    rw [← hws] at hP' hD'
    obtain ⟨tgt, ⟨hEx, pre, x, suf, h1, h2, h3, h4, h5, h6⟩, k9⟩ := kx E hE
    refine vx_catch (name := E) C.2.2.2.1 pre x suf (htab.trans h1) (fun z hz => ?_) h3 h4 (C.2.2.2.2.1 _ h5) (hX.1 E hEx).use hce hcv hcl9 ?_
    · obtain ⟨T9, e1, e2, e3, e4⟩ := h2 z hz
      exact Or.inr ⟨e3, T9, C.2.2.2.2.1 _ e4, hX.2.1 E hEx T9 e1 e2⟩
    · rw [h6]
      exact k9 q9 H1 locs1 ls hP' hD' hS' hl
  · intro r u t H1 locs1 ht hvm hp hB hz1 hk1 hS'
    have hB1 : va_P D vwCl (W1 u) t.heap := hB
    rw [ht] at hB1
    obtain ⟨hP', hD'⟩ := g_two hP hD hS isC isR hC hRr hn9 hnR hdis (ha u) hk1 hB1
    exact kk r u hp H1 locs1 ls hP' hD' hS' hl
theorem g_callXl {y : MethodName} {wy wy' : List Cond} {rm : Room} {W00 W0 wr : va_W} {S : Type} {res : Except String (Int64 × S)} {W1 : S → va_W} {b : Nat} {As st : List Value} {n index maxL : Nat} {bytes : ByteArray} {ret' : Option FieldType} {pc' : Nat} {hh : List (Nat × Nat × Nat × Nat)} (C : gC p s m args meth c cc nL own Ts D tys ret (va_A W00 s.heap.size)) (htab : c.exceptionTable.toList = tableOf hh) (hX : gX s) (hZ : gZ (va_A W00 s.heap.size) s s.heap)
    (hM : gXl l y wy rm D tys (.ref b :: As) W0 res W1) {q0 ci : Nat} {fs : List Value} {T : u_T} {N : Nat} {C' : String} (he : ws[q0]? = some (b, .inr (ci, fs))) (hc : vwCl[ci]? = some (C', T, N)) (g : GoodIn Ts (wsV own index C' y wy)) (hcl : y.cls = C') (hd : gY y n) (hw : wy = Cond.code y bytes maxL ret' :: wy') (hrm : rm.cells = 1 ∧ rm.slots = 6) (hR : gRm rm R maxL) (hn : As.length = n)
    (isC isR : List Nat) (hC : isC.map (fun i => ws[i]?) = W0.map some) (hRr : isR.map (fun i => ws[i]?) = wr.map some) (hws : ws = wr ++ W0) (hn9 : va_nd isC = true) (hnR : va_nd isR = true) (hdis : ∀ i ∈ isR, i ∉ isC) (ha : ∀ u, addr (W1 u) = addr W0) (hst : st = As.reverse ++ .ref b :: rest) (hcat : (rest.map fun v => v.category).sum ≤ 8) (hdg : decode cc pc = .ok (.invokevirtual index, 3)) (hpc : pc + 3 = pc') (hcs : cells + 1 ≤ R.cells ∧ slots + 6 ≤ R.slots)
    (kx : ∀ E, res = .error E → ∃ tgt, gRow own Ts hh pc E tgt ∧ ∀ q9 : Nat, gG p l e R s m args below meth c (cells + 1) (slots + 6) D (va_A W00 s.heap.size) (va_A W00 s.heap.size) nL Q ws tgt L [.ref q9])
    (kk : ∀ (r : Int64) (u : S), res = .ok (r, u) → gG p l e R s m args below meth c (cells + 1) (slots + 6) D (va_A W00 s.heap.size) (va_A W00 s.heap.size) nL Q (wr ++ W1 u) pc' L (.long r :: rest)) : gG p l e R s m args below meth c cells slots D (va_A W00 s.heap.size) (va_A W00 s.heap.size) nL Q ws pc L st := by
  subst hpc
  subst hst
  intro H locs ls hP hD hS hl
  have hF := va_free hD hS (fun q h => Or.inr h) isC hC
  refine vx_calll (vx_runV (g_sz C) (hM H.size) (cwV n C.2.2.2.2.1 g hw hrm.1 hrm.2 ⟨hcl, hd.1, hd.2.1, hd.2.2⟩ hR) (g_preX C hX hZ hP hD hS isC hC hn9 hc he) rfl hn hl.1 rfl (g_room hcat) hdg hcs) hS (fun q _ h => hF q h) hF (fun q _ h => hF q h) ?_ ?_
  · intro E ce q9 u t H1 locs1 ht hvm hp hB hz1 hk1 hS' hce hcv hcl9
    obtain ⟨hE, hB1⟩ := hB
    rw [ht] at hB1
    obtain ⟨hP', hD'⟩ := g_two hP hD hS isC isR hC hRr hn9 hnR hdis rfl hk1 hB1
    rw [← hws] at hP' hD'
    obtain ⟨tgt, ⟨hEx, pre, x, suf, h1, h2, h3, h4, h5, h6⟩, k9⟩ := kx E hE
    refine vx_catch (name := E) C.2.2.2.1 pre x suf (htab.trans h1) (fun z hz => ?_) h3 h4 (C.2.2.2.2.1 _ h5) (hX.1 E hEx).use hce hcv hcl9 ?_
    · obtain ⟨T9, e1, e2, e3, e4⟩ := h2 z hz
      exact Or.inr ⟨e3, T9, C.2.2.2.2.1 _ e4, hX.2.1 E hEx T9 e1 e2⟩
    · rw [h6]
      exact k9 q9 H1 locs1 ls hP' hD' hS' hl
  · intro r u t H1 locs1 ht hvm hp hB hz1 hk1 hS'
    have hB1 : va_P D vwCl (W1 u) t.heap := hB
    rw [ht] at hB1
    obtain ⟨hP', hD'⟩ := g_two hP hD hS isC isR hC hRr hn9 hnR hdis (ha u) hk1 hB1
    exact kk r u hp H1 locs1 ls hP' hD' hS' hl
theorem g_callXv {y : MethodName} {wy wy' : List Cond} {rm : Room} {W00 W0 wr : va_W} {S : Type} {res : Except String S} {W1 : S → va_W} {b : Nat} {As st : List Value} {n index maxL : Nat} {bytes : ByteArray} {ret' : Option FieldType} {pc' : Nat} {hh : List (Nat × Nat × Nat × Nat)} (C : gC p s m args meth c cc nL own Ts D tys ret (va_A W00 s.heap.size)) (htab : c.exceptionTable.toList = tableOf hh) (hX : gX s) (hZ : gZ (va_A W00 s.heap.size) s s.heap)
    (hM : gXv l y wy rm D tys (.ref b :: As) W0 res W1) {q0 ci : Nat} {fs : List Value} {T : u_T} {N : Nat} {C' : String} (he : ws[q0]? = some (b, .inr (ci, fs))) (hc : vwCl[ci]? = some (C', T, N)) (g : GoodIn Ts (wsV own index C' y wy)) (hcl : y.cls = C') (hd : gY y n) (hw : wy = Cond.code y bytes maxL ret' :: wy') (hrm : rm.cells = 1 ∧ rm.slots = 6) (hR : gRm rm R maxL) (hn : As.length = n)
    (isC isR : List Nat) (hC : isC.map (fun i => ws[i]?) = W0.map some) (hRr : isR.map (fun i => ws[i]?) = wr.map some) (hws : ws = wr ++ W0) (hn9 : va_nd isC = true) (hnR : va_nd isR = true) (hdis : ∀ i ∈ isR, i ∉ isC) (ha : ∀ u, addr (W1 u) = addr W0) (hst : st = As.reverse ++ .ref b :: rest) (hcat : (rest.map fun v => v.category).sum ≤ 8) (hdg : decode cc pc = .ok (.invokevirtual index, 3)) (hpc : pc + 3 = pc') (hcs : cells + 1 ≤ R.cells ∧ slots + 6 ≤ R.slots)
    (kx : ∀ E, res = .error E → ∃ tgt, gRow own Ts hh pc E tgt ∧ ∀ q9 : Nat, gG p l e R s m args below meth c (cells + 1) (slots + 6) D (va_A W00 s.heap.size) (va_A W00 s.heap.size) nL Q ws tgt L [.ref q9])
    (kk : ∀ (u : S), res = .ok u → gG p l e R s m args below meth c (cells + 1) (slots + 6) D (va_A W00 s.heap.size) (va_A W00 s.heap.size) nL Q (wr ++ W1 u) pc' L rest) : gG p l e R s m args below meth c cells slots D (va_A W00 s.heap.size) (va_A W00 s.heap.size) nL Q ws pc L st := by
  subst hpc
  subst hst
  intro H locs ls hP hD hS hl
  have hF := va_free hD hS (fun q h => Or.inr h) isC hC
  refine vx_callv (vx_runV (g_sz C) (hM H.size) (cwV n C.2.2.2.2.1 g hw hrm.1 hrm.2 ⟨hcl, hd.1, hd.2.1, hd.2.2⟩ hR) (g_preX C hX hZ hP hD hS isC hC hn9 hc he) rfl hn hl.1 rfl (g_room hcat) hdg hcs) hS (fun q _ h => hF q h) hF (fun q _ h => hF q h) ?_ ?_
  · intro E ce q9 u t H1 locs1 ht hvm hp hB hz1 hk1 hS' hce hcv hcl9
    obtain ⟨hE, hB1⟩ := hB
    rw [ht] at hB1
    obtain ⟨hP', hD'⟩ := g_two hP hD hS isC isR hC hRr hn9 hnR hdis rfl hk1 hB1
    rw [← hws] at hP' hD'
    obtain ⟨tgt, ⟨hEx, pre, x, suf, h1, h2, h3, h4, h5, h6⟩, k9⟩ := kx E hE
    refine vx_catch (name := E) C.2.2.2.1 pre x suf (htab.trans h1) (fun z hz => ?_) h3 h4 (C.2.2.2.2.1 _ h5) (hX.1 E hEx).use hce hcv hcl9 ?_
    · obtain ⟨T9, e1, e2, e3, e4⟩ := h2 z hz
      exact Or.inr ⟨e3, T9, C.2.2.2.2.1 _ e4, hX.2.1 E hEx T9 e1 e2⟩
    · rw [h6]
      exact k9 q9 H1 locs1 ls hP' hD' hS' hl
  · intro u t H1 locs1 ht hvm hp hB hz1 hk1 hS'
    have hB1 : va_P D vwCl (W1 u) t.heap := hB
    rw [ht] at hB1
    obtain ⟨hP', hD'⟩ := g_two hP hD hS isC isR hC hRr hn9 hnR hdis (ha u) hk1 hB1
    exact kk u hp H1 locs1 ls hP' hD' hS' hl
end gWrap
