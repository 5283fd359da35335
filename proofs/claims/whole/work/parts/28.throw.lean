/-! PART 06: contracts that return or throw -/
def qsel (a b : Nat) : Nat → Nat
  | 0 => a
  | _ + 1 => b
theorem lk_out2 {x : Int32} (a b d : Int) (h0 : ¬ x = 0) (h1 : ¬ x = 1) : Op.lookupswitch.offset [(0, a), (1, b)] d x.toInt = d := by
  have e : ∀ v : Int, x.toInt = v → x = Int32.ofInt v := fun v hv => by rw [← hv, Int32.ofInt_toInt]
  rw [Op.lookupswitch.offset_cons, if_neg (fun z => h0 ((e 0 z.symm).trans (by decide))), Op.lookupswitch.offset_cons, if_neg (fun z => h1 ((e 1 z.symm).trans (by decide)))]
  rfl
def gCa (C T : String) (U : State) : Prop := ∃ c t : ClassId, U.vm.findClass C = some c ∧ U.vm.findClass T = some t ∧ U.vm.assignable c t = true
theorem gCa.moved {C T : String} {u U : State} (hvm : u.vm.Alike U.vm) (h : gCa C T u) : gCa C T U := by
  obtain ⟨c, t, h1, h2, h3⟩ := h
  exact ⟨c, t, by rw [hvm.findClass]; exact h1, by rw [hvm.findClass]; exact h2, by rw [hvm.assignable]; exact h3⟩
theorem gCa.use {C T : String} {U : State} {A : Array Value} (h : gCa C T U) : (Cond.castable C T).before A U = true := by
  obtain ⟨c, t, h1, h2, h3⟩ := h
  simp [Cond.before, Cond.holds, Cond.value, h1, h2, h3]
theorem gCa.of {C T : String} {U : State} {A : Array Value} (h : (Cond.castable C T).before A U = true) : gCa C T U := by
  simp only [Cond.before, Cond.holds, Cond.value] at h
  cases h1 : U.vm.findClass C with
  | none => simp [h1] at h
  | some c =>
    cases h2 : U.vm.findClass T with
    | none => simp [h1, h2] at h
    | some t =>
      simp [h1, h2] at h
      exact ⟨c, t, h1, h2, h⟩
abbrev xIA : String := "java/lang/IllegalArgumentException"
abbrev xIS : String := "java/lang/IllegalStateException"
abbrev xNS : String := "java/util/NoSuchElementException"
abbrev xUO : String := "java/lang/UnsupportedOperationException"
abbrev xAll : List String := [xIA, xIS, xNS, xUO]
abbrev xUp : List Cond := [.declares (Bundle.init0 "java/lang/RuntimeException"), .declares (Bundle.init0 "java/lang/Exception"), .declares (Bundle.init0 Bundle.tN)]
theorem gDe.moved {x : MethodName} {u U : State} (hvm : u.vm.Alike U.vm) (hZ : va_Nw (.declares x) u) : va_Nw (.declares x) U := va_tabs rfl (rfl : (u.setVm U.vm).vm = U.vm) (by rw [Cond.declares_setVm hvm]; exact hZ)
def gX (U : State) : Prop := (∀ E ∈ xAll, gCa E E U) ∧ (∀ E ∈ xAll, ∀ T ∈ xAll, E ≠ T → va_Nc E T U) ∧ ∀ w ∈ xUp, va_Nw w U
theorem gX.moved {u U : State} (hvm : u.vm.Alike U.vm) (h : gX u) : gX U := ⟨fun E hE => (h.1 E hE).moved hvm, fun E hE T hT hn => (h.2.1 E hE T hT hn).moved hvm, fun w hw => by
  have h9 := h.2.2 w hw
  simp only [xUp, List.mem_cons, List.not_mem_nil, or_false] at hw
  rcases hw with rfl | rfl | rfl <;> exact gDe.moved hvm h9⟩
def gZ (A : Nat → Prop) (U : State) (H : Heap) : Prop := vx_Zq Bundle.tN "UNASSIGNED_STACK" Bundle.steD A U H ∧ vx_Zq Bundle.tN "SUPPRESSED_SENTINEL" Bundle.listD A U H
theorem gZ.moved {A : Nat → Prop} {u U : State} {H : Heap} (hvm : u.vm.Alike U.vm) (h : gZ A u H) : gZ A U H := ⟨h.1.moved hvm, h.2.moved hvm⟩
theorem gZ.kept {A : Nat → Prop} {U : State} {H H1 : Heap} (h : gZ A U H) (hq : ∀ a : Nat, a < H.size → ¬ A a → H1[a]? = H[a]?) : gZ A U H1 := ⟨h.1.kept hq, h.2.kept hq⟩
theorem gZ.narrow {A B : Nat → Prop} {U : State} {H : Heap} (h : gZ A U H) (hAB : ∀ q, B q → A q) : gZ B U H := ⟨h.1.narrow hAB, h.2.narrow hAB⟩
def gPX (D : va_G) (tys : List (ClassId × FieldType)) (W0 : va_W) (sz : Nat) : State → Prop := fun U => gP D tys W0 sz U ∧ gX U ∧ gZ (va_A W0 sz) U U.heap
theorem gPX_blind {av : List Value} {D : va_G} {tys : List (ClassId × FieldType)} {W0 : va_W} {sz : Nat} : FrameBlind (va_Pc av (gPX D tys W0 sz)) := fun a U g mk q => ⟨q.1, (gP_blind a U g mk ⟨q.1, q.2.1⟩).2, gX.moved (u := U) (U := U.calling g mk a) (Vm.Alike.refl U.vm) q.2.2.1, gZ.moved (u := U) (U := U.calling g mk a) (Vm.Alike.refl U.vm) q.2.2.2⟩
/-- thrown: the class as the function says, the world as it was -/
def gXC (D : va_G) (W0 : va_W) (sz : Nat) (P : String → Prop) : String → State → State → Prop := vx_X (fun _ : Unit => True) (fun E _ t => P E ∧ va_P D vwCl W0 t.heap) (va_A W0 sz)
def gXQi {S : Type} (D : va_G) (W0 : va_W) (sz : Nat) (P : Int32 → S → Prop) (W1 : S → va_W) : Array Value → State → Outcome → State → Prop := va_Qi P (fun u t => va_P D vwCl (W1 u) t.heap) (va_A W0 sz)
def gXQl {S : Type} (D : va_G) (W0 : va_W) (sz : Nat) (P : Int64 → S → Prop) (W1 : S → va_W) : Array Value → State → Outcome → State → Prop := va_Ql P (fun u t => va_P D vwCl (W1 u) t.heap) (va_A W0 sz)
def gXQv {S : Type} (D : va_G) (W0 : va_W) (sz : Nat) (P : S → Prop) (W1 : S → va_W) : Array Value → State → Outcome → State → Prop := va_Qv P (fun u t => va_P D vwCl (W1 u) t.heap) (va_A W0 sz)
def gXi {S : Type} (l : Launch) (y : MethodName) (wy : List Cond) (rm : Room) (D : va_G) (tys : List (ClassId × FieldType)) (av : List Value) (W0 : va_W) (res : Except String (Int32 × S)) (W1 : S → va_W) : Prop := ∀ sz, vx_Met l y wy rm (va_Pc av (gPX D tys W0 sz)) (gXQi D W0 sz (fun r u => res = .ok (r, u)) W1) (gXC D W0 sz (fun E => res = .error E)) 1 6 (va_A W0 sz)
def gXl {S : Type} (l : Launch) (y : MethodName) (wy : List Cond) (rm : Room) (D : va_G) (tys : List (ClassId × FieldType)) (av : List Value) (W0 : va_W) (res : Except String (Int64 × S)) (W1 : S → va_W) : Prop := ∀ sz, vx_Met l y wy rm (va_Pc av (gPX D tys W0 sz)) (gXQl D W0 sz (fun r u => res = .ok (r, u)) W1) (gXC D W0 sz (fun E => res = .error E)) 1 6 (va_A W0 sz)
def gXv {S : Type} (l : Launch) (y : MethodName) (wy : List Cond) (rm : Room) (D : va_G) (tys : List (ClassId × FieldType)) (av : List Value) (W0 : va_W) (res : Except String S) (W1 : S → va_W) : Prop := ∀ sz, vx_Met l y wy rm (va_Pc av (gPX D tys W0 sz)) (gXQv D W0 sz (fun u => res = .ok u) W1) (gXC D W0 sz (fun E => res = .error E)) 1 6 (va_A W0 sz)
theorem g_enterX {l : Launch} {y : MethodName} {wy wy' : List Cond} {rm : Room} {D : va_G} {tys : List (ClassId × FieldType)} {av : List Value} {W0 : va_W} {Qc : Nat → Array Value → State → Outcome → State → Prop} {XC : Nat → String → State → State → Prop} {cc : ByteArray} {maxL : Nat} {ret : Option FieldType} {L : List (Nat × Value)} {own : String} (hown9 : y.cls = own) (hy : plainName y.cls = true) (hw : wy = Cond.code y cc maxL ret :: wy') (hlen : (lg_sl av).length ≤ maxL) (hL : lv_args 0 av = L)
    (body : ∀ (p : Program) (e : Env) (s : State) (m : MethodId) (args : Array Value) (below : List Frame) (meth : Method) (c : Code), gC p s m args meth c cc maxL own wy D tys ret (va_A W0 s.heap.size) → (∀ x ∈ c.exceptionTable.toList, False) → gX s → gZ (va_A W0 s.heap.size) s s.heap → gG p l e (headSpec wy rm).room s m args below meth c 0 0 D (va_A W0 s.heap.size) (va_A W0 s.heap.size) maxL (vx_MQ below (Qc s.heap.size) (XC s.heap.size) args s 1 6 (va_A W0 s.heap.size)) W0 0 L []) :
    ∀ sz, vx_Met l y wy rm (va_Pc av (gPX D tys W0 sz)) (Qc sz) (XC sz) 1 6 (va_A W0 sz) := by
  intro sz
  refine vx_ofW (cc := cc) (maxL := maxL) (ret := ret) hy hw ?_
  intro p e s m args below meth c s₁ B hml htab hv
  obtain ⟨rfl, ⟨hsz, hP, hK, hD0, hN⟩, hX, hZ⟩ := hv
  subst hown9
  subst hsz
  have hx := B.exec
  have hts := atoms_spec (ws := wy) B.pre
  have hown : s.vm.findClass y.cls = some m.cls := findClass_of_methodNamed B.named
  have hl := lv_entry av hlen
  rw [lg_entry_eq]
  generalize (lg_sl av ++ List.replicate (maxL - (lg_sl av).length) Slot.unset).toArray = ls at hl ⊢
  rw [hL] at hl
  exact body p e s m _ below meth c ⟨hx, B.bytes, hml, hown, hts, hK, B.returns, B.notSynchronized, hN⟩ htab hX hZ s.heap [] ls hP hD0.self va_S.rf hl
section gXEnds
variable {p : Program} {l : Launch} {e : Env} {R : Room} {s : State} {m : MethodId} {args : Array Value} {below : List Frame} {meth : Method} {c : Code} {D : va_G} {AD AS : Nat → Prop} {nL : Nat} {Q : State → Prop} {ws : va_W} {L : List (Nat × Value)} {rest : List Value}
variable {cc : ByteArray} {own : String} {Ts : List Cond} {tys : List (ClassId × FieldType)} {ret : Option FieldType} {pc : Nat} {S : Type} {XC : String → State → State → Prop}
theorem g_iretX {W0 : va_W} {W1 : S → va_W} {P : Int32 → S → Prop} {v : Int32} (u : S) (C : gC p s m args meth c cc nL own Ts D tys (some .int) (va_A W0 s.heap.size)) (hp : P v u) (hW : ws = W1 u) (hdg : decode cc pc = .ok (.ireturn, 1)) : gG p l e R s m args below meth c 0 0 D AD (va_A W0 s.heap.size) nL (vx_MQ below (gXQi D W0 s.heap.size P W1) XC args s 1 6 (va_A W0 s.heap.size)) ws pc L [.int v] := by
  subst hW
  exact fun H locs ls hP hD hS hl => W.widen (k := 1) (n := 6) (by omega) (by omega) (vx_ret (W.iret C.1 C.2.1 C.2.2.2.2.2.2.1 (fun t ht hW => ⟨⟨v, u, rfl, hp, g_w hP ht⟩, hS.F ht⟩) hS.2.2 hdg C.2.2.2.2.2.2.2.1))
theorem g_zretX {W0 : va_W} {W1 : S → va_W} {P : Int32 → S → Prop} {v : Int32} (u : S) (C : gC p s m args meth c cc nL own Ts D tys (some .boolean) (va_A W0 s.heap.size)) (hz : narrow .boolean (.int v) = .int v) (hp : P v u) (hW : ws = W1 u) (hdg : decode cc pc = .ok (.ireturn, 1)) : gG p l e R s m args below meth c 0 0 D AD (va_A W0 s.heap.size) nL (vx_MQ below (gXQi D W0 s.heap.size P W1) XC args s 1 6 (va_A W0 s.heap.size)) ws pc L [.int v] := by
  subst hW
  exact fun H locs ls hP hD hS hl => W.widen (k := 1) (n := 6) (by omega) (by omega) (vx_ret (W.zret C.1 C.2.1 C.2.2.2.2.2.2.1 hz (fun t ht hW => ⟨⟨v, u, rfl, hp, g_w hP ht⟩, hS.F ht⟩) hS.2.2 hdg C.2.2.2.2.2.2.2.1))
theorem g_lretX {W0 : va_W} {W1 : S → va_W} {P : Int64 → S → Prop} {v : Int64} (u : S) (C : gC p s m args meth c cc nL own Ts D tys (some .long) (va_A W0 s.heap.size)) (hp : P v u) (hW : ws = W1 u) (hdg : decode cc pc = .ok (.lreturn, 1)) : gG p l e R s m args below meth c 0 0 D AD (va_A W0 s.heap.size) nL (vx_MQ below (gXQl D W0 s.heap.size P W1) XC args s 1 6 (va_A W0 s.heap.size)) ws pc L [.long v] := by
  subst hW
  exact fun H locs ls hP hD hS hl => W.widen (k := 1) (n := 6) (by omega) (by omega) (vx_ret (W.lret C.1 C.2.1 C.2.2.2.2.2.2.1 (fun t ht hW => ⟨⟨v, u, rfl, hp, g_w hP ht⟩, hS.F ht⟩) hS.2.2 hdg C.2.2.2.2.2.2.2.1))
theorem g_vretX {W0 : va_W} {W1 : S → va_W} {P : S → Prop} (u : S) (C : gC p s m args meth c cc nL own Ts D tys none (va_A W0 s.heap.size)) (hp : P u) (hW : ws = W1 u) (hdg : decode cc pc = .ok (.return_, 1)) : gG p l e R s m args below meth c 0 0 D AD (va_A W0 s.heap.size) nL (vx_MQ below (gXQv D W0 s.heap.size P W1) XC args s 1 6 (va_A W0 s.heap.size)) ws pc L [] := by
  subst hW
  exact fun H locs ls hP hD hS hl => W.widen (k := 1) (n := 6) (by omega) (by omega) (vx_ret (W.vret C.1 C.2.1 C.2.2.2.2.2.2.1 (fun t ht hW => ⟨⟨u, rfl, hp, g_w hP ht⟩, hS.F ht⟩) hS.2.2 hdg C.2.2.2.2.2.2.2.1))
/-- new E(); throw: the world as it was at the entry -/
theorem g_throw {W0 : va_W} {P : String → Prop} {Qc : Array Value → State → Outcome → State → Prop} {cls : String} {ik ic : Nat} {p3 p4 p7 : Nat} (C : gC p s m args meth c cc nL own Ts D tys ret (va_A W0 s.heap.size)) (htab : ∀ x ∈ c.exceptionTable.toList, False) (hX : gX s) (hZ : gZ (va_A W0 s.heap.size) s s.heap) (hl : l.stackTraces = false)
    (hE : cls ∈ xAll) (hcls : Bundle.fit cls = true) (hk : Cond.classLink own ik cls ∈ Ts) (hini : Cond.initialized cls ∈ Ts)
    (hat : ∀ w ∈ (vx_at0 own ic cls ["java/lang/RuntimeException", "java/lang/Exception"]).filter goodWord, w ∈ Ts) (hbad : ∀ w ∈ (vx_at0 own ic cls ["java/lang/RuntimeException", "java/lang/Exception"]).filter (fun w => !goodWord w), w ∈ Cond.castable cls cls :: xUp)
    (hgood : ∀ w ∈ Cond.classLink own ik cls :: Cond.initialized cls :: vx_at0 own ic cls ["java/lang/RuntimeException", "java/lang/Exception"], vx_ot w = true)
    (hp : P cls) (hW : ws = W0) (d0 : decode cc pc = .ok (.new ik, 3)) (d3 : decode cc p3 = .ok (.dup, 1)) (d4 : decode cc p4 = .ok (.invokespecial ic, 3)) (d7 : decode cc p7 = .ok (.athrow, 1)) (e3 : pc + 3 = p3) (e4 : pc + 4 = p4) (e7 : pc + 7 = p7)
    (hRf : 5 < R.frames) (hRl : (rest.map fun v => v.category).sum + 81 ≤ R.locals) (hRc : 1 ≤ R.cells) (hRs : 6 ≤ R.slots) : gG p l e R s m args below meth c 0 0 D AD (va_A W0 s.heap.size) nL (vx_MQ below Qc (gXC D W0 s.heap.size P) args s 1 6 (va_A W0 s.heap.size)) ws pc L rest := by
  subst hW; subst e3; subst e4; subst e7
  intro H locs ls hP hD hS hl9
  refine vx_throw0 C.1 C.2.1 hl C.2.2.2.1 hcls (by decide) (C.2.2.2.2.1 _ hk) (C.2.2.2.2.1 _ hini) (vx_hat (B := Cond.castable cls cls :: xUp) (fun w hw => C.2.2.2.2.1 _ (hat w hw)) hbad (fun w hw => (List.mem_cons.mp hw).elim (fun e9 => by rw [e9]; exact (hX.1 cls hE).use) (fun h9 => by
    have h8 := hX.2.2 w h9
    simp only [xUp, List.mem_cons, List.not_mem_nil, or_false] at h9
    rcases h9 with rfl | rfl | rfl <;> exact va_Nw.use rfl h8))) hgood hZ.1 hZ.2 hS (hl9.1.trans C.2.2.1.symm) d0 d3 d4 d7 (fun x hx => (htab x hx).elim) hRf hRl (by omega) (by omega) C.2.2.2.2.2.2.2.1 (fun t ht h1 h2 => ⟨(), trivial, ⟨hp, hP.kept (fun k q hk => h2 q.1 (hP k q hk).lt)⟩, ⟨Nat.le_trans hS.1 h1, fun q hq hn => by rw [h2 q (Nat.lt_of_lt_of_le hq hS.1)]; exact hS.2.1 q hq hn⟩⟩) hS.2.2 (Nat.le_refl _) (Nat.le_refl _)
end gXEnds
