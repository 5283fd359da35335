/-! PART 85: constructors: rules, and the small ones -/
def gQI {S : Type} (D : va_G) (W0 : va_W) (sz : Nat) (W1 : S → va_W) : Array Value → State → Outcome → State → Prop := va_Qv (fun _ : S => True) (fun u t => va_P D vwCl (W1 u) t.heap ∧ va_D (va_A W0 sz) (W1 u)) (va_A W0 sz)
def gNv {S : Type} (l : Launch) (y : MethodName) (wy : List Cond) (rm : Room) (D : va_G) (tys : List (ClassId × FieldType)) (av : List Value) (W0 : va_W) (W1 : S → va_W) (mc ms : Nat) : Prop := ∀ sz, Met l y wy rm (va_Pc av (gP D tys W0 sz)) (gQI D W0 sz W1) mc ms (va_A W0 sz)
theorem g_enterI {l : Launch} {y : MethodName} {wy wy' : List Cond} {rm : Room} {D : va_G} {tys : List (ClassId × FieldType)} {av : List Value} {W0 : va_W} {S : Type} {W1 : S → va_W} {mc ms : Nat} {cc : ByteArray} {maxL : Nat} {ret : Option FieldType} {L : List (Nat × Value)} {own : String} (hown9 : y.cls = own) (hyn : y.name = "<init>") (hy : plainName y.cls = true) (hw : wy = Cond.code y cc maxL ret :: wy') (hlen : (lg_sl av).length ≤ maxL) (hL : lv_args 0 av = L)
    (body : ∀ (p : Program) (e : Env) (s : State) (m : MethodId) (args : Array Value) (below : List Frame) (meth : Method) (c : Code), gC p s m args meth c cc maxL own wy D tys ret (va_A W0 s.heap.size) → meth.name = "<init>" → gG p l e (headSpec wy rm).room s m args below meth c 0 0 D (va_A W0 s.heap.size) (va_A W0 s.heap.size) maxL (MQ below (gQI D W0 s.heap.size W1) args s mc ms (va_A W0 s.heap.size)) W0 0 L []) :
    gNv l y wy rm D tys av W0 W1 mc ms := by
  intro sz
  refine Met.ofW (cc := cc) (maxL := maxL) (ret := ret) hy hw ?_
  intro p e s m args below meth c s₁ B hml hv
  obtain ⟨rfl, hsz, hP, hK, hD0, hN⟩ := hv
  subst hown9
  subst hsz
  have hx := B.exec
  have hts := atoms_spec (ws := wy) B.pre
  have hown : s.vm.findClass y.cls = some m.cls := findClass_of_methodNamed B.named
  have hin : meth.name = "<init>" := (name_of_methodNamed B.named B.method).1.trans hyn
  have hl := lv_entry av hlen
  rw [lg_entry_eq]
  generalize (lg_sl av ++ List.replicate (maxL - (lg_sl av).length) Slot.unset).toArray = ls at hl ⊢
  rw [hL] at hl
  exact body p e s m _ below meth c ⟨hx, B.bytes, hml, hown, hts, hK, B.returns, B.notSynchronized, hN⟩ hin s.heap [] ls hP hD0.self va_S.rf hl
section gInit
variable {p : Program} {l : Launch} {e : Env} {R : Room} {s : State} {m : MethodId} {args : Array Value} {below : List Frame} {meth : Method} {c : Code} {cells slots : Nat} {D : va_G} {AD AS : Nat → Prop} {nL : Nat} {Q : State → Prop} {ws : va_W} {L : List (Nat × Value)} {rest : List Value}
variable {cc : ByteArray} {own : String} {Ts : List Cond} {tys : List (ClassId × FieldType)} {ret : Option FieldType} {pc : Nat}
theorem g_vretI {W00 : va_W} {S : Type} {W1 : S → va_W} {mc ms : Nat} (u : S) (is : List Nat) (C : gC p s m args meth c cc nL own Ts D tys none (va_A W00 s.heap.size)) (h1 : is.filterMap (fun i => ws[i]?) = W1 u) (h2 : is.map (fun i => ws[i]?) = (W1 u).map some) (hn : va_nd is = true) (hk : cells ≤ mc) (hm : slots ≤ ms) (hdg : decode cc pc = .ok (.return_, 1)) :
    gG p l e R s m args below meth c cells slots D (va_A W00 s.heap.size) (va_A W00 s.heap.size) nL (MQ below (gQI D W00 s.heap.size W1) args s mc ms (va_A W00 s.heap.size)) ws pc L [] :=
  fun H locs ls hP hD hS hl => W.widen (k := mc) (n := ms) hk hm (W.vret C.1 C.2.1 C.2.2.2.2.2.2.1 (fun t ht hW => ⟨⟨u, rfl, trivial, g_w (hP.sub is h1) ht, hD.sub is hn h2⟩, hS.F ht⟩) hS.2.2 hdg C.2.2.2.2.2.2.2.1)
theorem g_objI {idx : Nat} {a : Nat} {pc' : Nat} (C : gC p s m args meth c cc nL own Ts D tys ret AS) (hlink : Cond.methodLink own idx Lib.objectInit ∈ Ts) (hin : Cond.instanceMethod Lib.objectInit ∈ Ts) (hcd : Cond.code Lib.objectInit ⟨#[0xb1]⟩ 1 none ∈ Ts) (hdg : decode cc pc = .ok (.invokespecial idx, 3)) (hpc : pc + 3 = pc') (hf : 1 ≤ R.frames) (hlo : (rest.map fun v => v.category).sum + 12 ≤ R.locals)
    (kk : gG p l e R s m args below meth c cells slots D AD AS nL Q ws pc' L rest) : gG p l e R s m args below meth c cells slots D AD AS nL Q ws pc L (.ref a :: rest) := by
  subst hpc
  exact fun H locs ls hP hD hS hl => W.objInit C.1 C.2.1 C.2.2.2.1 (C.2.2.2.2.1 _ hlink) (C.2.2.2.2.1 _ hin) (C.2.2.2.2.1 _ hcd) rfl (hl.1.trans C.2.2.1.symm) rfl hdg hf (by show 2 * 0 + _ + 12 ≤ _; omega) (kk H locs ls hP hD hS hl)
theorem g_max {idx : Nat} {x y : Int32} {pc' : Nat} (C : gC p s m args meth c cc nL own Ts D tys ret AS) (hlink : Cond.methodLink own idx Lib.Math.max.name ∈ Ts) (hst : Cond.static Lib.Math.max.name ∈ Ts) (hini : Cond.initialized "java/lang/Math" ∈ Ts) (hcd : Cond.code Lib.Math.max.name Lib.Math.max.code 2 (some .int) ∈ Ts) (hdg : decode cc pc = .ok (.invokestatic idx, 3)) (hpc : pc + 3 = pc') (hf : 1 ≤ R.frames) (hlo : (rest.map fun v => v.category).sum + 13 ≤ R.locals) (hc : cells ≤ R.cells) (hs : slots ≤ R.slots)
    (kk : gG p l e R s m args below meth c cells slots D AD AS nL Q ws pc' L (.int (if x < y then y else x) :: rest)) : gG p l e R s m args below meth c cells slots D AD AS nL Q ws pc L (.int y :: .int x :: rest) := by
  subst hpc
  exact fun H locs ls hP hD hS hl => va_mmax C.1 C.2.1 (C.2.2.1.trans hl.1.symm) C.2.2.2.1 (C.2.2.2.2.1 _ hlink) (C.2.2.2.2.1 _ hst) (C.2.2.2.2.1 _ hini) (C.2.2.2.2.1 _ hcd) hf hlo hc hs hdg (kk H locs ls hP hD hS hl)
theorem g_newo {C' : String} {T : u_T} {N ci index : Nat} {W00 : va_W} {pc' : Nat} (C : gC p s m args meth c cc nL own Ts D tys ret (va_A W00 s.heap.size)) (hin : ∀ w ∈ u_ws C' T N, w ∈ Ts) (ty : Nat → FieldType) (hty : ∀ k, k < N → parseFieldDescriptor (T k).2.2.1 = some (ty k)) (hcl : Cond.classLink own index C' ∈ Ts) (hinst : Cond.instantiable C' N ∈ Ts) (hini : Cond.initialized C' ∈ Ts) (hc : vwCl[ci]? = some (C', T, N)) (fs : List Value) (hfs : ∀ j, j < N → defaultValue (ty j) = vp_V fs j)
    (hcells : cells + 1 ≤ R.cells) (hslots : slots + N ≤ R.slots) (hdg : decode cc pc = .ok (.new index, 3)) (hpc : pc + 3 = pc')
    (kk : ∀ q : Nat, gG p l e R s m args below meth c (cells + 1) (slots + N) D (va_A W00 s.heap.size) (va_A W00 s.heap.size) nL Q (ws ++ [(q, .inr (ci, fs))]) pc' L (.ref q :: rest)) : gG p l e R s m args below meth c cells slots D (va_A W00 s.heap.size) (va_A W00 s.heap.size) nL Q ws pc L rest := by
  subst hpc
  exact fun H locs ls hP hD hS hl => va_new C.1 C.2.1 C.2.2.2.2.1 hin ty hty C.2.2.2.1 (C.2.2.2.2.1 _ hcl) (C.2.2.2.2.1 _ hinst) (C.2.2.2.2.1 _ hini) C.2.2.2.2.2.1 hP hD hS (fun q h => Or.inr h) hc hfs hcells hslots hdg (fun q H1 hP1 hD1 hS1 => kk q H1 locs ls hP1 hD1 hS1 hl)
theorem g_newr {atype : ArrayType} {ty : FieldType} {cA : ClassId} {N' : Nat} {W00 : va_W} {n : Int32} {pc' : Nat} (t0 : Nat) (a0 : vp_A) (C : gC p s m args meth c cc nL own Ts D tys ret (va_A W00 s.heap.size)) (harr : Cond.arrayClass (newarray.typeOf atype) ∈ Ts) (hty : newarray.typeOf atype = ty) (ht : tys[t0]? = some (cA, ty)) (huni : ∀ c', va_RA s cA ty → va_RA s c' ty → cA = c') (ha : ∀ cA : ClassId, vp_cell cA a0 = arrV cA N' (fun _ => defaultValue ty)) (hn : ¬ n < 0) (hN : n.toNatClampNeg = N') (hbytes : N' * componentBytes ty ≤ 536870912)
    (hcells : cells + 1 ≤ R.cells) (hslots : slots + N' ≤ R.slots) (hdg : decode cc pc = .ok (.newarray atype, 2)) (hpc : pc + 2 = pc')
    (kk : ∀ q : Nat, gG p l e R s m args below meth c (cells + 1) (slots + N') D (va_A W00 s.heap.size) (va_A W00 s.heap.size) nL Q (ws ++ [(q, .inl (cA, a0))]) pc' L (.ref q :: rest)) : gG p l e R s m args below meth c cells slots D (va_A W00 s.heap.size) (va_A W00 s.heap.size) nL Q ws pc L (.int n :: rest) := by
  subst hpc
  refine fun H locs ls hP hD hS hl => va_newa C.1 C.2.1 (C.2.2.2.2.1 _ harr) hty C.2.2.2.2.2.1 hP hD hS (fun q h => Or.inr h) ha hn hN hbytes hcells hslots hdg (fun q cA' H1 hK1 hP1 hD1 hS1 => ?_)
  have e1 : va_RA s cA ty := (C.2.2.2.2.2.1.2 t0 _ ht).2
  have e2 : va_RA s cA' ty := (hK1.2 tys.length (cA', ty) (by simp)).2
  have e3 := huni cA' e1 e2
  subst e3
  exact kk q H1 locs ls hP1 hD1 hS1 hl
theorem g_putfF (C : gC p s m args meth c cc nL own Ts D tys ret AS) {C' ref : String} {T : u_T} {N ci index : Nat} (q0 : Nat) {a : Nat} {fs : List Value} {v : Value} (k : Nat) {ty : FieldType} {ws' : va_W} {pc' : Nat} (ty0 : Nat → FieldType) (hty : ∀ k, k < N → parseFieldDescriptor (T k).2.2.1 = some (ty0 k)) (hnm : ∀ a, a < N → ∀ b, b < N → a ≠ b → (T a).2.1 ≠ (T b).2.1) (hin : ∀ w ∈ u_ws C' T N, w ∈ Ts) (he : ws[q0]? = some (a, .inr (ci, fs))) (hc : vwCl[ci]? = some (C', T, N)) (hk : k < N) (hlink : Cond.fieldLink own index ref (T k).2.1 (T k).2.2.1 ∈ Ts) (hsame : (T k).1 = ref) (hfin : (T k).2.2.2 = true) (hin2 : meth.name = "<init>") (hdecl : (T k).1 = own) (hd : parseFieldDescriptor (T k).2.2.1 = some ty) (hn : narrow ty v = v) (hfit : fits ty v = true) (hl9 : k < fs.length) (hW : ws.set q0 (a, .inr (ci, fs.set k v)) = ws') (hdg : decode cc pc = .ok (.putfield index, 3)) (hpc : pc + 3 = pc') (kk : gG p l e R s m args below meth c cells slots D AS AS nL Q ws' pc' L rest) : gG p l e R s m args below meth c cells slots D AS AS nL Q ws pc L (v :: .ref a :: rest) := by
  subst hpc
  subst hsame
  subst hW
  exact fun H locs ls hP hD hS hl => va_putF C.1 C.2.1 C.2.2.2.2.1 hin ty0 hty hnm C.2.2.2.1 C.2.2.2.2.2.1 hP hD hS q0 he hc k hk (C.2.2.2.2.1 _ hlink) (fun _ h9 => h9) hfin hin2 hdecl hd hn hfit hl9 hdg (fun H1 locs1 hP1 hD1 hS1 => kk H1 locs1 ls hP1 hD1 hS1 hl)
theorem g_ini {y : MethodName} {wy wy' : List Cond} {rm : Room} {W00 W0 wr : va_W} {S : Type} {W1 : S → va_W} {b : Nat} {As st : List Value} {n index maxL : Nat} {bytes : ByteArray} {pc' mc ms : Nat} (C : gC p s m args meth c cc nL own Ts D tys ret (va_A W00 s.heap.size)) (hM : gNv l y wy rm D tys (.ref b :: As) W0 W1 mc ms) (g : GoodIn Ts wy) (hlink : Cond.methodLink own index y ∈ Ts) (him : Cond.instanceMethod y ∈ Ts) (hi9 : Cond.initialized y.cls ∈ Ts) (hy1 : y.name = "<init>") (hd : gY y n) (hw : wy = Cond.code y bytes maxL none :: wy') (hrm : rm.cells = mc ∧ rm.slots = ms) (hR : gRm rm R maxL) (hn : As.length = n)
    (isC isR : List Nat) (hC : isC.map (fun i => ws[i]?) = W0.map some) (hRr : isR.map (fun i => ws[i]?) = wr.map some) (hn9 : va_nd isC = true) (hnR : va_nd isR = true) (hdis : ∀ i ∈ isR, i ∉ isC) (hst : st = As.reverse ++ .ref b :: rest) (hcat : (rest.map fun v => v.category).sum ≤ 8) (hdg : decode cc pc = .ok (.invokespecial index, 3)) (hpc : pc + 3 = pc') (hcs : cells + mc ≤ R.cells ∧ slots + ms ≤ R.slots)
    (kk : ∀ u : S, gG p l e R s m args below meth c (cells + mc) (slots + ms) D (va_A W00 s.heap.size) (va_A W00 s.heap.size) nL Q (wr ++ W1 u) pc' L rest) : gG p l e R s m args below meth c cells slots D (va_A W00 s.heap.size) (va_A W00 s.heap.size) nL Q ws pc L st := by
  subst hpc
  subst hst
  intro H locs ls hP hD hS hl
  have hF := va_free hD hS (fun q h => Or.inr h) isC hC
  refine va_callv (va_runI (g_sz C) (hM H.size) (cwI n C.2.2.2.2.1 g hw hrm.1 hrm.2 (C.2.2.2.2.1 _ hi9) (C.2.2.2.2.1 _ hlink) (C.2.2.2.2.1 _ him) hy1 ⟨hd.1, hd.2.1, hd.2.2⟩ hR) (g_runS C hP hD isC hC hn9) rfl hn hl.1 rfl (g_room hcat) hdg hcs) hS (fun q _ h => hF q h) hF (fun u t H1 locs1 ht hvm hw' hB' hz1 hk1 hS' => ?_)
  obtain ⟨hB1, hB2⟩ := hB'
  rw [ht] at hB1
  obtain ⟨hP', hD'⟩ := va_join (wr := wr) hP hD isC isR hC hRr hnR hdis hk1 hF hB1 hB2
  exact kk u H1 locs1 ls hP' hD' hS' hl
theorem g_iniN {y : MethodName} {wy wy' : List Cond} {rm : Room} {W00 W0 wr : va_W} {S : Type} {W1 : S → va_W} {b : Nat} {As st : List Value} {n index maxL : Nat} {bytes : ByteArray} {pc' mc ms : Nat} {host : String} (C : gC p s m args meth c cc nL own Ts D tys ret (va_A W00 s.heap.size)) (hM : gNv l y wy rm D tys (.ref b :: As) W0 W1 mc ms) (g : GoodIn Ts wy) (hl9 : va_Nw (.methodLinkNest own index y host) s) (him : Cond.instanceMethod y ∈ Ts) (hi9 : Cond.initialized y.cls ∈ Ts) (hy1 : y.name = "<init>") (hd : gY y n) (hw : wy = Cond.code y bytes maxL none :: wy') (hrm : rm.cells = mc ∧ rm.slots = ms) (hR : gRm rm R maxL) (hn : As.length = n)
    (isC isR : List Nat) (hC : isC.map (fun i => ws[i]?) = W0.map some) (hRr : isR.map (fun i => ws[i]?) = wr.map some) (hn9 : va_nd isC = true) (hnR : va_nd isR = true) (hdis : ∀ i ∈ isR, i ∉ isC) (hst : st = As.reverse ++ .ref b :: rest) (hcat : (rest.map fun v => v.category).sum ≤ 8) (hdg : decode cc pc = .ok (.invokespecial index, 3)) (hpc : pc + 3 = pc') (hcs : cells + mc ≤ R.cells ∧ slots + ms ≤ R.slots)
    (kk : ∀ u : S, gG p l e R s m args below meth c (cells + mc) (slots + ms) D (va_A W00 s.heap.size) (va_A W00 s.heap.size) nL Q (wr ++ W1 u) pc' L rest) : gG p l e R s m args below meth c cells slots D (va_A W00 s.heap.size) (va_A W00 s.heap.size) nL Q ws pc L st := by
  subst hpc
  subst hst
  intro H locs ls hP hD hS hl
  have hF := va_free hD hS (fun q h => Or.inr h) isC hC
  refine va_callv (va_runIN (g_sz C) (hM H.size) ⟨va_cnB n C.2.2.2.2.1 g hw hrm.1 hrm.2 hl9 (C.2.2.2.2.1 _ hi9) ⟨hd.1, hd.2.1, hd.2.2⟩ hR, hy1, C.2.2.2.2.1 _ him⟩ (g_runS C hP hD isC hC hn9) rfl hn hl.1 rfl (g_room hcat) hdg hcs) hS (fun q _ h => hF q h) hF (fun u t H1 locs1 ht hvm hw' hB' hz1 hk1 hS' => ?_)
  obtain ⟨hB1, hB2⟩ := hB'
  rw [ht] at hB1
  obtain ⟨hP', hD'⟩ := va_join (wr := wr) hP hD isC isR hC hRr hnR hdis hk1 hF hB1 hB2
  exact kk u H1 locs1 ls hP' hD' hS' hl
end gInit
