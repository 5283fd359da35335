/-! PART 03: the rules of gG, one an instruction; printed by wip/whole/gen_rules.py -/
/-- the nest mates' links, which no word list may hold -/
def gN (U : State) : Prop := va_Nw (.methodLinkNest RX3 88 yX7_isPlace "TwinVolumes") U ∧ va_Nw (.methodLinkNest RX6 11 yX0_init "TwinVolumes") U ∧ va_Nw (.methodLinkNest RX7 11 yX5_init "TwinVolumes") U
theorem gN_warm {s U : State} (hW : s.WarmedH U.vm) (h : gN s) : gN U := ⟨va_Nw.warmM hW h.1, va_Nw.warmM hW h.2.1, va_Nw.warmM hW h.2.2⟩
theorem gN_same {u U : State} (h : u.vm = U.vm) (hZ : gN u) : gN U := ⟨va_Nw.same rfl h hZ.1, va_Nw.same rfl h hZ.2.1, va_Nw.same rfl h hZ.2.2⟩
def gG (p : Program) (l : Launch) (e : Env) (R : Room) (s : State) (m : MethodId) (args : Array Value) (below : List Frame) (meth : Method) (c : Code) (cells slots : Nat) (D : va_G) (AD AS : Nat → Prop) (nL : Nat) (Q : State → Prop) (ws : va_W) (pc : Nat) (L : List (Nat × Value)) (st : List Value) : Prop :=
  ∀ (H : Heap) (locs : List Loc) (ls : Array Slot), va_P D vwCl ws H → va_D AD ws → va_S AS s.heap H locs → lv_has ls nL L → W p l e R s m args below meth c H locs cells slots Q (F0 m pc ls st)
def gC (p : Program) (s : State) (m : MethodId) (args : Array Value) (meth : Method) (c : Code) (cc : ByteArray) (nL : Nat) (own : String) (Ts : List Cond) (D : va_G) (tys : List (ClassId × FieldType)) (ret : Option FieldType) (AS : Nat → Prop) : Prop :=
  p.tables.exec = Jvm.exec ∧ c.code = cc ∧ c.maxLocals = nL ∧ s.vm.findClass own = some m.cls ∧ (∀ w ∈ Ts, w.before args s = true) ∧ va_K D vwCl tys s ∧ meth.sig.returnType = ret ∧ meth.locks = false ∧ gN s
section gRules
variable {p : Program} {l : Launch} {e : Env} {R : Room} {s : State} {m : MethodId} {args : Array Value} {below : List Frame} {meth : Method} {c : Code} {cells slots : Nat} {D : va_G} {AD AS : Nat → Prop} {nL : Nat} {Q : State → Prop} {ws : va_W} {L : List (Nat × Value)} {rest : List Value}
variable {cc : ByteArray} {own : String} {Ts : List Cond} {tys : List (ClassId × FieldType)} {ret : Option FieldType} {pc : Nat}
theorem g_iconst (C : gC p s m args meth c cc nL own Ts D tys ret AS) {n : Int} {v : Int32} {pc' : Nat} (hdg : decode cc pc = .ok (.iconst n, 1)) (hv : Int32.ofInt n = v) (hpc : pc + 1 = pc')
    (k : gG p l e R s m args below meth c cells slots D AD AS nL Q ws pc' L (.int v :: rest)) : gG p l e R s m args below meth c cells slots D AD AS nL Q ws pc L rest := by
  subst hpc
  exact fun H locs ls hP hD hS hl => lv_iconst C.1 C.2.1 hdg hv (k H locs ls hP hD hS hl)
theorem g_bipush (C : gC p s m args meth c cc nL own Ts D tys ret AS) {n : Int} {v : Int32} {pc' : Nat} (hdg : decode cc pc = .ok (.bipush n, 2)) (hv : (Int8.ofInt n).toInt32 = v) (hpc : pc + 2 = pc')
    (k : gG p l e R s m args below meth c cells slots D AD AS nL Q ws pc' L (.int v :: rest)) : gG p l e R s m args below meth c cells slots D AD AS nL Q ws pc L rest := by
  subst hpc
  exact fun H locs ls hP hD hS hl => lv_bipush C.1 C.2.1 hdg hv (k H locs ls hP hD hS hl)
theorem g_sipush (C : gC p s m args meth c cc nL own Ts D tys ret AS) {n : Int} {v : Int32} {pc' : Nat} (hdg : decode cc pc = .ok (.sipush n, 3)) (hv : (Int16.ofInt n).toInt32 = v) (hpc : pc + 3 = pc')
    (k : gG p l e R s m args below meth c cells slots D AD AS nL Q ws pc' L (.int v :: rest)) : gG p l e R s m args below meth c cells slots D AD AS nL Q ws pc L rest := by
  subst hpc
  exact fun H locs ls hP hD hS hl => lv_sipush C.1 C.2.1 hdg hv (k H locs ls hP hD hS hl)
theorem g_lconst (C : gC p s m args meth c cc nL own Ts D tys ret AS) {n : Fin 2} {v : Int64} {pc' : Nat} (hdg : decode cc pc = .ok (.lconst n, 1)) (hv : Int64.ofNat (n : Nat) = v) (hpc : pc + 1 = pc')
    (k : gG p l e R s m args below meth c cells slots D AD AS nL Q ws pc' L (.long v :: rest)) : gG p l e R s m args below meth c cells slots D AD AS nL Q ws pc L rest := by
  subst hpc
  exact fun H locs ls hP hD hS hl => lv_lconst C.1 C.2.1 hdg hv (k H locs ls hP hD hS hl)
theorem g_null (C : gC p s m args meth c cc nL own Ts D tys ret AS) {pc' : Nat} (hdg : decode cc pc = .ok (.aconst_null, 1)) (hpc : pc + 1 = pc')
    (k : gG p l e R s m args below meth c cells slots D AD AS nL Q ws pc' L (.null :: rest)) : gG p l e R s m args below meth c cells slots D AD AS nL Q ws pc L rest := by
  subst hpc
  exact fun H locs ls hP hD hS hl => lv_null C.1 C.2.1 hdg (k H locs ls hP hD hS hl)
theorem g_iload_n (C : gC p s m args meth c cc nL own Ts D tys ret AS) {k : Fin 4} {i z : Nat} {x : Int32} {pc' : Nat} (hdg : decode cc pc = .ok (.iload_n k, 1)) (hi : (k : Nat) = i) (hL : L[z]? = some (i, .int x)) (hpc : pc + 1 = pc')
    (k : gG p l e R s m args below meth c cells slots D AD AS nL Q ws pc' L (.int x :: rest)) : gG p l e R s m args below meth c cells slots D AD AS nL Q ws pc L rest := by
  subst hpc
  exact fun H locs ls hP hD hS hl => lv_iload_n C.1 C.2.1 hdg hi (lv_at hl z hL) (k H locs ls hP hD hS hl)
theorem g_iload (C : gC p s m args meth c cc nL own Ts D tys ret AS) {i z : Nat} {x : Int32} {pc' : Nat} (hdg : decode cc pc = .ok (.iload i, 2)) (hL : L[z]? = some (i, .int x)) (hpc : pc + 2 = pc')
    (k : gG p l e R s m args below meth c cells slots D AD AS nL Q ws pc' L (.int x :: rest)) : gG p l e R s m args below meth c cells slots D AD AS nL Q ws pc L rest := by
  subst hpc
  exact fun H locs ls hP hD hS hl => lv_iload C.1 C.2.1 hdg (lv_at hl z hL) (k H locs ls hP hD hS hl)
theorem g_lload_n (C : gC p s m args meth c cc nL own Ts D tys ret AS) {k : Fin 4} {i z : Nat} {x : Int64} {pc' : Nat} (hdg : decode cc pc = .ok (.lload_n k, 1)) (hi : (k : Nat) = i) (hL : L[z]? = some (i, .long x)) (hpc : pc + 1 = pc')
    (k : gG p l e R s m args below meth c cells slots D AD AS nL Q ws pc' L (.long x :: rest)) : gG p l e R s m args below meth c cells slots D AD AS nL Q ws pc L rest := by
  subst hpc
  exact fun H locs ls hP hD hS hl => lv_lload_n C.1 C.2.1 hdg hi (lv_at hl z hL) (k H locs ls hP hD hS hl)
theorem g_lload (C : gC p s m args meth c cc nL own Ts D tys ret AS) {i z : Nat} {x : Int64} {pc' : Nat} (hdg : decode cc pc = .ok (.lload i, 2)) (hL : L[z]? = some (i, .long x)) (hpc : pc + 2 = pc')
    (k : gG p l e R s m args below meth c cells slots D AD AS nL Q ws pc' L (.long x :: rest)) : gG p l e R s m args below meth c cells slots D AD AS nL Q ws pc L rest := by
  subst hpc
  exact fun H locs ls hP hD hS hl => lv_lload C.1 C.2.1 hdg (lv_at hl z hL) (k H locs ls hP hD hS hl)
theorem g_aload_n (C : gC p s m args meth c cc nL own Ts D tys ret AS) {k : Fin 4} {i z : Nat} {x : Nat} {pc' : Nat} (hdg : decode cc pc = .ok (.aload_n k, 1)) (hi : (k : Nat) = i) (hL : L[z]? = some (i, .ref x)) (hpc : pc + 1 = pc')
    (k : gG p l e R s m args below meth c cells slots D AD AS nL Q ws pc' L (.ref x :: rest)) : gG p l e R s m args below meth c cells slots D AD AS nL Q ws pc L rest := by
  subst hpc
  exact fun H locs ls hP hD hS hl => lv_aload_n C.1 C.2.1 hdg hi (lv_at hl z hL) (k H locs ls hP hD hS hl)
theorem g_aload (C : gC p s m args meth c cc nL own Ts D tys ret AS) {i z : Nat} {x : Nat} {pc' : Nat} (hdg : decode cc pc = .ok (.aload i, 2)) (hL : L[z]? = some (i, .ref x)) (hpc : pc + 2 = pc')
    (k : gG p l e R s m args below meth c cells slots D AD AS nL Q ws pc' L (.ref x :: rest)) : gG p l e R s m args below meth c cells slots D AD AS nL Q ws pc L rest := by
  subst hpc
  exact fun H locs ls hP hD hS hl => lv_aload C.1 C.2.1 hdg (lv_at hl z hL) (k H locs ls hP hD hS hl)
theorem g_istore_n (C : gC p s m args meth c cc nL own Ts D tys ret AS) {k : Fin 4} {i : Nat} {x : Int32} {L' : List (Nat × Value)} {pc' : Nat} (hdg : decode cc pc = .ok (.istore_n k, 1)) (hi : (k : Nat) = i) (hn : i < nL) (hL : (i, Value.int x) :: L.filter (fun q => !(q.1 == i) && !(q.1 + 1 == i && q.2.category == 2)) = L') (hpc : pc + 1 = pc')
    (k9 : gG p l e R s m args below meth c cells slots D AD AS nL Q ws pc' L' rest) : gG p l e R s m args below meth c cells slots D AD AS nL Q ws pc L (.int x :: rest) := by
  subst hpc
  exact fun H locs ls hP hD hS hl => lv_istore_n C.1 C.2.1 hdg hi hl hn hL (fun ls' hl' => k9 H locs ls' hP hD hS hl')
theorem g_istore (C : gC p s m args meth c cc nL own Ts D tys ret AS) {i : Nat} {x : Int32} {L' : List (Nat × Value)} {pc' : Nat} (hdg : decode cc pc = .ok (.istore i, 2)) (hn : i < nL) (hL : (i, Value.int x) :: L.filter (fun q => !(q.1 == i) && !(q.1 + 1 == i && q.2.category == 2)) = L') (hpc : pc + 2 = pc')
    (k9 : gG p l e R s m args below meth c cells slots D AD AS nL Q ws pc' L' rest) : gG p l e R s m args below meth c cells slots D AD AS nL Q ws pc L (.int x :: rest) := by
  subst hpc
  exact fun H locs ls hP hD hS hl => lv_istore C.1 C.2.1 hdg hl hn hL (fun ls' hl' => k9 H locs ls' hP hD hS hl')
theorem g_lstore_n (C : gC p s m args meth c cc nL own Ts D tys ret AS) {k : Fin 4} {i : Nat} {x : Int64} {L' : List (Nat × Value)} {pc' : Nat} (hdg : decode cc pc = .ok (.lstore_n k, 1)) (hi : (k : Nat) = i) (hn : i + 1 < nL) (hL : (i, Value.long x) :: L.filter (fun q => !(q.1 == i) && (!(q.1 == i + 1) && !(q.1 + 1 == i && q.2.category == 2))) = L') (hpc : pc + 1 = pc')
    (k9 : gG p l e R s m args below meth c cells slots D AD AS nL Q ws pc' L' rest) : gG p l e R s m args below meth c cells slots D AD AS nL Q ws pc L (.long x :: rest) := by
  subst hpc
  exact fun H locs ls hP hD hS hl => lv_lstore_n C.1 C.2.1 hdg hi hl hn hL (fun ls' hl' => k9 H locs ls' hP hD hS hl')
theorem g_lstore (C : gC p s m args meth c cc nL own Ts D tys ret AS) {i : Nat} {x : Int64} {L' : List (Nat × Value)} {pc' : Nat} (hdg : decode cc pc = .ok (.lstore i, 2)) (hn : i + 1 < nL) (hL : (i, Value.long x) :: L.filter (fun q => !(q.1 == i) && (!(q.1 == i + 1) && !(q.1 + 1 == i && q.2.category == 2))) = L') (hpc : pc + 2 = pc')
    (k9 : gG p l e R s m args below meth c cells slots D AD AS nL Q ws pc' L' rest) : gG p l e R s m args below meth c cells slots D AD AS nL Q ws pc L (.long x :: rest) := by
  subst hpc
  exact fun H locs ls hP hD hS hl => lv_lstore C.1 C.2.1 hdg hl hn hL (fun ls' hl' => k9 H locs ls' hP hD hS hl')
theorem g_astore_n (C : gC p s m args meth c cc nL own Ts D tys ret AS) {k : Fin 4} {i : Nat} {x : Nat} {L' : List (Nat × Value)} {pc' : Nat} (hdg : decode cc pc = .ok (.astore_n k, 1)) (hi : (k : Nat) = i) (hn : i < nL) (hL : (i, Value.ref x) :: L.filter (fun q => !(q.1 == i) && !(q.1 + 1 == i && q.2.category == 2)) = L') (hpc : pc + 1 = pc')
    (k9 : gG p l e R s m args below meth c cells slots D AD AS nL Q ws pc' L' rest) : gG p l e R s m args below meth c cells slots D AD AS nL Q ws pc L (.ref x :: rest) := by
  subst hpc
  exact fun H locs ls hP hD hS hl => lv_astore_n C.1 C.2.1 hdg hi hl hn hL (fun ls' hl' => k9 H locs ls' hP hD hS hl')
theorem g_astore (C : gC p s m args meth c cc nL own Ts D tys ret AS) {i : Nat} {x : Nat} {L' : List (Nat × Value)} {pc' : Nat} (hdg : decode cc pc = .ok (.astore i, 2)) (hn : i < nL) (hL : (i, Value.ref x) :: L.filter (fun q => !(q.1 == i) && !(q.1 + 1 == i && q.2.category == 2)) = L') (hpc : pc + 2 = pc')
    (k9 : gG p l e R s m args below meth c cells slots D AD AS nL Q ws pc' L' rest) : gG p l e R s m args below meth c cells slots D AD AS nL Q ws pc L (.ref x :: rest) := by
  subst hpc
  exact fun H locs ls hP hD hS hl => lv_astore C.1 C.2.1 hdg hl hn hL (fun ls' hl' => k9 H locs ls' hP hD hS hl')
theorem g_iinc (C : gC p s m args meth c cc nL own Ts D tys ret AS) {i z : Nat} {n : Int} {x v : Int32} {L' : List (Nat × Value)} {pc' : Nat} (hdg : decode cc pc = .ok (.iinc i n, 3)) (hz : L[z]? = some (i, .int x)) (hv : x + Int32.ofInt n = v) (hn : i < nL) (hL : (i, Value.int v) :: L.filter (fun q => !(q.1 == i) && !(q.1 + 1 == i && q.2.category == 2)) = L') (hpc : pc + 3 = pc')
    (k9 : gG p l e R s m args below meth c cells slots D AD AS nL Q ws pc' L' rest) : gG p l e R s m args below meth c cells slots D AD AS nL Q ws pc L rest := by
  subst hpc
  exact fun H locs ls hP hD hS hl => lv_iinc C.1 C.2.1 hdg hl hz hv hn hL (fun ls' hl' => k9 H locs ls' hP hD hS hl')
theorem g_astoreN_n (C : gC p s m args meth c cc nL own Ts D tys ret AS) {k : Fin 4} {i : Nat} {L' : List (Nat × Value)} {pc' : Nat} (hdg : decode cc pc = .ok (.astore_n k, 1)) (hi : (k : Nat) = i) (hn : i < nL) (hL : (i, Value.null) :: L.filter (fun q => !(q.1 == i) && !(q.1 + 1 == i && q.2.category == 2)) = L') (hpc : pc + 1 = pc')
    (k9 : gG p l e R s m args below meth c cells slots D AD AS nL Q ws pc' L' rest) : gG p l e R s m args below meth c cells slots D AD AS nL Q ws pc L (.null :: rest) := by
  subst hpc
  exact fun H locs ls hP hD hS hl => lv_astore_nN C.1 C.2.1 hdg hi hl hn hL (fun ls' hl' => k9 H locs ls' hP hD hS hl')
theorem g_astoreN (C : gC p s m args meth c cc nL own Ts D tys ret AS) {i : Nat} {L' : List (Nat × Value)} {pc' : Nat} (hdg : decode cc pc = .ok (.astore i, 2)) (hn : i < nL) (hL : (i, Value.null) :: L.filter (fun q => !(q.1 == i) && !(q.1 + 1 == i && q.2.category == 2)) = L') (hpc : pc + 2 = pc')
    (k9 : gG p l e R s m args below meth c cells slots D AD AS nL Q ws pc' L' rest) : gG p l e R s m args below meth c cells slots D AD AS nL Q ws pc L (.null :: rest) := by
  subst hpc
  exact fun H locs ls hP hD hS hl => lv_astoreN C.1 C.2.1 hdg hl hn hL (fun ls' hl' => k9 H locs ls' hP hD hS hl')
theorem g_aloadN_n (C : gC p s m args meth c cc nL own Ts D tys ret AS) {k : Fin 4} {i z : Nat} {pc' : Nat} (hdg : decode cc pc = .ok (.aload_n k, 1)) (hi : (k : Nat) = i) (hL : L[z]? = some (i, .null)) (hpc : pc + 1 = pc')
    (k : gG p l e R s m args below meth c cells slots D AD AS nL Q ws pc' L (.null :: rest)) : gG p l e R s m args below meth c cells slots D AD AS nL Q ws pc L rest := by
  subst hpc
  exact fun H locs ls hP hD hS hl => lv_aload_nN C.1 C.2.1 hdg hi (lv_at hl z hL) (k H locs ls hP hD hS hl)
theorem g_aloadN (C : gC p s m args meth c cc nL own Ts D tys ret AS) {i z : Nat} {pc' : Nat} (hdg : decode cc pc = .ok (.aload i, 2)) (hL : L[z]? = some (i, .null)) (hpc : pc + 2 = pc')
    (k : gG p l e R s m args below meth c cells slots D AD AS nL Q ws pc' L (.null :: rest)) : gG p l e R s m args below meth c cells slots D AD AS nL Q ws pc L rest := by
  subst hpc
  exact fun H locs ls hP hD hS hl => lv_aloadN C.1 C.2.1 hdg (lv_at hl z hL) (k H locs ls hP hD hS hl)
theorem g_iadd (C : gC p s m args meth c cc nL own Ts D tys ret AS) {x y : Int32} {pc' : Nat} (hdg : decode cc pc = .ok (.iadd, 1)) (hpc : pc + 1 = pc')
    (k : gG p l e R s m args below meth c cells slots D AD AS nL Q ws pc' L (.int (x + y) :: rest)) : gG p l e R s m args below meth c cells slots D AD AS nL Q ws pc L (.int y :: .int x :: rest) := by
  subst hpc
  exact fun H locs ls hP hD hS hl => lv_iadd C.1 C.2.1 hdg (k H locs ls hP hD hS hl)
theorem g_isub (C : gC p s m args meth c cc nL own Ts D tys ret AS) {x y : Int32} {pc' : Nat} (hdg : decode cc pc = .ok (.isub, 1)) (hpc : pc + 1 = pc')
    (k : gG p l e R s m args below meth c cells slots D AD AS nL Q ws pc' L (.int (x - y) :: rest)) : gG p l e R s m args below meth c cells slots D AD AS nL Q ws pc L (.int y :: .int x :: rest) := by
  subst hpc
  exact fun H locs ls hP hD hS hl => lv_isub C.1 C.2.1 hdg (k H locs ls hP hD hS hl)
theorem g_imul (C : gC p s m args meth c cc nL own Ts D tys ret AS) {x y : Int32} {pc' : Nat} (hdg : decode cc pc = .ok (.imul, 1)) (hpc : pc + 1 = pc')
    (k : gG p l e R s m args below meth c cells slots D AD AS nL Q ws pc' L (.int (x * y) :: rest)) : gG p l e R s m args below meth c cells slots D AD AS nL Q ws pc L (.int y :: .int x :: rest) := by
  subst hpc
  exact fun H locs ls hP hD hS hl => lv_imul C.1 C.2.1 hdg (k H locs ls hP hD hS hl)
theorem g_iand (C : gC p s m args meth c cc nL own Ts D tys ret AS) {x y : Int32} {pc' : Nat} (hdg : decode cc pc = .ok (.iand, 1)) (hpc : pc + 1 = pc')
    (k : gG p l e R s m args below meth c cells slots D AD AS nL Q ws pc' L (.int (x &&& y) :: rest)) : gG p l e R s m args below meth c cells slots D AD AS nL Q ws pc L (.int y :: .int x :: rest) := by
  subst hpc
  exact fun H locs ls hP hD hS hl => lv_iand C.1 C.2.1 hdg (k H locs ls hP hD hS hl)
theorem g_ior (C : gC p s m args meth c cc nL own Ts D tys ret AS) {x y : Int32} {pc' : Nat} (hdg : decode cc pc = .ok (.ior, 1)) (hpc : pc + 1 = pc')
    (k : gG p l e R s m args below meth c cells slots D AD AS nL Q ws pc' L (.int (x ||| y) :: rest)) : gG p l e R s m args below meth c cells slots D AD AS nL Q ws pc L (.int y :: .int x :: rest) := by
  subst hpc
  exact fun H locs ls hP hD hS hl => lv_ior C.1 C.2.1 hdg (k H locs ls hP hD hS hl)
theorem g_ishl (C : gC p s m args meth c cc nL own Ts D tys ret AS) {x y : Int32} {pc' : Nat} (hdg : decode cc pc = .ok (.ishl, 1)) (hpc : pc + 1 = pc')
    (k : gG p l e R s m args below meth c cells slots D AD AS nL Q ws pc' L (.int (x <<< (y &&& 31)) :: rest)) : gG p l e R s m args below meth c cells slots D AD AS nL Q ws pc L (.int y :: .int x :: rest) := by
  subst hpc
  exact fun H locs ls hP hD hS hl => lv_ishl C.1 C.2.1 hdg (k H locs ls hP hD hS hl)
theorem g_ishr (C : gC p s m args meth c cc nL own Ts D tys ret AS) {x y : Int32} {pc' : Nat} (hdg : decode cc pc = .ok (.ishr, 1)) (hpc : pc + 1 = pc')
    (k : gG p l e R s m args below meth c cells slots D AD AS nL Q ws pc' L (.int (x >>> (y &&& 31)) :: rest)) : gG p l e R s m args below meth c cells slots D AD AS nL Q ws pc L (.int y :: .int x :: rest) := by
  subst hpc
  exact fun H locs ls hP hD hS hl => lv_ishr C.1 C.2.1 hdg (k H locs ls hP hD hS hl)
theorem g_idiv (C : gC p s m args meth c cc nL own Ts D tys ret AS) {x y : Int32} {pc' : Nat} (hdg : decode cc pc = .ok (.idiv, 1)) (hne : ¬ y = 0) (hpc : pc + 1 = pc')
    (k : gG p l e R s m args below meth c cells slots D AD AS nL Q ws pc' L (.int (x / y) :: rest)) : gG p l e R s m args below meth c cells slots D AD AS nL Q ws pc L (.int y :: .int x :: rest) := by
  subst hpc
  exact fun H locs ls hP hD hS hl => lv_idiv C.1 C.2.1 hdg hne (k H locs ls hP hD hS hl)
theorem g_irem (C : gC p s m args meth c cc nL own Ts D tys ret AS) {x y : Int32} {pc' : Nat} (hdg : decode cc pc = .ok (.irem, 1)) (hne : ¬ y = 0) (hpc : pc + 1 = pc')
    (k : gG p l e R s m args below meth c cells slots D AD AS nL Q ws pc' L (.int (x - x / y * y) :: rest)) : gG p l e R s m args below meth c cells slots D AD AS nL Q ws pc L (.int y :: .int x :: rest) := by
  subst hpc
  exact fun H locs ls hP hD hS hl => lv_irem C.1 C.2.1 hdg hne (k H locs ls hP hD hS hl)
theorem g_ladd (C : gC p s m args meth c cc nL own Ts D tys ret AS) {x y : Int64} {pc' : Nat} (hdg : decode cc pc = .ok (.ladd, 1)) (hpc : pc + 1 = pc')
    (k : gG p l e R s m args below meth c cells slots D AD AS nL Q ws pc' L (.long (x + y) :: rest)) : gG p l e R s m args below meth c cells slots D AD AS nL Q ws pc L (.long y :: .long x :: rest) := by
  subst hpc
  exact fun H locs ls hP hD hS hl => lv_ladd C.1 C.2.1 hdg (k H locs ls hP hD hS hl)
theorem g_land (C : gC p s m args meth c cc nL own Ts D tys ret AS) {x y : Int64} {pc' : Nat} (hdg : decode cc pc = .ok (.land, 1)) (hpc : pc + 1 = pc')
    (k : gG p l e R s m args below meth c cells slots D AD AS nL Q ws pc' L (.long (x &&& y) :: rest)) : gG p l e R s m args below meth c cells slots D AD AS nL Q ws pc L (.long y :: .long x :: rest) := by
  subst hpc
  exact fun H locs ls hP hD hS hl => lv_land C.1 C.2.1 hdg (k H locs ls hP hD hS hl)
theorem g_lor (C : gC p s m args meth c cc nL own Ts D tys ret AS) {x y : Int64} {pc' : Nat} (hdg : decode cc pc = .ok (.lor, 1)) (hpc : pc + 1 = pc')
    (k : gG p l e R s m args below meth c cells slots D AD AS nL Q ws pc' L (.long (x ||| y) :: rest)) : gG p l e R s m args below meth c cells slots D AD AS nL Q ws pc L (.long y :: .long x :: rest) := by
  subst hpc
  exact fun H locs ls hP hD hS hl => lv_lor C.1 C.2.1 hdg (k H locs ls hP hD hS hl)
theorem g_lshl (C : gC p s m args meth c cc nL own Ts D tys ret AS) {x : Int64} {y : Int32} {pc' : Nat} (hdg : decode cc pc = .ok (.lshl, 1)) (hpc : pc + 1 = pc')
    (k : gG p l e R s m args below meth c cells slots D AD AS nL Q ws pc' L (.long (x <<< (y.toInt64 &&& 63)) :: rest)) : gG p l e R s m args below meth c cells slots D AD AS nL Q ws pc L (.int y :: .long x :: rest) := by
  subst hpc
  exact fun H locs ls hP hD hS hl => lv_lshl C.1 C.2.1 hdg rfl (k H locs ls hP hD hS hl)
theorem g_lshr (C : gC p s m args meth c cc nL own Ts D tys ret AS) {x : Int64} {y : Int32} {pc' : Nat} (hdg : decode cc pc = .ok (.lshr, 1)) (hpc : pc + 1 = pc')
    (k : gG p l e R s m args below meth c cells slots D AD AS nL Q ws pc' L (.long (x >>> (y.toInt64 &&& 63)) :: rest)) : gG p l e R s m args below meth c cells slots D AD AS nL Q ws pc L (.int y :: .long x :: rest) := by
  subst hpc
  exact fun H locs ls hP hD hS hl => lv_lshr C.1 C.2.1 hdg rfl (k H locs ls hP hD hS hl)
theorem g_lushr (C : gC p s m args meth c cc nL own Ts D tys ret AS) {x : Int64} {y : Int32} {pc' : Nat} (hdg : decode cc pc = .ok (.lushr, 1)) (hpc : pc + 1 = pc')
    (k : gG p l e R s m args below meth c cells slots D AD AS nL Q ws pc' L (.long ((x.toUInt64 >>> (y.toInt64.toUInt64 &&& Int64.toUInt64 63)).toInt64) :: rest)) : gG p l e R s m args below meth c cells slots D AD AS nL Q ws pc L (.int y :: .long x :: rest) := by
  subst hpc
  exact fun H locs ls hP hD hS hl => lv_lushr C.1 C.2.1 hdg rfl (k H locs ls hP hD hS hl)
theorem g_i2l (C : gC p s m args meth c cc nL own Ts D tys ret AS) {x : Int32} {pc' : Nat} (hdg : decode cc pc = .ok (.i2l, 1)) (hpc : pc + 1 = pc')
    (k : gG p l e R s m args below meth c cells slots D AD AS nL Q ws pc' L (.long x.toInt64 :: rest)) : gG p l e R s m args below meth c cells slots D AD AS nL Q ws pc L (.int x :: rest) := by
  subst hpc
  exact fun H locs ls hP hD hS hl => lv_i2l C.1 C.2.1 hdg rfl (k H locs ls hP hD hS hl)
theorem g_l2i (C : gC p s m args meth c cc nL own Ts D tys ret AS) {x : Int64} {pc' : Nat} (hdg : decode cc pc = .ok (.l2i, 1)) (hpc : pc + 1 = pc')
    (k : gG p l e R s m args below meth c cells slots D AD AS nL Q ws pc' L (.int x.toInt32 :: rest)) : gG p l e R s m args below meth c cells slots D AD AS nL Q ws pc L (.long x :: rest) := by
  subst hpc
  exact fun H locs ls hP hD hS hl => lv_l2i C.1 C.2.1 hdg rfl (k H locs ls hP hD hS hl)
theorem g_i2b (C : gC p s m args meth c cc nL own Ts D tys ret AS) {x : Int32} {pc' : Nat} (hdg : decode cc pc = .ok (.i2b, 1)) (hpc : pc + 1 = pc')
    (k : gG p l e R s m args below meth c cells slots D AD AS nL Q ws pc' L (.int x.toInt8.toInt32 :: rest)) : gG p l e R s m args below meth c cells slots D AD AS nL Q ws pc L (.int x :: rest) := by
  subst hpc
  exact fun H locs ls hP hD hS hl => lv_i2b C.1 C.2.1 hdg rfl (k H locs ls hP hD hS hl)
theorem g_lcmp (C : gC p s m args meth c cc nL own Ts D tys ret AS) {x y : Int64} {pc' : Nat} (hdg : decode cc pc = .ok (.lcmp, 1)) (hpc : pc + 1 = pc')
    (k : gG p l e R s m args below meth c cells slots D AD AS nL Q ws pc' L (.int (lg_cmp x y) :: rest)) : gG p l e R s m args below meth c cells slots D AD AS nL Q ws pc L (.long y :: .long x :: rest) := by
  subst hpc
  exact fun H locs ls hP hD hS hl => W.lcmp C.1 C.2.1 hdg (k H locs ls hP hD hS hl)
theorem g_dup (C : gC p s m args meth c cc nL own Ts D tys ret AS) {va : Value} {pc' : Nat} (hdg : decode cc pc = .ok (.dup, 1)) (hva : va.category = 1) (hpc : pc + 1 = pc')
    (k : gG p l e R s m args below meth c cells slots D AD AS nL Q ws pc' L (va :: va :: rest)) : gG p l e R s m args below meth c cells slots D AD AS nL Q ws pc L (va :: rest) := by
  subst hpc
  exact fun H locs ls hP hD hS hl => lv_dup C.1 C.2.1 hdg hva (k H locs ls hP hD hS hl)
theorem g_pop (C : gC p s m args meth c cc nL own Ts D tys ret AS) {va : Value} {pc' : Nat} (hdg : decode cc pc = .ok (.pop, 1)) (hva : va.category = 1) (hpc : pc + 1 = pc')
    (k : gG p l e R s m args below meth c cells slots D AD AS nL Q ws pc' L rest) : gG p l e R s m args below meth c cells slots D AD AS nL Q ws pc L (va :: rest) := by
  subst hpc
  exact fun H locs ls hP hD hS hl => lv_pop C.1 C.2.1 hdg hva (k H locs ls hP hD hS hl)
theorem g_dup2 (C : gC p s m args meth c cc nL own Ts D tys ret AS) {va vb : Value} {pc' : Nat} (hdg : decode cc pc = .ok (.dup2, 1)) (hva : va.category = 1) (hvb : vb.category = 1) (hpc : pc + 1 = pc')
    (k : gG p l e R s m args below meth c cells slots D AD AS nL Q ws pc' L (va :: vb :: va :: vb :: rest)) : gG p l e R s m args below meth c cells slots D AD AS nL Q ws pc L (va :: vb :: rest) := by
  subst hpc
  exact fun H locs ls hP hD hS hl => lv_dup2_11 C.1 C.2.1 hdg hva hvb (k H locs ls hP hD hS hl)
theorem g_if_eq (C : gC p s m args meth c cc nL own Ts D tys ret AS) {x : Int32} {off : Int} {pt pf : Nat} (hdg : decode cc pc = .ok (.ifCond .eq off, 3)) (ht : (pc : Int) + off = (pt : Int)) (hpf : pc + 3 = pf)
    (kt : x = 0 → gG p l e R s m args below meth c cells slots D AD AS nL Q ws pt L rest) (kf : ¬ (x = 0) → gG p l e R s m args below meth c cells slots D AD AS nL Q ws pf L rest) : gG p l e R s m args below meth c cells slots D AD AS nL Q ws pc L (.int x :: rest) := by
  subst hpf
  exact fun H locs ls hP hD hS hl => lv_if_eq C.1 C.2.1 hdg ht (fun h => kt h H locs ls hP hD hS hl) (fun h => kf h H locs ls hP hD hS hl)
theorem g_icmp_eq (C : gC p s m args meth c cc nL own Ts D tys ret AS) {x y : Int32} {off : Int} {pt pf : Nat} (hdg : decode cc pc = .ok (.if_icmp .eq off, 3)) (ht : (pc : Int) + off = (pt : Int)) (hpf : pc + 3 = pf)
    (kt : x = y → gG p l e R s m args below meth c cells slots D AD AS nL Q ws pt L rest) (kf : ¬ (x = y) → gG p l e R s m args below meth c cells slots D AD AS nL Q ws pf L rest) : gG p l e R s m args below meth c cells slots D AD AS nL Q ws pc L (.int y :: .int x :: rest) := by
  subst hpf
  exact fun H locs ls hP hD hS hl => lv_icmp_eq C.1 C.2.1 hdg ht (fun h => kt h H locs ls hP hD hS hl) (fun h => kf h H locs ls hP hD hS hl)
theorem g_if_ne (C : gC p s m args meth c cc nL own Ts D tys ret AS) {x : Int32} {off : Int} {pt pf : Nat} (hdg : decode cc pc = .ok (.ifCond .ne off, 3)) (ht : (pc : Int) + off = (pt : Int)) (hpf : pc + 3 = pf)
    (kt : ¬ x = 0 → gG p l e R s m args below meth c cells slots D AD AS nL Q ws pt L rest) (kf : x = 0 → gG p l e R s m args below meth c cells slots D AD AS nL Q ws pf L rest) : gG p l e R s m args below meth c cells slots D AD AS nL Q ws pc L (.int x :: rest) := by
  subst hpf
  exact fun H locs ls hP hD hS hl => lv_if_ne C.1 C.2.1 hdg ht (fun h => kt h H locs ls hP hD hS hl) (fun h => kf h H locs ls hP hD hS hl)
theorem g_icmp_ne (C : gC p s m args meth c cc nL own Ts D tys ret AS) {x y : Int32} {off : Int} {pt pf : Nat} (hdg : decode cc pc = .ok (.if_icmp .ne off, 3)) (ht : (pc : Int) + off = (pt : Int)) (hpf : pc + 3 = pf)
    (kt : ¬ x = y → gG p l e R s m args below meth c cells slots D AD AS nL Q ws pt L rest) (kf : x = y → gG p l e R s m args below meth c cells slots D AD AS nL Q ws pf L rest) : gG p l e R s m args below meth c cells slots D AD AS nL Q ws pc L (.int y :: .int x :: rest) := by
  subst hpf
  exact fun H locs ls hP hD hS hl => lv_icmp_ne C.1 C.2.1 hdg ht (fun h => kt h H locs ls hP hD hS hl) (fun h => kf h H locs ls hP hD hS hl)
theorem g_if_lt (C : gC p s m args meth c cc nL own Ts D tys ret AS) {x : Int32} {off : Int} {pt pf : Nat} (hdg : decode cc pc = .ok (.ifCond .lt off, 3)) (ht : (pc : Int) + off = (pt : Int)) (hpf : pc + 3 = pf)
    (kt : x < 0 → gG p l e R s m args below meth c cells slots D AD AS nL Q ws pt L rest) (kf : ¬ (x < 0) → gG p l e R s m args below meth c cells slots D AD AS nL Q ws pf L rest) : gG p l e R s m args below meth c cells slots D AD AS nL Q ws pc L (.int x :: rest) := by
  subst hpf
  exact fun H locs ls hP hD hS hl => lv_if_lt C.1 C.2.1 hdg ht (fun h => kt h H locs ls hP hD hS hl) (fun h => kf h H locs ls hP hD hS hl)
theorem g_icmp_lt (C : gC p s m args meth c cc nL own Ts D tys ret AS) {x y : Int32} {off : Int} {pt pf : Nat} (hdg : decode cc pc = .ok (.if_icmp .lt off, 3)) (ht : (pc : Int) + off = (pt : Int)) (hpf : pc + 3 = pf)
    (kt : x < y → gG p l e R s m args below meth c cells slots D AD AS nL Q ws pt L rest) (kf : ¬ (x < y) → gG p l e R s m args below meth c cells slots D AD AS nL Q ws pf L rest) : gG p l e R s m args below meth c cells slots D AD AS nL Q ws pc L (.int y :: .int x :: rest) := by
  subst hpf
  exact fun H locs ls hP hD hS hl => lv_icmp_lt C.1 C.2.1 hdg ht (fun h => kt h H locs ls hP hD hS hl) (fun h => kf h H locs ls hP hD hS hl)
theorem g_if_ge (C : gC p s m args meth c cc nL own Ts D tys ret AS) {x : Int32} {off : Int} {pt pf : Nat} (hdg : decode cc pc = .ok (.ifCond .ge off, 3)) (ht : (pc : Int) + off = (pt : Int)) (hpf : pc + 3 = pf)
    (kt : 0 ≤ x → gG p l e R s m args below meth c cells slots D AD AS nL Q ws pt L rest) (kf : ¬ (0 ≤ x) → gG p l e R s m args below meth c cells slots D AD AS nL Q ws pf L rest) : gG p l e R s m args below meth c cells slots D AD AS nL Q ws pc L (.int x :: rest) := by
  subst hpf
  exact fun H locs ls hP hD hS hl => lv_if_ge C.1 C.2.1 hdg ht (fun h => kt h H locs ls hP hD hS hl) (fun h => kf h H locs ls hP hD hS hl)
theorem g_icmp_ge (C : gC p s m args meth c cc nL own Ts D tys ret AS) {x y : Int32} {off : Int} {pt pf : Nat} (hdg : decode cc pc = .ok (.if_icmp .ge off, 3)) (ht : (pc : Int) + off = (pt : Int)) (hpf : pc + 3 = pf)
    (kt : y ≤ x → gG p l e R s m args below meth c cells slots D AD AS nL Q ws pt L rest) (kf : ¬ (y ≤ x) → gG p l e R s m args below meth c cells slots D AD AS nL Q ws pf L rest) : gG p l e R s m args below meth c cells slots D AD AS nL Q ws pc L (.int y :: .int x :: rest) := by
  subst hpf
  exact fun H locs ls hP hD hS hl => lv_icmp_ge C.1 C.2.1 hdg ht (fun h => kt h H locs ls hP hD hS hl) (fun h => kf h H locs ls hP hD hS hl)
theorem g_if_gt (C : gC p s m args meth c cc nL own Ts D tys ret AS) {x : Int32} {off : Int} {pt pf : Nat} (hdg : decode cc pc = .ok (.ifCond .gt off, 3)) (ht : (pc : Int) + off = (pt : Int)) (hpf : pc + 3 = pf)
    (kt : 0 < x → gG p l e R s m args below meth c cells slots D AD AS nL Q ws pt L rest) (kf : ¬ (0 < x) → gG p l e R s m args below meth c cells slots D AD AS nL Q ws pf L rest) : gG p l e R s m args below meth c cells slots D AD AS nL Q ws pc L (.int x :: rest) := by
  subst hpf
  exact fun H locs ls hP hD hS hl => lv_if_gt C.1 C.2.1 hdg ht (fun h => kt h H locs ls hP hD hS hl) (fun h => kf h H locs ls hP hD hS hl)
theorem g_icmp_gt (C : gC p s m args meth c cc nL own Ts D tys ret AS) {x y : Int32} {off : Int} {pt pf : Nat} (hdg : decode cc pc = .ok (.if_icmp .gt off, 3)) (ht : (pc : Int) + off = (pt : Int)) (hpf : pc + 3 = pf)
    (kt : y < x → gG p l e R s m args below meth c cells slots D AD AS nL Q ws pt L rest) (kf : ¬ (y < x) → gG p l e R s m args below meth c cells slots D AD AS nL Q ws pf L rest) : gG p l e R s m args below meth c cells slots D AD AS nL Q ws pc L (.int y :: .int x :: rest) := by
  subst hpf
  exact fun H locs ls hP hD hS hl => lv_icmp_gt C.1 C.2.1 hdg ht (fun h => kt h H locs ls hP hD hS hl) (fun h => kf h H locs ls hP hD hS hl)
theorem g_if_le (C : gC p s m args meth c cc nL own Ts D tys ret AS) {x : Int32} {off : Int} {pt pf : Nat} (hdg : decode cc pc = .ok (.ifCond .le off, 3)) (ht : (pc : Int) + off = (pt : Int)) (hpf : pc + 3 = pf)
    (kt : x ≤ 0 → gG p l e R s m args below meth c cells slots D AD AS nL Q ws pt L rest) (kf : ¬ (x ≤ 0) → gG p l e R s m args below meth c cells slots D AD AS nL Q ws pf L rest) : gG p l e R s m args below meth c cells slots D AD AS nL Q ws pc L (.int x :: rest) := by
  subst hpf
  exact fun H locs ls hP hD hS hl => lv_if_le C.1 C.2.1 hdg ht (fun h => kt h H locs ls hP hD hS hl) (fun h => kf h H locs ls hP hD hS hl)
theorem g_icmp_le (C : gC p s m args meth c cc nL own Ts D tys ret AS) {x y : Int32} {off : Int} {pt pf : Nat} (hdg : decode cc pc = .ok (.if_icmp .le off, 3)) (ht : (pc : Int) + off = (pt : Int)) (hpf : pc + 3 = pf)
    (kt : x ≤ y → gG p l e R s m args below meth c cells slots D AD AS nL Q ws pt L rest) (kf : ¬ (x ≤ y) → gG p l e R s m args below meth c cells slots D AD AS nL Q ws pf L rest) : gG p l e R s m args below meth c cells slots D AD AS nL Q ws pc L (.int y :: .int x :: rest) := by
  subst hpf
  exact fun H locs ls hP hD hS hl => lv_icmp_le C.1 C.2.1 hdg ht (fun h => kt h H locs ls hP hD hS hl) (fun h => kf h H locs ls hP hD hS hl)
theorem g_goto (C : gC p s m args meth c cc nL own Ts D tys ret AS) {off : Int} {pt : Nat} (hdg : decode cc pc = .ok (.goto off, 3)) (ht : (pc : Int) + off = (pt : Int)) (k : gG p l e R s m args below meth c cells slots D AD AS nL Q ws pt L rest) : gG p l e R s m args below meth c cells slots D AD AS nL Q ws pc L rest :=
  fun H locs ls hP hD hS hl => lv_goto C.1 C.2.1 hdg ht (k H locs ls hP hD hS hl)
theorem g_switchIn (C : gC p s m args meth c cc nL own Ts D tys ret AS) {dflt lo hi : Int} {offs : Array Int} {len : Nat} {x : Int32} (v : Int) {off : Int} {pt : Nat} (hdg : decode cc pc = .ok (.tableswitch dflt lo hi offs, len)) (hx : x = Int32.ofInt v) (hv : (Int32.ofInt v).toInt = v) (h1 : ¬ v < lo) (h2 : ¬ hi < v) (ho : offs[(v - lo).toNat]? = some off) (ht : (pc : Int) + off = (pt : Int)) (k : gG p l e R s m args below meth c cells slots D AD AS nL Q ws pt L rest) : gG p l e R s m args below meth c cells slots D AD AS nL Q ws pc L (.int x :: rest) := by
  subst hx
  exact fun H locs ls hP hD hS hl => lv_tableIn C.1 C.2.1 hdg (by rw [hv]; exact h1) (by rw [hv]; exact h2) (by rw [hv]; exact ho) ht (k H locs ls hP hD hS hl)
theorem g_switchOut (C : gC p s m args meth c cc nL own Ts D tys ret AS) {dflt lo hi : Int} {offs : Array Int} {len : Nat} {x : Int32} {pt : Nat} (hdg : decode cc pc = .ok (.tableswitch dflt lo hi offs, len)) (h : x.toInt < lo ∨ hi < x.toInt) (ht : (pc : Int) + dflt = (pt : Int)) (k : gG p l e R s m args below meth c cells slots D AD AS nL Q ws pt L rest) : gG p l e R s m args below meth c cells slots D AD AS nL Q ws pc L (.int x :: rest) :=
  fun H locs ls hP hD hS hl => lv_tableOut C.1 C.2.1 hdg h ht (k H locs ls hP hD hS hl)
theorem g_lookup (C : gC p s m args meth c cc nL own Ts D tys ret AS) {dflt : Int} {ps : Array (Int × Int)} {len : Nat} {x : Int32} {off : Int} {pt : Nat} (hdg : decode cc pc = .ok (.lookupswitch dflt ps, len)) (hp : (ps.toList.zip (ps.toList.drop 1)).all (fun (a, next) => a.1 < next.1) = true) (ho : Op.lookupswitch.offset ps.toList dflt x.toInt = off) (ht : (pc : Int) + off = (pt : Int)) (k : gG p l e R s m args below meth c cells slots D AD AS nL Q ws pt L rest) : gG p l e R s m args below meth c cells slots D AD AS nL Q ws pc L (.int x :: rest) :=
  fun H locs ls hP hD hS hl => lv_lookup C.1 C.2.1 hdg hp ho ht (k H locs ls hP hD hS hl)
theorem g_ldc2 (C : gC p s m args meth c cc nL own Ts D tys ret AS) {index : Nat} {v : Int64} {pc' : Nat} (hw : Jvm.Cond.constantLong own index v ∈ Ts) (hdg : decode cc pc = .ok (.ldc2_w index, 3)) (hpc : pc + 3 = pc') (k : gG p l e R s m args below meth c cells slots D AD AS nL Q ws pc' L (.long v :: rest)) : gG p l e R s m args below meth c cells slots D AD AS nL Q ws pc L rest := by
  subst hpc
  exact fun H locs ls hP hD hS hl => lv_ldc2 C.1 C.2.1 C.2.2.2.1 (C.2.2.2.2.1 _ hw) hdg (k H locs ls hP hD hS hl)
theorem g_ifnullN (C : gC p s m args meth c cc nL own Ts D tys ret AS) {off : Int} {pt : Nat} (hdg : decode cc pc = .ok (.ifnull off, 3)) (ht : (pc : Int) + off = (pt : Int)) (k : gG p l e R s m args below meth c cells slots D AD AS nL Q ws pt L rest) : gG p l e R s m args below meth c cells slots D AD AS nL Q ws pc L (.null :: rest) :=
  fun H locs ls hP hD hS hl => lv_ifnullN C.1 C.2.1 hdg ht (k H locs ls hP hD hS hl)
theorem g_ifnullR (C : gC p s m args meth c cc nL own Ts D tys ret AS) {off : Int} {x pf : Nat} (hdg : decode cc pc = .ok (.ifnull off, 3)) (hpf : pc + 3 = pf) (k : gG p l e R s m args below meth c cells slots D AD AS nL Q ws pf L rest) : gG p l e R s m args below meth c cells slots D AD AS nL Q ws pc L (.ref x :: rest) := by
  subst hpf
  exact fun H locs ls hP hD hS hl => lv_ifnull C.1 C.2.1 hdg (k H locs ls hP hD hS hl)
theorem g_ifnonnullN (C : gC p s m args meth c cc nL own Ts D tys ret AS) {off : Int} {pf : Nat} (hdg : decode cc pc = .ok (.ifnonnull off, 3)) (hpf : pc + 3 = pf) (k : gG p l e R s m args below meth c cells slots D AD AS nL Q ws pf L rest) : gG p l e R s m args below meth c cells slots D AD AS nL Q ws pc L (.null :: rest) := by
  subst hpf
  exact fun H locs ls hP hD hS hl => lv_ifnonnullN C.1 C.2.1 hdg (k H locs ls hP hD hS hl)
theorem g_ifnonnullR (C : gC p s m args meth c cc nL own Ts D tys ret AS) {off : Int} {x pt : Nat} (hdg : decode cc pc = .ok (.ifnonnull off, 3)) (ht : (pc : Int) + off = (pt : Int)) (k : gG p l e R s m args below meth c cells slots D AD AS nL Q ws pt L rest) : gG p l e R s m args below meth c cells slots D AD AS nL Q ws pc L (.ref x :: rest) :=
  fun H locs ls hP hD hS hl => lv_ifnonnull C.1 C.2.1 hdg ht (k H locs ls hP hD hS hl)
theorem g_getf (C : gC p s m args meth c cc nL own Ts D tys ret AS) {C' ref : String} {T : u_T} {N ci index : Nat} (q0 : Nat) {a : Nat} {fs : List Value} {v : Value} (k : Nat) {pc' : Nat} (hin : ∀ w ∈ u_ws C' T N, w ∈ Ts) (he : ws[q0]? = some (a, .inr (ci, fs))) (hc : vwCl[ci]? = some (C', T, N)) (hk : k < N) (hlink : Cond.fieldLink own index ref (T k).2.1 (T k).2.2.1 ∈ Ts) (hsame : (T k).1 = ref) (hv : fs[k]? = some v) (hdg : decode cc pc = .ok (.getfield index, 3)) (hpc : pc + 3 = pc') (kk : gG p l e R s m args below meth c cells slots D AD AS nL Q ws pc' L (v :: rest)) : gG p l e R s m args below meth c cells slots D AD AS nL Q ws pc L (.ref a :: rest) := by
  subst hpc
  subst hsame
  exact fun H locs ls hP hD hS hl => va_get C.1 C.2.1 C.2.2.2.2.1 hin C.2.2.2.1 C.2.2.2.2.2.1 hP q0 he hc k hk (C.2.2.2.2.1 _ hlink) (fun _ h9 => h9) hv hdg (kk H locs ls hP hD hS hl)
theorem g_putf (C : gC p s m args meth c cc nL own Ts D tys ret AS) {C' ref : String} {T : u_T} {N ci index : Nat} (q0 : Nat) {a : Nat} {fs : List Value} {v : Value} (k : Nat) {ty : FieldType} {ws' : va_W} {pc' : Nat} (ty0 : Nat → FieldType) (hty : ∀ k, k < N → parseFieldDescriptor (T k).2.2.1 = some (ty0 k)) (hnm : ∀ a, a < N → ∀ b, b < N → a ≠ b → (T a).2.1 ≠ (T b).2.1) (hin : ∀ w ∈ u_ws C' T N, w ∈ Ts) (he : ws[q0]? = some (a, .inr (ci, fs))) (hc : vwCl[ci]? = some (C', T, N)) (hk : k < N) (hlink : Cond.fieldLink own index ref (T k).2.1 (T k).2.2.1 ∈ Ts) (hsame : (T k).1 = ref) (hfin : (T k).2.2.2 = false) (hd : parseFieldDescriptor (T k).2.2.1 = some ty) (hn : narrow ty v = v) (hfit : fits ty v = true) (hl9 : k < fs.length) (hW : ws.set q0 (a, .inr (ci, fs.set k v)) = ws') (hdg : decode cc pc = .ok (.putfield index, 3)) (hpc : pc + 3 = pc') (kk : gG p l e R s m args below meth c cells slots D AS AS nL Q ws' pc' L rest) : gG p l e R s m args below meth c cells slots D AS AS nL Q ws pc L (v :: .ref a :: rest) := by
  subst hpc
  subst hsame
  subst hW
  exact fun H locs ls hP hD hS hl => va_put C.1 C.2.1 C.2.2.2.2.1 hin ty0 hty hnm C.2.2.2.1 C.2.2.2.2.2.1 hP hD hS q0 he hc k hk (C.2.2.2.2.1 _ hlink) (fun _ h9 => h9) hfin hd hn hfit hl9 hdg (fun H1 locs1 hP1 hD1 hS1 => kk H1 locs1 ls hP1 hD1 hS1 hl)
theorem g_iald (C : gC p s m args meth c cc nL own Ts D tys ret AS) (q0 t0 : Nat) {a n : Nat} {cA : ClassId} {f : Nat → Int32} {i : Int32} {v : Int32} {pc' : Nat} (ha : ws[q0]? = some (a, .inl (cA, n, .inl f))) (ht : tys[t0]? = some (cA, .int)) (hy : ald n f i = some v) (hdg : decode cc pc = .ok (.iaload, 1)) (hpc : pc + 1 = pc') (kk : gG p l e R s m args below meth c cells slots D AD AS nL Q ws pc' L (.int v :: rest)) : gG p l e R s m args below meth c cells slots D AD AS nL Q ws pc L (.int i :: .ref a :: rest) := by
  subst hpc
  obtain ⟨h1, h2⟩ := ald_in hy
  subst h2
  exact fun H locs ls hP hD hS hl => va_iald C.1 C.2.1 C.2.2.2.2.2.1 hP q0 t0 ha ht h1 hdg (kk H locs ls hP hD hS hl)
theorem g_lald (C : gC p s m args meth c cc nL own Ts D tys ret AS) (q0 t0 : Nat) {a n : Nat} {cA : ClassId} {f : Nat → Int64} {i : Int32} {v : Int64} {pc' : Nat} (ha : ws[q0]? = some (a, .inl (cA, n, .inr (.inl f)))) (ht : tys[t0]? = some (cA, .long)) (hy : ald n f i = some v) (hdg : decode cc pc = .ok (.laload, 1)) (hpc : pc + 1 = pc') (kk : gG p l e R s m args below meth c cells slots D AD AS nL Q ws pc' L (.long v :: rest)) : gG p l e R s m args below meth c cells slots D AD AS nL Q ws pc L (.int i :: .ref a :: rest) := by
  subst hpc
  obtain ⟨h1, h2⟩ := ald_in hy
  subst h2
  exact fun H locs ls hP hD hS hl => va_lald C.1 C.2.1 C.2.2.2.2.2.1 hP q0 t0 ha ht h1 hdg (kk H locs ls hP hD hS hl)
theorem g_bald (C : gC p s m args meth c cc nL own Ts D tys ret AS) (q0 t0 : Nat) {a n : Nat} {cA : ClassId} {f : Nat → Int32} {i : Int32} {v : Int32} {pc' : Nat} (ha : ws[q0]? = some (a, .inl (cA, n, .inl f))) (ht : tys[t0]? = some (cA, .byte)) (hy : ald n f i = some v) (hdg : decode cc pc = .ok (.baload, 1)) (hpc : pc + 1 = pc') (kk : gG p l e R s m args below meth c cells slots D AD AS nL Q ws pc' L (.int v :: rest)) : gG p l e R s m args below meth c cells slots D AD AS nL Q ws pc L (.int i :: .ref a :: rest) := by
  subst hpc
  obtain ⟨h1, h2⟩ := ald_in hy
  subst h2
  exact fun H locs ls hP hD hS hl => va_bald C.1 C.2.1 C.2.2.2.2.2.1 hP q0 t0 ha ht h1 hdg (kk H locs ls hP hD hS hl)
theorem g_zald (C : gC p s m args meth c cc nL own Ts D tys ret AS) (q0 t0 : Nat) {a n : Nat} {cA : ClassId} {f : Nat → Int32} {i : Int32} {v : Int32} {pc' : Nat} (ha : ws[q0]? = some (a, .inl (cA, n, .inl f))) (ht : tys[t0]? = some (cA, .boolean)) (hy : ald n f i = some v) (hdg : decode cc pc = .ok (.baload, 1)) (hpc : pc + 1 = pc') (kk : gG p l e R s m args below meth c cells slots D AD AS nL Q ws pc' L (.int v :: rest)) : gG p l e R s m args below meth c cells slots D AD AS nL Q ws pc L (.int i :: .ref a :: rest) := by
  subst hpc
  obtain ⟨h1, h2⟩ := ald_in hy
  subst h2
  exact fun H locs ls hP hD hS hl => va_zald C.1 C.2.1 C.2.2.2.2.2.1 hP q0 t0 ha ht h1 hdg (kk H locs ls hP hD hS hl)
theorem g_iast (C : gC p s m args meth c cc nL own Ts D tys ret AS) (q0 t0 : Nat) {a n : Nat} {cA : ClassId} {f g : Nat → Int32} {i : Int32} {x : Int32} {ws' : va_W} {pc' : Nat} (ha : ws[q0]? = some (a, .inl (cA, n, .inl f))) (ht : tys[t0]? = some (cA, .int)) (hy : ast n f i x = some g) (hW : ws.set q0 (a, .inl (cA, n, .inl g)) = ws') (hdg : decode cc pc = .ok (.iastore, 1)) (hpc : pc + 1 = pc') (kk : gG p l e R s m args below meth c cells slots D AS AS nL Q ws' pc' L rest) : gG p l e R s m args below meth c cells slots D AS AS nL Q ws pc L (.int x :: .int i :: .ref a :: rest) := by
  subst hpc
  subst hW
  obtain ⟨h1, h2⟩ := ast_in hy
  subst h2
  exact fun H locs ls hP hD hS hl => va_iast C.1 C.2.1 C.2.2.2.2.2.1 hP hD hS q0 t0 ha ht h1 hdg (fun H1 locs1 hP1 hD1 hS1 => kk H1 locs1 ls hP1 hD1 hS1 hl)
theorem g_bast (C : gC p s m args meth c cc nL own Ts D tys ret AS) (q0 t0 : Nat) {a n : Nat} {cA : ClassId} {f g : Nat → Int32} {i : Int32} {x : Int32} {ws' : va_W} {pc' : Nat} (ha : ws[q0]? = some (a, .inl (cA, n, .inl f))) (ht : tys[t0]? = some (cA, .byte)) (hy : ast n f i (vp_nar .byte x) = some g) (hW : ws.set q0 (a, .inl (cA, n, .inl g)) = ws') (hdg : decode cc pc = .ok (.bastore, 1)) (hpc : pc + 1 = pc') (kk : gG p l e R s m args below meth c cells slots D AS AS nL Q ws' pc' L rest) : gG p l e R s m args below meth c cells slots D AS AS nL Q ws pc L (.int x :: .int i :: .ref a :: rest) := by
  subst hpc
  subst hW
  obtain ⟨h1, h2⟩ := ast_in hy
  subst h2
  exact fun H locs ls hP hD hS hl => va_bast C.1 C.2.1 C.2.2.2.2.2.1 hP hD hS q0 t0 ha ht h1 hdg (fun H1 locs1 hP1 hD1 hS1 => kk H1 locs1 ls hP1 hD1 hS1 hl)
theorem g_zast (C : gC p s m args meth c cc nL own Ts D tys ret AS) (q0 t0 : Nat) {a n : Nat} {cA : ClassId} {f g : Nat → Int32} {i : Int32} {x : Int32} {ws' : va_W} {pc' : Nat} (ha : ws[q0]? = some (a, .inl (cA, n, .inl f))) (ht : tys[t0]? = some (cA, .boolean)) (hy : ast n f i (vp_nar .boolean x) = some g) (hW : ws.set q0 (a, .inl (cA, n, .inl g)) = ws') (hdg : decode cc pc = .ok (.bastore, 1)) (hpc : pc + 1 = pc') (kk : gG p l e R s m args below meth c cells slots D AS AS nL Q ws' pc' L rest) : gG p l e R s m args below meth c cells slots D AS AS nL Q ws pc L (.int x :: .int i :: .ref a :: rest) := by
  subst hpc
  subst hW
  obtain ⟨h1, h2⟩ := ast_in hy
  subst h2
  exact fun H locs ls hP hD hS hl => va_zast C.1 C.2.1 C.2.2.2.2.2.1 hP hD hS q0 t0 ha ht h1 hdg (fun H1 locs1 hP1 hD1 hS1 => kk H1 locs1 ls hP1 hD1 hS1 hl)
theorem g_last (C : gC p s m args meth c cc nL own Ts D tys ret AS) (q0 t0 : Nat) {a n : Nat} {cA : ClassId} {f g : Nat → Int64} {i : Int32} {x : Int64} {ws' : va_W} {pc' : Nat} (ha : ws[q0]? = some (a, .inl (cA, n, .inr (.inl f)))) (ht : tys[t0]? = some (cA, .long)) (hy : lst n f i x = some g) (hW : ws.set q0 (a, .inl (cA, n, .inr (.inl g))) = ws') (hdg : decode cc pc = .ok (.lastore, 1)) (hpc : pc + 1 = pc') (kk : gG p l e R s m args below meth c cells slots D AS AS nL Q ws' pc' L rest) : gG p l e R s m args below meth c cells slots D AS AS nL Q ws pc L (.long x :: .int i :: .ref a :: rest) := by
  subst hpc
  subst hW
  obtain ⟨h1, h2⟩ := lst_in hy
  subst h2
  exact fun H locs ls hP hD hS hl => va_last C.1 C.2.1 C.2.2.2.2.2.1 hP hD hS q0 t0 ha ht h1 hdg (fun H1 locs1 hP1 hD1 hS1 => kk H1 locs1 ls hP1 hD1 hS1 hl)
theorem g_alen (C : gC p s m args meth c cc nL own Ts D tys ret AS) (q0 t0 : Nat) {a : Nat} {cA : ClassId} {x : vp_A} {ty : FieldType} {v : Int32} {pc' : Nat} (ha : ws[q0]? = some (a, .inl (cA, x))) (ht : tys[t0]? = some (cA, ty)) (hv : Int32.ofNat x.1 = v) (hdg : decode cc pc = .ok (.arraylength, 1)) (hpc : pc + 1 = pc') (kk : gG p l e R s m args below meth c cells slots D AD AS nL Q ws pc' L (.int v :: rest)) : gG p l e R s m args below meth c cells slots D AD AS nL Q ws pc L (.ref a :: rest) := by
  subst hpc
  exact fun H locs ls hP hD hS hl => va_alen C.1 C.2.1 C.2.2.2.2.2.1 hP q0 t0 ha ht hv hdg (kk H locs ls hP hD hS hl)
theorem g_sub {L' : List (Nat × Value)} {st : List Value} (ks : List Nat) (h : lv_pick L ks = L') (k : gG p l e R s m args below meth c cells slots D AD AS nL Q ws pc L' st) : gG p l e R s m args below meth c cells slots D AD AS nL Q ws pc L st :=
  fun H locs ls hP hD hS hl => k H locs ls hP hD hS (lv_sub hl ks h)
theorem g_st {st st' : List Value} (h : st = st') (k : gG p l e R s m args below meth c cells slots D AD AS nL Q ws pc L st') : gG p l e R s m args below meth c cells slots D AD AS nL Q ws pc L st := by
  subst h
  exact k
end gRules
