/-! PART 04: contracts in worlds, their entry, their ends, their calls -/
def gP (D : va_G) (tys : List (ClassId × FieldType)) (W0 : va_W) (sz : Nat) : State → Prop := fun U => U.heap.size = sz ∧ va_P D vwCl W0 U.heap ∧ va_K D vwCl tys U ∧ va_D (fun _ => True) W0 ∧ gN U
theorem gP_blind {av : List Value} {D : va_G} {tys : List (ClassId × FieldType)} {W0 : va_W} {sz : Nat} : FrameBlind (va_Pc av (gP D tys W0 sz)) := fun a U g mk q => ⟨q.1, q.2.1, q.2.2.1, va_K.moved (u := U) (U := U.calling g mk a) (Vm.Alike.refl U.vm) q.2.2.2.1, q.2.2.2.2.1, gN_same rfl q.2.2.2.2.2⟩
def gQi (D : va_G) (W0 : va_W) (sz : Nat) (r : Int32) (W1 : va_W) : Array Value → State → Outcome → State → Prop := va_Qi (fun (r' : Int32) (_ : Unit) => r' = r) (fun _ t => va_P D vwCl W1 t.heap) (va_A W0 sz)
def gQl (D : va_G) (W0 : va_W) (sz : Nat) (r : Int64) (W1 : va_W) : Array Value → State → Outcome → State → Prop := va_Ql (fun (r' : Int64) (_ : Unit) => r' = r) (fun _ t => va_P D vwCl W1 t.heap) (va_A W0 sz)
def gQv (D : va_G) (W0 : va_W) (sz : Nat) (W1 : va_W) : Array Value → State → Outcome → State → Prop := va_Qv (fun (_ : Unit) => True) (fun _ t => va_P D vwCl W1 t.heap) (va_A W0 sz)
def gRQi (r : Int32) : Array Value → State → Outcome → State → Prop := va_Qi (fun (r' : Int32) (_ : Unit) => r' = r) (fun _ _ => True) (fun _ => False)
def gRQl (r : Int64) : Array Value → State → Outcome → State → Prop := va_Ql (fun (r' : Int64) (_ : Unit) => r' = r) (fun _ _ => True) (fun _ => False)
def gRQq (r : Option Nat) : Array Value → State → Outcome → State → Prop := va_Qq (fun (r' : Option Nat) (_ : Unit) => r' = r) (fun _ _ => True) (fun _ => False)
def gMi (l : Launch) (y : MethodName) (wy : List Cond) (rm : Room) (D : va_G) (tys : List (ClassId × FieldType)) (av : List Value) (W0 : va_W) (r : Int32) (W1 : va_W) : Prop := ∀ sz, Met l y wy rm (va_Pc av (gP D tys W0 sz)) (gQi D W0 sz r W1) 0 0 (va_A W0 sz)
def gMl (l : Launch) (y : MethodName) (wy : List Cond) (rm : Room) (D : va_G) (tys : List (ClassId × FieldType)) (av : List Value) (W0 : va_W) (r : Int64) (W1 : va_W) : Prop := ∀ sz, Met l y wy rm (va_Pc av (gP D tys W0 sz)) (gQl D W0 sz r W1) 0 0 (va_A W0 sz)
def gMv (l : Launch) (y : MethodName) (wy : List Cond) (rm : Room) (D : va_G) (tys : List (ClassId × FieldType)) (av : List Value) (W0 : va_W) (W1 : va_W) : Prop := ∀ sz, Met l y wy rm (va_Pc av (gP D tys W0 sz)) (gQv D W0 sz W1) 0 0 (va_A W0 sz)
def gRi (l : Launch) (y : MethodName) (wy : List Cond) (rm : Room) (D : va_G) (tys : List (ClassId × FieldType)) (av : List Value) (W0 : va_W) (r : Int32) : Prop := ∀ sz, Met l y wy rm (va_Pc av (gP D tys W0 sz)) (gRQi r) 0 0 (fun _ => False)
def gRl (l : Launch) (y : MethodName) (wy : List Cond) (rm : Room) (D : va_G) (tys : List (ClassId × FieldType)) (av : List Value) (W0 : va_W) (r : Int64) : Prop := ∀ sz, Met l y wy rm (va_Pc av (gP D tys W0 sz)) (gRQl r) 0 0 (fun _ => False)
def gRq (l : Launch) (y : MethodName) (wy : List Cond) (rm : Room) (D : va_G) (tys : List (ClassId × FieldType)) (av : List Value) (W0 : va_W) (r : Option Nat) : Prop := ∀ sz, Met l y wy rm (va_Pc av (gP D tys W0 sz)) (gRQq r) 0 0 (fun _ => False)
/-- the entry: all that a body has, out of the contract's start -/
theorem g_enter {l : Launch} {y : MethodName} {wy wy' : List Cond} {rm : Room} {D : va_G} {tys : List (ClassId × FieldType)} {av : List Value} {W0 : va_W} {Qc : Nat → Array Value → State → Outcome → State → Prop} {free : Nat → Nat → Prop} {cc : ByteArray} {maxL : Nat} {ret : Option FieldType} {L : List (Nat × Value)} {own : String} (AD : Nat → Nat → Prop) (hAD : ∀ sz, (AD sz = fun _ => True) ∨ AD sz = va_A W0 sz) (hown9 : y.cls = own) (hy : plainName y.cls = true) (hw : wy = Cond.code y cc maxL ret :: wy') (hlen : (lg_sl av).length ≤ maxL) (hL : lv_args 0 av = L)
    (body : ∀ (p : Program) (e : Env) (s : State) (m : MethodId) (args : Array Value) (below : List Frame) (meth : Method) (c : Code), gC p s m args meth c cc maxL own wy D tys ret (free s.heap.size) → gG p l e (headSpec wy rm).room s m args below meth c 0 0 D (AD s.heap.size) (free s.heap.size) maxL (MQ below (Qc s.heap.size) args s 0 0 (free s.heap.size)) W0 0 L []) :
    ∀ sz, Met l y wy rm (va_Pc av (gP D tys W0 sz)) (Qc sz) 0 0 (free sz) := by
  intro sz
  refine Met.ofW (cc := cc) (maxL := maxL) (ret := ret) hy hw ?_
  intro p e s m args below meth c s₁ B hml hv
  obtain ⟨rfl, hsz, hP, hK, hD0, hN⟩ := hv
  subst hown9
  subst hsz
  have hx := B.exec
  have hts := atoms_spec (ws := wy) B.pre
  have hown : s.vm.findClass y.cls = some m.cls := findClass_of_methodNamed B.named
  have hl := lv_entry av hlen
  rw [lg_entry_eq]
  generalize (lg_sl av ++ List.replicate (maxL - (lg_sl av).length) Slot.unset).toArray = ls at hl ⊢
  rw [hL] at hl
  have hD : va_D (AD s.heap.size) W0 := by
    rcases hAD s.heap.size with h | h
    · rw [h]; exact hD0
    · rw [h]; exact hD0.self
  exact body p e s m _ below meth c ⟨hx, B.bytes, hml, hown, hts, hK, B.returns, B.notSynchronized, hN⟩ s.heap [] ls hP hD va_S.rf hl
/-! segments: worlds that are laid behind one another -/
def gCat : List va_W → va_W
  | [] => []
  | [a] => a
  | a :: b :: r => a ++ gCat (b :: r)
theorem gCat_flat : ∀ l : List va_W, gCat l = l.flatten
  | [] => rfl
  | [a] => by simp [gCat]
  | a :: b :: r => by
    show a ++ gCat (b :: r) = _
    rw [gCat_flat (b :: r)]
    rfl
abbrev addr (W : va_W) : List Nat := W.map (fun q => q.1)
theorem addr_app (a b : va_W) : addr (a ++ b) = addr a ++ addr b := List.map_append
theorem gA_nil : ([] : List va_W).map addr = ([] : List va_W).map addr := rfl
theorem gA_cons {a b : va_W} {l l' : List va_W} (h : addr a = addr b) (h2 : l.map addr = l'.map addr) : (a :: l).map addr = (b :: l').map addr := by
  rw [List.map_cons, List.map_cons, h, h2]
/-- segments with some put anew -/
def gSet (S : List va_W) (isC : List Nat) (S1 : List va_W) : List va_W := (isC.zip S1).foldl (fun w x => w.set x.1 x.2) S
theorem gSet_get (S1 : List va_W) : ∀ (isC : List Nat) (S : List va_W) (k : Nat) (q : va_W), isC.length = S1.length → (gSet S isC S1)[k]? = some q → (q ∈ S1) ∨ (S[k]? = some q ∧ k ∉ isC) := by
  induction S1 with
  | nil =>
    intro isC S k q hl h
    have : isC = [] := List.length_eq_zero_iff.mp hl
    subst this
    exact Or.inr ⟨h, List.not_mem_nil⟩
  | cons x S1 ih =>
    intro isC S k q hl h
    cases isC with
    | nil => cases hl
    | cons i isC =>
      have hl' : isC.length = S1.length := by simpa using hl
      have h' : (gSet (S.set i x) isC S1)[k]? = some q := h
      rcases ih isC (S.set i x) k q hl' h' with hj | ⟨h1, h2⟩
      · exact Or.inl (List.mem_cons_of_mem _ hj)
      · by_cases hki : k = i
        · subst hki
          have hlt : k < S.length := by
            have := (List.getElem?_eq_some_iff.mp h1).1
            simpa using this
          rw [List.getElem?_set_self hlt] at h1
          cases h1
          exact Or.inl List.mem_cons_self
        · rw [List.getElem?_set_ne (Ne.symm hki)] at h1
          exact Or.inr ⟨h1, fun hm => (List.mem_cons.mp hm).elim hki h2⟩
theorem gSet_addr (S1 : List va_W) : ∀ (isC : List Nat) (S S0 : List va_W), isC.map (fun i => S[i]?) = S0.map some → S1.map addr = S0.map addr → va_nd isC = true → (gSet S isC S1).map addr = S.map addr := by
  induction S1 with
  | nil =>
    intro isC S S0 h1 h2 hn
    cases isC <;> rfl
  | cons x S1 ih =>
    intro isC S S0 h1 h2 hn
    cases isC with
    | nil => rfl
    | cons i isC =>
      cases S0 with
      | nil => cases h1
      | cons y S0 =>
        rw [List.map_cons, List.map_cons] at h1 h2
        obtain ⟨h1a, h1b⟩ := List.cons.inj h1
        obtain ⟨h2a, h2b⟩ := List.cons.inj h2
        have hni : i ∉ isC ∧ va_nd isC = true := by simpa [va_nd] using hn
        have e : (gSet S (i :: isC) (x :: S1)) = gSet (S.set i x) isC S1 := rfl
        rw [e, ih isC (S.set i x) S0 ?_ h2b hni.2]
        · rw [List.map_set, h2a]
          apply List.ext_getElem?
          intro k
          by_cases hk : k = i
          · subst hk
            have hlt : k < (S.map addr).length := by
              have := (List.getElem?_eq_some_iff.mp h1a).1
              simpa using this
            rw [List.getElem?_set_self hlt, List.getElem?_map, h1a]
            rfl
          · rw [List.getElem?_set_ne (Ne.symm hk)]
        · rw [← h1b]
          apply List.map_congr_left
          intro j hj
          exact List.getElem?_set_ne (fun z => hni.1 (by rw [z]; exact hj))
theorem nd_get {α : Type} : ∀ l : List α, l.Nodup ↔ ∀ (i j : Nat) (a : α), l[i]? = some a → l[j]? = some a → i = j
  | [] => by simp
  | x :: l => by
    rw [List.nodup_cons, nd_get l]
    constructor
    · rintro ⟨h1, h2⟩ i j a hi hj
      cases i with
      | zero =>
        cases j with
        | zero => rfl
        | succ j =>
          rw [List.getElem?_cons_zero] at hi
          rw [List.getElem?_cons_succ] at hj
          cases hi
          exact absurd (List.mem_of_getElem? hj) h1
      | succ i =>
        cases j with
        | zero =>
          rw [List.getElem?_cons_zero] at hj
          rw [List.getElem?_cons_succ] at hi
          cases hj
          exact absurd (List.mem_of_getElem? hi) h1
        | succ j =>
          rw [List.getElem?_cons_succ] at hi hj
          rw [h2 i j a hi hj]
    · intro h
      refine ⟨fun hm => ?_, fun i j a hi hj => ?_⟩
      · obtain ⟨n, hn⟩ := List.getElem?_of_mem hm
        have := h 0 (n + 1) x rfl (by rw [List.getElem?_cons_succ]; exact hn)
        omega
      · have := h (i + 1) (j + 1) a (by rw [List.getElem?_cons_succ]; exact hi) (by rw [List.getElem?_cons_succ]; exact hj)
        omega
theorem nodup_of_D {A : Nat → Prop} {ws : va_W} (hD : va_D A ws) : (addr ws).Nodup := by
  rw [nd_get]
  intro i j a hi hj
  rw [List.getElem?_map] at hi hj
  cases h1 : ws[i]? with
  | none => rw [h1] at hi; cases hi
  | some x =>
    cases h2 : ws[j]? with
    | none => rw [h2] at hj; cases hj
    | some y =>
      rw [h1] at hi
      rw [h2] at hj
      exact hD.1 i j x y h1 h2 ((Option.some.inj hi).trans (Option.some.inj hj).symm)
theorem D_of_nodup {A : Nat → Prop} {ws : va_W} (h : (addr ws).Nodup) (hA : ∀ q ∈ ws, A q.1) : va_D A ws := by
  refine ⟨fun i j x y hi hj hxy => ?_, fun k q hk => hA q (List.mem_of_getElem? hk)⟩
  exact (nd_get _).mp h i j x.1 (by rw [List.getElem?_map, hi]; rfl) (by rw [List.getElem?_map, hj, hxy]; rfl)
/-- the callee's world out of the caller's -/
theorem seg_P {D : va_G} {cl : List vw_C} {S S0 : List va_W} {H : Heap} {isC : List Nat} (hP : va_P D cl (gCat S) H) (hC : isC.map (fun i => S[i]?) = S0.map some) : va_P D cl (gCat S0) H := by
  rw [gCat_flat] at hP ⊢
  intro k q hk
  obtain ⟨W, hW, hq⟩ := List.mem_flatten.mp (List.mem_of_getElem? hk)
  obtain ⟨n, hn⟩ := List.getElem?_of_mem hW
  have h1 : (S0.map some)[n]? = some (some W) := by rw [List.getElem?_map, hn]; rfl
  rw [← hC, List.getElem?_map] at h1
  cases hi : isC[n]? with
  | none => rw [hi] at h1; cases h1
  | some i =>
    rw [hi] at h1
    have hS : S[i]? = some W := by simpa using h1
    obtain ⟨j, hj⟩ := List.getElem?_of_mem (List.mem_flatten.mpr ⟨W, List.mem_of_getElem? hS, hq⟩)
    exact hP j q hj
theorem flat_nodup_disj {S : List va_W} (h : (addr S.flatten).Nodup) {i j : Nat} {W V : va_W} (hi : S[i]? = some W) (hj : S[j]? = some V) (hij : i ≠ j) {p q : Nat × va_E} (hp : p ∈ W) (hq : q ∈ V) : p.1 ≠ q.1 := by
  have key : ∀ (S : List va_W), (addr S.flatten).Nodup → ∀ (i j : Nat) (W V : va_W), S[i]? = some W → S[j]? = some V → i < j → ∀ p ∈ W, ∀ q ∈ V, p.1 ≠ q.1 := by
    intro S
    induction S with
    | nil => intro _ i j W V hi; simp at hi
    | cons X S ih =>
      intro h i j W V hi hj hlt p hp q hq
      rw [List.flatten_cons, addr_app, List.nodup_append] at h
      cases j with
      | zero => omega
      | succ j =>
        rw [List.getElem?_cons_succ] at hj
        cases i with
        | zero =>
          rw [List.getElem?_cons_zero] at hi
          cases hi
          exact h.2.2 p.1 (List.mem_map.mpr ⟨p, hp, rfl⟩) q.1 (List.mem_map.mpr ⟨q, List.mem_flatten.mpr ⟨V, List.mem_of_getElem? hj, hq⟩, rfl⟩)
        | succ i =>
          rw [List.getElem?_cons_succ] at hi
          exact ih h.2.1 i j W V hi hj (by omega) p hp q hq
  rcases Nat.lt_or_gt_of_ne hij with hl | hl
  · exact key S h i j W V hi hj hl p hp q hq
  · exact fun e => key S h j i V W hj hi hl q hq p hp e.symm
theorem seg_D {A : Nat → Prop} {S : List va_W} (hD : va_D A (gCat S)) : ∀ (isC : List Nat) (S0 : List va_W), isC.map (fun i => S[i]?) = S0.map some → va_nd isC = true → va_D A (gCat S0) := by
  intro isC S0 hC hn
  rw [gCat_flat] at hD ⊢
  have hN := nodup_of_D hD
  refine D_of_nodup ?_ ?_
  · revert isC
    induction S0 with
    | nil => intro isC _ _; exact List.nodup_nil
    | cons X S0 ih =>
      intro isC hC hn
      cases isC with
      | nil => cases hC
      | cons i isC =>
        rw [List.map_cons, List.map_cons] at hC
        obtain ⟨h1, h2⟩ := List.cons.inj hC
        have hni : i ∉ isC ∧ va_nd isC = true := by simpa [va_nd] using hn
        rw [List.flatten_cons, addr_app, List.nodup_append]
        refine ⟨?_, ih isC h2 hni.2, ?_⟩
        · obtain ⟨s, t, hst⟩ := List.append_of_mem (List.mem_of_getElem? h1)
          rw [hst, List.flatten_append, List.flatten_cons, addr_app, addr_app] at hN
          exact (List.nodup_append.mp (List.nodup_append.mp hN).2.1).1
        · intro a ha b hb
          obtain ⟨p, hp, rfl⟩ := List.mem_map.mp ha
          obtain ⟨q, hq, rfl⟩ := List.mem_map.mp hb
          obtain ⟨V, hV, hqV⟩ := List.mem_flatten.mp hq
          obtain ⟨n, hn2⟩ := List.getElem?_of_mem hV
          have h3 : (S0.map some)[n]? = some (some V) := by rw [List.getElem?_map, hn2]; rfl
          rw [← h2, List.getElem?_map] at h3
          cases hj : isC[n]? with
          | none => rw [hj] at h3; cases h3
          | some j =>
            rw [hj] at h3
            have hS : S[j]? = some V := by simpa using h3
            exact flat_nodup_disj hN h1 hS (fun z => hni.1 (z ▸ List.mem_of_getElem? hj)) hp hqV
  · intro q hq
    obtain ⟨V, hV, hqV⟩ := List.mem_flatten.mp hq
    obtain ⟨n, hn2⟩ := List.getElem?_of_mem hV
    have h3 : (S0.map some)[n]? = some (some V) := by rw [List.getElem?_map, hn2]; rfl
    rw [← hC, List.getElem?_map] at h3
    cases hj : isC[n]? with
    | none => rw [hj] at h3; cases h3
    | some j =>
      rw [hj] at h3
      have hS : S[j]? = some V := by simpa using h3
      obtain ⟨k, hk⟩ := List.getElem?_of_mem (List.mem_flatten.mpr ⟨V, List.mem_of_getElem? hS, hqV⟩)
      exact hD.2 k q hk
theorem seg_join {A0 : Nat → Prop} {D : va_G} {cl : List vw_C} {S S0 S1 S' : List va_W} {H H1 : Heap} (hP : va_P D cl (gCat S) H) (hD : va_D A0 (gCat S)) (isC : List Nat) (hC : isC.map (fun i => S[i]?) = S0.map some) (hA : S1.map addr = S0.map addr)
    (hk : ∀ q : Nat, q < H.size → ¬ va_A (gCat S0) H.size q → H1[q]? = H[q]?) (hP1 : va_P D cl (gCat S1) H1) (hJ : gSet S isC S1 = S') : va_P D cl (gCat S') H1 := by
  subst hJ
  rw [gCat_flat] at hP hD hP1 ⊢
  rw [gCat_flat] at hk
  have hlen : isC.length = S1.length := by
    have h1 := congrArg List.length hC
    have h2 := congrArg List.length hA
    simp at h1 h2
    omega
  have hN := nodup_of_D hD
  intro k q hq
  obtain ⟨W, hW, hqW⟩ := List.mem_flatten.mp (List.mem_of_getElem? hq)
  obtain ⟨n, hn⟩ := List.getElem?_of_mem hW
  rcases gSet_get S1 isC S n W hlen hn with h1 | ⟨h1, h2⟩
  · obtain ⟨j, hj⟩ := List.getElem?_of_mem (List.mem_flatten.mpr ⟨W, h1, hqW⟩)
    exact hP1 j q hj
  · obtain ⟨j, hj⟩ := List.getElem?_of_mem (List.mem_flatten.mpr ⟨W, List.mem_of_getElem? h1, hqW⟩)
    refine (hP j q hj).kept (hk q.1 (hP j q hj).lt ?_)
    rintro (⟨j2, e, hj2⟩ | hs)
    · obtain ⟨V, hV, hqV⟩ := List.mem_flatten.mp (List.mem_of_getElem? hj2)
      obtain ⟨n2, hn2⟩ := List.getElem?_of_mem hV
      have h3 : (S0.map some)[n2]? = some (some V) := by rw [List.getElem?_map, hn2]; rfl
      rw [← hC, List.getElem?_map] at h3
      cases hi : isC[n2]? with
      | none => rw [hi] at h3; cases h3
      | some i =>
        rw [hi] at h3
        have hS : S[i]? = some V := by simpa using h3
        exact flat_nodup_disj hN h1 hS (fun z => h2 (z ▸ List.mem_of_getElem? hi)) hqW hqV rfl
    · have := (hP j q hj).lt
      omega
theorem seg_addr {S S0 S1 : List va_W} {isC : List Nat} (hC : isC.map (fun i => S[i]?) = S0.map some) (hA : S1.map addr = S0.map addr) (hn : va_nd isC = true) : addr (gCat (gSet S isC S1)) = addr (gCat S) := by
  rw [gCat_flat, gCat_flat]
  show (List.flatten _).map _ = (List.flatten _).map _
  rw [List.map_flatten, List.map_flatten]
  exact congrArg List.flatten (gSet_addr S1 isC S S0 hC hA hn)
theorem seg_free {A0 : Nat → Prop} {S S0 : List va_W} {H0 H : Heap} {locs : List Loc} {isC : List Nat} (hD : va_D A0 (gCat S)) (hS : va_S A0 H0 H locs) (hA : ∀ q, H0.size ≤ q → A0 q) (hC : isC.map (fun i => S[i]?) = S0.map some) (hn : va_nd isC = true) : ∀ q, va_A (gCat S0) H.size q → A0 q := by
  rintro q (⟨k, e, hk⟩ | hs)
  · exact (seg_D hD isC S0 hC hn).2 k _ hk
  · exact hA q (Nat.le_trans hS.1 hs)
section gEnds
variable {p : Program} {l : Launch} {e : Env} {R : Room} {s : State} {m : MethodId} {args : Array Value} {below : List Frame} {meth : Method} {c : Code} {D : va_G} {AD AS : Nat → Prop} {nL : Nat} {Q : State → Prop} {ws : va_W} {L : List (Nat × Value)} {rest : List Value}
variable {cc : ByteArray} {own : String} {Ts : List Cond} {tys : List (ClassId × FieldType)} {ret : Option FieldType} {pc : Nat} {cells slots : Nat}
theorem g_w {cl : List vw_C} {W : va_W} {t : State} {H : Heap} (hP : va_P D cl W H) (ht : t.heap = H) : va_P D cl W t.heap := by
  rw [ht]
  exact hP
theorem g_F {A : Nat → Prop} {t : State} {H : Heap} {locs : List Loc} (hS : va_S A s.heap H locs) (ht : t.heap = H) : va_F A s t := hS.F ht
theorem g_iret {W0 W1 : va_W} {r v : Int32} (C : gC p s m args meth c cc nL own Ts D tys (some .int) (va_A W0 s.heap.size)) (hr : v = r) (hW : ws = W1) (hdg : decode cc pc = .ok (.ireturn, 1)) : gG p l e R s m args below meth c 0 0 D AD (va_A W0 s.heap.size) nL (MQ below (gQi D W0 s.heap.size r W1) args s 0 0 (va_A W0 s.heap.size)) ws pc L [.int v] := by
  subst hr; subst hW
  exact fun H locs ls hP hD hS hl => W.iret C.1 C.2.1 C.2.2.2.2.2.2.1 (fun t ht hW => ⟨⟨v, (), rfl, rfl, g_w hP ht⟩, hS.F ht⟩) hS.2.2 hdg C.2.2.2.2.2.2.2.1
theorem g_zret {W0 W1 : va_W} {r v : Int32} (C : gC p s m args meth c cc nL own Ts D tys (some .boolean) (va_A W0 s.heap.size)) (hz : narrow .boolean (.int v) = .int v) (hr : v = r) (hW : ws = W1) (hdg : decode cc pc = .ok (.ireturn, 1)) : gG p l e R s m args below meth c 0 0 D AD (va_A W0 s.heap.size) nL (MQ below (gQi D W0 s.heap.size r W1) args s 0 0 (va_A W0 s.heap.size)) ws pc L [.int v] := by
  subst hr; subst hW
  exact fun H locs ls hP hD hS hl => W.zret C.1 C.2.1 C.2.2.2.2.2.2.1 hz (fun t ht hW => ⟨⟨v, (), rfl, rfl, g_w hP ht⟩, hS.F ht⟩) hS.2.2 hdg C.2.2.2.2.2.2.2.1
theorem g_lret {W0 W1 : va_W} {r v : Int64} (C : gC p s m args meth c cc nL own Ts D tys (some .long) (va_A W0 s.heap.size)) (hr : v = r) (hW : ws = W1) (hdg : decode cc pc = .ok (.lreturn, 1)) : gG p l e R s m args below meth c 0 0 D AD (va_A W0 s.heap.size) nL (MQ below (gQl D W0 s.heap.size r W1) args s 0 0 (va_A W0 s.heap.size)) ws pc L [.long v] := by
  subst hr; subst hW
  exact fun H locs ls hP hD hS hl => W.lret C.1 C.2.1 C.2.2.2.2.2.2.1 (fun t ht hW => ⟨⟨v, (), rfl, rfl, g_w hP ht⟩, hS.F ht⟩) hS.2.2 hdg C.2.2.2.2.2.2.2.1
theorem g_vret {W0 W1 : va_W} (C : gC p s m args meth c cc nL own Ts D tys none (va_A W0 s.heap.size)) (hW : ws = W1) (hdg : decode cc pc = .ok (.return_, 1)) : gG p l e R s m args below meth c 0 0 D AD (va_A W0 s.heap.size) nL (MQ below (gQv D W0 s.heap.size W1) args s 0 0 (va_A W0 s.heap.size)) ws pc L [] := by
  subst hW
  exact fun H locs ls hP hD hS hl => W.vret C.1 C.2.1 C.2.2.2.2.2.2.1 (fun t ht hW => ⟨⟨(), rfl, trivial, g_w hP ht⟩, hS.F ht⟩) hS.2.2 hdg C.2.2.2.2.2.2.2.1
theorem g_iretR {r v : Int32} (C : gC p s m args meth c cc nL own Ts D tys (some .int) (fun _ => False)) (hr : v = r) (hdg : decode cc pc = .ok (.ireturn, 1)) : gG p l e R s m args below meth c 0 0 D AD (fun _ => False) nL (MQ below (gRQi r) args s 0 0 (fun _ => False)) ws pc L [.int v] := by
  subst hr
  exact fun H locs ls hP hD hS hl => W.iret C.1 C.2.1 C.2.2.2.2.2.2.1 (fun t ht hW => ⟨⟨v, (), rfl, rfl, trivial⟩, hS.F ht⟩) hS.2.2 hdg C.2.2.2.2.2.2.2.1
theorem g_zretR {r v : Int32} (C : gC p s m args meth c cc nL own Ts D tys (some .boolean) (fun _ => False)) (hz : narrow .boolean (.int v) = .int v) (hr : v = r) (hdg : decode cc pc = .ok (.ireturn, 1)) : gG p l e R s m args below meth c 0 0 D AD (fun _ => False) nL (MQ below (gRQi r) args s 0 0 (fun _ => False)) ws pc L [.int v] := by
  subst hr
  exact fun H locs ls hP hD hS hl => W.zret C.1 C.2.1 C.2.2.2.2.2.2.1 hz (fun t ht hW => ⟨⟨v, (), rfl, rfl, trivial⟩, hS.F ht⟩) hS.2.2 hdg C.2.2.2.2.2.2.2.1
theorem g_lretR {r v : Int64} (C : gC p s m args meth c cc nL own Ts D tys (some .long) (fun _ => False)) (hr : v = r) (hdg : decode cc pc = .ok (.lreturn, 1)) : gG p l e R s m args below meth c 0 0 D AD (fun _ => False) nL (MQ below (gRQl r) args s 0 0 (fun _ => False)) ws pc L [.long v] := by
  subst hr
  exact fun H locs ls hP hD hS hl => W.lret C.1 C.2.1 C.2.2.2.2.2.2.1 (fun t ht hW => ⟨⟨v, (), rfl, rfl, trivial⟩, hS.F ht⟩) hS.2.2 hdg C.2.2.2.2.2.2.2.1
theorem g_aretR {r : Option Nat} {v : Value} {n : String} (C : gC p s m args meth c cc nL own Ts D tys (some (.object n)) (fun _ => False)) (hr : v = va_rf r) (hdg : decode cc pc = .ok (.areturn, 1)) : gG p l e R s m args below meth c 0 0 D AD (fun _ => False) nL (MQ below (gRQq r) args s 0 0 (fun _ => False)) ws pc L [v] := by
  subst hr
  exact fun H locs ls hP hD hS hl => W.aret C.1 C.2.1 C.2.2.2.2.2.2.1 (Or.inl ⟨n, rfl⟩) (by cases r with | none => exact Or.inl rfl | some a => exact Or.inr ⟨a, rfl⟩) (fun t ht hW => ⟨⟨r, (), rfl, rfl, trivial⟩, hS.F ht⟩) hS.2.2 hdg C.2.2.2.2.2.2.2.1
-- calls
abbrev gY (y : MethodName) (n : Nat) : Prop := y.cls ≠ "java/lang/invoke/MethodHandle" ∧ y.cls ≠ "java/lang/invoke/VarHandle" ∧ (parseMethodDescriptor y.desc).map (fun d => d.parameters.length) = some n
abbrev gRm (rm : Room) (R : Room) (maxL : Nat) : Prop := rm.frames + 1 ≤ R.frames ∧ 8 + (maxL + 11) + rm.locals ≤ R.locals
theorem g_room {pc' : Nat} {ls : Array Slot} {st : List Value} (h : (rest.map fun v => v.category).sum ≤ 8) : 2 * (F0 m pc' ls st).monitorRoom + (rest.map fun v => v.category).sum ≤ 8 := by
  show 2 * 0 + _ ≤ 8
  omega
theorem g_sz (C : gC p s m args meth c cc nL own Ts D tys ret AS) : CallFix p m c cc nL s args Ts own := ⟨C.1, C.2.1, C.2.2.1, C.2.2.2.1, C.2.2.2.2.1⟩
theorem g_run {W0 : va_W} {ci : Nat} {q0 : Nat} {fs : List Value} {q : vw_C} {H : Heap} {b : Nat} {As : List Value} (C : gC p s m args meth c cc nL own Ts D tys ret AS) (hP : va_P D vwCl ws H) (hD : va_D AD ws) (isC : List Nat) (hC : isC.map (fun i => ws[i]?) = W0.map some) (hn : va_nd isC = true) (hc : vwCl[ci]? = some q) (he : ws[q0]? = some (b, .inr (ci, fs))) : PreV s H q.1 b (va_Pc (.ref b :: As) (gP D tys W0 H.size)) As := by
  have hf : isC.filterMap (fun i => ws[i]?) = W0 := by
    have h1 : isC.filterMap (fun i => ws[i]?) = (isC.map (fun i => ws[i]?)).filterMap id := by rw [List.filterMap_map]; rfl
    rw [h1, hC, List.filterMap_map]
    induction W0 with
    | nil => rfl
    | cons x xs ih => simp
  have hD' : va_D AD W0 := hD.sub isC hn hC
  exact ⟨gP_blind, va_recv C.2.2.2.2.2.1 hP hc he, fun U hU hW => ⟨rfl, by rw [hU], by rw [hU]; exact hP.sub isC hf, va_K.moved hW.alike C.2.2.2.2.2.1, hD'.weaken (fun _ _ _ _ => trivial), gN_warm hW C.2.2.2.2.2.2.2.2⟩⟩
theorem g_runW {W0 : va_W} {ci : Nat} {q0 : Nat} {fs : List Value} {q : vw_C} {H : Heap} {b : Nat} {As : List Value} {A9 : Nat → Prop} (C : gC p s m args meth c cc nL own Ts D tys ret AS) (hP : va_P D vwCl ws H) (hD : va_D AD ws) (hP0 : va_P D vwCl W0 H) (hD0 : va_D A9 W0) (hc : vwCl[ci]? = some q) (he : ws[q0]? = some (b, .inr (ci, fs))) : PreV s H q.1 b (va_Pc (.ref b :: As) (gP D tys W0 H.size)) As :=
  ⟨gP_blind, va_recv C.2.2.2.2.2.1 hP hc he, fun U hU hW => ⟨rfl, by rw [hU], by rw [hU]; exact hP0, va_K.moved hW.alike C.2.2.2.2.2.1, hD0.weaken (fun _ _ _ _ => trivial), gN_warm hW C.2.2.2.2.2.2.2.2⟩⟩
theorem g_runSW {W0 : va_W} {H : Heap} {As : List Value} {A9 : Nat → Prop} (C : gC p s m args meth c cc nL own Ts D tys ret AS) (hP0 : va_P D vwCl W0 H) (hD0 : va_D A9 W0) : PreS s H (va_Pc As (gP D tys W0 H.size)) As :=
  ⟨gP_blind, fun U hU hW => ⟨rfl, by rw [hU], by rw [hU]; exact hP0, va_K.moved hW.alike C.2.2.2.2.2.1, hD0.weaken (fun _ _ _ _ => trivial), gN_warm hW C.2.2.2.2.2.2.2.2⟩⟩
theorem g_runS {W0 : va_W} {H : Heap} {As : List Value} (C : gC p s m args meth c cc nL own Ts D tys ret AS) (hP : va_P D vwCl ws H) (hD : va_D AD ws) (isC : List Nat) (hC : isC.map (fun i => ws[i]?) = W0.map some) (hn : va_nd isC = true) : PreS s H (va_Pc As (gP D tys W0 H.size)) As := by
  have hf : isC.filterMap (fun i => ws[i]?) = W0 := by
    have h1 : isC.filterMap (fun i => ws[i]?) = (isC.map (fun i => ws[i]?)).filterMap id := by rw [List.filterMap_map]; rfl
    rw [h1, hC, List.filterMap_map]
    induction W0 with
    | nil => rfl
    | cons x xs ih => simp
  have hD' : va_D AD W0 := hD.sub isC hn hC
  exact ⟨gP_blind, fun U hU hW => ⟨rfl, by rw [hU], by rw [hU]; exact hP.sub isC hf, va_K.moved hW.alike C.2.2.2.2.2.1, hD'.weaken (fun _ _ _ _ => trivial), gN_warm hW C.2.2.2.2.2.2.2.2⟩⟩
theorem g_callViM {y : MethodName} {wy wy' : List Cond} {rm : Room} {W00 : va_W} {W0 : va_W} {W1 W' : va_W} {r : Int32} {b : Nat} {As : List Value} {st : List Value} {n index maxL : Nat} {bytes : ByteArray} {ret' : Option FieldType} {pc' : Nat} (C : gC p s m args meth c cc nL own Ts D tys ret (va_A W00 s.heap.size)) (hM : gMi l y wy rm D tys (.ref b :: As) W0 r W1) {q0 ci : Nat} {fs : List Value} {T : u_T} {N : Nat} {C' : String} (he : ws[q0]? = some (b, .inr (ci, fs))) (hc : vwCl[ci]? = some (C', T, N)) (g : GoodIn Ts (wsV own index C' y wy)) (hcl : y.cls = C') (hd : gY y n) (hw : wy = Cond.code y bytes maxL ret' :: wy') (hrm : rm.cells = 0 ∧ rm.slots = 0) (hR : gRm rm R maxL) (hn : As.length = n) (isC : List Nat) (hC : isC.map (fun i => ws[i]?) = W0.map some) (hn9 : va_nd isC = true) (hl9 : W1.length = W0.length) (hJ : gJoin ws isC W1 = W') (haddr : W'.map (fun q => q.1) = ws.map (fun q => q.1)) (hst : st = As.reverse ++ .ref b :: rest) (hcat : (rest.map fun v => v.category).sum ≤ 8) (hdg : decode cc pc = .ok (.invokevirtual index, 3)) (hpc : pc + 3 = pc') (kk : gG p l e R s m args below meth c cells slots D (va_A W00 s.heap.size) (va_A W00 s.heap.size) nL Q W' pc' L (.int r :: rest)) (hcs : cells ≤ R.cells ∧ slots ≤ R.slots := by exact ⟨Nat.zero_le _, Nat.zero_le _⟩) : gG p l e R s m args below meth c cells slots D (va_A W00 s.heap.size) (va_A W00 s.heap.size) nL Q ws pc L st := by
  subst hpc
  subst hst
  intro H locs ls hP hD hS hl
  have hF := va_free hD hS (fun q h => Or.inr h) isC hC
  refine va_calli (va_runV (g_sz C) (hM H.size) (cwV n C.2.2.2.2.1 g hw hrm.1 hrm.2 ⟨hcl, hd.1, hd.2.1, hd.2.2⟩ hR) (g_run C hP hD isC hC hn9 hc he) rfl hn hl.1 rfl (g_room hcat) hdg ⟨hcs.1, hcs.2⟩) hS (fun q _ h => hF q h) hF (fun r' u t H1 locs1 ht hvm hw' hB' hz1 hk1 hS' => ?_)
  · subst hw'
    have hB9 : va_P D vwCl W1 t.heap := hB'
    rw [ht] at hB9
    have hP' := g_join hP hD isC hC hl9 hk1 hB9 hJ
    exact kk H1 locs1 ls hP' (hD.addr haddr) hS' hl
theorem g_callViR {y : MethodName} {wy wy' : List Cond} {rm : Room} {W0 : va_W} {r : Int32} {b : Nat} {As : List Value} {st : List Value} {n index maxL : Nat} {bytes : ByteArray} {ret' : Option FieldType} {pc' : Nat} (C : gC p s m args meth c cc nL own Ts D tys ret AS) (hM : gRi l y wy rm D tys (.ref b :: As) W0 r) {q0 ci : Nat} {fs : List Value} {T : u_T} {N : Nat} {C' : String} (he : ws[q0]? = some (b, .inr (ci, fs))) (hc : vwCl[ci]? = some (C', T, N)) (g : GoodIn Ts (wsV own index C' y wy)) (hcl : y.cls = C') (hd : gY y n) (hw : wy = Cond.code y bytes maxL ret' :: wy') (hrm : rm.cells = 0 ∧ rm.slots = 0) (hR : gRm rm R maxL) (hn : As.length = n) (isC : List Nat) (hC : isC.map (fun i => ws[i]?) = W0.map some) (hn9 : va_nd isC = true) (hst : st = As.reverse ++ .ref b :: rest) (hcat : (rest.map fun v => v.category).sum ≤ 8) (hdg : decode cc pc = .ok (.invokevirtual index, 3)) (hpc : pc + 3 = pc') (kk : gG p l e R s m args below meth c cells slots D AD AS nL Q ws pc' L (.int r :: rest)) (hcs : cells ≤ R.cells ∧ slots ≤ R.slots := by exact ⟨Nat.zero_le _, Nat.zero_le _⟩) : gG p l e R s m args below meth c cells slots D AD AS nL Q ws pc L st := by
  subst hpc
  subst hst
  intro H locs ls hP hD hS hl
  skip
  refine va_calli (va_runV (g_sz C) (hM H.size) (cwV n C.2.2.2.2.1 g hw hrm.1 hrm.2 ⟨hcl, hd.1, hd.2.1, hd.2.2⟩ hR) (g_run C hP hD isC hC hn9 hc he) rfl hn hl.1 rfl (g_room hcat) hdg ⟨hcs.1, hcs.2⟩) hS (fun q _ h => h.elim) (fun q h => h.elim) (fun r' u t H1 locs1 ht hvm hw' hB' hz1 hk1 hS' => ?_)
  · subst hw'
    exact kk H1 locs1 ls (hP.kept (fun k q hk => hk1 q.1 (hP k q hk).lt id)) hD hS' hl
theorem g_callVlM {y : MethodName} {wy wy' : List Cond} {rm : Room} {W00 : va_W} {W0 : va_W} {W1 W' : va_W} {r : Int64} {b : Nat} {As : List Value} {st : List Value} {n index maxL : Nat} {bytes : ByteArray} {ret' : Option FieldType} {pc' : Nat} (C : gC p s m args meth c cc nL own Ts D tys ret (va_A W00 s.heap.size)) (hM : gMl l y wy rm D tys (.ref b :: As) W0 r W1) {q0 ci : Nat} {fs : List Value} {T : u_T} {N : Nat} {C' : String} (he : ws[q0]? = some (b, .inr (ci, fs))) (hc : vwCl[ci]? = some (C', T, N)) (g : GoodIn Ts (wsV own index C' y wy)) (hcl : y.cls = C') (hd : gY y n) (hw : wy = Cond.code y bytes maxL ret' :: wy') (hrm : rm.cells = 0 ∧ rm.slots = 0) (hR : gRm rm R maxL) (hn : As.length = n) (isC : List Nat) (hC : isC.map (fun i => ws[i]?) = W0.map some) (hn9 : va_nd isC = true) (hl9 : W1.length = W0.length) (hJ : gJoin ws isC W1 = W') (haddr : W'.map (fun q => q.1) = ws.map (fun q => q.1)) (hst : st = As.reverse ++ .ref b :: rest) (hcat : (rest.map fun v => v.category).sum ≤ 8) (hdg : decode cc pc = .ok (.invokevirtual index, 3)) (hpc : pc + 3 = pc') (kk : gG p l e R s m args below meth c cells slots D (va_A W00 s.heap.size) (va_A W00 s.heap.size) nL Q W' pc' L (.long r :: rest)) (hcs : cells ≤ R.cells ∧ slots ≤ R.slots := by exact ⟨Nat.zero_le _, Nat.zero_le _⟩) : gG p l e R s m args below meth c cells slots D (va_A W00 s.heap.size) (va_A W00 s.heap.size) nL Q ws pc L st := by
  subst hpc
  subst hst
  intro H locs ls hP hD hS hl
  have hF := va_free hD hS (fun q h => Or.inr h) isC hC
  refine va_calll (va_runV (g_sz C) (hM H.size) (cwV n C.2.2.2.2.1 g hw hrm.1 hrm.2 ⟨hcl, hd.1, hd.2.1, hd.2.2⟩ hR) (g_run C hP hD isC hC hn9 hc he) rfl hn hl.1 rfl (g_room hcat) hdg ⟨hcs.1, hcs.2⟩) hS (fun q _ h => hF q h) hF (fun r' u t H1 locs1 ht hvm hw' hB' hz1 hk1 hS' => ?_)
  · subst hw'
    have hB9 : va_P D vwCl W1 t.heap := hB'
    rw [ht] at hB9
    have hP' := g_join hP hD isC hC hl9 hk1 hB9 hJ
    exact kk H1 locs1 ls hP' (hD.addr haddr) hS' hl
theorem g_callVlR {y : MethodName} {wy wy' : List Cond} {rm : Room} {W0 : va_W} {r : Int64} {b : Nat} {As : List Value} {st : List Value} {n index maxL : Nat} {bytes : ByteArray} {ret' : Option FieldType} {pc' : Nat} (C : gC p s m args meth c cc nL own Ts D tys ret AS) (hM : gRl l y wy rm D tys (.ref b :: As) W0 r) {q0 ci : Nat} {fs : List Value} {T : u_T} {N : Nat} {C' : String} (he : ws[q0]? = some (b, .inr (ci, fs))) (hc : vwCl[ci]? = some (C', T, N)) (g : GoodIn Ts (wsV own index C' y wy)) (hcl : y.cls = C') (hd : gY y n) (hw : wy = Cond.code y bytes maxL ret' :: wy') (hrm : rm.cells = 0 ∧ rm.slots = 0) (hR : gRm rm R maxL) (hn : As.length = n) (isC : List Nat) (hC : isC.map (fun i => ws[i]?) = W0.map some) (hn9 : va_nd isC = true) (hst : st = As.reverse ++ .ref b :: rest) (hcat : (rest.map fun v => v.category).sum ≤ 8) (hdg : decode cc pc = .ok (.invokevirtual index, 3)) (hpc : pc + 3 = pc') (kk : gG p l e R s m args below meth c cells slots D AD AS nL Q ws pc' L (.long r :: rest)) (hcs : cells ≤ R.cells ∧ slots ≤ R.slots := by exact ⟨Nat.zero_le _, Nat.zero_le _⟩) : gG p l e R s m args below meth c cells slots D AD AS nL Q ws pc L st := by
  subst hpc
  subst hst
  intro H locs ls hP hD hS hl
  skip
  refine va_calll (va_runV (g_sz C) (hM H.size) (cwV n C.2.2.2.2.1 g hw hrm.1 hrm.2 ⟨hcl, hd.1, hd.2.1, hd.2.2⟩ hR) (g_run C hP hD isC hC hn9 hc he) rfl hn hl.1 rfl (g_room hcat) hdg ⟨hcs.1, hcs.2⟩) hS (fun q _ h => h.elim) (fun q h => h.elim) (fun r' u t H1 locs1 ht hvm hw' hB' hz1 hk1 hS' => ?_)
  · subst hw'
    exact kk H1 locs1 ls (hP.kept (fun k q hk => hk1 q.1 (hP k q hk).lt id)) hD hS' hl
theorem g_callVvM {y : MethodName} {wy wy' : List Cond} {rm : Room} {W00 : va_W} {W0 : va_W} {W1 W' : va_W} {b : Nat} {As : List Value} {st : List Value} {n index maxL : Nat} {bytes : ByteArray} {ret' : Option FieldType} {pc' : Nat} (C : gC p s m args meth c cc nL own Ts D tys ret (va_A W00 s.heap.size)) (hM : gMv l y wy rm D tys (.ref b :: As) W0 W1) {q0 ci : Nat} {fs : List Value} {T : u_T} {N : Nat} {C' : String} (he : ws[q0]? = some (b, .inr (ci, fs))) (hc : vwCl[ci]? = some (C', T, N)) (g : GoodIn Ts (wsV own index C' y wy)) (hcl : y.cls = C') (hd : gY y n) (hw : wy = Cond.code y bytes maxL ret' :: wy') (hrm : rm.cells = 0 ∧ rm.slots = 0) (hR : gRm rm R maxL) (hn : As.length = n) (isC : List Nat) (hC : isC.map (fun i => ws[i]?) = W0.map some) (hn9 : va_nd isC = true) (hl9 : W1.length = W0.length) (hJ : gJoin ws isC W1 = W') (haddr : W'.map (fun q => q.1) = ws.map (fun q => q.1)) (hst : st = As.reverse ++ .ref b :: rest) (hcat : (rest.map fun v => v.category).sum ≤ 8) (hdg : decode cc pc = .ok (.invokevirtual index, 3)) (hpc : pc + 3 = pc') (kk : gG p l e R s m args below meth c cells slots D (va_A W00 s.heap.size) (va_A W00 s.heap.size) nL Q W' pc' L rest) (hcs : cells ≤ R.cells ∧ slots ≤ R.slots := by exact ⟨Nat.zero_le _, Nat.zero_le _⟩) : gG p l e R s m args below meth c cells slots D (va_A W00 s.heap.size) (va_A W00 s.heap.size) nL Q ws pc L st := by
  subst hpc
  subst hst
  intro H locs ls hP hD hS hl
  have hF := va_free hD hS (fun q h => Or.inr h) isC hC
  refine va_callv (va_runV (g_sz C) (hM H.size) (cwV n C.2.2.2.2.1 g hw hrm.1 hrm.2 ⟨hcl, hd.1, hd.2.1, hd.2.2⟩ hR) (g_run C hP hD isC hC hn9 hc he) rfl hn hl.1 rfl (g_room hcat) hdg ⟨hcs.1, hcs.2⟩) hS (fun q _ h => hF q h) hF (fun u t H1 locs1 ht hvm hw' hB' hz1 hk1 hS' => ?_)
  · have hB9 : va_P D vwCl W1 t.heap := hB'
    rw [ht] at hB9
    have hP' := g_join hP hD isC hC hl9 hk1 hB9 hJ
    exact kk H1 locs1 ls hP' (hD.addr haddr) hS' hl
theorem g_callVqR {y : MethodName} {wy wy' : List Cond} {rm : Room} {W0 : va_W} {r : Option Nat} {b : Nat} {As : List Value} {st : List Value} {n index maxL : Nat} {bytes : ByteArray} {ret' : Option FieldType} {pc' : Nat} (C : gC p s m args meth c cc nL own Ts D tys ret AS) (hM : gRq l y wy rm D tys (.ref b :: As) W0 r) {q0 ci : Nat} {fs : List Value} {T : u_T} {N : Nat} {C' : String} (he : ws[q0]? = some (b, .inr (ci, fs))) (hc : vwCl[ci]? = some (C', T, N)) (g : GoodIn Ts (wsV own index C' y wy)) (hcl : y.cls = C') (hd : gY y n) (hw : wy = Cond.code y bytes maxL ret' :: wy') (hrm : rm.cells = 0 ∧ rm.slots = 0) (hR : gRm rm R maxL) (hn : As.length = n) (isC : List Nat) (hC : isC.map (fun i => ws[i]?) = W0.map some) (hn9 : va_nd isC = true) (hst : st = As.reverse ++ .ref b :: rest) (hcat : (rest.map fun v => v.category).sum ≤ 8) (hdg : decode cc pc = .ok (.invokevirtual index, 3)) (hpc : pc + 3 = pc') (kk : gG p l e R s m args below meth c cells slots D AD AS nL Q ws pc' L (va_rf r :: rest)) (hcs : cells ≤ R.cells ∧ slots ≤ R.slots := by exact ⟨Nat.zero_le _, Nat.zero_le _⟩) : gG p l e R s m args below meth c cells slots D AD AS nL Q ws pc L st := by
  subst hpc
  subst hst
  intro H locs ls hP hD hS hl
  skip
  refine va_callq (va_runV (g_sz C) (hM H.size) (cwV n C.2.2.2.2.1 g hw hrm.1 hrm.2 ⟨hcl, hd.1, hd.2.1, hd.2.2⟩ hR) (g_run C hP hD isC hC hn9 hc he) rfl hn hl.1 rfl (g_room hcat) hdg ⟨hcs.1, hcs.2⟩) hS (fun q _ h => h.elim) (fun q h => h.elim) (fun r' u t H1 locs1 ht hvm hw' hB' hz1 hk1 hS' => ?_)
  · subst hw'
    exact kk H1 locs1 ls (hP.kept (fun k q hk => hk1 q.1 (hP k q hk).lt id)) hD hS' hl
theorem g_callSiM {y : MethodName} {wy wy' : List Cond} {rm : Room} {W00 : va_W} {W0 : va_W} {W1 W' : va_W} {r : Int32} {As : List Value} {st : List Value} {n index maxL : Nat} {bytes : ByteArray} {ret' : Option FieldType} {pc' : Nat} (C : gC p s m args meth c cc nL own Ts D tys ret (va_A W00 s.heap.size)) (hM : gMi l y wy rm D tys As W0 r W1) (g : GoodIn Ts (va_wsS own index y wy)) (hd : gY y n) (hw : wy = Cond.code y bytes maxL ret' :: wy') (hrm : rm.cells = 0 ∧ rm.slots = 0) (hR : gRm rm R maxL) (hn : As.length = n) (isC : List Nat) (hC : isC.map (fun i => ws[i]?) = W0.map some) (hn9 : va_nd isC = true) (hl9 : W1.length = W0.length) (hJ : gJoin ws isC W1 = W') (haddr : W'.map (fun q => q.1) = ws.map (fun q => q.1)) (hst : st = As.reverse ++ rest) (hcat : (rest.map fun v => v.category).sum ≤ 8) (hdg : decode cc pc = .ok (.invokestatic index, 3)) (hpc : pc + 3 = pc') (kk : gG p l e R s m args below meth c cells slots D (va_A W00 s.heap.size) (va_A W00 s.heap.size) nL Q W' pc' L (.int r :: rest)) (hcs : cells ≤ R.cells ∧ slots ≤ R.slots := by exact ⟨Nat.zero_le _, Nat.zero_le _⟩) : gG p l e R s m args below meth c cells slots D (va_A W00 s.heap.size) (va_A W00 s.heap.size) nL Q ws pc L st := by
  subst hpc
  subst hst
  intro H locs ls hP hD hS hl
  have hF := va_free hD hS (fun q h => Or.inr h) isC hC
  refine va_calli (va_runS (g_sz C) (hM H.size) (va_cwS n C.2.2.2.2.1 g hw hrm.1 hrm.2 hd hR) (g_runS C hP hD isC hC hn9) rfl hn hl.1 rfl (g_room hcat) hdg ⟨hcs.1, hcs.2⟩) hS (fun q _ h => hF q h) hF (fun r' u t H1 locs1 ht hvm hw' hB' hz1 hk1 hS' => ?_)
  · subst hw'
    have hB9 : va_P D vwCl W1 t.heap := hB'
    rw [ht] at hB9
    have hP' := g_join hP hD isC hC hl9 hk1 hB9 hJ
    exact kk H1 locs1 ls hP' (hD.addr haddr) hS' hl
theorem g_callSiR {y : MethodName} {wy wy' : List Cond} {rm : Room} {W0 : va_W} {r : Int32} {As : List Value} {st : List Value} {n index maxL : Nat} {bytes : ByteArray} {ret' : Option FieldType} {pc' : Nat} (C : gC p s m args meth c cc nL own Ts D tys ret AS) (hM : gRi l y wy rm D tys As W0 r) (g : GoodIn Ts (va_wsS own index y wy)) (hd : gY y n) (hw : wy = Cond.code y bytes maxL ret' :: wy') (hrm : rm.cells = 0 ∧ rm.slots = 0) (hR : gRm rm R maxL) (hn : As.length = n) (isC : List Nat) (hC : isC.map (fun i => ws[i]?) = W0.map some) (hn9 : va_nd isC = true) (hst : st = As.reverse ++ rest) (hcat : (rest.map fun v => v.category).sum ≤ 8) (hdg : decode cc pc = .ok (.invokestatic index, 3)) (hpc : pc + 3 = pc') (kk : gG p l e R s m args below meth c cells slots D AD AS nL Q ws pc' L (.int r :: rest)) (hcs : cells ≤ R.cells ∧ slots ≤ R.slots := by exact ⟨Nat.zero_le _, Nat.zero_le _⟩) : gG p l e R s m args below meth c cells slots D AD AS nL Q ws pc L st := by
  subst hpc
  subst hst
  intro H locs ls hP hD hS hl
  skip
  refine va_calli (va_runS (g_sz C) (hM H.size) (va_cwS n C.2.2.2.2.1 g hw hrm.1 hrm.2 hd hR) (g_runS C hP hD isC hC hn9) rfl hn hl.1 rfl (g_room hcat) hdg ⟨hcs.1, hcs.2⟩) hS (fun q _ h => h.elim) (fun q h => h.elim) (fun r' u t H1 locs1 ht hvm hw' hB' hz1 hk1 hS' => ?_)
  · subst hw'
    exact kk H1 locs1 ls (hP.kept (fun k q hk => hk1 q.1 (hP k q hk).lt id)) hD hS' hl
theorem g_callSlM {y : MethodName} {wy wy' : List Cond} {rm : Room} {W00 : va_W} {W0 : va_W} {W1 W' : va_W} {r : Int64} {As : List Value} {st : List Value} {n index maxL : Nat} {bytes : ByteArray} {ret' : Option FieldType} {pc' : Nat} (C : gC p s m args meth c cc nL own Ts D tys ret (va_A W00 s.heap.size)) (hM : gMl l y wy rm D tys As W0 r W1) (g : GoodIn Ts (va_wsS own index y wy)) (hd : gY y n) (hw : wy = Cond.code y bytes maxL ret' :: wy') (hrm : rm.cells = 0 ∧ rm.slots = 0) (hR : gRm rm R maxL) (hn : As.length = n) (isC : List Nat) (hC : isC.map (fun i => ws[i]?) = W0.map some) (hn9 : va_nd isC = true) (hl9 : W1.length = W0.length) (hJ : gJoin ws isC W1 = W') (haddr : W'.map (fun q => q.1) = ws.map (fun q => q.1)) (hst : st = As.reverse ++ rest) (hcat : (rest.map fun v => v.category).sum ≤ 8) (hdg : decode cc pc = .ok (.invokestatic index, 3)) (hpc : pc + 3 = pc') (kk : gG p l e R s m args below meth c cells slots D (va_A W00 s.heap.size) (va_A W00 s.heap.size) nL Q W' pc' L (.long r :: rest)) (hcs : cells ≤ R.cells ∧ slots ≤ R.slots := by exact ⟨Nat.zero_le _, Nat.zero_le _⟩) : gG p l e R s m args below meth c cells slots D (va_A W00 s.heap.size) (va_A W00 s.heap.size) nL Q ws pc L st := by
  subst hpc
  subst hst
  intro H locs ls hP hD hS hl
  have hF := va_free hD hS (fun q h => Or.inr h) isC hC
  refine va_calll (va_runS (g_sz C) (hM H.size) (va_cwS n C.2.2.2.2.1 g hw hrm.1 hrm.2 hd hR) (g_runS C hP hD isC hC hn9) rfl hn hl.1 rfl (g_room hcat) hdg ⟨hcs.1, hcs.2⟩) hS (fun q _ h => hF q h) hF (fun r' u t H1 locs1 ht hvm hw' hB' hz1 hk1 hS' => ?_)
  · subst hw'
    have hB9 : va_P D vwCl W1 t.heap := hB'
    rw [ht] at hB9
    have hP' := g_join hP hD isC hC hl9 hk1 hB9 hJ
    exact kk H1 locs1 ls hP' (hD.addr haddr) hS' hl
theorem g_callSlR {y : MethodName} {wy wy' : List Cond} {rm : Room} {W0 : va_W} {r : Int64} {As : List Value} {st : List Value} {n index maxL : Nat} {bytes : ByteArray} {ret' : Option FieldType} {pc' : Nat} (C : gC p s m args meth c cc nL own Ts D tys ret AS) (hM : gRl l y wy rm D tys As W0 r) (g : GoodIn Ts (va_wsS own index y wy)) (hd : gY y n) (hw : wy = Cond.code y bytes maxL ret' :: wy') (hrm : rm.cells = 0 ∧ rm.slots = 0) (hR : gRm rm R maxL) (hn : As.length = n) (isC : List Nat) (hC : isC.map (fun i => ws[i]?) = W0.map some) (hn9 : va_nd isC = true) (hst : st = As.reverse ++ rest) (hcat : (rest.map fun v => v.category).sum ≤ 8) (hdg : decode cc pc = .ok (.invokestatic index, 3)) (hpc : pc + 3 = pc') (kk : gG p l e R s m args below meth c cells slots D AD AS nL Q ws pc' L (.long r :: rest)) (hcs : cells ≤ R.cells ∧ slots ≤ R.slots := by exact ⟨Nat.zero_le _, Nat.zero_le _⟩) : gG p l e R s m args below meth c cells slots D AD AS nL Q ws pc L st := by
  subst hpc
  subst hst
  intro H locs ls hP hD hS hl
  skip
  refine va_calll (va_runS (g_sz C) (hM H.size) (va_cwS n C.2.2.2.2.1 g hw hrm.1 hrm.2 hd hR) (g_runS C hP hD isC hC hn9) rfl hn hl.1 rfl (g_room hcat) hdg ⟨hcs.1, hcs.2⟩) hS (fun q _ h => h.elim) (fun q h => h.elim) (fun r' u t H1 locs1 ht hvm hw' hB' hz1 hk1 hS' => ?_)
  · subst hw'
    exact kk H1 locs1 ls (hP.kept (fun k q hk => hk1 q.1 (hP k q hk).lt id)) hD hS' hl
theorem g_callSvM {y : MethodName} {wy wy' : List Cond} {rm : Room} {W00 : va_W} {W0 : va_W} {W1 W' : va_W} {As : List Value} {st : List Value} {n index maxL : Nat} {bytes : ByteArray} {ret' : Option FieldType} {pc' : Nat} (C : gC p s m args meth c cc nL own Ts D tys ret (va_A W00 s.heap.size)) (hM : gMv l y wy rm D tys As W0 W1) (g : GoodIn Ts (va_wsS own index y wy)) (hd : gY y n) (hw : wy = Cond.code y bytes maxL ret' :: wy') (hrm : rm.cells = 0 ∧ rm.slots = 0) (hR : gRm rm R maxL) (hn : As.length = n) (isC : List Nat) (hC : isC.map (fun i => ws[i]?) = W0.map some) (hn9 : va_nd isC = true) (hl9 : W1.length = W0.length) (hJ : gJoin ws isC W1 = W') (haddr : W'.map (fun q => q.1) = ws.map (fun q => q.1)) (hst : st = As.reverse ++ rest) (hcat : (rest.map fun v => v.category).sum ≤ 8) (hdg : decode cc pc = .ok (.invokestatic index, 3)) (hpc : pc + 3 = pc') (kk : gG p l e R s m args below meth c cells slots D (va_A W00 s.heap.size) (va_A W00 s.heap.size) nL Q W' pc' L rest) (hcs : cells ≤ R.cells ∧ slots ≤ R.slots := by exact ⟨Nat.zero_le _, Nat.zero_le _⟩) : gG p l e R s m args below meth c cells slots D (va_A W00 s.heap.size) (va_A W00 s.heap.size) nL Q ws pc L st := by
  subst hpc
  subst hst
  intro H locs ls hP hD hS hl
  have hF := va_free hD hS (fun q h => Or.inr h) isC hC
  refine va_callv (va_runS (g_sz C) (hM H.size) (va_cwS n C.2.2.2.2.1 g hw hrm.1 hrm.2 hd hR) (g_runS C hP hD isC hC hn9) rfl hn hl.1 rfl (g_room hcat) hdg ⟨hcs.1, hcs.2⟩) hS (fun q _ h => hF q h) hF (fun u t H1 locs1 ht hvm hw' hB' hz1 hk1 hS' => ?_)
  · have hB9 : va_P D vwCl W1 t.heap := hB'
    rw [ht] at hB9
    have hP' := g_join hP hD isC hC hl9 hk1 hB9 hJ
    exact kk H1 locs1 ls hP' (hD.addr haddr) hS' hl
theorem g_callSqR {y : MethodName} {wy wy' : List Cond} {rm : Room} {W0 : va_W} {r : Option Nat} {As : List Value} {st : List Value} {n index maxL : Nat} {bytes : ByteArray} {ret' : Option FieldType} {pc' : Nat} (C : gC p s m args meth c cc nL own Ts D tys ret AS) (hM : gRq l y wy rm D tys As W0 r) (g : GoodIn Ts (va_wsS own index y wy)) (hd : gY y n) (hw : wy = Cond.code y bytes maxL ret' :: wy') (hrm : rm.cells = 0 ∧ rm.slots = 0) (hR : gRm rm R maxL) (hn : As.length = n) (isC : List Nat) (hC : isC.map (fun i => ws[i]?) = W0.map some) (hn9 : va_nd isC = true) (hst : st = As.reverse ++ rest) (hcat : (rest.map fun v => v.category).sum ≤ 8) (hdg : decode cc pc = .ok (.invokestatic index, 3)) (hpc : pc + 3 = pc') (kk : gG p l e R s m args below meth c cells slots D AD AS nL Q ws pc' L (va_rf r :: rest)) (hcs : cells ≤ R.cells ∧ slots ≤ R.slots := by exact ⟨Nat.zero_le _, Nat.zero_le _⟩) : gG p l e R s m args below meth c cells slots D AD AS nL Q ws pc L st := by
  subst hpc
  subst hst
  intro H locs ls hP hD hS hl
  skip
  refine va_callq (va_runS (g_sz C) (hM H.size) (va_cwS n C.2.2.2.2.1 g hw hrm.1 hrm.2 hd hR) (g_runS C hP hD isC hC hn9) rfl hn hl.1 rfl (g_room hcat) hdg ⟨hcs.1, hcs.2⟩) hS (fun q _ h => h.elim) (fun q h => h.elim) (fun r' u t H1 locs1 ht hvm hw' hB' hz1 hk1 hS' => ?_)
  · subst hw'
    exact kk H1 locs1 ls (hP.kept (fun k q hk => hk1 q.1 (hP k q hk).lt id)) hD hS' hl
theorem g_callViMS {y : MethodName} {wy wy' : List Cond} {rm : Room} {W00 : va_W} {W0 : va_W} {W1 W' : va_W} {r : Int32} {b : Nat} {As : List Value} {st : List Value} {n index maxL : Nat} {bytes : ByteArray} {ret' : Option FieldType} {pc' : Nat} (C : gC p s m args meth c cc nL own Ts D tys ret (va_A W00 s.heap.size)) (hM : gMi l y wy rm D tys (.ref b :: As) W0 r W1) {q0 ci : Nat} {fs : List Value} {T : u_T} {N : Nat} {C' : String} (he : ws[q0]? = some (b, .inr (ci, fs))) (hc : vwCl[ci]? = some (C', T, N)) (g : GoodIn Ts (wsV own index C' y wy)) (hcl : y.cls = C') (hd : gY y n) (hw : wy = Cond.code y bytes maxL ret' :: wy') (hrm : rm.cells = 0 ∧ rm.slots = 0) (hR : gRm rm R maxL) (hn : As.length = n) {S S0 : List va_W} (hWs : ws = gCat S) (hW0 : W0 = gCat S0) (isC : List Nat) (hC : isC.map (fun i => S[i]?) = S0.map some) (hn9 : va_nd isC = true) {S1 S' : List va_W} (hW1 : W1 = gCat S1) (hW' : W' = gCat S') (hA9 : S1.map addr = S0.map addr) (hJ : gSet S isC S1 = S') (hst : st = As.reverse ++ .ref b :: rest) (hcat : (rest.map fun v => v.category).sum ≤ 8) (hdg : decode cc pc = .ok (.invokevirtual index, 3)) (hpc : pc + 3 = pc') (kk : gG p l e R s m args below meth c cells slots D (va_A W00 s.heap.size) (va_A W00 s.heap.size) nL Q W' pc' L (.int r :: rest)) (hcs : cells ≤ R.cells ∧ slots ≤ R.slots := by exact ⟨Nat.zero_le _, Nat.zero_le _⟩) : gG p l e R s m args below meth c cells slots D (va_A W00 s.heap.size) (va_A W00 s.heap.size) nL Q ws pc L st := by
  subst hpc
  subst hst
  subst hWs; subst hW0; subst hW1; subst hW'
  intro H locs ls hP hD hS hl
  have hF := seg_free hD hS (fun q h => Or.inr h) hC hn9
  refine va_calli (va_runV (g_sz C) (hM H.size) (cwV n C.2.2.2.2.1 g hw hrm.1 hrm.2 ⟨hcl, hd.1, hd.2.1, hd.2.2⟩ hR) (g_runW C hP hD (seg_P hP hC) (seg_D hD isC S0 hC hn9) hc he) rfl hn hl.1 rfl (g_room hcat) hdg ⟨hcs.1, hcs.2⟩) hS (fun q _ h => hF q h) hF (fun r' u t H1 locs1 ht hvm hw' hB' hz1 hk1 hS' => ?_)
  · subst hw'
    have hB9 : va_P D vwCl (gCat S1) t.heap := hB'
    rw [ht] at hB9
    have hP' := seg_join hP hD isC hC hA9 hk1 hB9 hJ
    exact kk H1 locs1 ls hP' (hD.addr (by rw [← hJ]; exact seg_addr hC hA9 hn9)) hS' hl
theorem g_callViRS {y : MethodName} {wy wy' : List Cond} {rm : Room} {W0 : va_W} {r : Int32} {b : Nat} {As : List Value} {st : List Value} {n index maxL : Nat} {bytes : ByteArray} {ret' : Option FieldType} {pc' : Nat} (C : gC p s m args meth c cc nL own Ts D tys ret AS) (hM : gRi l y wy rm D tys (.ref b :: As) W0 r) {q0 ci : Nat} {fs : List Value} {T : u_T} {N : Nat} {C' : String} (he : ws[q0]? = some (b, .inr (ci, fs))) (hc : vwCl[ci]? = some (C', T, N)) (g : GoodIn Ts (wsV own index C' y wy)) (hcl : y.cls = C') (hd : gY y n) (hw : wy = Cond.code y bytes maxL ret' :: wy') (hrm : rm.cells = 0 ∧ rm.slots = 0) (hR : gRm rm R maxL) (hn : As.length = n) {S S0 : List va_W} (hWs : ws = gCat S) (hW0 : W0 = gCat S0) (isC : List Nat) (hC : isC.map (fun i => S[i]?) = S0.map some) (hn9 : va_nd isC = true) (hst : st = As.reverse ++ .ref b :: rest) (hcat : (rest.map fun v => v.category).sum ≤ 8) (hdg : decode cc pc = .ok (.invokevirtual index, 3)) (hpc : pc + 3 = pc') (kk : gG p l e R s m args below meth c cells slots D AD AS nL Q ws pc' L (.int r :: rest)) (hcs : cells ≤ R.cells ∧ slots ≤ R.slots := by exact ⟨Nat.zero_le _, Nat.zero_le _⟩) : gG p l e R s m args below meth c cells slots D AD AS nL Q ws pc L st := by
  subst hpc
  subst hst
  subst hWs; subst hW0
  intro H locs ls hP hD hS hl
  skip
  refine va_calli (va_runV (g_sz C) (hM H.size) (cwV n C.2.2.2.2.1 g hw hrm.1 hrm.2 ⟨hcl, hd.1, hd.2.1, hd.2.2⟩ hR) (g_runW C hP hD (seg_P hP hC) (seg_D hD isC S0 hC hn9) hc he) rfl hn hl.1 rfl (g_room hcat) hdg ⟨hcs.1, hcs.2⟩) hS (fun q _ h => h.elim) (fun q h => h.elim) (fun r' u t H1 locs1 ht hvm hw' hB' hz1 hk1 hS' => ?_)
  · subst hw'
    exact kk H1 locs1 ls (hP.kept (fun k q hk => hk1 q.1 (hP k q hk).lt id)) hD hS' hl
theorem g_callVlMS {y : MethodName} {wy wy' : List Cond} {rm : Room} {W00 : va_W} {W0 : va_W} {W1 W' : va_W} {r : Int64} {b : Nat} {As : List Value} {st : List Value} {n index maxL : Nat} {bytes : ByteArray} {ret' : Option FieldType} {pc' : Nat} (C : gC p s m args meth c cc nL own Ts D tys ret (va_A W00 s.heap.size)) (hM : gMl l y wy rm D tys (.ref b :: As) W0 r W1) {q0 ci : Nat} {fs : List Value} {T : u_T} {N : Nat} {C' : String} (he : ws[q0]? = some (b, .inr (ci, fs))) (hc : vwCl[ci]? = some (C', T, N)) (g : GoodIn Ts (wsV own index C' y wy)) (hcl : y.cls = C') (hd : gY y n) (hw : wy = Cond.code y bytes maxL ret' :: wy') (hrm : rm.cells = 0 ∧ rm.slots = 0) (hR : gRm rm R maxL) (hn : As.length = n) {S S0 : List va_W} (hWs : ws = gCat S) (hW0 : W0 = gCat S0) (isC : List Nat) (hC : isC.map (fun i => S[i]?) = S0.map some) (hn9 : va_nd isC = true) {S1 S' : List va_W} (hW1 : W1 = gCat S1) (hW' : W' = gCat S') (hA9 : S1.map addr = S0.map addr) (hJ : gSet S isC S1 = S') (hst : st = As.reverse ++ .ref b :: rest) (hcat : (rest.map fun v => v.category).sum ≤ 8) (hdg : decode cc pc = .ok (.invokevirtual index, 3)) (hpc : pc + 3 = pc') (kk : gG p l e R s m args below meth c cells slots D (va_A W00 s.heap.size) (va_A W00 s.heap.size) nL Q W' pc' L (.long r :: rest)) (hcs : cells ≤ R.cells ∧ slots ≤ R.slots := by exact ⟨Nat.zero_le _, Nat.zero_le _⟩) : gG p l e R s m args below meth c cells slots D (va_A W00 s.heap.size) (va_A W00 s.heap.size) nL Q ws pc L st := by
  subst hpc
  subst hst
  subst hWs; subst hW0; subst hW1; subst hW'
  intro H locs ls hP hD hS hl
  have hF := seg_free hD hS (fun q h => Or.inr h) hC hn9
  refine va_calll (va_runV (g_sz C) (hM H.size) (cwV n C.2.2.2.2.1 g hw hrm.1 hrm.2 ⟨hcl, hd.1, hd.2.1, hd.2.2⟩ hR) (g_runW C hP hD (seg_P hP hC) (seg_D hD isC S0 hC hn9) hc he) rfl hn hl.1 rfl (g_room hcat) hdg ⟨hcs.1, hcs.2⟩) hS (fun q _ h => hF q h) hF (fun r' u t H1 locs1 ht hvm hw' hB' hz1 hk1 hS' => ?_)
  · subst hw'
    have hB9 : va_P D vwCl (gCat S1) t.heap := hB'
    rw [ht] at hB9
    have hP' := seg_join hP hD isC hC hA9 hk1 hB9 hJ
    exact kk H1 locs1 ls hP' (hD.addr (by rw [← hJ]; exact seg_addr hC hA9 hn9)) hS' hl
theorem g_callVlRS {y : MethodName} {wy wy' : List Cond} {rm : Room} {W0 : va_W} {r : Int64} {b : Nat} {As : List Value} {st : List Value} {n index maxL : Nat} {bytes : ByteArray} {ret' : Option FieldType} {pc' : Nat} (C : gC p s m args meth c cc nL own Ts D tys ret AS) (hM : gRl l y wy rm D tys (.ref b :: As) W0 r) {q0 ci : Nat} {fs : List Value} {T : u_T} {N : Nat} {C' : String} (he : ws[q0]? = some (b, .inr (ci, fs))) (hc : vwCl[ci]? = some (C', T, N)) (g : GoodIn Ts (wsV own index C' y wy)) (hcl : y.cls = C') (hd : gY y n) (hw : wy = Cond.code y bytes maxL ret' :: wy') (hrm : rm.cells = 0 ∧ rm.slots = 0) (hR : gRm rm R maxL) (hn : As.length = n) {S S0 : List va_W} (hWs : ws = gCat S) (hW0 : W0 = gCat S0) (isC : List Nat) (hC : isC.map (fun i => S[i]?) = S0.map some) (hn9 : va_nd isC = true) (hst : st = As.reverse ++ .ref b :: rest) (hcat : (rest.map fun v => v.category).sum ≤ 8) (hdg : decode cc pc = .ok (.invokevirtual index, 3)) (hpc : pc + 3 = pc') (kk : gG p l e R s m args below meth c cells slots D AD AS nL Q ws pc' L (.long r :: rest)) (hcs : cells ≤ R.cells ∧ slots ≤ R.slots := by exact ⟨Nat.zero_le _, Nat.zero_le _⟩) : gG p l e R s m args below meth c cells slots D AD AS nL Q ws pc L st := by
  subst hpc
  subst hst
  subst hWs; subst hW0
  intro H locs ls hP hD hS hl
  skip
  refine va_calll (va_runV (g_sz C) (hM H.size) (cwV n C.2.2.2.2.1 g hw hrm.1 hrm.2 ⟨hcl, hd.1, hd.2.1, hd.2.2⟩ hR) (g_runW C hP hD (seg_P hP hC) (seg_D hD isC S0 hC hn9) hc he) rfl hn hl.1 rfl (g_room hcat) hdg ⟨hcs.1, hcs.2⟩) hS (fun q _ h => h.elim) (fun q h => h.elim) (fun r' u t H1 locs1 ht hvm hw' hB' hz1 hk1 hS' => ?_)
  · subst hw'
    exact kk H1 locs1 ls (hP.kept (fun k q hk => hk1 q.1 (hP k q hk).lt id)) hD hS' hl
theorem g_callVvMS {y : MethodName} {wy wy' : List Cond} {rm : Room} {W00 : va_W} {W0 : va_W} {W1 W' : va_W} {b : Nat} {As : List Value} {st : List Value} {n index maxL : Nat} {bytes : ByteArray} {ret' : Option FieldType} {pc' : Nat} (C : gC p s m args meth c cc nL own Ts D tys ret (va_A W00 s.heap.size)) (hM : gMv l y wy rm D tys (.ref b :: As) W0 W1) {q0 ci : Nat} {fs : List Value} {T : u_T} {N : Nat} {C' : String} (he : ws[q0]? = some (b, .inr (ci, fs))) (hc : vwCl[ci]? = some (C', T, N)) (g : GoodIn Ts (wsV own index C' y wy)) (hcl : y.cls = C') (hd : gY y n) (hw : wy = Cond.code y bytes maxL ret' :: wy') (hrm : rm.cells = 0 ∧ rm.slots = 0) (hR : gRm rm R maxL) (hn : As.length = n) {S S0 : List va_W} (hWs : ws = gCat S) (hW0 : W0 = gCat S0) (isC : List Nat) (hC : isC.map (fun i => S[i]?) = S0.map some) (hn9 : va_nd isC = true) {S1 S' : List va_W} (hW1 : W1 = gCat S1) (hW' : W' = gCat S') (hA9 : S1.map addr = S0.map addr) (hJ : gSet S isC S1 = S') (hst : st = As.reverse ++ .ref b :: rest) (hcat : (rest.map fun v => v.category).sum ≤ 8) (hdg : decode cc pc = .ok (.invokevirtual index, 3)) (hpc : pc + 3 = pc') (kk : gG p l e R s m args below meth c cells slots D (va_A W00 s.heap.size) (va_A W00 s.heap.size) nL Q W' pc' L rest) (hcs : cells ≤ R.cells ∧ slots ≤ R.slots := by exact ⟨Nat.zero_le _, Nat.zero_le _⟩) : gG p l e R s m args below meth c cells slots D (va_A W00 s.heap.size) (va_A W00 s.heap.size) nL Q ws pc L st := by
  subst hpc
  subst hst
  subst hWs; subst hW0; subst hW1; subst hW'
  intro H locs ls hP hD hS hl
  have hF := seg_free hD hS (fun q h => Or.inr h) hC hn9
  refine va_callv (va_runV (g_sz C) (hM H.size) (cwV n C.2.2.2.2.1 g hw hrm.1 hrm.2 ⟨hcl, hd.1, hd.2.1, hd.2.2⟩ hR) (g_runW C hP hD (seg_P hP hC) (seg_D hD isC S0 hC hn9) hc he) rfl hn hl.1 rfl (g_room hcat) hdg ⟨hcs.1, hcs.2⟩) hS (fun q _ h => hF q h) hF (fun u t H1 locs1 ht hvm hw' hB' hz1 hk1 hS' => ?_)
  · have hB9 : va_P D vwCl (gCat S1) t.heap := hB'
    rw [ht] at hB9
    have hP' := seg_join hP hD isC hC hA9 hk1 hB9 hJ
    exact kk H1 locs1 ls hP' (hD.addr (by rw [← hJ]; exact seg_addr hC hA9 hn9)) hS' hl
theorem g_callVqRS {y : MethodName} {wy wy' : List Cond} {rm : Room} {W0 : va_W} {r : Option Nat} {b : Nat} {As : List Value} {st : List Value} {n index maxL : Nat} {bytes : ByteArray} {ret' : Option FieldType} {pc' : Nat} (C : gC p s m args meth c cc nL own Ts D tys ret AS) (hM : gRq l y wy rm D tys (.ref b :: As) W0 r) {q0 ci : Nat} {fs : List Value} {T : u_T} {N : Nat} {C' : String} (he : ws[q0]? = some (b, .inr (ci, fs))) (hc : vwCl[ci]? = some (C', T, N)) (g : GoodIn Ts (wsV own index C' y wy)) (hcl : y.cls = C') (hd : gY y n) (hw : wy = Cond.code y bytes maxL ret' :: wy') (hrm : rm.cells = 0 ∧ rm.slots = 0) (hR : gRm rm R maxL) (hn : As.length = n) {S S0 : List va_W} (hWs : ws = gCat S) (hW0 : W0 = gCat S0) (isC : List Nat) (hC : isC.map (fun i => S[i]?) = S0.map some) (hn9 : va_nd isC = true) (hst : st = As.reverse ++ .ref b :: rest) (hcat : (rest.map fun v => v.category).sum ≤ 8) (hdg : decode cc pc = .ok (.invokevirtual index, 3)) (hpc : pc + 3 = pc') (kk : gG p l e R s m args below meth c cells slots D AD AS nL Q ws pc' L (va_rf r :: rest)) (hcs : cells ≤ R.cells ∧ slots ≤ R.slots := by exact ⟨Nat.zero_le _, Nat.zero_le _⟩) : gG p l e R s m args below meth c cells slots D AD AS nL Q ws pc L st := by
  subst hpc
  subst hst
  subst hWs; subst hW0
  intro H locs ls hP hD hS hl
  skip
  refine va_callq (va_runV (g_sz C) (hM H.size) (cwV n C.2.2.2.2.1 g hw hrm.1 hrm.2 ⟨hcl, hd.1, hd.2.1, hd.2.2⟩ hR) (g_runW C hP hD (seg_P hP hC) (seg_D hD isC S0 hC hn9) hc he) rfl hn hl.1 rfl (g_room hcat) hdg ⟨hcs.1, hcs.2⟩) hS (fun q _ h => h.elim) (fun q h => h.elim) (fun r' u t H1 locs1 ht hvm hw' hB' hz1 hk1 hS' => ?_)
  · subst hw'
    exact kk H1 locs1 ls (hP.kept (fun k q hk => hk1 q.1 (hP k q hk).lt id)) hD hS' hl
theorem g_callSiMS {y : MethodName} {wy wy' : List Cond} {rm : Room} {W00 : va_W} {W0 : va_W} {W1 W' : va_W} {r : Int32} {As : List Value} {st : List Value} {n index maxL : Nat} {bytes : ByteArray} {ret' : Option FieldType} {pc' : Nat} (C : gC p s m args meth c cc nL own Ts D tys ret (va_A W00 s.heap.size)) (hM : gMi l y wy rm D tys As W0 r W1) (g : GoodIn Ts (va_wsS own index y wy)) (hd : gY y n) (hw : wy = Cond.code y bytes maxL ret' :: wy') (hrm : rm.cells = 0 ∧ rm.slots = 0) (hR : gRm rm R maxL) (hn : As.length = n) {S S0 : List va_W} (hWs : ws = gCat S) (hW0 : W0 = gCat S0) (isC : List Nat) (hC : isC.map (fun i => S[i]?) = S0.map some) (hn9 : va_nd isC = true) {S1 S' : List va_W} (hW1 : W1 = gCat S1) (hW' : W' = gCat S') (hA9 : S1.map addr = S0.map addr) (hJ : gSet S isC S1 = S') (hst : st = As.reverse ++ rest) (hcat : (rest.map fun v => v.category).sum ≤ 8) (hdg : decode cc pc = .ok (.invokestatic index, 3)) (hpc : pc + 3 = pc') (kk : gG p l e R s m args below meth c cells slots D (va_A W00 s.heap.size) (va_A W00 s.heap.size) nL Q W' pc' L (.int r :: rest)) (hcs : cells ≤ R.cells ∧ slots ≤ R.slots := by exact ⟨Nat.zero_le _, Nat.zero_le _⟩) : gG p l e R s m args below meth c cells slots D (va_A W00 s.heap.size) (va_A W00 s.heap.size) nL Q ws pc L st := by
  subst hpc
  subst hst
  subst hWs; subst hW0; subst hW1; subst hW'
  intro H locs ls hP hD hS hl
  have hF := seg_free hD hS (fun q h => Or.inr h) hC hn9
  refine va_calli (va_runS (g_sz C) (hM H.size) (va_cwS n C.2.2.2.2.1 g hw hrm.1 hrm.2 hd hR) (g_runSW C (seg_P hP hC) (seg_D hD isC S0 hC hn9)) rfl hn hl.1 rfl (g_room hcat) hdg ⟨hcs.1, hcs.2⟩) hS (fun q _ h => hF q h) hF (fun r' u t H1 locs1 ht hvm hw' hB' hz1 hk1 hS' => ?_)
  · subst hw'
    have hB9 : va_P D vwCl (gCat S1) t.heap := hB'
    rw [ht] at hB9
    have hP' := seg_join hP hD isC hC hA9 hk1 hB9 hJ
    exact kk H1 locs1 ls hP' (hD.addr (by rw [← hJ]; exact seg_addr hC hA9 hn9)) hS' hl
theorem g_callSiRS {y : MethodName} {wy wy' : List Cond} {rm : Room} {W0 : va_W} {r : Int32} {As : List Value} {st : List Value} {n index maxL : Nat} {bytes : ByteArray} {ret' : Option FieldType} {pc' : Nat} (C : gC p s m args meth c cc nL own Ts D tys ret AS) (hM : gRi l y wy rm D tys As W0 r) (g : GoodIn Ts (va_wsS own index y wy)) (hd : gY y n) (hw : wy = Cond.code y bytes maxL ret' :: wy') (hrm : rm.cells = 0 ∧ rm.slots = 0) (hR : gRm rm R maxL) (hn : As.length = n) {S S0 : List va_W} (hWs : ws = gCat S) (hW0 : W0 = gCat S0) (isC : List Nat) (hC : isC.map (fun i => S[i]?) = S0.map some) (hn9 : va_nd isC = true) (hst : st = As.reverse ++ rest) (hcat : (rest.map fun v => v.category).sum ≤ 8) (hdg : decode cc pc = .ok (.invokestatic index, 3)) (hpc : pc + 3 = pc') (kk : gG p l e R s m args below meth c cells slots D AD AS nL Q ws pc' L (.int r :: rest)) (hcs : cells ≤ R.cells ∧ slots ≤ R.slots := by exact ⟨Nat.zero_le _, Nat.zero_le _⟩) : gG p l e R s m args below meth c cells slots D AD AS nL Q ws pc L st := by
  subst hpc
  subst hst
  subst hWs; subst hW0
  intro H locs ls hP hD hS hl
  skip
  refine va_calli (va_runS (g_sz C) (hM H.size) (va_cwS n C.2.2.2.2.1 g hw hrm.1 hrm.2 hd hR) (g_runSW C (seg_P hP hC) (seg_D hD isC S0 hC hn9)) rfl hn hl.1 rfl (g_room hcat) hdg ⟨hcs.1, hcs.2⟩) hS (fun q _ h => h.elim) (fun q h => h.elim) (fun r' u t H1 locs1 ht hvm hw' hB' hz1 hk1 hS' => ?_)
  · subst hw'
    exact kk H1 locs1 ls (hP.kept (fun k q hk => hk1 q.1 (hP k q hk).lt id)) hD hS' hl
theorem g_callSlMS {y : MethodName} {wy wy' : List Cond} {rm : Room} {W00 : va_W} {W0 : va_W} {W1 W' : va_W} {r : Int64} {As : List Value} {st : List Value} {n index maxL : Nat} {bytes : ByteArray} {ret' : Option FieldType} {pc' : Nat} (C : gC p s m args meth c cc nL own Ts D tys ret (va_A W00 s.heap.size)) (hM : gMl l y wy rm D tys As W0 r W1) (g : GoodIn Ts (va_wsS own index y wy)) (hd : gY y n) (hw : wy = Cond.code y bytes maxL ret' :: wy') (hrm : rm.cells = 0 ∧ rm.slots = 0) (hR : gRm rm R maxL) (hn : As.length = n) {S S0 : List va_W} (hWs : ws = gCat S) (hW0 : W0 = gCat S0) (isC : List Nat) (hC : isC.map (fun i => S[i]?) = S0.map some) (hn9 : va_nd isC = true) {S1 S' : List va_W} (hW1 : W1 = gCat S1) (hW' : W' = gCat S') (hA9 : S1.map addr = S0.map addr) (hJ : gSet S isC S1 = S') (hst : st = As.reverse ++ rest) (hcat : (rest.map fun v => v.category).sum ≤ 8) (hdg : decode cc pc = .ok (.invokestatic index, 3)) (hpc : pc + 3 = pc') (kk : gG p l e R s m args below meth c cells slots D (va_A W00 s.heap.size) (va_A W00 s.heap.size) nL Q W' pc' L (.long r :: rest)) (hcs : cells ≤ R.cells ∧ slots ≤ R.slots := by exact ⟨Nat.zero_le _, Nat.zero_le _⟩) : gG p l e R s m args below meth c cells slots D (va_A W00 s.heap.size) (va_A W00 s.heap.size) nL Q ws pc L st := by
  subst hpc
  subst hst
  subst hWs; subst hW0; subst hW1; subst hW'
  intro H locs ls hP hD hS hl
  have hF := seg_free hD hS (fun q h => Or.inr h) hC hn9
  refine va_calll (va_runS (g_sz C) (hM H.size) (va_cwS n C.2.2.2.2.1 g hw hrm.1 hrm.2 hd hR) (g_runSW C (seg_P hP hC) (seg_D hD isC S0 hC hn9)) rfl hn hl.1 rfl (g_room hcat) hdg ⟨hcs.1, hcs.2⟩) hS (fun q _ h => hF q h) hF (fun r' u t H1 locs1 ht hvm hw' hB' hz1 hk1 hS' => ?_)
  · subst hw'
    have hB9 : va_P D vwCl (gCat S1) t.heap := hB'
    rw [ht] at hB9
    have hP' := seg_join hP hD isC hC hA9 hk1 hB9 hJ
    exact kk H1 locs1 ls hP' (hD.addr (by rw [← hJ]; exact seg_addr hC hA9 hn9)) hS' hl
theorem g_callSlRS {y : MethodName} {wy wy' : List Cond} {rm : Room} {W0 : va_W} {r : Int64} {As : List Value} {st : List Value} {n index maxL : Nat} {bytes : ByteArray} {ret' : Option FieldType} {pc' : Nat} (C : gC p s m args meth c cc nL own Ts D tys ret AS) (hM : gRl l y wy rm D tys As W0 r) (g : GoodIn Ts (va_wsS own index y wy)) (hd : gY y n) (hw : wy = Cond.code y bytes maxL ret' :: wy') (hrm : rm.cells = 0 ∧ rm.slots = 0) (hR : gRm rm R maxL) (hn : As.length = n) {S S0 : List va_W} (hWs : ws = gCat S) (hW0 : W0 = gCat S0) (isC : List Nat) (hC : isC.map (fun i => S[i]?) = S0.map some) (hn9 : va_nd isC = true) (hst : st = As.reverse ++ rest) (hcat : (rest.map fun v => v.category).sum ≤ 8) (hdg : decode cc pc = .ok (.invokestatic index, 3)) (hpc : pc + 3 = pc') (kk : gG p l e R s m args below meth c cells slots D AD AS nL Q ws pc' L (.long r :: rest)) (hcs : cells ≤ R.cells ∧ slots ≤ R.slots := by exact ⟨Nat.zero_le _, Nat.zero_le _⟩) : gG p l e R s m args below meth c cells slots D AD AS nL Q ws pc L st := by
  subst hpc
  subst hst
  subst hWs; subst hW0
  intro H locs ls hP hD hS hl
  skip
  refine va_calll (va_runS (g_sz C) (hM H.size) (va_cwS n C.2.2.2.2.1 g hw hrm.1 hrm.2 hd hR) (g_runSW C (seg_P hP hC) (seg_D hD isC S0 hC hn9)) rfl hn hl.1 rfl (g_room hcat) hdg ⟨hcs.1, hcs.2⟩) hS (fun q _ h => h.elim) (fun q h => h.elim) (fun r' u t H1 locs1 ht hvm hw' hB' hz1 hk1 hS' => ?_)
  · subst hw'
    exact kk H1 locs1 ls (hP.kept (fun k q hk => hk1 q.1 (hP k q hk).lt id)) hD hS' hl
theorem g_callSvMS {y : MethodName} {wy wy' : List Cond} {rm : Room} {W00 : va_W} {W0 : va_W} {W1 W' : va_W} {As : List Value} {st : List Value} {n index maxL : Nat} {bytes : ByteArray} {ret' : Option FieldType} {pc' : Nat} (C : gC p s m args meth c cc nL own Ts D tys ret (va_A W00 s.heap.size)) (hM : gMv l y wy rm D tys As W0 W1) (g : GoodIn Ts (va_wsS own index y wy)) (hd : gY y n) (hw : wy = Cond.code y bytes maxL ret' :: wy') (hrm : rm.cells = 0 ∧ rm.slots = 0) (hR : gRm rm R maxL) (hn : As.length = n) {S S0 : List va_W} (hWs : ws = gCat S) (hW0 : W0 = gCat S0) (isC : List Nat) (hC : isC.map (fun i => S[i]?) = S0.map some) (hn9 : va_nd isC = true) {S1 S' : List va_W} (hW1 : W1 = gCat S1) (hW' : W' = gCat S') (hA9 : S1.map addr = S0.map addr) (hJ : gSet S isC S1 = S') (hst : st = As.reverse ++ rest) (hcat : (rest.map fun v => v.category).sum ≤ 8) (hdg : decode cc pc = .ok (.invokestatic index, 3)) (hpc : pc + 3 = pc') (kk : gG p l e R s m args below meth c cells slots D (va_A W00 s.heap.size) (va_A W00 s.heap.size) nL Q W' pc' L rest) (hcs : cells ≤ R.cells ∧ slots ≤ R.slots := by exact ⟨Nat.zero_le _, Nat.zero_le _⟩) : gG p l e R s m args below meth c cells slots D (va_A W00 s.heap.size) (va_A W00 s.heap.size) nL Q ws pc L st := by
  subst hpc
  subst hst
  subst hWs; subst hW0; subst hW1; subst hW'
  intro H locs ls hP hD hS hl
  have hF := seg_free hD hS (fun q h => Or.inr h) hC hn9
  refine va_callv (va_runS (g_sz C) (hM H.size) (va_cwS n C.2.2.2.2.1 g hw hrm.1 hrm.2 hd hR) (g_runSW C (seg_P hP hC) (seg_D hD isC S0 hC hn9)) rfl hn hl.1 rfl (g_room hcat) hdg ⟨hcs.1, hcs.2⟩) hS (fun q _ h => hF q h) hF (fun u t H1 locs1 ht hvm hw' hB' hz1 hk1 hS' => ?_)
  · have hB9 : va_P D vwCl (gCat S1) t.heap := hB'
    rw [ht] at hB9
    have hP' := seg_join hP hD isC hC hA9 hk1 hB9 hJ
    exact kk H1 locs1 ls hP' (hD.addr (by rw [← hJ]; exact seg_addr hC hA9 hn9)) hS' hl
theorem g_callSqRS {y : MethodName} {wy wy' : List Cond} {rm : Room} {W0 : va_W} {r : Option Nat} {As : List Value} {st : List Value} {n index maxL : Nat} {bytes : ByteArray} {ret' : Option FieldType} {pc' : Nat} (C : gC p s m args meth c cc nL own Ts D tys ret AS) (hM : gRq l y wy rm D tys As W0 r) (g : GoodIn Ts (va_wsS own index y wy)) (hd : gY y n) (hw : wy = Cond.code y bytes maxL ret' :: wy') (hrm : rm.cells = 0 ∧ rm.slots = 0) (hR : gRm rm R maxL) (hn : As.length = n) {S S0 : List va_W} (hWs : ws = gCat S) (hW0 : W0 = gCat S0) (isC : List Nat) (hC : isC.map (fun i => S[i]?) = S0.map some) (hn9 : va_nd isC = true) (hst : st = As.reverse ++ rest) (hcat : (rest.map fun v => v.category).sum ≤ 8) (hdg : decode cc pc = .ok (.invokestatic index, 3)) (hpc : pc + 3 = pc') (kk : gG p l e R s m args below meth c cells slots D AD AS nL Q ws pc' L (va_rf r :: rest)) (hcs : cells ≤ R.cells ∧ slots ≤ R.slots := by exact ⟨Nat.zero_le _, Nat.zero_le _⟩) : gG p l e R s m args below meth c cells slots D AD AS nL Q ws pc L st := by
  subst hpc
  subst hst
  subst hWs; subst hW0
  intro H locs ls hP hD hS hl
  skip
  refine va_callq (va_runS (g_sz C) (hM H.size) (va_cwS n C.2.2.2.2.1 g hw hrm.1 hrm.2 hd hR) (g_runSW C (seg_P hP hC) (seg_D hD isC S0 hC hn9)) rfl hn hl.1 rfl (g_room hcat) hdg ⟨hcs.1, hcs.2⟩) hS (fun q _ h => h.elim) (fun q h => h.elim) (fun r' u t H1 locs1 ht hvm hw' hB' hz1 hk1 hS' => ?_)
  · subst hw'
    exact kk H1 locs1 ls (hP.kept (fun k q hk => hk1 q.1 (hP k q hk).lt id)) hD hS' hl
theorem g_callSNiR {y : MethodName} {wy wy' : List Cond} {rm : Room} {W0 : va_W} {r : Int32} {As : List Value} {st : List Value} {n index maxL : Nat} {bytes : ByteArray} {ret' : Option FieldType} {host : String} {pc' : Nat} (C : gC p s m args meth c cc nL own Ts D tys ret AS) (hM : gRi l y wy rm D tys As W0 r) (hl9 : va_Nw (.methodLinkNest own index y host) s) (g : GoodIn Ts wy) (hd : y.cls ≠ "java/lang/invoke/MethodHandle" ∧ y.cls ≠ "java/lang/invoke/VarHandle" ∧ (parseMethodDescriptor y.desc).map (fun d => d.parameters.length) = some n) (hs9 : Cond.static y ∈ Ts) (hi9 : Cond.initialized y.cls ∈ Ts) (hw : wy = Cond.code y bytes maxL ret' :: wy') (hrm : rm.cells = 0 ∧ rm.slots = 0) (hR : gRm rm R maxL) (hn : As.length = n) (isC : List Nat) (hC : isC.map (fun i => ws[i]?) = W0.map some) (hn9 : va_nd isC = true) (hst : st = As.reverse ++ rest) (hcat : (rest.map fun v => v.category).sum ≤ 8) (hdg : decode cc pc = .ok (.invokestatic index, 3)) (hpc : pc + 3 = pc') (kk : gG p l e R s m args below meth c cells slots D AD AS nL Q ws pc' L (.int r :: rest)) (hcs : cells ≤ R.cells ∧ slots ≤ R.slots := by exact ⟨Nat.zero_le _, Nat.zero_le _⟩) : gG p l e R s m args below meth c cells slots D AD AS nL Q ws pc L st := by
  subst hpc
  subst hst
  intro H locs ls hP hD hS hl
  refine va_calli (va_runSN (g_sz C) (hM H.size) ⟨va_cnB n C.2.2.2.2.1 g hw hrm.1 hrm.2 hl9 (C.2.2.2.2.1 _ hi9) hd hR, C.2.2.2.2.1 _ hs9, trivial⟩ (g_runS C hP hD isC hC hn9) rfl hn hl.1 rfl (g_room hcat) hdg ⟨hcs.1, hcs.2⟩) hS (fun q _ h => h.elim) (fun q h => h.elim) (fun r' u t H1 locs1 ht hvm hw' hB' hz1 hk1 hS' => ?_)
  · subst hw'
    exact kk H1 locs1 ls (hP.kept (fun k q hk => hk1 q.1 (hP k q hk).lt id)) hD hS' hl
theorem sw_out3 {x : Int32} (lo : Int) (h0 : ¬ x = Int32.ofInt lo) (h1 : ¬ x = Int32.ofInt (lo + 1)) (h2 : ¬ x = Int32.ofInt (lo + 2)) : x.toInt < lo ∨ lo + 2 < x.toInt := by
  by_cases a : x.toInt < lo
  · exact Or.inl a
  · by_cases b : lo + 2 < x.toInt
    · exact Or.inr b
    · exfalso
      have e : ∀ v : Int, x.toInt = v → x = Int32.ofInt v := fun v hv => by rw [← hv, Int32.ofInt_toInt]
      rcases (by omega : x.toInt = lo ∨ x.toInt = lo + 1 ∨ x.toInt = lo + 2) with z | z | z
      · exact h0 (e _ z)
      · exact h1 (e _ z)
      · exact h2 (e _ z)
theorem sw_out4 {x : Int32} (lo : Int) (h0 : ¬ x = Int32.ofInt lo) (h1 : ¬ x = Int32.ofInt (lo + 1)) (h2 : ¬ x = Int32.ofInt (lo + 2)) (h3 : ¬ x = Int32.ofInt (lo + 3)) : x.toInt < lo ∨ lo + 3 < x.toInt := by
  by_cases b : x.toInt = lo + 3
  · exact absurd (by rw [← b, Int32.ofInt_toInt]) h3
  · rcases sw_out3 lo h0 h1 h2 with z | z
    · exact Or.inl z
    · right; omega
theorem sw_out5 {x : Int32} (lo : Int) (h0 : ¬ x = Int32.ofInt lo) (h1 : ¬ x = Int32.ofInt (lo + 1)) (h2 : ¬ x = Int32.ofInt (lo + 2)) (h3 : ¬ x = Int32.ofInt (lo + 3)) (h4 : ¬ x = Int32.ofInt (lo + 4)) : x.toInt < lo ∨ lo + 4 < x.toInt := by
  by_cases b : x.toInt = lo + 4
  · exact absurd (by rw [← b, Int32.ofInt_toInt]) h4
  · rcases sw_out4 lo h0 h1 h2 h3 with z | z
    · exact Or.inl z
    · right; omega
theorem sw_out9 {x : Int32} (lo : Int) (h0 : ¬ x = Int32.ofInt lo) (h1 : ¬ x = Int32.ofInt (lo + 1)) (h2 : ¬ x = Int32.ofInt (lo + 2)) (h3 : ¬ x = Int32.ofInt (lo + 3)) (h4 : ¬ x = Int32.ofInt (lo + 4)) (h5 : ¬ x = Int32.ofInt (lo + 5)) (h6 : ¬ x = Int32.ofInt (lo + 6)) (h7 : ¬ x = Int32.ofInt (lo + 7)) (h8 : ¬ x = Int32.ofInt (lo + 8)) : x.toInt < lo ∨ lo + 8 < x.toInt := by
  have e : ∀ v : Int, ¬ x = Int32.ofInt v → ¬ x.toInt = v := fun v hv z => hv (by rw [← z, Int32.ofInt_toInt])
  have a5 := e _ h5
  have a6 := e _ h6
  have a7 := e _ h7
  have a8 := e _ h8
  rcases sw_out5 lo h0 h1 h2 h3 h4 with z | z
  · exact Or.inl z
  · right; omega
end gEnds
