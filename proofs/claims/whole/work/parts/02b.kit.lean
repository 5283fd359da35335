/-! PART 02: own infrastructure: option rows, bounded reads and writes, worlds with listed locals, calls -/
theorem o_bind {α β : Type} {a : Option α} {f : α → Option β} {r : β} (h : a.bind f = some r) : ∃ x, a = some x ∧ f x = some r := Option.bind_eq_some_iff.mp h
theorem o_ifp {α : Type} {P : Prop} {i : Decidable P} {a b : Option α} {r : α} (h : (@ite _ P i a b) = some r) (c : P) : a = some r := by rw [if_pos c] at h; exact h
theorem o_ifn {α : Type} {P : Prop} {i : Decidable P} {a b : Option α} {r : α} (h : (@ite _ P i a b) = some r) (c : ¬ P) : b = some r := by rw [if_neg c] at h; exact h
theorem o_some {α : Type} {a b : α} (h : some a = some b) : a = b := Option.some.inj h
/-- a read at an int index, a write at one: none where the machine would throw -/
def ald {α : Type} (n : Nat) (f : Nat → α) (i : Int32) : Option α := if i < 0 ∨ n ≤ i.toNatClampNeg then none else some (f i.toNatClampNeg)
def ast (n : Nat) (f : Nat → Int32) (i x : Int32) : Option (Nat → Int32) := if i < 0 ∨ n ≤ i.toNatClampNeg then none else some (upd f i.toNatClampNeg x)
def lst (n : Nat) (f : Nat → Int64) (i : Int32) (x : Int64) : Option (Nat → Int64) := if i < 0 ∨ n ≤ i.toNatClampNeg then none else some (vp_updL f i.toNatClampNeg x)
/-- a boolean that is returned, or kept -/
def zok (x : Int32) : Option Int32 := if x = 0 ∨ x = 1 then some x else none
theorem ald_in {α : Type} {n : Nat} {f : Nat → α} {i : Int32} {v : α} (h : ald n f i = some v) : vp_in i n ∧ v = f i.toNatClampNeg := by
  unfold ald at h
  split at h
  · cases h
  · rename_i h2
    cases h
    exact ⟨h2, rfl⟩
theorem ast_in {n : Nat} {f g : Nat → Int32} {i x : Int32} (h : ast n f i x = some g) : vp_in i n ∧ g = upd f i.toNatClampNeg x := by
  unfold ast at h
  split at h
  · cases h
  · rename_i h2
    cases h
    exact ⟨h2, rfl⟩
theorem lst_in {n : Nat} {f g : Nat → Int64} {i : Int32} {x : Int64} (h : lst n f i x = some g) : vp_in i n ∧ g = vp_updL f i.toNatClampNeg x := by
  unfold lst at h
  split at h
  · cases h
  · rename_i h2
    cases h
    exact ⟨h2, rfl⟩
theorem zok_in {x y : Int32} (h : zok x = some y) : y = x ∧ narrow .boolean (.int y) = .int y := by
  unfold zok at h
  split at h
  · rename_i h2
    cases h
    refine ⟨rfl, ?_⟩
    rcases h2 with rfl | rfl <;> rfl
  · cases h
abbrev gT (cB cI cJ cZ : ClassId) : List (ClassId × FieldType) := [(cB, .byte), (cI, .int), (cJ, .long), (cZ, .boolean)]
/-- a world with some cells replaced -/
def gJoin (W : va_W) (isC : List Nat) (W1 : va_W) : va_W := (isC.zip W1).foldl (fun w x => w.set x.1 x.2) W
theorem gJoin_get (W1 : va_W) : ∀ (isC : List Nat) (W : va_W) (k : Nat) (q : Nat × va_E), isC.length = W1.length → (gJoin W isC W1)[k]? = some q → (∃ j : Nat, W1[j]? = some q) ∨ (W[k]? = some q ∧ k ∉ isC) := by
  induction W1 with
  | nil =>
    intro isC W k q hl h
    have : isC = [] := List.length_eq_zero_iff.mp hl
    subst this
    exact Or.inr ⟨h, List.not_mem_nil⟩
  | cons x W1 ih =>
    intro isC W k q hl h
    cases isC with
    | nil => cases hl
    | cons i isC =>
      have hl' : isC.length = W1.length := by simpa using hl
      have h' : (gJoin (W.set i x) isC W1)[k]? = some q := h
      rcases ih isC (W.set i x) k q hl' h' with ⟨j, hj⟩ | ⟨h1, h2⟩
      · exact Or.inl ⟨j + 1, by simpa using hj⟩
      · by_cases hki : k = i
        · subst hki
          have hlt : k < W.length := by
            have := (List.getElem?_eq_some_iff.mp h1).1
            simpa using this
          rw [List.getElem?_set_self hlt] at h1
          cases h1
          exact Or.inl ⟨0, rfl⟩
        · rw [List.getElem?_set_ne (Ne.symm hki)] at h1
          exact Or.inr ⟨h1, fun hm => (List.mem_cons.mp hm).elim hki h2⟩
theorem gJoin_len (W1 : va_W) : ∀ (isC : List Nat) (W : va_W), (gJoin W isC W1).length = W.length := by
  induction W1 with
  | nil => intro isC W; cases isC <;> rfl
  | cons x W1 ih =>
    intro isC W
    cases isC with
    | nil => rfl
    | cons i isC =>
      have : gJoin W (i :: isC) (x :: W1) = gJoin (W.set i x) isC W1 := rfl
      rw [this, ih]
      simp
theorem va_D.addr {A : Nat → Prop} {W W' : va_W} (hD : va_D A W) (h : W'.map (fun q => q.1) = W.map (fun q => q.1)) : va_D A W' := by
  have key : ∀ (k : Nat) (q : Nat × va_E), W'[k]? = some q → ∃ q0, W[k]? = some q0 ∧ q0.1 = q.1 := by
    intro k q hk
    have h1 : (W'.map (fun q => q.1))[k]? = some q.1 := by simp [hk]
    rw [h] at h1
    rw [List.getElem?_map] at h1
    cases hw : W[k]? with
    | none => rw [hw] at h1; cases h1
    | some q0 => rw [hw] at h1; exact ⟨q0, rfl, by simpa using h1⟩
  refine ⟨fun i j x y hi hj hxy => ?_, fun k q hk => ?_⟩
  · obtain ⟨x0, h1, h2⟩ := key i x hi
    obtain ⟨y0, h3, h4⟩ := key j y hj
    exact hD.1 i j x0 y0 h1 h3 (h2.trans (hxy.trans h4.symm))
  · obtain ⟨q0, h1, h2⟩ := key k q hk
    rw [← h2]
    exact hD.2 k q0 h1
theorem g_join {A0 : Nat → Prop} {D : va_G} {cl : List vw_C} {W W0 W1 W' : va_W} {H H1 : Heap} (hP : va_P D cl W H) (hD : va_D A0 W) (isC : List Nat) (hC : isC.map (fun i => W[i]?) = W0.map some) (hl : W1.length = W0.length)
    (hk : ∀ q : Nat, q < H.size → ¬ va_A W0 H.size q → H1[q]? = H[q]?) (hP1 : va_P D cl W1 H1) (hJ : gJoin W isC W1 = W') : va_P D cl W' H1 := by
  subst hJ
  have hlen : isC.length = W1.length := by
    have := congrArg List.length hC
    simp at this
    omega
  intro k q hq
  rcases gJoin_get W1 isC W k q hlen hq with ⟨j, hj⟩ | ⟨h1, h2⟩
  · exact hP1 j q hj
  · refine (hP k q h1).kept (hk q.1 (hP k q h1).lt ?_)
    rintro (⟨j, e, hj⟩ | hs)
    · have hm : (W0.map some)[j]? = some (some (q.1, e)) := by simp [hj]
      rw [← hC] at hm
      rw [List.getElem?_map] at hm
      cases hi : isC[j]? with
      | none => rw [hi] at hm; cases hm
      | some i =>
        rw [hi] at hm
        have hw : W[i]? = some (q.1, e) := by simpa using hm
        have := hD.1 k i q (q.1, e) h1 hw rfl
        subst this
        exact h2 (List.mem_of_getElem? hi)
    · have := (hP k q h1).lt
      omega
