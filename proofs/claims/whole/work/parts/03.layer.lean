/-! A layer over the kit: a fixed shape of cells (each an array or an object whose references never change), a store of numbers, and a judgement sy_E of one method's run over them. -/
abbrev sy_S : Type := (Nat → Nat → Int32) × (Nat → Nat → Int64)
/-- a cell's shape: kind (0 ints, 1 booleans, 2 longs, 3 references, 4 + c an object of class c), length, references (none: a number of the store) -/
abbrev sy_Y : Type := Nat × Nat × List (Option Nat)
abbrev sy_Z : Type := List sy_Y
abbrev sy_X : Type := va_G × (Nat → ClassId) × (Nat → Nat)
abbrev sy_Cf : Type := Nat × List (Option Value) × List Value × sy_S
/-- a method: name, bytes, locals, answer, number of its class, frames and words that it needs -/
abbrev sy_M : Type := MethodName × ByteArray × Nat × Option FieldType × Nat × Nat × Nat
def sy_v (X : sy_X) (v : Value) : Value := match v with
  | .ref k => .ref (X.2.2 k)
  | w => w
def sy_fv (X : sy_X) (σ : sy_S) (k j : Nat) (f : Option Nat) : Value := match f with
  | none => .int (σ.1 k j)
  | some r => .ref (X.2.2 r)
def sy_e (X : sy_X) (σ : sy_S) (k : Nat) (z : sy_Y) : va_E := match z.1 with
  | 0 => .inl (X.2.1 0, z.2.1, .inl (σ.1 k))
  | 1 => .inl (X.2.1 1, z.2.1, .inl (σ.1 k))
  | 2 => .inl (X.2.1 2, z.2.1, .inr (.inl (σ.2 k)))
  | 3 => .inl (X.2.1 3, z.2.1, .inr (.inr (.inr (.inr fun i => (z.2.2.getD i none).map X.2.2))))
  | c + 4 => .inr (c, z.2.2.mapIdx (sy_fv X σ k))
def sy_w (X : sy_X) (sh : sy_Z) (σ : sy_S) : va_W := sh.mapIdx fun k z => (X.2.2 k, sy_e X σ k z)
abbrev sy_tys (X : sy_X) : List (ClassId × FieldType) := [(X.2.1 0, .int), (X.2.1 1, .boolean), (X.2.1 2, .long), (X.2.1 3, .array .int)]
theorem sy_w_at {X : sy_X} {sh : sy_Z} {σ : sy_S} {k : Nat} {z : sy_Y} (h : sh[k]? = some z) : (sy_w X sh σ)[k]? = some (X.2.2 k, sy_e X σ k z) := by
  simp [sy_w, List.getElem?_mapIdx, h]
theorem sy_w_len {X : sy_X} {sh : sy_Z} {σ : sy_S} : (sy_w X sh σ).length = sh.length := by
  simp [sy_w]
theorem sy_w_set {X : sy_X} {sh : sy_Z} {σ σ' : sy_S} {k : Nat} {z : sy_Y} (h : sh[k]? = some z) (hs : ∀ (j : Nat) (z' : sy_Y), j ≠ k → sy_e X σ' j z' = sy_e X σ j z') : (sy_w X sh σ).set k (X.2.2 k, sy_e X σ' k z) = sy_w X sh σ' := by
  apply List.ext_getElem?
  intro j
  by_cases hj : j = k
  · subst hj
    rw [sy_w_at h, List.getElem?_set_self]
    rw [sy_w_len]
    exact (List.getElem?_eq_some_iff.mp h).1
  · rw [List.getElem?_set_ne (Ne.symm hj)]
    simp only [sy_w, List.getElem?_mapIdx]
    cases sh[j]? with
    | none => rfl
    | some z' => simp [hs j z' hj]
/-- the store with one number changed -/
def sy_up (f : Nat → Nat → Int32) (k i : Nat) (x : Int32) : Nat → Nat → Int32 := fun a => if a = k then upd (f k) i x else f a
def sy_upL (f : Nat → Nat → Int64) (k i : Nat) (x : Int64) : Nat → Nat → Int64 := fun a => if a = k then vp_updL (f k) i x else f a
theorem sy_up_self (f : Nat → Nat → Int32) (k i : Nat) (x : Int32) : sy_up f k i x k = upd (f k) i x := by simp [sy_up]
theorem sy_up_ne (f : Nat → Nat → Int32) {k j : Nat} (i : Nat) (x : Int32) (h : j ≠ k) : sy_up f k i x j = f j := by simp [sy_up, h]
theorem sy_upL_self (f : Nat → Nat → Int64) (k i : Nat) (x : Int64) : sy_upL f k i x k = vp_updL (f k) i x := by simp [sy_upL]
theorem sy_upL_ne (f : Nat → Nat → Int64) {k j : Nat} (i : Nat) (x : Int64) (h : j ≠ k) : sy_upL f k i x j = f j := by simp [sy_upL, h]
theorem sy_e_up {X : sy_X} {σ : sy_S} {k i : Nat} {x : Int32} (j : Nat) (z : sy_Y) (h : j ≠ k) : sy_e X (sy_up σ.1 k i x, σ.2) j z = sy_e X σ j z := by
  unfold sy_e
  have e : sy_fv X (sy_up σ.1 k i x, σ.2) j = sy_fv X σ j := by
    funext a f
    unfold sy_fv
    cases f with
    | none => simp [sy_up_ne _ _ _ h]
    | some r => rfl
  simp only [sy_up_ne _ _ _ h, e]
theorem sy_e_upL {X : sy_X} {σ : sy_S} {k i : Nat} {x : Int64} (j : Nat) (z : sy_Y) (h : j ≠ k) : sy_e X (σ.1, sy_upL σ.2 k i x) j z = sy_e X σ j z := by
  unfold sy_e
  have e : sy_fv X (σ.1, sy_upL σ.2 k i x) j = sy_fv X σ j := by
    funext a f
    unfold sy_fv
    cases f <;> rfl
  simp only [sy_upL_ne _ _ _ h, e]
def sy_A (X : sy_X) (sh : sy_Z) (sz : Nat) : Nat → Prop := fun q => (∃ k, k < sh.length ∧ q = X.2.2 k) ∨ sz ≤ q
theorem sy_D {X : sy_X} {sh : sy_Z} {σ σ' : sy_S} {A : Nat → Prop} (h : va_D A (sy_w X sh σ)) : va_D A (sy_w X sh σ') := by
  have key : ∀ (i : Nat) (p : Nat × va_E), (sy_w X sh σ')[i]? = some p → ∃ p', (sy_w X sh σ)[i]? = some p' ∧ p'.1 = p.1 := by
    intro i p hp
    simp only [sy_w, List.getElem?_mapIdx] at hp ⊢
    cases hz : sh[i]? with
    | none => rw [hz] at hp; cases hp
    | some z =>
      rw [hz] at hp
      cases hp
      exact ⟨_, rfl, rfl⟩
  refine ⟨fun i j p q hp hq e => ?_, fun k q hq => ?_⟩
  · obtain ⟨p', hp', e1⟩ := key i p hp
    obtain ⟨q', hq', e2⟩ := key j q hq
    exact h.1 i j p' q' hp' hq' (by rw [e1, e2, e])
  · obtain ⟨q', hq', e1⟩ := key k q hq
    rw [← e1]
    exact h.2 k q' hq'
/-! locals -/
def sy_has (X : sy_X) (ls : Array Slot) (nL : Nat) (loc : List (Option Value)) : Prop := loc.length = nL ∧ ls.size = nL ∧ lv_wf ls ∧ ∀ (i : Nat) (v : Value), loc[i]? = some (some v) → ls[i]? = some (.val (sy_v X v))
def sy_al (X : sy_X) (loc : List (Option Value)) : List (Nat × Value) := (List.range loc.length).filterMap fun i => (loc[i]?.join).map fun v => (i, sy_v X v)
theorem sy_al_mem {X : sy_X} {loc : List (Option Value)} {i : Nat} {v : Value} (h : loc[i]? = some (some v)) : (i, sy_v X v) ∈ sy_al X loc := by
  unfold sy_al
  refine List.mem_filterMap.mpr ⟨i, List.mem_range.mpr (List.getElem?_eq_some_iff.mp h).1, ?_⟩
  rw [h]
  rfl
theorem sy_has.al {X : sy_X} {ls : Array Slot} {nL : Nat} {loc : List (Option Value)} (h : sy_has X ls nL loc) : lv_has ls nL (sy_al X loc) := by
  refine ⟨h.2.1, h.2.2.1, fun q hq => ?_⟩
  unfold sy_al at hq
  obtain ⟨i, -, hi⟩ := List.mem_filterMap.mp hq
  cases hv : loc[i]? with
  | none => rw [hv] at hi; cases hi
  | some o =>
    cases o with
    | none => rw [hv] at hi; cases hi
    | some v =>
      rw [hv] at hi
      cases hi
      exact h.2.2.2 i v hv
theorem sy_cat (X : sy_X) (v : Value) : (sy_v X v).category = v.category := by cases v <;> rfl
def sy_st1 (loc : List (Option Value)) (i : Nat) (v : Value) : List (Option Value) := (match loc[i - 1]? with
  | some (some (.long _)) => loc.set (i - 1) none
  | some (some (.double _)) => loc.set (i - 1) none
  | _ => loc).set i (some v)
def sy_st2 (loc : List (Option Value)) (i : Nat) (v : Value) : List (Option Value) := (sy_st1 loc i v).set (i + 1) none
theorem sy_st1_len (loc : List (Option Value)) (i : Nat) (v : Value) : (sy_st1 loc i v).length = loc.length := by
  unfold sy_st1
  split <;> simp
theorem sy_st1_at {loc : List (Option Value)} {i j : Nat} {v w : Value} (h : (sy_st1 loc i v)[j]? = some (some w)) : (j = i ∧ w = v) ∨ (j ≠ i ∧ loc[j]? = some (some w) ∧ ¬ (j + 1 = i ∧ w.category = 2)) := by
  unfold sy_st1 at h
  by_cases hj : j = i
  · subst hj
    left
    have aux : ∀ L : List (Option Value), (L.set j (some v))[j]? = some (some w) → w = v := by
      intro L hL
      rw [List.getElem?_set_self'] at hL
      cases hz : L[j]? <;> simp_all
    exact ⟨rfl, aux _ h⟩
  · right
    rw [List.getElem?_set_ne (Ne.symm hj)] at h
    refine ⟨hj, ?_⟩
    split at h
    · by_cases h1 : i - 1 = j
      · subst h1
        rw [List.getElem?_set_self'] at h
        simp_all
      · rw [List.getElem?_set_ne h1] at h
        exact ⟨h, fun q => h1 (by omega)⟩
    · by_cases h1 : i - 1 = j
      · subst h1
        rw [List.getElem?_set_self'] at h
        simp_all
      · rw [List.getElem?_set_ne h1] at h
        exact ⟨h, fun q => h1 (by omega)⟩
    · rename_i n1 n2
      refine ⟨h, fun q => ?_⟩
      have e : i - 1 = j := by omega
      rw [e] at n1 n2
      cases w with
      | long x => exact n1 x h
      | double x => exact n2 x h
      | _ => exact absurd q.2 (by simp [Value.category])
