/-! one instruction over shape and store; the judgement sy_E; its soundness (by program: wip/whole/gen/exec.py) -/
def sy_n1 : Cond := .fieldLinkNest "SandGroup$Fall" 34 "SandGroup$Grid" "places" "[I" "SandGroup"
def sy_n2 : Cond := .fieldLinkNest "SandGroup$Fall" 39 "SandGroup$Grid" "placeCount" "I" "SandGroup"
def sy_n3 : Cond := .methodLinkNest "SandGroup$Sums" 89 ⟨"SandGroup", "alike", "([I[I)Z"⟩ "SandGroup"
def sy_K (X : sy_X) (s : State) : Prop := va_K X.1 vwCl (sy_tys X) s ∧ va_Nw sy_n1 s ∧ va_Nw sy_n2 s ∧ va_Nw sy_n3 s
abbrev sy_I : Type := Instr × Nat × Nat × Int32 × Int64
def sy_cc (c : Jvm.ClassFile.Cond) (x y : Int32) : Prop := match c with
  | .eq => x = y
  | .ne => ¬ x = y
  | .lt => x < y
  | .ge => y ≤ x
  | .gt => y < x
  | .le => x ≤ y
def sy_okA (sh : sy_Z) (t k : Nat) (j : Int32) : Prop := ∃ (n : Nat) (fs : List (Option Nat)), sh[k]? = some (t, n, fs) ∧ vp_in j n
def sy_okR (sh : sy_Z) (k : Nat) (j : Int32) : Prop := ∃ (n : Nat) (fs : List (Option Nat)) (r : Nat), sh[k]? = some (3, n, fs) ∧ vp_in j n ∧ fs[j.toNatClampNeg]? = some (some r)
def sy_rf (sh : sy_Z) (k i : Nat) : Nat := match sh[k]? with
  | some (_, _, fs) => (fs.getD i none).getD 0
  | none => 0
def sy_okL (sh : sy_Z) (k : Nat) : Prop := ∃ (t n : Nat) (fs : List (Option Nat)), sh[k]? = some (t, n, fs) ∧ t < 4
def sy_len (sh : sy_Z) (k : Nat) : Int32 := match sh[k]? with
  | some (_, n, _) => Int32.ofNat n
  | none => 0
def sy_ln (i : Instr) : Nat := match i with
  | .aload _ | .iload _ | .lload _ | .istore _ | .astore _ | .lstore _ | .bipush _ | .ldc _ => 2
  | .iinc _ _ | .sipush _ | .ldc_w _ | .ldc2_w _ | .getfield _ | .putfield _ | .goto _ | .ifCond _ _ | .if_icmp _ _ | .invokevirtual _ | .invokestatic _ | .invokespecial _ => 3
  | _ => 1
def sy_isT (i : Instr) : Bool := match i with
  | .tableswitch _ _ _ _ => true
  | _ => false
/-- one instruction that is no call and no return: what comes, and what must hold for it -/
def sy_x1 (sh : sy_Z) (en : sy_I) (cf : sy_Cf) : Option (sy_Cf × List Prop) :=
  match cf with
  | (pc, loc, st, σ) => match en with
    | (i, a, b, v, w) => match i with
      | .aload_n k => match loc[k.val]? with
        | some (some (.ref x)) => some ((pc + 1, loc, .ref x :: st, σ), [])
        | _ => none
      | .aload k => match loc[k]? with
        | some (some (.ref x)) => some ((pc + 2, loc, .ref x :: st, σ), [])
        | _ => none
      | .iload_n k => match loc[k.val]? with
        | some (some (.int x)) => some ((pc + 1, loc, .int x :: st, σ), [])
        | _ => none
      | .iload k => match loc[k]? with
        | some (some (.int x)) => some ((pc + 2, loc, .int x :: st, σ), [])
        | _ => none
      | .lload_n k => match loc[k.val]? with
        | some (some (.long x)) => some ((pc + 1, loc, .long x :: st, σ), [])
        | _ => none
      | .lload k => match loc[k]? with
        | some (some (.long x)) => some ((pc + 2, loc, .long x :: st, σ), [])
        | _ => none
      | .istore_n k => match st with
        | .int x :: r => if k.val < loc.length then some ((pc + 1, sy_st1 loc (k.val) (.int x), r, σ), []) else none
        | _ => none
      | .istore k => match st with
        | .int x :: r => if k < loc.length then some ((pc + 2, sy_st1 loc k (.int x), r, σ), []) else none
        | _ => none
      | .astore_n k => match st with
        | .ref x :: r => if k.val < loc.length then some ((pc + 1, sy_st1 loc (k.val) (.ref x), r, σ), []) else none
        | _ => none
      | .astore k => match st with
        | .ref x :: r => if k < loc.length then some ((pc + 2, sy_st1 loc k (.ref x), r, σ), []) else none
        | _ => none
      | .lstore_n k => match st with
        | .long x :: r => if k.val + 1 < loc.length then some ((pc + 1, sy_st2 loc (k.val) (.long x), r, σ), []) else none
        | _ => none
      | .lstore k => match st with
        | .long x :: r => if k + 1 < loc.length then some ((pc + 2, sy_st2 loc k (.long x), r, σ), []) else none
        | _ => none
      | .iinc k _ => match loc[k]? with
        | some (some (.int x)) => some ((pc + 3, sy_st1 loc k (.int (x + v)), st, σ), [])
        | _ => none
      | .iconst _ => some ((pc + 1, loc, .int v :: st, σ), [])
      | .bipush _ => some ((pc + 2, loc, .int v :: st, σ), [])
      | .sipush _ => some ((pc + 3, loc, .int v :: st, σ), [])
      | .lconst _ => some ((pc + 1, loc, .long w :: st, σ), [])
      | .ldc _ => some ((pc + 2, loc, .int v :: st, σ), [])
      | .ldc_w _ => some ((pc + 3, loc, .int v :: st, σ), [])
      | .ldc2_w _ => some ((pc + 3, loc, .long w :: st, σ), [])
      | .iadd => match st with
        | .int y :: .int x :: r => some ((pc + 1, loc, .int (x + y) :: r, σ), [])
        | _ => none
      | .isub => match st with
        | .int y :: .int x :: r => some ((pc + 1, loc, .int (x - y) :: r, σ), [])
        | _ => none
      | .imul => match st with
        | .int y :: .int x :: r => some ((pc + 1, loc, .int (x * y) :: r, σ), [])
        | _ => none
      | .iand => match st with
        | .int y :: .int x :: r => some ((pc + 1, loc, .int (x &&& y) :: r, σ), [])
        | _ => none
      | .ior => match st with
        | .int y :: .int x :: r => some ((pc + 1, loc, .int (x ||| y) :: r, σ), [])
        | _ => none
      | .ixor => match st with
        | .int y :: .int x :: r => some ((pc + 1, loc, .int (x ^^^ y) :: r, σ), [])
        | _ => none
      | .ishl => match st with
        | .int y :: .int x :: r => some ((pc + 1, loc, .int (x <<< (y &&& 31)) :: r, σ), [])
        | _ => none
      | .ishr => match st with
        | .int y :: .int x :: r => some ((pc + 1, loc, .int (x >>> (y &&& 31)) :: r, σ), [])
        | _ => none
      | .iushr => match st with
        | .int y :: .int x :: r => some ((pc + 1, loc, .int ((x.toUInt32 >>> (y.toUInt32 &&& Int32.toUInt32 31)).toInt32) :: r, σ), [])
        | _ => none
      | .idiv => match st with
        | .int y :: .int x :: r => some ((pc + 1, loc, .int (x / y) :: r, σ), [¬ y = 0])
        | _ => none
      | .irem => match st with
        | .int y :: .int x :: r => some ((pc + 1, loc, .int (x - x / y * y) :: r, σ), [¬ y = 0])
        | _ => none
      | .ladd => match st with
        | .long y :: .long x :: r => some ((pc + 1, loc, .long (x + y) :: r, σ), [])
        | _ => none
      | .lsub => match st with
        | .long y :: .long x :: r => some ((pc + 1, loc, .long (x - y) :: r, σ), [])
        | _ => none
      | .lmul => match st with
        | .long y :: .long x :: r => some ((pc + 1, loc, .long (x * y) :: r, σ), [])
        | _ => none
      | .ldiv => match st with
        | .long y :: .long x :: r => some ((pc + 1, loc, .long (x / y) :: r, σ), [¬ y = 0])
        | _ => none
      | .lcmp => match st with
        | .long y :: .long x :: r => some ((pc + 1, loc, .int (lg_cmp x y) :: r, σ), [])
        | _ => none
      | .i2l => match st with
        | .int x :: r => some ((pc + 1, loc, .long x.toInt64 :: r, σ), [])
        | _ => none
      | .dup => match st with
        | .int x :: r => some ((pc + 1, loc, .int x :: .int x :: r, σ), [])
        | .ref x :: r => some ((pc + 1, loc, .ref x :: .ref x :: r, σ), [])
        | _ => none
      | .dup2 => match st with
        | .int y :: .ref x :: r => some ((pc + 1, loc, .int y :: .ref x :: .int y :: .ref x :: r, σ), [])
        | _ => none
      | .pop => match st with
        | .int _ :: r => some ((pc + 1, loc, r, σ), [])
        | _ => none
      | .iaload => match st with
        | .int j :: .ref k :: r => some ((pc + 1, loc, .int (σ.1 k j.toNatClampNeg) :: r, σ), [sy_okA sh 0 k j])
        | _ => none
      | .baload => match st with
        | .int j :: .ref k :: r => some ((pc + 1, loc, .int (σ.1 k j.toNatClampNeg) :: r, σ), [sy_okA sh 1 k j])
        | _ => none
      | .laload => match st with
        | .int j :: .ref k :: r => some ((pc + 1, loc, .long (σ.2 k j.toNatClampNeg) :: r, σ), [sy_okA sh 2 k j])
        | _ => none
      | .aaload => match st with
        | .int j :: .ref k :: r => some ((pc + 1, loc, .ref (sy_rf sh k j.toNatClampNeg) :: r, σ), [sy_okR sh k j])
        | _ => none
      | .iastore => match st with
        | .int x :: .int j :: .ref k :: r => some ((pc + 1, loc, r, (sy_up σ.1 k j.toNatClampNeg x, σ.2)), [sy_okA sh 0 k j])
        | _ => none
      | .bastore => match st with
        | .int x :: .int j :: .ref k :: r => some ((pc + 1, loc, r, (sy_up σ.1 k j.toNatClampNeg (vp_nar .boolean x), σ.2)), [sy_okA sh 1 k j])
        | _ => none
      | .lastore => match st with
        | .long x :: .int j :: .ref k :: r => some ((pc + 1, loc, r, (σ.1, sy_upL σ.2 k j.toNatClampNeg x)), [sy_okA sh 2 k j])
        | _ => none
      | .arraylength => match st with
        | .ref k :: r => some ((pc + 1, loc, .int (sy_len sh k) :: r, σ), [sy_okL sh k])
        | _ => none
      | .getfield _ => match st with
        | .ref k :: r => match sh[k]? with
          | some (t, _, fs) => if t = a + 4 then (match fs[b]? with
            | some none => some ((pc + 3, loc, .int (σ.1 k b) :: r, σ), [])
            | some (some q) => some ((pc + 3, loc, .ref q :: r, σ), [])
            | none => none) else none
          | none => none
        | _ => none
      | .putfield _ => match st with
        | .int x :: .ref k :: r => match sh[k]? with
          | some (t, _, fs) => if t = a + 4 then (match fs[b]? with
            | some none => some ((pc + 3, loc, r, (sy_up σ.1 k b x, σ.2)), [])
            | _ => none) else none
          | none => none
        | _ => none
      | .goto _ => some ((b, loc, st, σ), [])
      | .ifCond c _ => match st with
        | .int x :: r => if a = 1 then some ((b, loc, r, σ), [sy_cc c x 0]) else some ((pc + 3, loc, r, σ), [¬ sy_cc c x 0])
        | _ => none
      | .if_icmp c _ => match st with
        | .int y :: .int x :: r => if a = 1 then some ((b, loc, r, σ), [sy_cc c x y]) else some ((pc + 3, loc, r, σ), [¬ sy_cc c x y])
        | _ => none
      | .tableswitch _ lo hi _ => match st with
        | .int x :: r => if a = 1 then some ((b, loc, r, σ), [x = v]) else some ((b, loc, r, σ), [x.toInt < lo ∨ hi < x.toInt])
        | _ => none
      | _ => none
def sy_nonfinal (a b : Nat) : Bool := match vwCl[a]? with
  | some (_, t, n) => !(t b).2.2.2 && decide (b < n) && decide ((t b).2.2.1 = "I")
  | none => false
def sy_inN (a b : Nat) : Bool := match vwCl[a]? with
  | some (_, _, n) => decide (b < n)
  | none => false
/-- an entry's pool entries and targets are as the entry says -/
def sy_ok2 (y : sy_M) (pc : Nat) (en : sy_I) : Bool := match en with
  | (i, a, b, v, w) => match i with
    | .getfield idx => sy_inN a b && (sy_FL.contains (y.2.2.2.2.1, idx, a, b) || (decide (y.1.cls = "SandGroup$Fall") && decide (a = 3) && ((decide (idx = 34) && decide (b = 1)) || (decide (idx = 39) && decide (b = 7)))))
    | .putfield idx => sy_FL.contains (y.2.2.2.2.1, idx, a, b) && sy_nonfinal a b
    | .iconst n => decide (Int32.ofInt n = v)
    | .bipush n => decide ((Int8.ofInt n).toInt32 = v)
    | .sipush n => decide ((Int16.ofInt n).toInt32 = v)
    | .lconst n => decide (Int64.ofNat n.val = w)
    | .iinc _ n => decide (Int32.ofInt n = v)
    | .ldc idx => sy_CI.any fun q => decide (q.1 = y.2.2.2.2.1 ∧ q.2.1 = idx ∧ Int32.ofInt q.2.2 = v)
    | .ldc_w idx => sy_CI.any fun q => decide (q.1 = y.2.2.2.2.1 ∧ q.2.1 = idx ∧ Int32.ofInt q.2.2 = v)
    | .ldc2_w idx => sy_CJ.any fun q => decide (q.1 = y.2.2.2.2.1 ∧ q.2.1 = idx ∧ Int64.ofInt q.2.2 = w)
    | .goto off => decide ((pc : Int) + off = (b : Int))
    | .ifCond _ off => decide ((pc : Int) + off = (b : Int))
    | .if_icmp _ off => decide ((pc : Int) + off = (b : Int))
    | .tableswitch dflt lo hi offs => if a = 1 then (match offs[(v.toInt - lo).toNat]? with
        | some off => decide ((pc : Int) + off = (b : Int)) && decide (lo ≤ v.toInt) && decide (v.toInt ≤ hi)
        | none => false) else decide ((pc : Int) + dflt = (b : Int))
    | _ => true
/-- the instruction stands there -/
def sy_ok1 (y : sy_M) (pc : Nat) (en : sy_I) : Bool := (match decode y.2.1 pc with
  | .ok (i, n) => decide (i = en.1) && (decide (n = sy_ln i) || sy_isT i)
  | _ => false) && sy_ok2 y pc en
def sy_all : List Prop → Prop
  | [] => True
  | p :: r => p ∧ sy_all r
def sy_Q (X : sy_X) (sh : sy_Z) (Q : Option Value → sy_S → Prop) (sz : Nat) : Array Value → State → Outcome → State → Prop := fun _ st o t => (∃ (r : Option Value) (σ : sy_S), o = .returned (r.map (sy_v X)) ∧ Q r σ ∧ va_P X.1 vwCl (sy_w X sh σ) t.heap) ∧ va_F (sy_A X sh sz) st t
def sy_ws (y : sy_M) : List Cond := Cond.code y.1 y.2.1 y.2.2.1 y.2.2.2.1 :: sy_T
def sy_rm (y : sy_M) : Room := { frames := y.2.2.2.2.2.1, cells := 0, slots := 0, locals := y.2.2.2.2.2.2 }
def sy_ctx (y : sy_M) (X : sy_X) (p : Program) (s : State) (m : MethodId) (args : Array Value) (meth : Method) (c : Code) : Prop :=
  p.tables.exec = Jvm.exec ∧ c.code = y.2.1 ∧ meth.sig.returnType = y.2.2.2.1 ∧ meth.locks = false ∧ c.maxLocals = y.2.2.1 ∧ s.vm.findClass y.1.cls = some m.cls ∧ (∀ w ∈ sy_T, w.before args s = true) ∧ sy_K X s ∧ y.1.cls = sy_cn y.2.2.2.2.1
def sy_at (sh : sy_Z) (y : sy_M) (Q : Option Value → sy_S → Prop) (l : Launch) (X : sy_X) (p : Program) (e : Env) (s : State) (m : MethodId) (args : Array Value) (below : List Frame) (meth : Method) (c : Code) (cf : sy_Cf) : Prop :=
  ∀ (H : Heap) (locs : List Loc) (ls : Array Slot), va_P X.1 vwCl (sy_w X sh cf.2.2.2) H → va_D (sy_A X sh s.heap.size) (sy_w X sh cf.2.2.2) → va_S (sy_A X sh s.heap.size) s.heap H locs → sy_has X ls y.2.2.1 cf.2.1 →
    W p l e (sy_rm y) s m args below meth c H locs 0 0 (MQ below (sy_Q X sh Q s.heap.size) args s 0 0 (sy_A X sh s.heap.size)) (F0 m cf.1 ls (cf.2.2.1.map (sy_v X)))
/-- from cf on, the method y comes to its end, with an answer and a store that Q holds of -/
def sy_E (sh : sy_Z) (y : sy_M) (cf : sy_Cf) (Q : Option Value → sy_S → Prop) : Prop :=
  ∀ (l : Launch) (X : sy_X) (p : Program) (e : Env) (s : State) (m : MethodId) (args : Array Value) (below : List Frame) (meth : Method) (c : Code), sy_ctx y X p s m args meth c → sy_at sh y Q l X p e s m args below meth c cf
theorem sy_ok1_d {y : sy_M} {pc : Nat} {i : Instr} {a b : Nat} {v : Int32} {w : Int64} (h : sy_ok1 y pc (i, a, b, v, w) = true) (hT : sy_isT i = false) : decode y.2.1 pc = .ok (i, sy_ln i) := by
  unfold sy_ok1 at h
  rw [Bool.and_eq_true] at h
  have h := h.1
  split at h
  · rename_i i' n hd
    simp only [Bool.and_eq_true, decide_eq_true_eq, Bool.or_eq_true] at h
    obtain ⟨rfl, h2⟩ := h
    rcases h2 with h2 | h2
    · rw [hd, h2]
    · rw [hT] at h2; cases h2
  · cases h
theorem sy_has.st1 {X : sy_X} {ls ls' : Array Slot} {nL i : Nat} {loc : List (Option Value)} {v : Value} (h : sy_has X ls nL loc) (hn : i < nL) (h' : lv_has ls' nL ((i, sy_v X v) :: (sy_al X loc).filter (fun q => !(q.1 == i) && !(q.1 + 1 == i && q.2.category == 2)))) : sy_has X ls' nL (sy_st1 loc i v) := by
  refine ⟨by rw [sy_st1_len]; exact h.1, h'.1, h'.2.1, fun j w hw => ?_⟩
  rcases sy_st1_at hw with ⟨rfl, rfl⟩ | ⟨h1, h2, h3⟩
  · exact h'.2.2 (j, sy_v X w) List.mem_cons_self
  · refine h'.2.2 (j, sy_v X w) (List.mem_cons_of_mem _ (List.mem_filter.mpr ⟨sy_al_mem h2, ?_⟩))
    simp only [Bool.and_eq_true, Bool.not_eq_true', beq_eq_false_iff_ne, Bool.and_eq_false_iff]
    refine ⟨h1, ?_⟩
    by_cases q : j + 1 = i
    · right
      rw [sy_cat]
      exact fun z => h3 ⟨q, z⟩
    · left
      exact q
theorem sy_has.st2 {X : sy_X} {ls ls' : Array Slot} {nL i : Nat} {loc : List (Option Value)} {v : Value} (h : sy_has X ls nL loc) (hn : i + 1 < nL) (h' : lv_has ls' nL ((i, sy_v X v) :: (sy_al X loc).filter (fun q => !(q.1 == i) && (!(q.1 == i + 1) && !(q.1 + 1 == i && q.2.category == 2))))) : sy_has X ls' nL (sy_st2 loc i v) := by
  refine ⟨by unfold sy_st2; rw [List.length_set, sy_st1_len]; exact h.1, h'.1, h'.2.1, fun j w hw => ?_⟩
  unfold sy_st2 at hw
  by_cases hj : j = i + 1
  · subst hj
    rw [List.getElem?_set_self'] at hw
    cases hz : (sy_st1 loc i v)[i + 1]? <;> simp_all
  · rw [List.getElem?_set_ne (Ne.symm hj)] at hw
    rcases sy_st1_at hw with ⟨rfl, rfl⟩ | ⟨h1, h2, h3⟩
    · exact h'.2.2 (j, sy_v X w) List.mem_cons_self
    · refine h'.2.2 (j, sy_v X w) (List.mem_cons_of_mem _ (List.mem_filter.mpr ⟨sy_al_mem h2, ?_⟩))
      simp only [Bool.and_eq_true, Bool.not_eq_true', beq_eq_false_iff_ne, Bool.and_eq_false_iff]
      refine ⟨h1, hj, ?_⟩
      by_cases q : j + 1 = i
      · right
        rw [sy_cat]
        exact fun z => h3 ⟨q, z⟩
      · left
        exact q
theorem sy_FLm {q : Nat × Nat × Nat × Nat} (h : sy_FL.contains q = true) : sy_fw q ∈ sy_T := by
  have h1 : q ∈ sy_FL := by simpa using h
  have h2 := List.all_eq_true.mp sy_FL_ok q h1
  simp only [Bool.and_eq_true, decide_eq_true_eq] at h2
  exact sy_inT h2.1 h2.2
theorem sy_CIm {o n : Nat} {v : Int32} (h : (sy_CI.any fun q => decide (q.1 = o ∧ q.2.1 = n ∧ Int32.ofInt q.2.2 = v)) = true) : Cond.constant (sy_cn o) n v ∈ sy_T := by
  obtain ⟨q, h1, h0⟩ := List.any_eq_true.mp h
  obtain ⟨rfl, rfl, rfl⟩ := of_decide_eq_true h0
  have h2 := List.all_eq_true.mp sy_CI_ok q h1
  simp only [Bool.and_eq_true, decide_eq_true_eq] at h2
  exact sy_inT h2.1 h2.2
theorem sy_CJm {o n : Nat} {v : Int64} (h : (sy_CJ.any fun q => decide (q.1 = o ∧ q.2.1 = n ∧ Int64.ofInt q.2.2 = v)) = true) : Cond.constantLong (sy_cn o) n v ∈ sy_T := by
  obtain ⟨q, h1, h0⟩ := List.any_eq_true.mp h
  obtain ⟨rfl, rfl, rfl⟩ := of_decide_eq_true h0
  have h2 := List.all_eq_true.mp sy_CJ_ok q h1
  simp only [Bool.and_eq_true, decide_eq_true_eq] at h2
  exact sy_inT h2.1 h2.2
theorem sy_allT {ws : List Cond} (h : (ws.all fun w => decide (w ∈ tables_1) && goodWord w) = true) : ∀ w ∈ ws, w ∈ sy_T := by
  intro w hw
  have h2 := List.all_eq_true.mp h w hw
  simp only [Bool.and_eq_true, decide_eq_true_eq] at h2
  exact sy_inT h2.1 h2.2
/-- what is known of a class of the worlds -/
theorem sy_cls {a : Nat} {C : String} {T : u_T} {N : Nat} (h : vwCl[a]? = some (C, T, N)) : (∀ w ∈ u_ws C T N, w ∈ sy_T) ∧ (∀ k, k < N → parseFieldDescriptor (T k).2.2.1 = some (sy_ty a k)) ∧ (∀ i, i < N → ∀ j, j < N → i ≠ j → (T i).2.1 ≠ (T j).2.1) := by
  match a, h with
  | 0, h => cases h; exact ⟨sy_allT sy_cw0, tyX0_ok, nmX0⟩
  | 1, h => cases h; exact ⟨sy_allT sy_cw1, tyX1_ok, nmX1⟩
  | 2, h => cases h; exact ⟨sy_allT sy_cw2, tyX2_ok, nmX2⟩
  | 3, h => cases h; exact ⟨sy_allT sy_cw3, tyX3_ok, nmX3⟩
  | 4, h => cases h; exact ⟨sy_allT sy_cw4, tyX4_ok, nmX4⟩
  | 5, h => cases h; exact ⟨sy_allT sy_cw5, tyX5_ok, nmX5⟩
  | 6, h => cases h; exact ⟨sy_allT sy_cw6, tyX6_ok, nmX6⟩
  | 7, h => cases h; exact ⟨sy_allT sy_cw7, tyX7_ok, nmX7⟩
  | 8, h => cases h; exact ⟨sy_allT sy_cw8, tyX8_ok, nmX8⟩
  | 9, h => cases h; exact ⟨sy_allT sy_cw9, tyX9_ok, nmX9⟩
  | 10, h => cases h; exact ⟨sy_allT sy_cw10, tyX10_ok, nmX10⟩
  | 11, h => cases h; exact ⟨sy_allT sy_cw11, tyX11_ok, nmX11⟩
  | 12, h => cases h; exact ⟨sy_allT sy_cw12, tyX12_ok, nmX12⟩
  | a + 13, h => simp [vwCl] at h
