/-! the constructors' rules: worlds that grow (by program: wip/whole/gen/p86.py) -/
def ct_N : List (Nat × MethodName) := [(26, yX0_init), (33, yX10_init), (85, yX5_init), (92, yX6_init), (99, yX9_init)]
/-- words that are not on the callee's list, but that every table keeps: the table of tables of ints, the private constructors of the nest -/
def ct_AO (s : State) : Prop := (Cond.arrayOver (.array .int)).before #[] s = true ∧ ∀ q ∈ ct_N, va_Nw (.methodLinkNest "SandGroup" q.1 q.2 "SandGroup") s
theorem ct_AO.moved {s U : State} (h : ct_AO s) (hal : s.vm.Alike U.vm) {args : Array Value} : (Cond.arrayOver (.array .int)).before args U = true := Jvm.Stand.arrayOver_alikeB hal h.1
theorem ct_AO.warm {s U : State} (h : ct_AO s) (hW : s.WarmedH U.vm) : ct_AO U := ⟨h.moved hW.alike, fun q hq => (h.2 q hq).warmM hW⟩
theorem ct_AO.same {s U : State} (h : ct_AO s) (e : s.vm = U.vm) : ct_AO U := ⟨h.moved (by rw [e]; exact Vm.Alike.refl _), fun q hq => va_Nw.same rfl e (h.2 q hq)⟩
def ct_c (cc : ByteArray) (nL : Nat) (own : String) (X : sy_X) (p : Program) (s : State) (m : MethodId) (args : Array Value) (c : Code) : Prop :=
  p.tables.exec = Jvm.exec ∧ c.code = cc ∧ c.maxLocals = nL ∧ s.vm.findClass own = some m.cls ∧ (∀ w ∈ sy_T, w.before args s = true) ∧ sy_K X s ∧ ct_AO s
def ct_V (X : sy_X) (A : Nat → Prop) (s : State) (ws : va_W) (H : Heap) (locs : List Loc) : Prop :=
  va_P X.1 vwCl ws H ∧ va_D A ws ∧ va_S A s.heap H locs ∧ ∀ q, s.heap.size ≤ q → A q
def ct_rm (y : sy_M) (nc ns : Nat) : Room := { frames := y.2.2.2.2.2.1, cells := nc, slots := ns, locals := y.2.2.2.2.2.2 }
def ct_B (X : sy_X) (ws : va_W) (sz : Nat) (U : State) : Prop := U.heap.size = sz ∧ va_P X.1 vwCl ws U.heap ∧ (sy_K X U ∧ ct_AO U) ∧ va_D (fun _ => True) ws
def ct_Q (X : sy_X) (w0 : va_W) (sz : Nat) (G : va_W → Prop) : Array Value → State → Outcome → State → Prop :=
  va_Qv (fun u : va_W => G u) (fun u t => va_P X.1 vwCl u t.heap ∧ va_D (va_A w0 sz) u) (va_A w0 sz)
/-- a constructor's contract: from the one cell h0, its fields fs, to an inventory that G holds of -/
def ct_Met (y : sy_M) (nc ns : Nat) (fs as : List Value) (X : sy_X) (h0 : Nat) (G : va_W → Prop) : Prop :=
  ∀ (l : Launch) (sz : Nat), Met l y.1 (sy_ws y) (ct_rm y nc ns) (va_Pc (.ref h0 :: as) (ct_B X [(h0, .inr (y.2.2.2.2.1, fs))] sz)) (ct_Q X [(h0, .inr (y.2.2.2.2.1, fs))] sz G) nc ns (va_A [(h0, .inr (y.2.2.2.2.1, fs))] sz)
theorem ct_blind {X : sy_X} {ws : va_W} {sz : Nat} {av : List Value} : FrameBlind (va_Pc av (ct_B X ws sz)) := by
  intro a U g mk q
  obtain ⟨q0, q1, qP, qK, qD⟩ := q
  obtain ⟨qK, qO⟩ := qK
  exact ⟨q0, q1, qP, ⟨⟨va_K.moved (u := U) (U := U.calling g mk a) (Vm.Alike.refl U.vm) qK.1, va_Nw.same rfl rfl qK.2.1, va_Nw.same rfl rfl qK.2.2.1, va_Nw.same rfl rfl qK.2.2.2⟩, qO.same rfl⟩, qD⟩
/-- a constructor's contract out of a walk of its body -/
theorem ct_met {y : sy_M} {nc ns : Nat} {fs as : List Value} {X : sy_X} {h0 : Nat} {G : va_W → Prop} (hp : plainName y.1.cls = true) (hret : y.2.2.2.1 = none) (hn : y.1.name = "<init>") (hlen : (lg_sl (.ref h0 :: as)).length ≤ y.2.2.1)
    (body : ∀ (l : Launch) (p : Program) (e : Env) (s : State) (m : MethodId) (args : Array Value) (below : List Frame) (meth : Method) (c : Code) (ls : Array Slot) (A : Nat → Prop), ct_c y.2.1 y.2.2.1 y.1.cls X p s m args c → meth.sig.returnType = none → meth.locks = false → meth.name = "<init>" → A = va_A [(h0, .inr (y.2.2.2.2.1, fs))] s.heap.size → ct_V X A s [(h0, .inr (y.2.2.2.2.1, fs))] s.heap [] → lv_has ls y.2.2.1 (lv_args 0 (.ref h0 :: as)) →
      W p l e (ct_rm y nc ns) s m args below meth c s.heap [] 0 0 (MQ below (ct_Q X [(h0, .inr (y.2.2.2.2.1, fs))] s.heap.size G) args s nc ns A) (F0 m 0 ls [])) : ct_Met y nc ns fs as X h0 G := by
  intro l sz
  refine Met.ofW (cc := y.2.1) (maxL := y.2.2.1) (ret := y.2.2.2.1) hp rfl ?_
  intro p e s m args below meth c s₁ B hml hv
  obtain ⟨rfl, hsz, hP, hK, hD0⟩ := hv
  have hts := atoms_spec (ws := sy_ws y) B.pre
  subst hsz
  rw [lg_entry_eq]
  exact body l p e s m _ below meth c _ _ ⟨B.exec, B.bytes, hml, findClass_of_methodNamed B.named, fun w hw => hts w (List.mem_cons_of_mem _ hw), hK.1, hK.2⟩ (by rw [← hret]; exact B.returns) B.notSynchronized ((name_of_methodNamed B.named B.method).1.trans hn) rfl
    ⟨hP, hD0.self, va_S.rf, fun _ h => Or.inr h⟩ (lv_entry _ hlen)
section CT
variable {p : Program} {l : Launch} {e : Env} {R : Room} {s : State} {m : MethodId} {args : Array Value} {below : List Frame} {meth : Method} {c : Code} {H : Heap} {locs : List Loc} {nc ns : Nat} {Q : State → Prop}
variable {cc : ByteArray} {nL : Nat} {own : String} {X : sy_X} {A : Nat → Prop} {ws rs : va_W} {pc idx : Nat} {ls : Array Slot} {rest : List Value} {h0 ci : Nat} {fs : List Value}
/-- Object's own constructor -/
theorem ct_obj (C : ct_c cc nL own X p s m args c) (hl : ls.size = nL) (h0' : ls[0]? = some (.val (.ref h0))) (hfr : 1 ≤ R.frames) (hlo : 12 ≤ R.locals) (w1 : Cond.methodLink own idx Lib.objectInit ∈ sy_T) (w2 : Cond.instanceMethod Lib.objectInit ∈ sy_T) (w3 : Cond.code Lib.objectInit ⟨#[0xb1]⟩ 1 none ∈ sy_T) (d0 : decode cc 0 = .ok (.aload_n 0, 1)) (d1 : decode cc 1 = .ok (.invokespecial idx, 3))
    (kk : W p l e R s m args below meth c H locs nc ns Q (F0 m 4 ls [])) : W p l e R s m args below meth c H locs nc ns Q (F0 m 0 ls []) := by
  obtain ⟨hx, hb, hml, hown, hts, hK, hO⟩ := C
  refine lv_aload_n hx hb d0 rfl h0' ?_
  exact W.objInit hx hb hown (hts _ w1) (hts _ w2) (hts _ w3) rfl (by rw [hml]; exact hl) rfl d1 hfr (by simpa [JFrame.monitorRoom] using hlo) kk
theorem ct_newI (C : ct_c cc nL own X p s m args c) (V : ct_V X A s ws H locs) {n : Int32} {N : Nat} (w : Cond.arrayClass .int ∈ sy_T) (hn : ¬ n < 0) (hN : n.toNatClampNeg = N) (hby : N * 4 ≤ 536870912) (hc : nc + 1 ≤ R.cells) (hs : ns + N ≤ R.slots) (hd : decode cc pc = .ok (.newarray .int, 2))
    (kk : ∀ (q : Nat) (H1 : Heap), ct_V X A s (ws ++ [(q, .inl (X.2.1 0, N, .inl fun _ => 0))]) H1 locs → W p l e R s m args below meth c H1 locs (nc + 1) (ns + N) Q (F0 m (pc + 2) ls (.ref q :: rest))) : W p l e R s m args below meth c H locs nc ns Q (F0 m pc ls (.int n :: rest)) := by
  obtain ⟨hx, hb, hml, hown, hts, hK, hO⟩ := C
  obtain ⟨hP, hD, hS, hA⟩ := V
  refine va_newa (atype := .int) (ty := .int) hx hb (hts _ w) rfl hK.1 hP hD hS hA (a0 := (N, .inl fun _ => 0)) (fun _ => rfl) hn hN hby hc hs hd (fun q cA H1 hK1 hP1 hD1 hS1 => ?_)
  have e1 : s.vm.findClass ("[" ++ FieldType.int.toString) = some cA := (hK1.2 4 (cA, .int) rfl).2
  have e2 : s.vm.findClass ("[" ++ FieldType.int.toString) = some (X.2.1 0) := (hK.1.2 0 (X.2.1 0, .int) rfl).2
  cases Option.some.inj (e1.symm.trans e2)
  exact kk q H1 ⟨hP1, hD1, hS1, hA⟩
theorem ct_newZ (C : ct_c cc nL own X p s m args c) (V : ct_V X A s ws H locs) {n : Int32} {N : Nat} (w : Cond.arrayClass .boolean ∈ sy_T) (hn : ¬ n < 0) (hN : n.toNatClampNeg = N) (hby : N * 1 ≤ 536870912) (hc : nc + 1 ≤ R.cells) (hs : ns + N ≤ R.slots) (hd : decode cc pc = .ok (.newarray .boolean, 2))
    (kk : ∀ (q : Nat) (H1 : Heap), ct_V X A s (ws ++ [(q, .inl (X.2.1 1, N, .inl fun _ => 0))]) H1 locs → W p l e R s m args below meth c H1 locs (nc + 1) (ns + N) Q (F0 m (pc + 2) ls (.ref q :: rest))) : W p l e R s m args below meth c H locs nc ns Q (F0 m pc ls (.int n :: rest)) := by
  obtain ⟨hx, hb, hml, hown, hts, hK, hO⟩ := C
  obtain ⟨hP, hD, hS, hA⟩ := V
  refine va_newa (atype := .boolean) (ty := .boolean) hx hb (hts _ w) rfl hK.1 hP hD hS hA (a0 := (N, .inl fun _ => 0)) (fun _ => rfl) hn hN hby hc hs hd (fun q cA H1 hK1 hP1 hD1 hS1 => ?_)
  have e1 : s.vm.findClass ("[" ++ FieldType.boolean.toString) = some cA := (hK1.2 4 (cA, .boolean) rfl).2
  have e2 : s.vm.findClass ("[" ++ FieldType.boolean.toString) = some (X.2.1 1) := (hK.1.2 1 (X.2.1 1, .boolean) rfl).2
  cases Option.some.inj (e1.symm.trans e2)
  exact kk q H1 ⟨hP1, hD1, hS1, hA⟩
theorem ct_newJ (C : ct_c cc nL own X p s m args c) (V : ct_V X A s ws H locs) {n : Int32} {N : Nat} (w : Cond.arrayClass .long ∈ sy_T) (hn : ¬ n < 0) (hN : n.toNatClampNeg = N) (hby : N * 8 ≤ 536870912) (hc : nc + 1 ≤ R.cells) (hs : ns + N ≤ R.slots) (hd : decode cc pc = .ok (.newarray .long, 2))
    (kk : ∀ (q : Nat) (H1 : Heap), ct_V X A s (ws ++ [(q, .inl (X.2.1 2, N, .inr (.inl fun _ => 0)))]) H1 locs → W p l e R s m args below meth c H1 locs (nc + 1) (ns + N) Q (F0 m (pc + 2) ls (.ref q :: rest))) : W p l e R s m args below meth c H locs nc ns Q (F0 m pc ls (.int n :: rest)) := by
  obtain ⟨hx, hb, hml, hown, hts, hK, hO⟩ := C
  obtain ⟨hP, hD, hS, hA⟩ := V
  refine va_newa (atype := .long) (ty := .long) hx hb (hts _ w) rfl hK.1 hP hD hS hA (a0 := (N, .inr (.inl fun _ => 0))) (fun _ => rfl) hn hN hby hc hs hd (fun q cA H1 hK1 hP1 hD1 hS1 => ?_)
  have e1 : s.vm.findClass ("[" ++ FieldType.long.toString) = some cA := (hK1.2 4 (cA, .long) rfl).2
  have e2 : s.vm.findClass ("[" ++ FieldType.long.toString) = some (X.2.1 2) := (hK.1.2 2 (X.2.1 2, .long) rfl).2
  cases Option.some.inj (e1.symm.trans e2)
  exact kk q H1 ⟨hP1, hD1, hS1, hA⟩
/-- the cells of a new table of N rows of M ints, its own cell at q -/
def ct_tab (X : sy_X) (q N M : Nat) : va_W := (q, .inl (X.2.1 3, N, .inr (.inr (.inr (.inr fun i => ((List.range N).map fun j => some (q + 1 + j)).getD i none))))) :: (List.range N).map fun j => (q + 1 + j, .inl (X.2.1 0, M, .inl fun _ => 0))
theorem ct_newII (C : ct_c cc nL own X p s m args c) (V : ct_V X A s ws H locs) {n k : Int32} {N M : Nat} (w0 : Cond.classLink own idx "[[I" ∈ sy_T) (w : Cond.arrayClass .int ∈ sy_T) (hn : ¬ n < 0) (hN : n.toNatClampNeg = N) (hk : ¬ k < 0) (hM : k.toNatClampNeg = M) (hby : N ≤ 1000 ∧ M ≤ 1000) (hc : nc + (1 + N) ≤ R.cells) (hs : ns + (N + N * M) ≤ R.slots) (hd : decode cc pc = .ok (.multianewarray idx 2, 4))
    (kk : ∀ (q : Nat) (H1 : Heap) (locs1 : List Loc), ct_V X A s (ws ++ ct_tab X q N M) H1 locs1 → W p l e R s m args below meth c H1 locs1 (nc + (1 + N)) (ns + (N + N * M)) Q (F0 m (pc + 4) ls (.ref q :: rest))) : W p l e R s m args below meth c H locs nc ns Q (F0 m pc ls (.int k :: .int n :: rest)) := by
  obtain ⟨hx, hb, hml, hown, hts, hK, hO⟩ := C
  obtain ⟨hP, hD, hS, hA⟩ := V
  subst hN; subst hM; subst hb
  intro T hT St
  obtain ⟨vm₁, cA, comp, -, f1, f2, -, -, St2, go⟩ := St.multianewarray2F hx (own := own) (ty := .int) hown (hts _ w0) (hO.moved (Vm.Alike.refl _)) (hts _ w) (g := F0 m pc ls (.int k :: .int n :: rest)) rfl hd rfl hn hk (by omega) (by show _ * 4 ≤ _; omega) (by omega) rfl rfl (by omega) (by omega)
  have e3 : s.vm.findClass ("[" ++ (FieldType.array .int).toString) = some (X.2.1 3) := (hK.1.2 3 (X.2.1 3, .array .int) rfl).2
  have e0 : s.vm.findClass ((FieldType.array .int).toString) = some (X.2.1 0) := (hK.1.2 0 (X.2.1 0, .int) rfl).2
  cases Option.some.inj (f1.symm.trans e3)
  cases Option.some.inj (f2.symm.trans e0)
  obtain ⟨z1, z2, -, -⟩ := Jvm.Free.Multi.fill_facts (T.setVm vm₁) (X.2.1 3) (X.2.1 0) n.toNatClampNeg k.toNatClampNeg (defaultValue .int) n.toNatClampNeg
  have zi := Jvm.Free.Multi.fill_inner (T.setVm vm₁) (X.2.1 3) (X.2.1 0) n.toNatClampNeg k.toNatClampNeg (defaultValue .int) n.toNatClampNeg
  have zo := fun (a : Addr) (ha : a < T.heap.size) => Jvm.Free.Multi.fill_old (T.setVm vm₁) (X.2.1 3) (X.2.1 0) n.toNatClampNeg k.toNatClampNeg (defaultValue .int) (a := a) ha n.toNatClampNeg
  have zc : Jvm.Free.Multi.outerC (X.2.1 3) n.toNatClampNeg T.heap.size n.toNatClampNeg = arrV (X.2.1 3) n.toNatClampNeg (fun i => va_rf (((List.range n.toNatClampNeg).map fun j => some (T.heap.size + 1 + j)).getD i none)) := by
    obtain ⟨o1, o2, o3⟩ := Jvm.Free.Multi.outerC_facts (X.2.1 3) n.toNatClampNeg T.heap.size n.toNatClampNeg
    obtain ⟨o4, o5⟩ := Jvm.Free.Multi.outerC_plain (X.2.1 3) n.toNatClampNeg T.heap.size n.toNatClampNeg
    have os := Jvm.Free.Multi.outerC_slot (X.2.1 3) n.toNatClampNeg T.heap.size n.toNatClampNeg
    generalize Jvm.Free.Multi.outerC (X.2.1 3) n.toNatClampNeg T.heap.size n.toNatClampNeg = cl at o1 o2 o3 o4 o5 os
    have hsl : cl.slots = Array.ofFn (n := n.toNatClampNeg) fun j => va_rf (((List.range n.toNatClampNeg).map fun j => some (T.heap.size + 1 + j)).getD j.val none) := by
      apply Array.ext
      · simp [o3]
      · intro i h1 h2
        have h3 : i < n.toNatClampNeg := by omega
        have h4 := os i h3
        rw [Array.getElem?_eq_getElem h1, if_pos h3] at h4
        rw [Option.some.inj h4]
        simp [h3, va_rf]
    cases cl
    simp only at o1 o2 o4 o5 hsl
    subst o1; subst o2; subst o4; subst o5; subst hsl
    rfl
  rw [show (T.setVm vm₁).heap.size = T.heap.size from rfl, zc] at z2
  obtain ⟨U, hU⟩ : ∃ U, U = Jvm.Free.Multi.fill (T.setVm vm₁) (X.2.1 3) (X.2.1 0) n.toNatClampNeg k.toNatClampNeg (defaultValue .int) n.toNatClampNeg := ⟨_, rfl⟩
  rw [← hU] at z1 z2 zi zo St2 go
  have z1 : U.heap.size = T.heap.size + 1 + n.toNatClampNeg := z1
  have zi : ∀ j, j < n.toNatClampNeg → U.heap[T.heap.size + 1 + j]? = some (arrV (X.2.1 0) k.toNatClampNeg (fun _ => .int 0)) := fun j hj => (zi j hj).trans (congrArg some (arrV_new _ _ _))
  subst hT
  have hPn : va_P X.1 vwCl (ct_tab X T.heap.size n.toNatClampNeg k.toNatClampNeg) U.heap := by
    intro i q hq
    cases i with
    | zero => cases hq; exact z2
    | succ i =>
      have h2 : ((List.range n.toNatClampNeg).map fun j => ((T.heap.size + 1 + j, .inl (X.2.1 0, k.toNatClampNeg, .inl fun _ => 0)) : Nat × va_E))[i]? = some q := hq
      rw [List.getElem?_map] at h2
      rcases Nat.lt_or_ge i n.toNatClampNeg with h | h
      · rw [List.getElem?_range h] at h2
        cases h2
        exact zi i h
      · rw [List.getElem?_eq_none (by simpa using h)] at h2; cases h2
  have hadr : ∀ i q, (ct_tab X T.heap.size n.toNatClampNeg k.toNatClampNeg)[i]? = some q → q.1 = T.heap.size + i := by
    intro i q hq
    cases i with
    | zero => cases hq; rfl
    | succ i =>
      have h2 : ((List.range n.toNatClampNeg).map fun j => ((T.heap.size + 1 + j, .inl (X.2.1 0, k.toNatClampNeg, .inl fun _ => 0)) : Nat × va_E))[i]? = some q := hq
      rw [List.getElem?_map] at h2
      rcases Nat.lt_or_ge i n.toNatClampNeg with h | h
      · rw [List.getElem?_range h] at h2
        cases h2
        show T.heap.size + 1 + i = _
        omega
      · rw [List.getElem?_eq_none (by simpa using h)] at h2; cases h2
  have hkk := kk T.heap.size U.heap locs ⟨(hP.kept (fun i q hq => zo q.1 (hP i q hq).lt)).app hPn, hD.app ⟨fun i j p q hp hq hpq => by rw [hadr i p hp, hadr j q hq] at hpq; omega, fun i q hq => hA _ (by rw [hadr i q hq]; exact Nat.le_trans hS.1 (Nat.le_add_right _ _))⟩ (fun i j p q hp hq hpq => by
      have h1 := (hP i p hp).lt
      have h2 := hadr j q hq
      omega), ⟨Nat.le_trans hS.1 (by rw [z1]; omega), fun q h1 h2 => (zo q (Nat.lt_of_lt_of_le h1 hS.1)).trans (hS.2.1 q h1 h2), hS.2.2⟩, hA⟩
  obtain ⟨t, a1, b1⟩ := hkk U rfl (by have := St2; rw [Nat.add_assoc, Nat.add_assoc] at this; exact this)
  exact ⟨t, go t a1, b1⟩
/-- a new object -/
theorem ct_new (C : ct_c cc nL own X p s m args c) (V : ct_V X A s ws H locs) {a N : Nat} {cl : String} {T : u_T} (hc : vwCl[a]? = some (cl, T, N)) (w1 : Cond.classLink own idx cl ∈ sy_T) (w2 : Cond.instantiable cl N ∈ sy_T) (w3 : Cond.initialized cl ∈ sy_T) (hfs : ∀ j, j < N → defaultValue (sy_ty a j) = vp_V fs j) (hcl : nc + 1 ≤ R.cells) (hsl : ns + N ≤ R.slots) (hd : decode cc pc = .ok (.new idx, 3))
    (kk : ∀ (q : Nat) (H1 : Heap), ct_V X A s (ws ++ [(q, .inr (a, fs))]) H1 locs → W p l e R s m args below meth c H1 locs (nc + 1) (ns + N) Q (F0 m (pc + 3) ls (.ref q :: rest))) : W p l e R s m args below meth c H locs nc ns Q (F0 m pc ls rest) := by
  obtain ⟨hx, hb, hml, hown, hts, hK, hO⟩ := C
  obtain ⟨hP, hD, hS, hA⟩ := V
  obtain ⟨k1, k2, k3⟩ := sy_cls hc
  exact va_new hx hb hts k1 (sy_ty a) k2 hown (hts _ w1) (hts _ w2) (hts _ w3) hK.1 hP hD hS hA hc hfs hcl hsl hd (fun q H1 hP1 hD1 hS1 => kk q H1 ⟨hP1, hD1, hS1, hA⟩)
/-- a final field of the object that is made -/
theorem ct_putF (C : ct_c cc nL own X p s m args c) (hin : meth.name = "<init>") (V : ct_V X A s ((h0, .inr (ci, fs)) :: rs) H locs) (k : Nat) {N : Nat} {T : u_T} (hc : vwCl[ci]? = some (own, T, N)) (hk : k < N) (hq : sy_FL.contains (ci, idx, ci, k) = true) (hfin : (T k).2.2.2 = true) (hdc : (T k).1 = own) {v : Value} (hv : narrow (sy_ty ci k) v = v ∧ fits (sy_ty ci k) v = true) (hl : k < fs.length) (hd : decode cc pc = .ok (.putfield idx, 3))
    (kk : ∀ (H1 : Heap) (locs1 : List Loc), ct_V X A s ((h0, .inr (ci, fs.set k v)) :: rs) H1 locs1 → W p l e R s m args below meth c H1 locs1 nc ns Q (F0 m (pc + 3) ls rest)) : W p l e R s m args below meth c H locs nc ns Q (F0 m pc ls (v :: .ref h0 :: rest)) := by
  obtain ⟨hx, hb, hml, hown, hts, hK, hO⟩ := C
  obtain ⟨hP, hD, hS, hA⟩ := V
  obtain ⟨k1, k2, k3⟩ := sy_cls hc
  have hw := sy_FLm hq
  unfold sy_fw at hw
  rw [hc] at hw
  have hw : Cond.fieldLink (sy_cn ci) idx (T k).1 (T k).2.1 (T k).2.2.1 ∈ sy_T := hw
  rw [sy_vn hc] at hw
  have hw : Cond.fieldLink own idx (T k).1 (T k).2.1 (T k).2.2.1 ∈ sy_T := hw
  exact va_putF hx hb hts k1 (sy_ty ci) k2 k3 hown hK.1 hP hD hS 0 rfl hc k hk (hts _ hw) (fun _ h9 => h9) hfin hin hdc (k2 k hk) hv.1 hv.2 hl hd (fun H1 locs1 hP1 hD1 hS1 => kk H1 locs1 ⟨hP1, hD1, hS1, hA⟩)
/-- a field that is not final -/
theorem ct_put (C : ct_c cc nL own X p s m args c) (V : ct_V X A s ((h0, .inr (ci, fs)) :: rs) H locs) (k : Nat) {N : Nat} {T : u_T} (hc : vwCl[ci]? = some (own, T, N)) (hk : k < N) (hq : sy_FL.contains (ci, idx, ci, k) = true) (hfin : (T k).2.2.2 = false) {v : Value} (hv : narrow (sy_ty ci k) v = v ∧ fits (sy_ty ci k) v = true) (hl : k < fs.length) (hd : decode cc pc = .ok (.putfield idx, 3))
    (kk : ∀ (H1 : Heap) (locs1 : List Loc), ct_V X A s ((h0, .inr (ci, fs.set k v)) :: rs) H1 locs1 → W p l e R s m args below meth c H1 locs1 nc ns Q (F0 m (pc + 3) ls rest)) : W p l e R s m args below meth c H locs nc ns Q (F0 m pc ls (v :: .ref h0 :: rest)) := by
  obtain ⟨hx, hb, hml, hown, hts, hK, hO⟩ := C
  obtain ⟨hP, hD, hS, hA⟩ := V
  obtain ⟨k1, k2, k3⟩ := sy_cls hc
  have hw := sy_FLm hq
  unfold sy_fw at hw
  rw [hc] at hw
  have hw : Cond.fieldLink (sy_cn ci) idx (T k).1 (T k).2.1 (T k).2.2.1 ∈ sy_T := hw
  rw [sy_vn hc] at hw
  have hw : Cond.fieldLink own idx (T k).1 (T k).2.1 (T k).2.2.1 ∈ sy_T := hw
  exact va_put hx hb hts k1 (sy_ty ci) k2 k3 hown hK.1 hP hD hS 0 rfl hc k hk (hts _ hw) (fun _ h9 => h9) hfin (k2 k hk) hv.1 hv.2 hl hd (fun H1 locs1 hP1 hD1 hS1 => kk H1 locs1 ⟨hP1, hD1, hS1, hA⟩)
/-- a field read back -/
theorem ct_get (C : ct_c cc nL own X p s m args c) (V : ct_V X A s ((h0, .inr (ci, fs)) :: rs) H locs) (k : Nat) {N : Nat} {T : u_T} (hc : vwCl[ci]? = some (own, T, N)) (hk : k < N) (hq : sy_FL.contains (ci, idx, ci, k) = true) {v : Value} (hv : fs[k]? = some v) (hd : decode cc pc = .ok (.getfield idx, 3))
    (kk : W p l e R s m args below meth c H locs nc ns Q (F0 m (pc + 3) ls (v :: rest))) : W p l e R s m args below meth c H locs nc ns Q (F0 m pc ls (.ref h0 :: rest)) := by
  obtain ⟨hx, hb, hml, hown, hts, hK, hO⟩ := C
  obtain ⟨hP, hD, hS, hA⟩ := V
  obtain ⟨k1, k2, k3⟩ := sy_cls hc
  have hw := sy_FLm hq
  unfold sy_fw at hw
  rw [hc] at hw
  have hw : Cond.fieldLink (sy_cn ci) idx (T k).1 (T k).2.1 (T k).2.2.1 ∈ sy_T := hw
  rw [sy_vn hc] at hw
  have hw : Cond.fieldLink own idx (T k).1 (T k).2.1 (T k).2.2.1 ∈ sy_T := hw
  exact va_get hx hb hts k1 hown hK.1 hP 0 rfl hc k hk (hts _ hw) (fun _ h9 => h9) hv hd kk
/-- what a callee left stands beside the rest -/
theorem ct_join {A0 : Nat → Prop} {D : va_G} {cl : List vw_C} {wr wc w1 : va_W} {H H1 : Heap} (hP : va_P D cl (wr ++ wc) H) (hD : va_D A0 (wr ++ wc)) (hk : ∀ q : Nat, q < H.size → ¬ va_A wc H.size q → H1[q]? = H[q]?) (hF : ∀ q, va_A wc H.size q → A0 q) (hP1 : va_P D cl w1 H1) (hD1 : va_D (va_A wc H.size) w1) : va_P D cl (wr ++ w1) H1 ∧ va_D A0 (wr ++ w1) := by
  have lft : ∀ (i : Nat) (q : Nat × va_E), wr[i]? = some q → (wr ++ wc)[i]? = some q := fun i q h => by
    rw [List.getElem?_append_left (List.getElem?_eq_some_iff.mp h).1]; exact h
  have apart : ∀ (i : Nat) (q : Nat × va_E), wr[i]? = some q → q.1 < H.size ∧ ¬ va_A wc H.size q.1 := by
    intro i q h
    have hlt := (hP i q (lft i q h)).lt
    refine ⟨hlt, ?_⟩
    rintro (⟨k, e, hk2⟩ | hge)
    · have h2 : (wr ++ wc)[wr.length + k]? = some (q.1, e) := by
        rw [List.getElem?_append_right (Nat.le_add_right _ _), Nat.add_sub_cancel_left]; exact hk2
      have h3 := hD.1 i (wr.length + k) q (q.1, e) (lft i q h) h2 rfl
      have := (List.getElem?_eq_some_iff.mp h).1
      omega
    · omega
  refine ⟨va_P.app (fun i q h => ?_) hP1, va_D.app ⟨fun i j p q hp hq e => hD.1 i j p q (lft i p hp) (lft j q hq) e, fun i q h => hD.2 i q (lft i q h)⟩ (hD1.weaken (fun _ q _ h => hF q.1 h)) (fun i j p q hp hq e => ?_)⟩
  · obtain ⟨g1, g2⟩ := apart i q h
    exact (hP i q (lft i q h)).kept (hk q.1 g1 g2)
  · exact (apart i p hp).2 (by rw [e]; exact hD1.2 j q hq)
/-- a constructor is called -/
theorem ct_call (C : ct_c cc nL own X p s m args c) {h1 : Nat} {y1 : sy_M} {gs As st : List Value} {mc ms n : Nat} {G : va_W → Prop} (V : ct_V X A s (ws ++ [(h1, .inr (y1.2.2.2.2.1, gs))]) H locs) (hM : ct_Met y1 mc ms gs As X h1 G) (hret : y1.2.2.2.1 = none) (hnm : y1.1.name = "<init>") (w1 : Cond.code y1.1 y1.2.1 y1.2.2.1 y1.2.2.2.1 ∈ sy_T) (w2 : Cond.initialized y1.1.cls ∈ sy_T) (w3 : Cond.methodLink own idx y1.1 ∈ sy_T) (w4 : Cond.instanceMethod y1.1 ∈ sy_T)
    (m3 : y1.1.cls ≠ "java/lang/invoke/MethodHandle" ∧ y1.1.cls ≠ "java/lang/invoke/VarHandle" ∧ (parseMethodDescriptor y1.1.desc).map (fun d => d.parameters.length) = some n) (hrm : y1.2.2.2.2.2.1 + 1 ≤ R.frames ∧ 8 + (y1.2.2.1 + 11) + y1.2.2.2.2.2.2 ≤ R.locals) (hn : As.length = n) (hll : ls.size = nL) (hst : st = As.reverse ++ .ref h1 :: rest) (hsum : (rest.map fun v => v.category).sum ≤ 8) (hd : decode cc pc = .ok (.invokespecial idx, 3)) (hnc : nc + mc ≤ R.cells ∧ ns + ms ≤ R.slots)
    (kk : ∀ (u : va_W) (H1 : Heap) (locs1 : List Loc), G u → ct_V X A s (ws ++ u) H1 locs1 → W p l e R s m args below meth c H1 locs1 (nc + mc) (ns + ms) Q (F0 m (pc + 3) ls rest)) : W p l e R s m args below meth c H locs nc ns Q (F0 m pc ls st) := by
  obtain ⟨hx, hb, hml, hown, hts, hK, hO⟩ := C
  obtain ⟨hP, hD, hS, hA⟩ := V
  have hl1 : (ws ++ [((h1, .inr (y1.2.2.2.2.1, gs)) : Nat × va_E)])[ws.length]? = some (h1, .inr (y1.2.2.2.2.1, gs)) := by
    rw [List.getElem?_append_right (Nat.le_refl _), Nat.sub_self]; rfl
  have hPc : va_P X.1 vwCl [(h1, .inr (y1.2.2.2.2.1, gs))] H := hP.sub [ws.length] (by simp)
  have hDc : va_D A [(h1, .inr (y1.2.2.2.2.1, gs))] := hD.sub [ws.length] rfl (by simp)
  have hFc := va_free (wc := [(h1, .inr (y1.2.2.2.2.1, gs))]) hD hS hA [ws.length] (by simp)
  have cw : CallB R s args own idx y1.1 y1.2.1 y1.2.2.1 none (sy_ws y1) (ct_rm y1 mc ms) mc ms n := callB_of n hts (sy_goodT w1) (by unfold sy_ws; rw [hret]) rfl rfl (hts _ w2) (hts _ w3) m3 hrm
  refine va_callv (va_runI (As := As) (rest := rest) ⟨hx, hb, hml, hown, hts⟩ (hM l H.size) ⟨cw, hnm, hts _ w4⟩ ⟨ct_blind, fun U hU hW => ⟨rfl, by rw [hU], by rw [hU]; exact hPc, ⟨hK.warm hW, hO.warm hW⟩, hDc.weaken (fun _ _ _ _ => trivial)⟩⟩ rfl hn hll hst (lv_room hsum) hd hnc) hS (fun q _ h => hFc q h) hFc (fun u t H1 locs1 ht hvm hG hB hz1 hk1 hS1 => ?_)
  obtain ⟨hP1, hD1⟩ := hB
  rw [ht] at hP1
  obtain ⟨hP2, hD2⟩ := ct_join hP hD hk1 hFc hP1 hD1
  exact kk u H1 locs1 hG ⟨hP2, hD2, hS1, hA⟩
/-- a private constructor of the nest is called -/
theorem ct_callN (C : ct_c cc nL own X p s m args c) {h1 : Nat} {y1 : sy_M} {gs As st : List Value} {mc ms n : Nat} {G : va_W → Prop} (V : ct_V X A s (ws ++ [(h1, .inr (y1.2.2.2.2.1, gs))]) H locs) (hM : ct_Met y1 mc ms gs As X h1 G) (hret : y1.2.2.2.1 = none) (hnm : y1.1.name = "<init>") (w1 : Cond.code y1.1 y1.2.1 y1.2.2.1 y1.2.2.2.1 ∈ sy_T) (w2 : Cond.initialized y1.1.cls ∈ sy_T) (w3 : (idx, y1.1) ∈ ct_N) (hown2 : own = "SandGroup") (w4 : Cond.instanceMethod y1.1 ∈ sy_T)
    (m3 : y1.1.cls ≠ "java/lang/invoke/MethodHandle" ∧ y1.1.cls ≠ "java/lang/invoke/VarHandle" ∧ (parseMethodDescriptor y1.1.desc).map (fun d => d.parameters.length) = some n) (hrm : y1.2.2.2.2.2.1 + 1 ≤ R.frames ∧ 8 + (y1.2.2.1 + 11) + y1.2.2.2.2.2.2 ≤ R.locals) (hn : As.length = n) (hll : ls.size = nL) (hst : st = As.reverse ++ .ref h1 :: rest) (hsum : (rest.map fun v => v.category).sum ≤ 8) (hd : decode cc pc = .ok (.invokespecial idx, 3)) (hnc : nc + mc ≤ R.cells ∧ ns + ms ≤ R.slots)
    (kk : ∀ (u : va_W) (H1 : Heap) (locs1 : List Loc), G u → ct_V X A s (ws ++ u) H1 locs1 → W p l e R s m args below meth c H1 locs1 (nc + mc) (ns + ms) Q (F0 m (pc + 3) ls rest)) : W p l e R s m args below meth c H locs nc ns Q (F0 m pc ls st) := by
  obtain ⟨hx, hb, hml, hown, hts, hK, hO⟩ := C
  obtain ⟨hP, hD, hS, hA⟩ := V
  have hl1 : (ws ++ [((h1, .inr (y1.2.2.2.2.1, gs)) : Nat × va_E)])[ws.length]? = some (h1, .inr (y1.2.2.2.2.1, gs)) := by
    rw [List.getElem?_append_right (Nat.le_refl _), Nat.sub_self]; rfl
  have hPc : va_P X.1 vwCl [(h1, .inr (y1.2.2.2.2.1, gs))] H := hP.sub [ws.length] (by simp)
  have hDc : va_D A [(h1, .inr (y1.2.2.2.2.1, gs))] := hD.sub [ws.length] rfl (by simp)
  have hFc := va_free (wc := [(h1, .inr (y1.2.2.2.2.1, gs))]) hD hS hA [ws.length] (by simp)
  subst hown2
  have cw : va_CN R s args "SandGroup" idx y1.1 "SandGroup" y1.2.1 y1.2.2.1 none (sy_ws y1) (ct_rm y1 mc ms) mc ms n := va_cnB n hts (sy_goodT w1) (by unfold sy_ws; rw [hret]) rfl rfl (hO.2 _ w3) (hts _ w2) m3 hrm
  refine va_callv (va_runIN (As := As) (rest := rest) ⟨hx, hb, hml, hown, hts⟩ (hM l H.size) ⟨cw, hnm, hts _ w4⟩ ⟨ct_blind, fun U hU hW => ⟨rfl, by rw [hU], by rw [hU]; exact hPc, ⟨hK.warm hW, hO.warm hW⟩, hDc.weaken (fun _ _ _ _ => trivial)⟩⟩ rfl hn hll hst (lv_room hsum) hd hnc) hS (fun q _ h => hFc q h) hFc (fun u t H1 locs1 ht hvm hG hB hz1 hk1 hS1 => ?_)
  obtain ⟨hP1, hD1⟩ := hB
  rw [ht] at hP1
  obtain ⟨hP2, hD2⟩ := ct_join hP hD hk1 hFc hP1 hD1
  exact kk u H1 locs1 hG ⟨hP2, hD2, hS1, hA⟩
/-- a method of the object that is made is called, over all its cells -/
theorem ct_meth {ad : Nat → Nat} {sh : sy_Z} {σ : sy_S} {Q1 : Option Value → sy_S → Prop} (C : ct_c cc nL own X p s m args c) (V : ct_V X A s (sy_w (X.1, X.2.1, ad) sh σ) H locs) (y1 : sy_M) {k n : Nat} {As st : List Value} (hm : sy_mok y1 false n) (hj : Cond.methodLink own idx y1.1 ∈ sy_T) (hd : decode cc pc = .ok (.invokevirtual idx, 3)) (hst : st = (As.map (sy_v (X.1, X.2.1, ad))).reverse ++ .ref (ad k) :: rest) (hn : As.length = n) (hsum : (rest.map fun v => v.category).sum ≤ 8) (hl1 : (sy_en (.ref k :: As)).length ≤ y1.2.2.1)
    (hrm : y1.2.2.2.2.2.1 + 1 ≤ R.frames ∧ 8 + (y1.2.2.1 + 11) + y1.2.2.2.2.2.2 ≤ R.locals) (hnc : nc ≤ R.cells ∧ ns ≤ R.slots) (hll : ls.size = nL) {z : Nat × List (Option Nat)} (hz : sh[k]? = some (y1.2.2.2.2.1 + 4, z))
    (h1 : sy_E sh y1 (0, sy_ent (.ref k :: As) y1.2.2.1, [], σ) Q1)
    (kk : ∀ (r : Option Value) (σ' : sy_S) (H1 : Heap) (locs1 : List Loc), Q1 r σ' → ct_V X A s (sy_w (X.1, X.2.1, ad) sh σ') H1 locs1 → W p l e R s m args below meth c H1 locs1 nc ns Q (F0 m (pc + 3) ls ((r.map (sy_v (X.1, X.2.1, ad))).toList ++ rest))) : W p l e R s m args below meth c H locs nc ns Q (F0 m pc ls st) := by
  obtain ⟨hx, hb, hml, hown, hts, hK, hO⟩ := C
  obtain ⟨hP, hD, hS, hA⟩ := V
  obtain ⟨m1, m2, m3, m4, -, m6, m7⟩ := hm
  obtain ⟨m8, m9⟩ := m6 rfl
  have hK' : sy_K (X.1, X.2.1, ad) s := hK
  have hM := sy_met m4 m7 hl1 h1 l (X.1, X.2.1, ad) H.size
  obtain ⟨q9, hc, -⟩ := hP k _ (sy_w_at hz)
  have hc : vwCl[y1.2.2.2.2.1]? = some q9 := hc
  have hrecv := va_recv hK.1 hP hc (sy_w_at hz)
  rw [← sy_vn hc, ← m7] at hrecv
  have cw : CallW R s args own y1.1.cls idx y1.1 y1.2.1 y1.2.2.1 y1.2.2.2.1 (sy_ws y1) (sy_rm y1) 0 0 n := ⟨callB_of n hts (sy_goodT m1) rfl rfl rfl (hts _ m2) (hts _ hj) m3 hrm, hts _ m8, hts _ m9⟩
  have hup : ∀ q, sy_A (X.1, X.2.1, ad) sh H.size q → A q := by
    rintro q (⟨j, hj, rfl⟩ | hq)
    · exact hD.2 j _ (sy_w_at (List.getElem?_eq_getElem hj))
    · exact hA q (Nat.le_trans hS.1 hq)
  exact lw_after (va_runV (As := As.map (sy_v (X.1, X.2.1, ad))) (rest := rest) ⟨hx, hb, hml, hown, hts⟩ hM cw ⟨sy_blind, hrecv, fun U hU hWm => ⟨rfl, by rw [hU], by rw [hU]; exact hP, hK'.warm hWm, hD.weaken (fun _ _ _ _ => trivial)⟩⟩ rfl (by rw [List.length_map]; exact hn) hll hst (lv_room hsum) hd hnc) hS hup (fun r σ' H1 locs1 hq hP1 hsz hk hS1 => kk r σ' H1 locs1 hq ⟨hP1, sy_D hD, hS1, hA⟩)
/-- an int into an array -/
theorem ct_ias {q0 n : Nat} {f : Nat → Int32} {a : Nat} {i x : Int32} (C : ct_c cc nL own X p s m args c) (V : ct_V X A s ws H locs) (ha : ws[q0]? = some (a, .inl (X.2.1 0, n, .inl f))) (hi : vp_in i n) (hd : decode cc pc = .ok (.iastore, 1))
    (kk : ∀ (H1 : Heap) (locs1 : List Loc), ct_V X A s (ws.set q0 (a, .inl (X.2.1 0, n, .inl (upd f i.toNatClampNeg x)))) H1 locs1 → W p l e R s m args below meth c H1 locs1 nc ns Q (F0 m (pc + 1) ls rest)) : W p l e R s m args below meth c H locs nc ns Q (F0 m pc ls (.int x :: .int i :: .ref a :: rest)) := by
  obtain ⟨hx, hb, hml, hown, hts, hK, hO⟩ := C
  obtain ⟨hP, hD, hS, hA⟩ := V
  exact va_iast hx hb hK.1 hP hD hS q0 0 ha rfl hi hd (fun H1 locs1 hP1 hD1 hS1 => kk H1 locs1 ⟨hP1, hD1, hS1, hA⟩)
/-- a constructor's end -/
theorem ct_end {w0 u : va_W} {G : va_W → Prop} {NC NS : Nat} (C : ct_c cc nL own X p s m args c) (hr : meth.sig.returnType = none) (hlocks : meth.locks = false) (hA : A = va_A w0 s.heap.size) (V : ct_V X A s u H locs) (hG : G u) (h1 : nc ≤ NC) (h2 : ns ≤ NS) (hd : decode cc pc = .ok (.return_, 1)) : W p l e R s m args below meth c H locs nc ns (MQ below (ct_Q X w0 s.heap.size G) args s NC NS A) (F0 m pc ls []) := by
  obtain ⟨hx, hb, hml, hown, hts, hK, hO⟩ := C
  obtain ⟨hP, hD, hS, -⟩ := V
  subst hA
  refine W.widen h1 h2 ?_
  exact W.vret hx hb hr (fun t ht hW => ⟨⟨u, rfl, hG, by rw [ht]; exact hP, hD⟩, hS.F ht⟩) hS.2.2 hd hlocks
end CT
