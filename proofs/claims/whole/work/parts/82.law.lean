/-! THE CLAIM OUT OF ONE WALK OF THE LAW'S BODY. Your part is whole_start (and what it stands on); all else here is the same for every law, but numbers. -/
def R_law : String := "SandGroupLaw"
def lw_P (b : Addr) (xs : List Int32) (args : Array Value) (s : State) : Prop := args = #[.ref b] ∧ s.IntsAt b xs ∧ xs.length ≤ 2048 ∧ (Jvm.Cond.and given_1 narrow_1).before args s = true
def lw_Q (_ : Array Value) (s : State) (o : Outcome) (t : State) : Prop := o = .returned (some (.int 1)) ∧ Framed s o t [] 600000 7302250
def lw_Z (below : List Frame) (a : Array Value) (s : State) : State → Prop := fun t => ∃ o, t.status = .running ∧ Ended t below o ∧ lw_Q a s o t
/-- the law's own end, with 1 on the stack, nothing written that was there before, its room as the claim has it -/
theorem lw_ret {p : Program} {l : Launch} {e : Env} {s : State} {m : MethodId} {below : List Frame} {meth : Method} {c : Code} {b : Nat} (hx : p.tables.exec = Jvm.exec) (hb : c.code = code) (hr : meth.sig.returnType = ret) (hlocks : meth.locks = false) {pc : Nat} {H : Heap} {ls : Array Slot} (hdg : decode code pc = .ok (.ireturn, 1)) : W p l e room_1 s m #[Value.ref b] below meth c H [] 600000 7302250 (lw_Z below #[Value.ref b] s) (F0 m pc ls [.int 1]) := by
  intro T hT X
  obtain ⟨fs, hret, hrun, hended, hW, hframe⟩ := X.leave (v := some (.int 1)) (hlocks := hlocks) (fun h => by rw [hr] at h; cases h)
  have hmeth' : T.vm.method? m = some meth := X.method'
  refine ⟨T.setFrames fs, ?_, .returned (some (.int 1)), hrun, hended, rfl, ⟨_, rfl⟩, hW, hframe⟩
  jvm_step X.here [X.here.top, hx, hb, hdg, hmeth', hr, ret, narrow_b1]
  (try refine ⟨rfl, ?_⟩); (try refine ⟨rfl, ?_⟩)
  first | (intro acts; rw [hret _ acts rfl rfl rfl]) | rw [hret _ _ rfl rfl rfl]
  exact Steps.refl _
/-- what holds at the law's entry: the machine, the code, the tables' words (any of lw_tbl by 'hts w (by decide +kernel)'), the script of L ints xs at the cell b, what the Statement gives of the start (any of its parts by flat_of_before) -/
def lw_At (p : Program) (s : State) (m : MethodId) (meth : Method) (c : Code) (b L : Nat) (xs : Nat → Int32) : Prop :=
  p.tables.exec = Jvm.exec ∧ c.code = code ∧ meth.sig.returnType = ret ∧ c.maxLocals = 4 ∧ s.vm.findClass R_law = some m.cls ∧ (∀ w ∈ lw_tbl, w.before #[Value.ref b] s = true) ∧ va_X b L xs s s.heap ∧ b < s.heap.size ∧ meth.locks = false ∧ (Jvm.Cond.and given_1 narrow_1).before #[Value.ref b] s = true
/-! calls out of the law's world (by program: wip/whole/gen/p82.py) -/
theorem lw_after {p : Program} {l : Launch} {e : Env} {R : Room} {s : State} {m : MethodId} {args : Array Value} {below : List Frame} {meth : Method} {c : Code} {H : Heap} {locs : List Loc} {nc ns : Nat} {X : sy_X} {sh : sy_Z} {Q1 : Option Value → sy_S → Prop} {a : Array Value} {q : State → Prop} {A : Nat → Prop} {pc : Nat} {ls : Array Slot} {st rest : List Value}
    (hr : va_Run p l e R s m args below meth c H locs nc ns 0 0 (F0 m pc ls st) rest (sy_Q X sh Q1 H.size a) (sy_A X sh H.size)) (hS : va_S A s.heap H locs) (hup : ∀ q, sy_A X sh H.size q → A q)
    (kk : ∀ (r : Option Value) (σ : sy_S) (H1 : Heap) (locs1 : List Loc), Q1 r σ → va_P X.1 vwCl (sy_w X sh σ) H1 → H.size ≤ H1.size → (∀ q, q < H.size → ¬ sy_A X sh H.size q → H1[q]? = H[q]?) → va_S A s.heap H1 locs1 → W p l e R s m args below meth c H1 locs1 nc ns q (F0 m (pc + 3) ls ((r.map (sy_v X)).toList ++ rest))) : W p l e R s m args below meth c H locs nc ns q (F0 m pc ls st) := by
  intro T hT St
  obtain ⟨v, st₀, t, T', L, h0, X', hL, e1, e2, ⟨⟨r, σ, hv, hq, hP⟩, hz, hk⟩, go⟩ := hr T hT St
  cases hv
  rw [h0] at hz hk
  obtain ⟨t2, a1, b1⟩ := kk r σ T'.heap (locs ++ L) hq (by rw [e1]; exact hP) (by rw [e1]; exact hz) (fun q h1 h2 => by rw [e1]; exact hk q h1 h2)
    ⟨Nat.le_trans hS.1 (by rw [e1]; exact hz), fun q h1 h2 => by rw [e1, hk q (Nat.lt_of_lt_of_le h1 hS.1) (fun z => h2 (hup q z))]; exact hS.2.1 q h1 h2, fun q hq => by
      rcases List.mem_append.mp hq with h | h
      · exact hS.2.2 q h
      · exact hup _ (hL q h)⟩ T' rfl X'
  exact ⟨t2, go t2 a1, b1⟩
/-- a call of an instance method of one of the two, from the law's frame -/
theorem lw_callV {p : Program} {l : Launch} {e : Env} {s : State} {m : MethodId} {below : List Frame} {meth : Method} {c : Code} {b : Nat} {H : Heap} {locs : List Loc} {nc ns : Nat} {X : sy_X} {sh : sy_Z} {σ : sy_S} {Q1 : Option Value → sy_S → Prop} {q : State → Prop} {A : Nat → Prop} {pc idx n k : Nat} {ls : Array Slot} {st rest As : List Value} (y1 : sy_M)
    (hx : p.tables.exec = Jvm.exec) (hb : c.code = code) (hml : c.maxLocals = 4) (hown : s.vm.findClass R_law = some m.cls) (hts : ∀ w ∈ sy_T, w.before #[Value.ref b] s = true)
    (hm : sy_mok y1 false n) (hj : Cond.methodLink R_law idx y1.1 ∈ sy_T) (hd : decode code pc = .ok (.invokevirtual idx, 3)) (hst : st = (As.map (sy_v X)).reverse ++ .ref (X.2.2 k) :: rest) (hn : As.length = n) (hsum : (rest.map fun v => v.category).sum ≤ 8) (hl1 : (sy_en (.ref k :: As)).length ≤ y1.2.2.1) (hrm : y1.2.2.2.2.2.1 + 1 ≤ 8 ∧ 8 + (y1.2.2.1 + 11) + y1.2.2.2.2.2.2 ≤ 294) (hnc : nc ≤ 600000 ∧ ns ≤ 7302250) (hll : ls.size = 4)
    {z : Nat × List (Option Nat)} (hz : sh[k]? = some (y1.2.2.2.2.1 + 4, z)) (hK : sy_K X s) (hP : va_P X.1 vwCl (sy_w X sh σ) H) (hD : va_D A (sy_w X sh σ)) (hS : va_S A s.heap H locs) (hA : ∀ q, s.heap.size ≤ q → A q)
    (h1 : sy_E sh y1 (0, sy_ent (.ref k :: As) y1.2.2.1, [], σ) Q1)
    (kk : ∀ (r : Option Value) (σ : sy_S) (H1 : Heap) (locs1 : List Loc), Q1 r σ → va_P X.1 vwCl (sy_w X sh σ) H1 → H.size ≤ H1.size → (∀ q, q < H.size → ¬ sy_A X sh H.size q → H1[q]? = H[q]?) → va_S A s.heap H1 locs1 → W p l e room_1 s m #[Value.ref b] below meth c H1 locs1 nc ns q (F0 m (pc + 3) ls ((r.map (sy_v X)).toList ++ rest))) : W p l e room_1 s m #[Value.ref b] below meth c H locs nc ns q (F0 m pc ls st) := by
  obtain ⟨m1, m2, m3, m4, -, m6, m7⟩ := hm
  obtain ⟨m8, m9⟩ := m6 rfl
  have hM := sy_met m4 m7 hl1 h1 l X H.size
  obtain ⟨q9, hc, -⟩ := hP k _ (sy_w_at hz)
  have hc : vwCl[y1.2.2.2.2.1]? = some q9 := hc
  have hrecv := va_recv hK.1 hP hc (sy_w_at hz)
  rw [← sy_vn hc, ← m7] at hrecv
  have cw : CallW room_1 s #[Value.ref b] R_law y1.1.cls idx y1.1 y1.2.1 y1.2.2.1 y1.2.2.2.1 (sy_ws y1) (sy_rm y1) 0 0 n := ⟨callB_of n hts (sy_goodT m1) rfl rfl rfl (hts _ m2) (hts _ hj) m3 hrm, hts _ m8, hts _ m9⟩
  have hup : ∀ q, sy_A X sh H.size q → A q := by
    rintro q (⟨j, hj, rfl⟩ | hq)
    · exact hD.2 j _ (sy_w_at (List.getElem?_eq_getElem hj))
    · exact hA q (Nat.le_trans hS.1 hq)
  exact lw_after (va_runV (As := As.map (sy_v X)) (rest := rest) ⟨hx, hb, hml, hown, hts⟩ hM cw ⟨sy_blind, hrecv, fun U hU hWm => ⟨rfl, by rw [hU], by rw [hU]; exact hP, hK.warm hWm, hD.weaken (fun _ _ _ _ => trivial)⟩⟩ rfl (by rw [List.length_map]; exact hn) hll hst (lv_room hsum) hd hnc) hS hup kk
