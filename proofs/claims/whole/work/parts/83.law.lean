/-! the law's world: the class's cells and the model's, apart -/
abbrev lw_A (s : State) : Nat → Prop := fun q : Nat => s.heap.size ≤ q
def lw_V (X X' : sy_X) (s : State) (S1 S2 : st) (H : Heap) (locs : List Loc) : Prop :=
  ∃ σ τ : sy_S, va_P X.1 vwCl (sy_w X shX σ) H ∧ va_P X'.1 vwCl (sy_w X' shM τ) H ∧ va_D (lw_A s) (sy_w X shX σ) ∧ va_D (lw_A s) (sy_w X' shM τ) ∧ (∀ i j, i < shX.length → j < shM.length → X.2.2 i ≠ X'.2.2 j) ∧ va_S (lw_A s) s.heap H locs ∧ RX S1 σ.1 ∧ RM S2 τ.1
theorem lw_cell {X : sy_X} {sh : sy_Z} {σ : sy_S} {k : Nat} {q : Nat × va_E} (h : (sy_w X sh σ)[k]? = some q) : k < sh.length ∧ q.1 = X.2.2 k := by
  have hk := (List.getElem?_eq_some_iff.mp h).1
  rw [sy_w_len] at hk
  rw [sy_w_at (List.getElem?_eq_getElem hk)] at h
  cases h
  exact ⟨hk, rfl⟩
/-- the other's cells stay -/
theorem lw_stay {X X' : sy_X} {sh sh' : sy_Z} {τ : sy_S} {H H1 : Heap} (hP : va_P X'.1 vwCl (sy_w X' sh' τ) H) (hx : ∀ i j, i < sh.length → j < sh'.length → X.2.2 i ≠ X'.2.2 j) (hk : ∀ q, q < H.size → ¬ sy_A X sh H.size q → H1[q]? = H[q]?) : va_P X'.1 vwCl (sy_w X' sh' τ) H1 := by
  refine hP.kept (fun k q hq => ?_)
  have hlt := (hP k q hq).lt
  obtain ⟨h1, h2⟩ := lw_cell hq
  refine hk q.1 hlt ?_
  rintro (⟨i, hi, e⟩ | e)
  · exact hx i k hi h1 (by rw [← e, h2])
  · omega
section LAW
variable {p : Program} {l : Launch} {e : Env} {s : State} {m : MethodId} {below : List Frame} {meth : Method} {c : Code} {b : Nat} {H : Heap} {locs : List Loc} {nc ns : Nat} {X X' : sy_X} {S1 S2 S' : st} {q : State → Prop} {pc idx n : Nat} {ls : Array Slot} {st rest As : List Value} {v : Value}
/-- a call of the class's method -/
theorem lw_callX (y1 : sy_M) (hx : p.tables.exec = Jvm.exec) (hb : c.code = code) (hml : c.maxLocals = 4) (hown : s.vm.findClass R_law = some m.cls) (hts : ∀ w ∈ sy_T, w.before #[Value.ref b] s = true)
    (hm : sy_mok y1 false n) (hj : Cond.methodLink R_law idx y1.1 ∈ sy_T) (hd : decode code pc = .ok (.invokevirtual idx, 3)) (hst : st = (As.map (sy_v X)).reverse ++ .ref (X.2.2 6) :: rest) (hn : As.length = n) (hsum : (rest.map fun v => v.category).sum ≤ 8) (hl1 : (sy_en (.ref 6 :: As)).length ≤ y1.2.2.1) (hrm : y1.2.2.2.2.2.1 + 1 ≤ 8 ∧ 8 + (y1.2.2.1 + 11) + y1.2.2.2.2.2.2 ≤ 294) (hnc : nc ≤ 600000 ∧ ns ≤ 7302250) (hll : ls.size = 4)
    (hz : y1.2.2.2.2.1 = 11) (hv : sy_v X v = v) (hK : sy_K X s) (V : lw_V X X' s S1 S2 H locs)
    (h1 : ∀ (Q : Option Value → sy_S → Prop) (σ : sy_S), RX S1 σ.1 → (∀ σ' : sy_S, RX S' σ'.1 → Q (some v) σ') → sy_E shX y1 (0, sy_ent (.ref 6 :: As) y1.2.2.1, [], σ) Q)
    (kk : ∀ (H1 : Heap) (locs1 : List Loc), lw_V X X' s S' S2 H1 locs1 → W p l e room_1 s m #[Value.ref b] below meth c H1 locs1 nc ns q (F0 m (pc + 3) ls (v :: rest))) : W p l e room_1 s m #[Value.ref b] below meth c H locs nc ns q (F0 m pc ls st) := by
  obtain ⟨σ, τ, hP, hP', hD, hD', hxx, hS, hR, hR'⟩ := V
  have hz6 : shX[6]? = some (y1.2.2.2.2.1 + 4, (shX[6]'(by decide)).2) := by rw [hz]; rfl
  refine lw_callV (n := n) (k := 6) (σ := σ) (sh := shX) (As := As) (Q1 := fun r σ' => r = some v ∧ RX S' σ'.1) y1 hx hb hml hown hts hm hj hd hst hn hsum hl1 hrm hnc hll hz6 hK hP hD hS (fun _ h => h) (h1 _ σ hR (fun σ' h => ⟨rfl, h⟩)) (fun r σ' H1 locs1 hr hP1 hsz hk hS1 => ?_)
  obtain ⟨rfl, hr2⟩ := hr
  have h9 := kk H1 locs1 ⟨σ', τ, hP1, lw_stay hP' hxx hk, sy_D hD, hD', hxx, hS1, hr2, hR'⟩
  show W p l e room_1 s m #[Value.ref b] below meth c H1 locs1 nc ns q (F0 m (pc + 3) ls (sy_v X v :: rest))
  rw [hv]; exact h9
/-- a call of the model's method -/
theorem lw_callM (y1 : sy_M) (hx : p.tables.exec = Jvm.exec) (hb : c.code = code) (hml : c.maxLocals = 4) (hown : s.vm.findClass R_law = some m.cls) (hts : ∀ w ∈ sy_T, w.before #[Value.ref b] s = true)
    (hm : sy_mok y1 false n) (hj : Cond.methodLink R_law idx y1.1 ∈ sy_T) (hd : decode code pc = .ok (.invokevirtual idx, 3)) (hst : st = (As.map (sy_v X')).reverse ++ .ref (X'.2.2 0) :: rest) (hn : As.length = n) (hsum : (rest.map fun v => v.category).sum ≤ 8) (hl1 : (sy_en (.ref 0 :: As)).length ≤ y1.2.2.1) (hrm : y1.2.2.2.2.2.1 + 1 ≤ 8 ∧ 8 + (y1.2.2.1 + 11) + y1.2.2.2.2.2.2 ≤ 294) (hnc : nc ≤ 600000 ∧ ns ≤ 7302250) (hll : ls.size = 4)
    (hz : y1.2.2.2.2.1 = 12) (hv : sy_v X' v = v) (hK : sy_K X' s) (V : lw_V X X' s S1 S2 H locs)
    (h1 : ∀ (Q : Option Value → sy_S → Prop) (σ : sy_S), RM S2 σ.1 → (∀ σ' : sy_S, RM S' σ'.1 → Q (some v) σ') → sy_E shM y1 (0, sy_ent (.ref 0 :: As) y1.2.2.1, [], σ) Q)
    (kk : ∀ (H1 : Heap) (locs1 : List Loc), lw_V X X' s S1 S' H1 locs1 → W p l e room_1 s m #[Value.ref b] below meth c H1 locs1 nc ns q (F0 m (pc + 3) ls (v :: rest))) : W p l e room_1 s m #[Value.ref b] below meth c H locs nc ns q (F0 m pc ls st) := by
  obtain ⟨σ, τ, hP, hP', hD, hD', hxx, hS, hR, hR'⟩ := V
  have hz0 : shM[0]? = some (y1.2.2.2.2.1 + 4, (shM[0]'(by decide)).2) := by rw [hz]; rfl
  refine lw_callV (n := n) (k := 0) (σ := τ) (sh := shM) (As := As) (Q1 := fun r σ' => r = some v ∧ RM S' σ'.1) y1 hx hb hml hown hts hm hj hd hst hn hsum hl1 hrm hnc hll hz0 hK hP' hD' hS (fun _ h => h) (h1 _ τ hR' (fun σ' h => ⟨rfl, h⟩)) (fun r σ' H1 locs1 hr hP1 hsz hk hS1 => ?_)
  obtain ⟨rfl, hr2⟩ := hr
  have h9 := kk H1 locs1 ⟨σ, σ', lw_stay hP (fun i j a b => Ne.symm (hxx j i b a)) hk, hP1, hD, sy_D hD', hxx, hS1, hR, hr2⟩
  show W p l e room_1 s m #[Value.ref b] below meth c H1 locs1 nc ns q (F0 m (pc + 3) ls (sy_v X' v :: rest))
  rw [hv]; exact h9
end LAW
