/-! the rules of the judgement: a stretch of instructions, the returns, the entry, the calls -/
def sy_np (pc : Nat) (en : sy_I) : Nat := match en with
  | (i, a, b, _, _) => match i with
    | .goto _ => b
    | .ifCond _ _ => if a = 1 then b else pc + 3
    | .if_icmp _ _ => if a = 1 then b else pc + 3
    | .tableswitch _ _ _ _ => b
    | i => pc + sy_ln i
set_option maxHeartbeats 4000000 in
theorem sy_x1_pc {sh : sy_Z} {en : sy_I} {cf cf' : sy_Cf} {P : List Prop} (h : sy_x1 sh en cf = some (cf', P)) : cf'.1 = sy_np cf.1 en := by
  obtain ⟨pc, loc, st, σ⟩ := cf
  obtain ⟨i, a, b, v, w⟩ := en
  cases i <;> dsimp only [sy_x1] at h <;> (repeat' split at h) <;> first | (cases h; done) | (cases h; simp_all [sy_np, sy_ln])
def sy_xL (sh : sy_Z) : List sy_I → sy_Cf → Option (sy_Cf × List Prop)
  | [], cf => some (cf, [])
  | en :: r, cf => match sy_x1 sh en cf with
    | some (cf1, P1) => match sy_xL sh r cf1 with
      | some (cf2, P2) => some (cf2, P1 ++ P2)
      | none => none
    | none => none
def sy_ck (y : sy_M) : Nat → List sy_I → Bool
  | _, [] => true
  | pc, en :: r => sy_ok1 y pc en && sy_ck y (sy_np pc en) r
theorem sy_all_app {P1 P2 : List Prop} (h : sy_all (P1 ++ P2)) : sy_all P1 ∧ sy_all P2 := by
  induction P1 with
  | nil => exact ⟨trivial, h⟩
  | cons p r ih =>
    obtain ⟨h1, h2⟩ := h
    exact ⟨⟨h1, (ih h2).1⟩, (ih h2).2⟩
theorem sy_blk {sh : sy_Z} {y : sy_M} {Q : Option Value → sy_S → Prop} (seg : List sy_I) {cf : sy_Cf} (cf' : sy_Cf) (P : List Prop) (hk : sy_ck y cf.1 seg = true) (h : sy_xL sh seg cf = some (cf', P)) (hP : sy_all P) (k : sy_E sh y cf' Q) : sy_E sh y cf Q := by
  induction seg generalizing cf P with
  | nil =>
    cases h
    exact k
  | cons en r ih =>
    rw [sy_ck, Bool.and_eq_true] at hk
    rw [sy_xL] at h
    split at h
    · rename_i cf1 P1 h1
      split at h
      · rename_i cf2 P2 h2
        cases h
        obtain ⟨hp1, hp2⟩ := sy_all_app hP
        have k1 := ih P2 (by rw [sy_x1_pc h1]; exact hk.2) h2 hp2
        intro l X p e s m args below meth c C
        exact sy_one C hk.1 h1 hp1 (k1 l X p e s m args below meth c C)
      · cases h
    · cases h
section RET
variable {sh : sy_Z} {y : sy_M} {Q : Option Value → sy_S → Prop} {pc : Nat} {loc : List (Option Value)} {σ : sy_S}
theorem sy_reti {v : Int32} (hr : y.2.2.2.1 = some .int) (hd : decode y.2.1 pc = .ok (.ireturn, 1)) (hq : Q (some (.int v)) σ) : sy_E sh y (pc, loc, [.int v], σ) Q := by
  intro l X p e s m args below meth c C H locs ls hW hD hS hl
  obtain ⟨hx, hb, hr1, hlocks, hml, hown, hts, hK, hcn⟩ := C
  exact W.iret hx hb (hr1.trans hr) (fun t ht hWm => ⟨⟨_, σ, rfl, hq, by rw [ht]; exact hW⟩, hS.F ht⟩) hS.2.2 hd hlocks
theorem sy_retz {v : Int32} (hr : y.2.2.2.1 = some .boolean) (hd : decode y.2.1 pc = .ok (.ireturn, 1)) (hv : v = 0 ∨ v = 1) (hq : Q (some (.int v)) σ) : sy_E sh y (pc, loc, [.int v], σ) Q := by
  intro l X p e s m args below meth c C H locs ls hW hD hS hl
  obtain ⟨hx, hb, hr1, hlocks, hml, hown, hts, hK, hcn⟩ := C
  exact W.zret hx hb (hr1.trans hr) (by rcases hv with rfl | rfl <;> rfl) (fun t ht hWm => ⟨⟨_, σ, rfl, hq, by rw [ht]; exact hW⟩, hS.F ht⟩) hS.2.2 hd hlocks
theorem sy_retl {v : Int64} (hr : y.2.2.2.1 = some .long) (hd : decode y.2.1 pc = .ok (.lreturn, 1)) (hq : Q (some (.long v)) σ) : sy_E sh y (pc, loc, [.long v], σ) Q := by
  intro l X p e s m args below meth c C H locs ls hW hD hS hl
  obtain ⟨hx, hb, hr1, hlocks, hml, hown, hts, hK, hcn⟩ := C
  exact W.lret hx hb (hr1.trans hr) (fun t ht hWm => ⟨⟨_, σ, rfl, hq, by rw [ht]; exact hW⟩, hS.F ht⟩) hS.2.2 hd hlocks
theorem sy_reta {k : Nat} (hr : y.2.2.2.1 = some (.array .int)) (hd : decode y.2.1 pc = .ok (.areturn, 1)) (hq : Q (some (.ref k)) σ) : sy_E sh y (pc, loc, [.ref k], σ) Q := by
  intro l X p e s m args below meth c C H locs ls hW hD hS hl
  obtain ⟨hx, hb, hr1, hlocks, hml, hown, hts, hK, hcn⟩ := C
  exact W.aret hx hb (hr1.trans hr) (Or.inr ⟨_, rfl⟩) (Or.inr ⟨_, rfl⟩) (fun t ht hWm => ⟨⟨some (.ref k), σ, rfl, hq, by rw [ht]; exact hW⟩, hS.F ht⟩) hS.2.2 hd hlocks
theorem sy_retv (hr : y.2.2.2.1 = none) (hd : decode y.2.1 pc = .ok (.return_, 1)) (hq : Q none σ) : sy_E sh y (pc, loc, [], σ) Q := by
  intro l X p e s m args below meth c C H locs ls hW hD hS hl
  obtain ⟨hx, hb, hr1, hlocks, hml, hown, hts, hK, hcn⟩ := C
  exact W.vret hx hb (hr1.trans hr) (fun t ht hWm => ⟨⟨none, σ, rfl, hq, by rw [ht]; exact hW⟩, hS.F ht⟩) hS.2.2 hd hlocks
theorem sy_post {cf : sy_Cf} {Q' : Option Value → sy_S → Prop} (h : sy_E sh y cf Q') (hq : ∀ r σ, Q' r σ → Q r σ) : sy_E sh y cf Q := by
  intro l X p e s m args below meth c C H locs ls hW hD hS hl T hT St
  obtain ⟨t, h1, o, h2, h3, ⟨⟨r, σ', e1, h4, h5⟩, h6⟩, h7⟩ := h l X p e s m args below meth c C H locs ls hW hD hS hl T hT St
  exact ⟨t, h1, o, h2, h3, ⟨⟨r, σ', e1, hq r σ' h4, h5⟩, h6⟩, h7⟩
end RET
/-! the entry -/
def sy_en : List Value → List (Option Value)
  | [] => []
  | .long x :: r => some (.long x) :: none :: sy_en r
  | .double x :: r => some (.double x) :: none :: sy_en r
  | v :: r => some v :: sy_en r
def sy_ent (as : List Value) (n : Nat) : List (Option Value) := sy_en as ++ List.replicate (n - (sy_en as).length) none
theorem sy_en_args (X : sy_X) (as : List Value) : ∀ (i o : Nat) (v : Value), (sy_en as)[i]? = some (some v) → (o + i, sy_v X v) ∈ lv_args o (as.map (sy_v X)) := by
  induction as with
  | nil => intro i o v h; simp [sy_en] at h
  | cons a r ih =>
    intro i o v h
    rw [List.map_cons, lv_args, sy_cat]
    have one : a.category ≠ 2 → (some a :: sy_en r)[i]? = some (some v) → (o + i, sy_v X v) ∈ (o, sy_v X a) :: lv_args (if a.category = 2 then o + 2 else o + 1) (r.map (sy_v X)) := by
      intro hc h
      match i, h with
      | 0, h => cases h; exact List.mem_cons_self
      | i + 1, h =>
        refine List.mem_cons_of_mem _ ?_
        rw [if_neg hc, show o + (i + 1) = (o + 1) + i by omega]
        exact ih i (o + 1) v h
    have two : a.category = 2 → (some a :: none :: sy_en r)[i]? = some (some v) → (o + i, sy_v X v) ∈ (o, sy_v X a) :: lv_args (if a.category = 2 then o + 2 else o + 1) (r.map (sy_v X)) := by
      intro hc h
      match i, h with
      | 0, h => cases h; exact List.mem_cons_self
      | 1, h => cases h
      | i + 2, h =>
        refine List.mem_cons_of_mem _ ?_
        rw [if_pos hc, show o + (i + 2) = (o + 2) + i by omega]
        exact ih i (o + 2) v h
    cases a with
    | long x => exact two rfl h
    | double x => exact two rfl h
    | int x => exact one (by simp [Value.category]) h
    | float x => exact one (by simp [Value.category]) h
    | null => exact one (by simp [Value.category]) h
    | ref x => exact one (by simp [Value.category]) h
    | retAddr x => exact one (by simp [Value.category]) h
theorem sy_en_len (X : sy_X) (as : List Value) : (lg_sl (as.map (sy_v X))).length = (sy_en as).length := by
  induction as with
  | nil => rfl
  | cons a r ih =>
    unfold lg_sl at ih ⊢
    rw [List.map_cons, List.flatMap_cons, List.length_append, ih, sy_cat]
    cases a <;> simp [sy_en, Value.category] <;> omega
theorem sy_entry (X : sy_X) {as : List Value} {n : Nat} (h : (sy_en as).length ≤ n) : sy_has X ((lg_sl (as.map (sy_v X)) ++ List.replicate (n - (lg_sl (as.map (sy_v X))).length) Slot.unset).toArray) n (sy_ent as n) := by
  have h0 := lv_entry (as.map (sy_v X)) (n := n) (by rw [sy_en_len]; exact h)
  refine ⟨by unfold sy_ent; rw [List.length_append, List.length_replicate]; omega, h0.1, h0.2.1, fun i v hv => ?_⟩
  have h1 : (sy_en as)[i]? = some (some v) := by
    unfold sy_ent at hv
    rw [List.getElem?_append] at hv
    split at hv
    · exact hv
    · rw [List.getElem?_replicate] at hv
      split at hv <;> cases hv
  have h2 := h0.2.2 _ (sy_en_args X as i 0 v h1)
  simpa using h2
def sy_B (X : sy_X) (sh : sy_Z) (σ : sy_S) (sz : Nat) (U : State) : Prop := U.heap.size = sz ∧ va_P X.1 vwCl (sy_w X sh σ) U.heap ∧ sy_K X U ∧ va_D (fun _ => True) (sy_w X sh σ)
theorem sy_AD {X : sy_X} {sh : sy_Z} {σ : sy_S} {sz : Nat} {A : Nat → Prop} (h : va_D A (sy_w X sh σ)) : va_D (sy_A X sh sz) (sy_w X sh σ) := by
  refine ⟨h.1, fun k q hq => ?_⟩
  simp only [sy_w, List.getElem?_mapIdx] at hq
  cases hz : sh[k]? with
  | none => rw [hz] at hq; cases hq
  | some z =>
    rw [hz] at hq
    cases hq
    exact Or.inl ⟨k, (List.getElem?_eq_some_iff.mp hz).1, rfl⟩
theorem sy_met {sh : sy_Z} {y : sy_M} {as : List Value} {σ : sy_S} {Q : Option Value → sy_S → Prop} (hp : plainName y.1.cls = true) (hcn : y.1.cls = sy_cn y.2.2.2.2.1) (hn : (sy_en as).length ≤ y.2.2.1) (h : sy_E sh y (0, sy_ent as y.2.2.1, [], σ) Q) (l : Launch) (X : sy_X) (sz : Nat) :
    Met l y.1 (sy_ws y) (sy_rm y) (va_Pc (as.map (sy_v X)) (sy_B X sh σ sz)) (sy_Q X sh Q sz) 0 0 (sy_A X sh sz) := by
  refine Met.ofW (cc := y.2.1) (maxL := y.2.2.1) (ret := y.2.2.2.1) hp rfl ?_
  intro p e s m args below meth c s₁ B hml hv
  obtain ⟨rfl, hsz, hP, hK, hD0⟩ := hv
  have hts := atoms_spec (ws := sy_ws y) B.pre
  subst hsz
  rw [lg_entry_eq]
  exact h l X p e s m _ below meth c ⟨B.exec, B.bytes, B.returns, B.notSynchronized, hml, findClass_of_methodNamed B.named, fun w hw => hts w (List.mem_cons_of_mem _ hw), hK, hcn⟩ s.heap [] _ hP (sy_AD hD0) va_S.rf (sy_entry X hn)
theorem sy_K.warm {X : sy_X} {s U : State} (h : sy_K X s) (hW : s.WarmedH U.vm) : sy_K X U := ⟨va_K.moved hW.alike h.1, va_Nw.warmF hW h.2.1, va_Nw.warmF hW h.2.2.1, va_Nw.warmM hW h.2.2.2⟩
theorem sy_blind {X : sy_X} {sh : sy_Z} {σ : sy_S} {sz : Nat} {av : List Value} : FrameBlind (va_Pc av (sy_B X sh σ sz)) := by
  intro a U g mk q
  obtain ⟨q0, q1, qP, qK, qD⟩ := q
  exact ⟨q0, q1, qP, ⟨va_K.moved (u := U) (U := U.calling g mk a) (Vm.Alike.refl U.vm) qK.1, va_Nw.same rfl rfl qK.2.1, va_Nw.same rfl rfl qK.2.2.1, va_Nw.same rfl rfl qK.2.2.2⟩, qD⟩
theorem sy_goodT {y : sy_M} (h : Cond.code y.1 y.2.1 y.2.2.1 y.2.2.2.1 ∈ sy_T) : GoodIn sy_T (sy_ws y) := by
  have g : ∀ w ∈ sy_T, (w.onTables && w.keeps) = true ∨ ∃ ty, w = .arrayClass ty := fun w hw => good_of_word (List.mem_filter.mp hw).2
  intro w hw
  rcases List.mem_cons.mp hw with rfl | hw
  · exact ⟨h, g _ h⟩
  · exact ⟨hw, g _ hw⟩
/-- behind a call: the machine goes on with what the callee left -/
theorem sy_after {p : Program} {l : Launch} {e : Env} {R : Room} {s : State} {m : MethodId} {args : Array Value} {below : List Frame} {meth : Method} {c : Code} {H : Heap} {locs : List Loc} {X : sy_X} {sh : sy_Z} {Q1 : Option Value → sy_S → Prop} {a : Array Value} {q : State → Prop} {pc : Nat} {ls : Array Slot} {st rest : List Value}
    (hr : va_Run p l e R s m args below meth c H locs 0 0 0 0 (F0 m pc ls st) rest (sy_Q X sh Q1 H.size a) (sy_A X sh H.size)) (hS : va_S (sy_A X sh s.heap.size) s.heap H locs)
    (kk : ∀ (r : Option Value) (σ : sy_S) (H1 : Heap) (locs1 : List Loc), Q1 r σ → va_P X.1 vwCl (sy_w X sh σ) H1 → va_S (sy_A X sh s.heap.size) s.heap H1 locs1 → W p l e R s m args below meth c H1 locs1 0 0 q (F0 m (pc + 3) ls ((r.map (sy_v X)).toList ++ rest))) : W p l e R s m args below meth c H locs 0 0 q (F0 m pc ls st) := by
  intro T hT St
  obtain ⟨v, st₀, t, T', L, h0, X', hL, e1, e2, ⟨⟨r, σ, hv, hq, hP⟩, hz, hk⟩, go⟩ := hr T hT St
  cases hv
  rw [h0] at hz hk
  have hup : ∀ q, sy_A X sh H.size q → sy_A X sh s.heap.size q := fun q h => h.elim Or.inl (fun h => Or.inr (Nat.le_trans hS.1 h))
  obtain ⟨t2, a1, b1⟩ := kk r σ T'.heap (locs ++ L) hq (by rw [e1]; exact hP)
    ⟨Nat.le_trans hS.1 (by rw [e1]; exact hz), fun q h1 h2 => by rw [e1, hk q (Nat.lt_of_lt_of_le h1 hS.1) (fun z => h2 (hup q z))]; exact hS.2.1 q h1 h2, fun q hq => by
      rcases List.mem_append.mp hq with h | h
      · exact hS.2.2 q h
      · exact hup _ (hL q h)⟩ T' rfl X'
  exact ⟨t2, go t2 a1, b1⟩
theorem sy_toList (X : sy_X) (r : Option Value) (rest : List Value) : (r.map (sy_v X)).toList ++ rest.map (sy_v X) = (r.toList ++ rest).map (sy_v X) := by cases r <;> rfl
theorem sy_sum (X : sy_X) (st : List Value) : ((st.map (sy_v X)).map fun v => v.category).sum = (st.map fun v => v.category).sum := by
  induction st with
  | nil => rfl
  | cons a r ih => simp only [List.map_cons, List.sum_cons, ih, sy_cat]
section CALL
variable {sh : sy_Z} {y y1 : sy_M} {Q : Option Value → sy_S → Prop} {pc idx n k : Nat} {loc : List (Option Value)} {σ : sy_S} {As rest st : List Value}
theorem sy_vn {a : Nat} {q : vw_C} (h : vwCl[a]? = some q) : sy_cn a = q.1 := by
  match a, h with
  | 0, h => cases h; rfl
  | 1, h => cases h; rfl
  | 2, h => cases h; rfl
  | 3, h => cases h; rfl
  | 4, h => cases h; rfl
  | 5, h => cases h; rfl
  | 6, h => cases h; rfl
  | 7, h => cases h; rfl
  | 8, h => cases h; rfl
  | 9, h => cases h; rfl
  | 10, h => cases h; rfl
  | 11, h => cases h; rfl
  | 12, h => cases h; rfl
  | a + 13, h => simp [vwCl] at h
/-- a call of an instance method -/
theorem sy_callV (y1 : sy_M) (k : Nat) (As rest : List Value) (hm : sy_mok y1 false n) (hj : Cond.methodLink y.1.cls idx y1.1 ∈ sy_T) (hd : decode y.2.1 pc = .ok (.invokevirtual idx, 3)) (hst : st = As.reverse ++ .ref k :: rest) (hn : As.length = n) (hsum : (rest.map fun v => v.category).sum ≤ 8) (hl1 : (sy_en (.ref k :: As)).length ≤ y1.2.2.1) (hrm : y1.2.2.2.2.2.1 + 1 ≤ y.2.2.2.2.2.1 ∧ 8 + (y1.2.2.1 + 11) + y1.2.2.2.2.2.2 ≤ y.2.2.2.2.2.2)
    {z : Nat × List (Option Nat)} (hz : sh[k]? = some (y1.2.2.2.2.1 + 4, z)) (h1 : sy_E sh y1 (0, sy_ent (.ref k :: As) y1.2.2.1, [], σ) (fun r σ' => sy_E sh y (pc + 3, loc, r.toList ++ rest, σ') Q)) : sy_E sh y (pc, loc, st, σ) Q := by
  intro l X p e s m args below meth c C H locs ls hW hD hS hl
  obtain ⟨hx, hb, hr1, hlocks, hml, hown, hts, hK, hcn⟩ := id C
  obtain ⟨m1, m2, m3, m4, -, m6, m7⟩ := hm
  obtain ⟨m8, m9⟩ := m6 rfl
  have hM := sy_met m4 m7 hl1 h1 l X H.size
  obtain ⟨q, hc, -⟩ := hW k _ (sy_w_at hz)
  have hc : vwCl[y1.2.2.2.2.1]? = some q := hc
  have hrecv := va_recv hK.1 hW hc (sy_w_at hz)
  rw [← sy_vn hc, ← m7] at hrecv
  have cw : CallW (sy_rm y) s args y.1.cls y1.1.cls idx y1.1 y1.2.1 y1.2.2.1 y1.2.2.2.1 (sy_ws y1) (sy_rm y1) 0 0 n := ⟨callB_of n hts (sy_goodT m1) rfl rfl rfl (hts _ m2) (hts _ hj) m3 hrm, hts _ m8, hts _ m9⟩
  have hstk : st.map (sy_v X) = (As.map (sy_v X)).reverse ++ .ref (X.2.2 k) :: rest.map (sy_v X) := by
    rw [hst, List.map_append, List.map_reverse]
    rfl
  refine sy_after (Q1 := fun r σ' => sy_E sh y (pc + 3, loc, r.toList ++ rest, σ') Q) (va_runV (As := As.map (sy_v X)) (rest := rest.map (sy_v X)) ⟨hx, hb, hml, hown, hts⟩ hM cw ⟨sy_blind, hrecv, fun U hU hWm => ⟨rfl, by rw [hU], by rw [hU]; exact hW, hK.warm hWm, hD.weaken (fun _ _ _ _ => trivial)⟩⟩ rfl (by rw [List.length_map]; exact hn) hl.2.1 hstk (lv_room (by rw [sy_sum]; exact hsum)) hd ⟨Nat.zero_le _, Nat.zero_le _⟩) hS ?_
  intro r σ' H1 locs1 hq hP1 hS1
  rw [sy_toList]
  exact hq l X p e s m args below meth c C H1 locs1 ls hP1 (sy_D hD) hS1 hl
/-- a call of a static method -/
theorem sy_callS (y1 : sy_M) (As rest : List Value) (hm : sy_mok y1 true n) (hj : Cond.methodLink y.1.cls idx y1.1 ∈ sy_T) (hd : decode y.2.1 pc = .ok (.invokestatic idx, 3)) (hst : st = As.reverse ++ rest) (hn : As.length = n) (hsum : (rest.map fun v => v.category).sum ≤ 8) (hl1 : (sy_en As).length ≤ y1.2.2.1) (hrm : y1.2.2.2.2.2.1 + 1 ≤ y.2.2.2.2.2.1 ∧ 8 + (y1.2.2.1 + 11) + y1.2.2.2.2.2.2 ≤ y.2.2.2.2.2.2)
    (h1 : sy_E sh y1 (0, sy_ent As y1.2.2.1, [], σ) (fun r σ' => sy_E sh y (pc + 3, loc, r.toList ++ rest, σ') Q)) : sy_E sh y (pc, loc, st, σ) Q := by
  intro l X p e s m args below meth c C H locs ls hW hD hS hl
  obtain ⟨hx, hb, hr1, hlocks, hml, hown, hts, hK, hcn⟩ := id C
  obtain ⟨m1, m2, m3, m4, m5, -, m7⟩ := hm
  have hM := sy_met m4 m7 hl1 h1 l X H.size
  have hstk : st.map (sy_v X) = (As.map (sy_v X)).reverse ++ rest.map (sy_v X) := by
    rw [hst, List.map_append, List.map_reverse]
  refine sy_after (Q1 := fun r σ' => sy_E sh y (pc + 3, loc, r.toList ++ rest, σ') Q) (va_runS (As := As.map (sy_v X)) (rest := rest.map (sy_v X)) ⟨hx, hb, hml, hown, hts⟩ hM ⟨callB_of n hts (sy_goodT m1) rfl rfl rfl (hts _ m2) (hts _ hj) m3 hrm, hts _ (m5 rfl)⟩ ⟨sy_blind, fun U hU hWm => ⟨rfl, by rw [hU], by rw [hU]; exact hW, hK.warm hWm, hD.weaken (fun _ _ _ _ => trivial)⟩⟩ rfl (by rw [List.length_map]; exact hn) hl.2.1 hstk (lv_room (by rw [sy_sum]; exact hsum)) hd ⟨Nat.zero_le _, Nat.zero_le _⟩) hS ?_
  intro r σ' H1 locs1 hq hP1 hS1
  rw [sy_toList]
  exact hq l X p e s m args below meth c C H1 locs1 ls hP1 (sy_D hD) hS1 hl
/-- the one call of a nest mate's private method: SandGroup.alike, out of Sums -/
theorem sy_callN (As rest : List Value) (hy : y.1.cls = "SandGroup$Sums") (hd : decode y.2.1 pc = .ok (.invokestatic 89, 3)) (hst : st = As.reverse ++ rest) (hn : As.length = 2) (hsum : (rest.map fun v => v.category).sum ≤ 8) (hl1 : (sy_en As).length ≤ mX11_alike.2.2.1) (hrm : mX11_alike.2.2.2.2.2.1 + 1 ≤ y.2.2.2.2.2.1 ∧ 8 + (mX11_alike.2.2.1 + 11) + mX11_alike.2.2.2.2.2.2 ≤ y.2.2.2.2.2.2)
    (h1 : sy_E sh mX11_alike (0, sy_ent As mX11_alike.2.2.1, [], σ) (fun r σ' => sy_E sh y (pc + 3, loc, r.toList ++ rest, σ') Q)) : sy_E sh y (pc, loc, st, σ) Q := by
  intro l X p e s m args below meth c C H locs ls hW hD hS hl
  obtain ⟨hx, hb, hr1, hlocks, hml, hown, hts, hK, hcn⟩ := id C
  obtain ⟨m1, m2, m3, m4, m5, -, m7⟩ := kX11_alike
  have hM := sy_met m4 m7 hl1 h1 l X H.size
  have hstk : st.map (sy_v X) = (As.map (sy_v X)).reverse ++ rest.map (sy_v X) := by
    rw [hst, List.map_append, List.map_reverse]
  rw [hy] at hown
  refine sy_after (Q1 := fun r σ' => sy_E sh y (pc + 3, loc, r.toList ++ rest, σ') Q) (va_runSN (As := As.map (sy_v X)) (rest := rest.map (sy_v X)) (host := "SandGroup") ⟨hx, hb, hml, hown, hts⟩ hM ⟨va_cnB 2 hts (sy_goodT m1) rfl rfl rfl hK.2.2.2 (hts _ m2) m3 hrm, hts _ (m5 rfl), trivial⟩ ⟨sy_blind, fun U hU hWm => ⟨rfl, by rw [hU], by rw [hU]; exact hW, hK.warm hWm, hD.weaken (fun _ _ _ _ => trivial)⟩⟩ rfl (by rw [List.length_map]; exact hn) hl.2.1 hstk (lv_room (by rw [sy_sum]; exact hsum)) hd ⟨Nat.zero_le _, Nat.zero_le _⟩) hS ?_
  intro r σ' H1 locs1 hq hP1 hS1
  rw [sy_toList]
  exact hq l X p e s m args below meth c C H1 locs1 ls hP1 (sy_D hD) hS1 hl
/-- the store with one row made a copy of another's first n places -/
def sy_cp (f : Nat → Nat → Int32) (a0 a n : Nat) : Nat → Nat → Int32 := fun q => if q = a then va_cpy (f a0) (f a) 0 0 n else f q
theorem sy_cp_self (f : Nat → Nat → Int32) (a0 a n : Nat) : sy_cp f a0 a n a = va_cpy (f a0) (f a) 0 0 n := by simp [sy_cp]
theorem sy_cp_ne (f : Nat → Nat → Int32) (a0 : Nat) {a q : Nat} (n : Nat) (h : q ≠ a) : sy_cp f a0 a n q = f q := by simp [sy_cp, h]
theorem sy_e_cp {X : sy_X} {σ : sy_S} {a0 a n : Nat} (j : Nat) (z : sy_Y) (h : j ≠ a) : sy_e X (sy_cp σ.1 a0 a n, σ.2) j z = sy_e X σ j z := by
  unfold sy_e
  have e : sy_fv X (sy_cp σ.1 a0 a n, σ.2) j = sy_fv X σ j := by
    funext b f
    unfold sy_fv
    cases f with
    | none => simp [sy_cp_ne _ _ _ h]
    | some r => rfl
  simp only [sy_cp_ne _ _ _ h, e]
/-- System.arraycopy(a0, 0, a, 0, 16) -/
theorem sy_copy {a0 a n0 n1 : Nat} {f0 f1 : List (Option Nat)} (rest : List Value) (hj : Cond.methodLink y.1.cls idx arraycopyName ∈ sy_T) (hd : decode y.2.1 pc = .ok (.invokestatic idx, 3)) (hst : st = .int 16 :: .int 0 :: .ref a :: .int 0 :: .ref a0 :: rest) (hz0 : sh[a0]? = some (0, n0, f0)) (hz1 : sh[a]? = some (0, n1, f1)) (h0 : 16 ≤ n0) (h1 : 16 ≤ n1) (hsum : (rest.map fun v => v.category).sum ≤ 8) (hfr : 1 ≤ y.2.2.2.2.2.1) (hlo : 26 ≤ y.2.2.2.2.2.2)
    (kk : sy_E sh y (pc + 3, loc, rest, (sy_cp σ.1 a0 a 16, σ.2)) Q) : sy_E sh y (pc, loc, st, σ) Q := by
  intro l X p e s m args below meth c C H locs ls hW hD hS hl
  obtain ⟨hx, hb, hr1, hlocks, hml, hown, hts, hK, hcn⟩ := id C
  subst hst
  refine va_copyi hx hb (hml.trans hl.2.1.symm) hown (hts _ hj) (hts _ sy_acN) (hts _ sy_acS) (hts _ sy_acI) hK.1 hW hD hS a0 a 0 0 (sy_w_at hz0) (sy_w_at hz1) (ty := .int) rfl rfl rfl (by decide) (by decide) (by decide) (Nat.le_trans (by decide) h0) (Nat.le_trans (by decide) h1) (fun _ _ => rfl) hfr ?_ hd (fun H1 locs1 p1 p2 p3 => ?_)
  · rw [sy_sum]
    show _ + (7 + 11) ≤ y.2.2.2.2.2.2
    omega
  · refine kk l X p e s m args below meth c C H1 locs1 ls ?_ (sy_D hD) p3 hl
    show va_P X.1 vwCl (sy_w X sh (sy_cp σ.1 a0 a 16, σ.2)) H1
    rw [← sy_w_set (σ := σ) (σ' := (sy_cp σ.1 a0 a 16, σ.2)) hz1 (fun j z' hj => sy_e_cp j z' hj)]
    have e1 : sy_e X (sy_cp σ.1 a0 a 16, σ.2) a (0, n1, f1) = Sum.inl (X.2.1 0, n1, Sum.inl (va_cpy (σ.1 a0) (σ.1 a) 0 0 16)) := by
      show Sum.inl (X.2.1 0, n1, Sum.inl (sy_cp σ.1 a0 a 16 a)) = _
      rw [sy_cp_self]
    rw [e1]
    exact p1
end CALL
