/-! the law from its entry (by program: wip/whole/gen/p91.py) -/
theorem ct_inst {k : Nat} {q : vw_C} (h : vwCl[k]? = some q) : Cond.instantiable q.1 q.2.2 ∈ sy_T := by
  match k, h with
  | 0, h => cases h; exact (sy_inT (sy_i1 (List.mem_of_getElem? (i := 79) (by decide +kernel))) rfl)
  | 1, h => cases h; exact (sy_inT (sy_i1 (List.mem_of_getElem? (i := 147) (by decide +kernel))) rfl)
  | 2, h => cases h; exact (sy_inT (sy_i1 (List.mem_of_getElem? (i := 216) (by decide +kernel))) rfl)
  | 3, h => cases h; exact (sy_inT (sy_i1 (List.mem_of_getElem? (i := 26) (by decide +kernel))) rfl)
  | 4, h => cases h; exact (sy_inT (sy_i1 (List.mem_of_getElem? (i := 163) (by decide +kernel))) rfl)
  | 5, h => cases h; exact (sy_inT (sy_i1 (List.mem_of_getElem? (i := 229) (by decide +kernel))) rfl)
  | 6, h => cases h; exact (sy_inT (sy_i2 (List.mem_of_getElem? (i := 0) (by decide +kernel))) rfl)
  | 7, h => cases h; exact (sy_inT (sy_i1 (List.mem_of_getElem? (i := 128) (by decide +kernel))) rfl)
  | 8, h => cases h; exact (sy_inT (sy_i1 (List.mem_of_getElem? (i := 191) (by decide +kernel))) rfl)
  | 9, h => cases h; exact (sy_inT (sy_i2 (List.mem_of_getElem? (i := 19) (by decide +kernel))) rfl)
  | 10, h => cases h; exact (sy_inT (sy_i1 (List.mem_of_getElem? (i := 97) (by decide +kernel))) rfl)
  | 11, h => cases h; exact (sy_inT (sy_i1 (List.mem_of_getElem? (i := 18) (by decide +kernel))) rfl)
  | 12, h => cases h; exact (sy_inT (sy_i4 (List.mem_of_getElem? (i := 225) (by decide +kernel))) rfl)
  | k + 13, h => simp [vwCl] at h
theorem ct_arrc {args : Array Value} {s : State} {ty : FieldType} (h : (Cond.arrayClass ty).before args s = true) : ∃ cA : ClassId, ArrOfT s cA ty ∧ s.vm.findClass ("[" ++ ty.toString) = some cA := by
  obtain ⟨cA, kC, cc, h1, h2, h3⟩ := Cond.arrayClass_spec h
  exact ⟨cA, fun n z => ⟨(fun k h => by cases h), kC, h2, cc, h3⟩, h1⟩
/-- what is known of the classes and of the arrays' classes, ahead of every address -/
theorem ct_know {args : Array Value} {s : State} (hts : ∀ w ∈ lw_tbl, w.before args s = true) : ∃ X : sy_X, sy_K X s ∧ ct_AO s := by
  have hts' : ∀ w ∈ sy_T, w.before args s = true := fun w hw => hts w (List.mem_filter.mp hw).1
  have h2 : ∀ k : Nat, ∃ (c : ClassId) (i : Nat → Nat), ∀ q, vwCl[k]? = some q → u_Kn s q.1 q.2.1 q.2.2 c i := by
    intro k
    cases e : vwCl[k]? with
    | none => exact ⟨0, fun _ => 0, fun q h => by cases h⟩
    | some q =>
      obtain ⟨C, T, N⟩ := q
      obtain ⟨c, i, h⟩ := u_known (C := C) (T := T) (N := N) (n := N) hts' (sy_cls e).1 (hts' _ (ct_inst e))
      exact ⟨c, i, fun q h' => by cases h'; exact h⟩
  obtain ⟨cI, i1, i2⟩ := ct_arrc (ty := .int) (hts' _ (sy_inT (sy_i1 (List.mem_of_getElem? (i := 77) (by decide +kernel))) rfl))
  obtain ⟨cZ, z1, z2⟩ := ct_arrc (ty := .boolean) (hts' _ (sy_inT (sy_i5 (List.mem_of_getElem? (i := 126) (by decide +kernel))) rfl))
  obtain ⟨cJ, j1, j2⟩ := ct_arrc (ty := .long) (hts' _ (sy_inT (sy_i1 (List.mem_of_getElem? (i := 238) (by decide +kernel))) rfl))
  have hao := hts (Cond.arrayOver (.array .int)) (List.mem_append_right _ (sy_i1 (List.mem_of_getElem? (i := 85) (by decide +kernel))))
  obtain ⟨comp, c3, k3, -, -, o3, o4, o5⟩ := Jvm.Stand.arrayOver_specB hao
  have hN : ∀ q ∈ ct_N, va_Nw (.methodLinkNest "SandGroup" q.1 q.2 "SandGroup") s := by
    intro q hq
    simp only [ct_N, List.mem_cons, List.not_mem_nil, or_false] at hq
    rcases hq with rfl | rfl | rfl | rfl | rfl
    · exact va_Nw.of rfl (hts _ (List.mem_append_right _ (sy_i1 (List.mem_of_getElem? (i := 80) (by decide +kernel)))))
    · exact va_Nw.of rfl (hts _ (List.mem_append_right _ (sy_i1 (List.mem_of_getElem? (i := 98) (by decide +kernel)))))
    · exact va_Nw.of rfl (hts _ (List.mem_append_right _ (sy_i1 (List.mem_of_getElem? (i := 230) (by decide +kernel)))))
    · exact va_Nw.of rfl (hts _ (List.mem_append_right _ (sy_i2 (List.mem_of_getElem? (i := 1) (by decide +kernel)))))
    · exact va_Nw.of rfl (hts _ (List.mem_append_right _ (sy_i2 (List.mem_of_getElem? (i := 20) (by decide +kernel)))))
  refine ⟨((fun k => (h2 k).choose, fun k => (h2 k).choose_spec.choose), fun k => if k = 0 then cI else if k = 1 then cZ else if k = 2 then cJ else c3, fun _ => 0), ⟨⟨fun k q hq => (h2 k).choose_spec.choose_spec q hq, fun k q hq => ?_⟩, va_Nw.of rfl (hts _ (List.mem_append_right _ (sy_i1 (List.mem_of_getElem? (i := 52) (by decide +kernel))))), va_Nw.of rfl (hts _ (List.mem_append_right _ (sy_i1 (List.mem_of_getElem? (i := 59) (by decide +kernel))))), va_Nw.of rfl (hts _ (List.mem_append_right _ (sy_i3 (List.mem_of_getElem? (i := 204) (by decide +kernel)))))⟩, Jvm.Stand.arrayOver_alikeB (Vm.Alike.refl _) hao, hN⟩
  match k, hq with
  | 0, hq => cases hq; exact ⟨i1, i2⟩
  | 1, hq => cases hq; exact ⟨z1, z2⟩
  | 2, hq => cases hq; exact ⟨j1, j2⟩
  | 3, hq => cases hq; exact ⟨fun n z => ⟨(fun k h => by cases h), k3, o3, comp, o4⟩, o5⟩
  | k + 4, hq => simp at hq
theorem ct_split {X : sy_X} {A : Nat → Prop} {s : State} {w1 w2 : va_W} {H : Heap} {locs : List Loc} (V : ct_V X A s (w1 ++ w2) H locs) : va_P X.1 vwCl w1 H ∧ va_P X.1 vwCl w2 H ∧ va_D A w1 ∧ va_D A w2 ∧ ∀ (i j : Nat) (p q : Nat × va_E), w1[i]? = some p → w2[j]? = some q → p.1 ≠ q.1 := by
  obtain ⟨hP, hD, -, -⟩ := V
  have lft : ∀ (i : Nat) (q : Nat × va_E), w1[i]? = some q → (w1 ++ w2)[i]? = some q := fun i q h => by
    rw [List.getElem?_append_left (List.getElem?_eq_some_iff.mp h).1]; exact h
  have rgt : ∀ (i : Nat) (q : Nat × va_E), w2[i]? = some q → (w1 ++ w2)[w1.length + i]? = some q := fun i q h => by
    rw [List.getElem?_append_right (Nat.le_add_right _ _), Nat.add_sub_cancel_left]; exact h
  refine ⟨fun i q h => hP i q (lft i q h), fun i q h => hP _ q (rgt i q h), ⟨fun i j p q hp hq e => hD.1 i j p q (lft i p hp) (lft j q hq) e, fun i q h => hD.2 i q (lft i q h)⟩, ⟨fun i j p q hp hq e => ?_, fun i q h => hD.2 _ q (rgt i q h)⟩, fun i j p q hp hq e => ?_⟩
  · have := hD.1 _ _ p q (rgt i p hp) (rgt j q hq) e
    omega
  · have h1 := hD.1 _ _ p q (lft i p hp) (rgt j q hq) e
    have := (List.getElem?_eq_some_iff.mp hp).1
    omega
theorem ct_two {X : sy_X} {s : State} {ad1 ad2 : Nat → Nat} {σ1 σ2 : sy_S} {S1 S2 : st} {H : Heap} {locs : List Loc} (V : ct_V X (lw_A s) s (sy_w (X.1, X.2.1, ad1) shX σ1 ++ sy_w (X.1, X.2.1, ad2) shM σ2) H locs) (r1 : RX S1 σ1.1) (r2 : RM S2 σ2.1) : lw_V (X.1, X.2.1, ad1) (X.1, X.2.1, ad2) s S1 S2 H locs := by
  have h := ct_split V
  exact ⟨σ1, σ2, h.1, h.2.1, h.2.2.1, h.2.2.2.1, fun i j hi hj => h.2.2.2.2 i j _ _ (sy_w_at (List.getElem?_eq_getElem hi)) (sy_w_at (List.getElem?_eq_getElem hj)), V.2.2.1, r1, r2⟩
theorem ct_lv {ls : Array Slot} {b q1 q2 a1 a2 : Nat} (hl : lv_has ls 4 [(3, .int 0), (2, .ref q2), (1, .ref q1), (0, .ref b)]) (e1 : a1 = q1) (e2 : a2 = q2) : lv_has ls 4 [(0, .ref b), (1, .ref a1), (2, .ref a2), (3, .int (nI (4 * 0)))] := by
  subst e1; subst e2
  exact lv_sub hl [3, 2, 1, 0] rfl
theorem ct_fsX : ∀ j, j < 15 → defaultValue (sy_ty 11 j) = vp_V [.null, .null, .null, .null, .null, .null, .null, .null, .null, .null, .null, .null, .null, .null, .null] j := by decide +kernel
theorem ct_fsM : ∀ j, j < 40 → defaultValue (sy_ty 12 j) = vp_V [.int 0, .int 0, .null, .null, .null, .null, .null, .int 0, .null, .null, .null, .null, .null, .int 0, .int 0, .null, .int 0, .int 0, .int 0, .int 0, .int 0, .int 0, .null, .null, .int 0, .null, .null, .null, .null, .null, .null, .null, .null, .null, .null, .null, .int 0, .null, .null, .null] j := by decide +kernel
theorem ct_sO : sO (999 + 0) ct_S0 := by
  refine ⟨⟨by decide, by decide, by decide, by decide⟩, Nat.zero_le _, fun h q => ?_, fun i h q => (by cases q), ⟨Nat.zero_le _, fun b q => (by cases q)⟩, fun s c q => (by cases q), fun i l q => (by cases q)⟩
  rcases q with rfl | q | q
  · exact hz_0 _ _
  · cases q
  · cases q
