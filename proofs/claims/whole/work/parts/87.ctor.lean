/-! the small constructors (by program: wip/whole/gen/p87.py) -/
def shP : sy_Z := [(11, 2, [some 1, some 8]), (3, 6, [some 2, some 3, some 4, some 5, some 6, some 7]), (0, 16, []), (0, 16, []), (0, 16, []), (0, 16, []), (0, 16, []), (0, 16, []), (0, 6, [])]
def shL : sy_Z := [(11, 2, [some 1, some 6]), (3, 4, [some 2, some 3, some 4, some 5]), (0, 40, []), (0, 40, []), (0, 40, []), (0, 40, []), (0, 4, [])]
set_option maxRecDepth 20000 in
theorem w_cp_fill_0 {Q : Option Value → sy_S → Prop} {σ : sy_S} {k : Nat} {n : Nat} {v : Int32} (hk : shP[k]? = some (0, n, []))  (k1 : sy_E shP mJ7_fill_53178 (5, [some (.ref k), some (.int v), some (.int 0), some (.int (sy_len shP k))], [], σ) Q) : sy_E shP mJ7_fill_53178 (0, sy_ent [.ref k, .int v] 4, [], σ) Q := by
  show sy_E shP mJ7_fill_53178 (0, [some (.ref k), some (.int v), none, none], [], σ) _
  refine sy_bk [(.iconst 0, 0, 0, 0, 0), (.istore_n 2, 0, 0, 0, 0), (.aload_n 0, 0, 0, 0, 0), (.arraylength, 0, 0, 0, 0), (.istore_n 3, 0, 0, 0, 0)] (5, [some (.ref k), some (.int v), some (.int 0), some (.int (sy_len shP k))], [], σ) [sy_okL shP k] (by decide +kernel) rfl ⟨⟨0, _, _, hk, by decide⟩, trivial⟩ ?_
  exact k1
set_option maxRecDepth 20000 in
theorem w_cp_fill_5 {Q : Option Value → sy_S → Prop} {σ : sy_S} {k : Nat} {n : Nat} {v : Int32} {i : Int32} {len : Int32} (hk : shP[k]? = some (0, n, [])) (b1 : ¬ (len ≤ i) → vp_in i n) (k1 : len ≤ i → Q none σ) (k2 : ¬ (len ≤ i) → sy_E shP mJ7_fill_53178 (5, [some (.ref k), some (.int v), some (.int (i + 1)), some (.int len)], [], (sy_up σ.1 k i.toNatClampNeg v, σ.2)) Q) : sy_E shP mJ7_fill_53178 (5, [some (.ref k), some (.int v), some (.int i), some (.int len)], [], σ) Q := by
  refine sy_bk [(.iload_n 2, 0, 0, 0, 0), (.iload_n 3, 0, 0, 0, 0)] (7, [some (.ref k), some (.int v), some (.int i), some (.int len)], [.int len, .int i], σ) [] (by decide +kernel) rfl trivial ?_
  by_cases c1 : len ≤ i
  · refine sy_bk [(.if_icmp .ge 13, 1, 20, 0, 0)] (20, [some (.ref k), some (.int v), some (.int i), some (.int len)], [], σ) [sy_cc .ge i len] (by decide +kernel) rfl ⟨c1, trivial⟩ ?_
    exact sy_retv rfl (by decide +kernel) (k1 c1)
  · refine sy_bk [(.if_icmp .ge 13, 0, 20, 0, 0)] (10, [some (.ref k), some (.int v), some (.int i), some (.int len)], [], σ) [¬ sy_cc .ge i len] (by decide +kernel) rfl ⟨c1, trivial⟩ ?_
    refine sy_bk [(.aload_n 0, 0, 0, 0, 0), (.iload_n 2, 0, 0, 0, 0), (.iload_n 1, 0, 0, 0, 0), (.iastore, 0, 0, 0, 0), (.iinc 2 1, 0, 0, 1, 0), (.goto (-12), 0, 5, 0, 0)] (5, [some (.ref k), some (.int v), some (.int (i + 1)), some (.int len)], [], (sy_up σ.1 k i.toNatClampNeg v, σ.2)) [sy_okA shP 0 k i] (by decide +kernel) rfl ⟨⟨n, _, hk, (b1 c1)⟩, trivial⟩ ?_
    exact k2 c1
set_option maxRecDepth 20000 in
theorem e_cp_fill {Q : Option Value → sy_S → Prop} {σ : sy_S} {k n : Nat} {v : Int32} (hk : shP[k]? = some (0, n, [])) (hn : n < 2 ^ 31) (kk : ∀ σ' : sy_S, (∀ q, q ≠ k → σ'.1 q = σ.1 q) → (∀ j, j < n → σ'.1 k j = v) → (∀ j, n ≤ j → σ'.1 k j = σ.1 k j) → σ'.2 = σ.2 → Q none σ') : sy_E shP mJ7_fill_53178 (0, sy_ent [.ref k, .int v] 4, [], σ) Q := by
  have el : sy_len shP k = nI n := by unfold sy_len; rw [hk]; rfl
  refine w_cp_fill_0 hk ?_
  rw [el]
  have hloop := sy_loop (sh := shP) (y := mJ7_fill_53178) (Q := Q) (fun i σ' => (5, [some (.ref k), some (.int v), some (.int (nI i)), some (.int (nI n))], [], σ')) (fun i σ' => (∀ q, q ≠ k → σ'.1 q = σ.1 q) ∧ (∀ j, j < i → σ'.1 k j = v) ∧ (∀ j, i ≤ j → σ'.1 k j = σ.1 k j) ∧ σ'.2 = σ.2) n ?_ ?_ 0 σ (Nat.zero_le _) ⟨fun _ _ => rfl, fun j h => absurd h (Nat.not_lt_zero _), fun _ _ => rfl, rfl⟩
  · exact hloop
  · intro i σ' hi hI ih
    obtain ⟨h1, h2, h3, h4⟩ := hI
    refine w_cp_fill_5 hk (fun _ => vp_in_nI hi hn) (fun c => absurd c (nI_ge hi hn)) (fun _ => ?_)
    have e1 : (nI i).toNatClampNeg = i := nI_clamp (by omega)
    rw [nI_1, e1]
    refine ih _ ⟨fun q hq => ?_, fun j hj => ?_, fun j hj => ?_, h4⟩
    · show sy_up σ'.1 k i v q = σ.1 q
      rw [sy_up_ne _ _ _ hq]
      exact h1 q hq
    · show sy_up σ'.1 k i v k j = v
      rw [sy_up2]
      split
      · rfl
      · rename_i h
        exact h2 j (by rcases Nat.lt_or_ge j i with q | q; exact q; exact absurd ⟨rfl, by omega⟩ h)
    · show sy_up σ'.1 k i v k j = σ.1 k j
      rw [sy_up2, if_neg (by omega)]
      exact h3 j (by omega)
  · intro σ' hI
    obtain ⟨h1, h2, h3, h4⟩ := hI
    refine w_cp_fill_5 hk (fun c => absurd (nI_le (Nat.le_refl n) hn) c) (fun _ => kk σ' h1 h2 h3 h4) (fun c => absurd (nI_le (Nat.le_refl n) hn) c)
set_option maxRecDepth 20000 in
theorem w_cp_clear_0 {Q : Option Value → sy_S → Prop} {σ : sy_S}    (k1 : sy_E shP mJ7_fill_53178 (0, sy_ent [.ref 8, .int (-1)] 4, [], σ) (fun r9 σ9 => sy_E shP mX7_clear (8, [none], r9.toList ++ [], σ9) Q)) : sy_E shP mX7_clear (0, sy_ent [.ref 0] 1, [], σ) Q := by
  show sy_E shP mX7_clear (0, [some (.ref 0)], [], σ) _
  refine sy_bk [(.aload_n 0, 0, 0, 0, 0), (.getfield 14, 7, 1, 0, 0), (.iconst (-1), 0, 0, (-1), 0)] (5, [some (.ref 0)], [.int (-1), .ref 8], σ) [] (by decide +kernel) rfl trivial ?_
  refine sy_drop [none] trivial ?_
  refine sy_callS mJ7_fill_53178 [.ref 8, .int (-1)] [] kJ7_fill_53178 jX7_21 (by decide +kernel) rfl rfl (Nat.le_of_ble_eq_true rfl) (Nat.le_of_ble_eq_true rfl) (by decide) ?_
  exact k1
set_option maxRecDepth 20000 in
theorem w_cp_clear_8 {Q : Option Value → sy_S → Prop} {σ : sy_S}    (k1 : Q none σ) : sy_E shP mX7_clear (8, [none], [], σ) Q := by
  exact sy_retv rfl (by decide +kernel) (k1)
theorem e_cp_clear {Q : Option Value → sy_S → Prop} {σ : sy_S} (kk : ∀ σ' : sy_S, (∀ i, i < 6 → σ'.1 8 i = -1) → Q none σ') : sy_E shP mX7_clear (0, sy_ent [.ref 0] 1, [], σ) Q := by
  refine w_cp_clear_0 (e_cp_fill (n := 6) rfl (by decide) (fun σ1 h1 h2 h3 h4 => w_cp_clear_8 (kk σ1 h2)))
set_option maxRecDepth 20000 in
theorem w_cl_fill_0 {Q : Option Value → sy_S → Prop} {σ : sy_S} {k : Nat} {n : Nat} {v : Int32} (hk : shL[k]? = some (0, n, []))  (k1 : sy_E shL mJ7_fill_53178 (5, [some (.ref k), some (.int v), some (.int 0), some (.int (sy_len shL k))], [], σ) Q) : sy_E shL mJ7_fill_53178 (0, sy_ent [.ref k, .int v] 4, [], σ) Q := by
  show sy_E shL mJ7_fill_53178 (0, [some (.ref k), some (.int v), none, none], [], σ) _
  refine sy_bk [(.iconst 0, 0, 0, 0, 0), (.istore_n 2, 0, 0, 0, 0), (.aload_n 0, 0, 0, 0, 0), (.arraylength, 0, 0, 0, 0), (.istore_n 3, 0, 0, 0, 0)] (5, [some (.ref k), some (.int v), some (.int 0), some (.int (sy_len shL k))], [], σ) [sy_okL shL k] (by decide +kernel) rfl ⟨⟨0, _, _, hk, by decide⟩, trivial⟩ ?_
  exact k1
set_option maxRecDepth 20000 in
theorem w_cl_fill_5 {Q : Option Value → sy_S → Prop} {σ : sy_S} {k : Nat} {n : Nat} {v : Int32} {i : Int32} {len : Int32} (hk : shL[k]? = some (0, n, [])) (b1 : ¬ (len ≤ i) → vp_in i n) (k1 : len ≤ i → Q none σ) (k2 : ¬ (len ≤ i) → sy_E shL mJ7_fill_53178 (5, [some (.ref k), some (.int v), some (.int (i + 1)), some (.int len)], [], (sy_up σ.1 k i.toNatClampNeg v, σ.2)) Q) : sy_E shL mJ7_fill_53178 (5, [some (.ref k), some (.int v), some (.int i), some (.int len)], [], σ) Q := by
  refine sy_bk [(.iload_n 2, 0, 0, 0, 0), (.iload_n 3, 0, 0, 0, 0)] (7, [some (.ref k), some (.int v), some (.int i), some (.int len)], [.int len, .int i], σ) [] (by decide +kernel) rfl trivial ?_
  by_cases c1 : len ≤ i
  · refine sy_bk [(.if_icmp .ge 13, 1, 20, 0, 0)] (20, [some (.ref k), some (.int v), some (.int i), some (.int len)], [], σ) [sy_cc .ge i len] (by decide +kernel) rfl ⟨c1, trivial⟩ ?_
    exact sy_retv rfl (by decide +kernel) (k1 c1)
  · refine sy_bk [(.if_icmp .ge 13, 0, 20, 0, 0)] (10, [some (.ref k), some (.int v), some (.int i), some (.int len)], [], σ) [¬ sy_cc .ge i len] (by decide +kernel) rfl ⟨c1, trivial⟩ ?_
    refine sy_bk [(.aload_n 0, 0, 0, 0, 0), (.iload_n 2, 0, 0, 0, 0), (.iload_n 1, 0, 0, 0, 0), (.iastore, 0, 0, 0, 0), (.iinc 2 1, 0, 0, 1, 0), (.goto (-12), 0, 5, 0, 0)] (5, [some (.ref k), some (.int v), some (.int (i + 1)), some (.int len)], [], (sy_up σ.1 k i.toNatClampNeg v, σ.2)) [sy_okA shL 0 k i] (by decide +kernel) rfl ⟨⟨n, _, hk, (b1 c1)⟩, trivial⟩ ?_
    exact k2 c1
set_option maxRecDepth 20000 in
theorem e_cl_fill {Q : Option Value → sy_S → Prop} {σ : sy_S} {k n : Nat} {v : Int32} (hk : shL[k]? = some (0, n, [])) (hn : n < 2 ^ 31) (kk : ∀ σ' : sy_S, (∀ q, q ≠ k → σ'.1 q = σ.1 q) → (∀ j, j < n → σ'.1 k j = v) → (∀ j, n ≤ j → σ'.1 k j = σ.1 k j) → σ'.2 = σ.2 → Q none σ') : sy_E shL mJ7_fill_53178 (0, sy_ent [.ref k, .int v] 4, [], σ) Q := by
  have el : sy_len shL k = nI n := by unfold sy_len; rw [hk]; rfl
  refine w_cl_fill_0 hk ?_
  rw [el]
  have hloop := sy_loop (sh := shL) (y := mJ7_fill_53178) (Q := Q) (fun i σ' => (5, [some (.ref k), some (.int v), some (.int (nI i)), some (.int (nI n))], [], σ')) (fun i σ' => (∀ q, q ≠ k → σ'.1 q = σ.1 q) ∧ (∀ j, j < i → σ'.1 k j = v) ∧ (∀ j, i ≤ j → σ'.1 k j = σ.1 k j) ∧ σ'.2 = σ.2) n ?_ ?_ 0 σ (Nat.zero_le _) ⟨fun _ _ => rfl, fun j h => absurd h (Nat.not_lt_zero _), fun _ _ => rfl, rfl⟩
  · exact hloop
  · intro i σ' hi hI ih
    obtain ⟨h1, h2, h3, h4⟩ := hI
    refine w_cl_fill_5 hk (fun _ => vp_in_nI hi hn) (fun c => absurd c (nI_ge hi hn)) (fun _ => ?_)
    have e1 : (nI i).toNatClampNeg = i := nI_clamp (by omega)
    rw [nI_1, e1]
    refine ih _ ⟨fun q hq => ?_, fun j hj => ?_, fun j hj => ?_, h4⟩
    · show sy_up σ'.1 k i v q = σ.1 q
      rw [sy_up_ne _ _ _ hq]
      exact h1 q hq
    · show sy_up σ'.1 k i v k j = v
      rw [sy_up2]
      split
      · rfl
      · rename_i h
        exact h2 j (by rcases Nat.lt_or_ge j i with q | q; exact q; exact absurd ⟨rfl, by omega⟩ h)
    · show sy_up σ'.1 k i v k j = σ.1 k j
      rw [sy_up2, if_neg (by omega)]
      exact h3 j (by omega)
  · intro σ' hI
    obtain ⟨h1, h2, h3, h4⟩ := hI
    refine w_cl_fill_5 hk (fun c => absurd (nI_le (Nat.le_refl n) hn) c) (fun _ => kk σ' h1 h2 h3 h4) (fun c => absurd (nI_le (Nat.le_refl n) hn) c)
set_option maxRecDepth 20000 in
theorem w_cl_clear_0 {Q : Option Value → sy_S → Prop} {σ : sy_S}    (k1 : sy_E shL mJ7_fill_53178 (0, sy_ent [.ref 6, .int (-1)] 4, [], σ) (fun r9 σ9 => sy_E shL mX7_clear (8, [none], r9.toList ++ [], σ9) Q)) : sy_E shL mX7_clear (0, sy_ent [.ref 0] 1, [], σ) Q := by
  show sy_E shL mX7_clear (0, [some (.ref 0)], [], σ) _
  refine sy_bk [(.aload_n 0, 0, 0, 0, 0), (.getfield 14, 7, 1, 0, 0), (.iconst (-1), 0, 0, (-1), 0)] (5, [some (.ref 0)], [.int (-1), .ref 6], σ) [] (by decide +kernel) rfl trivial ?_
  refine sy_drop [none] trivial ?_
  refine sy_callS mJ7_fill_53178 [.ref 6, .int (-1)] [] kJ7_fill_53178 jX7_21 (by decide +kernel) rfl rfl (Nat.le_of_ble_eq_true rfl) (Nat.le_of_ble_eq_true rfl) (by decide) ?_
  exact k1
set_option maxRecDepth 20000 in
theorem w_cl_clear_8 {Q : Option Value → sy_S → Prop} {σ : sy_S}    (k1 : Q none σ) : sy_E shL mX7_clear (8, [none], [], σ) Q := by
  exact sy_retv rfl (by decide +kernel) (k1)
theorem e_cl_clear {Q : Option Value → sy_S → Prop} {σ : sy_S} (kk : ∀ σ' : sy_S, (∀ i, i < 4 → σ'.1 6 i = -1) → Q none σ') : sy_E shL mX7_clear (0, sy_ent [.ref 0] 1, [], σ) Q := by
  refine w_cl_clear_0 (e_cl_fill (n := 4) rfl (by decide) (fun σ1 h1 h2 h3 h4 => w_cl_clear_8 (kk σ1 h2)))
/-! a shape's inventory, cell by cell -/
def ct_e (X : sy_X) (σ : sy_S) (k : Nat) (z : sy_Y) : va_E := match z.1 with
  | 0 => .inl (X.2.1 0, z.2.1, .inl (σ.1 k))
  | 1 => .inl (X.2.1 1, z.2.1, .inl (σ.1 k))
  | 2 => .inl (X.2.1 2, z.2.1, .inr (.inl (σ.2 k)))
  | 3 => .inl (X.2.1 3, z.2.1, .inr (.inr (.inr (.inr fun i => (z.2.2.map (Option.map X.2.2)).getD i none))))
  | c + 4 => .inr (c, ct_fs X σ k 0 z.2.2)
where ct_fs (X : sy_X) (σ : sy_S) (k : Nat) : Nat → List (Option Nat) → List Value
  | _, [] => []
  | j, f :: r => sy_fv X σ k j f :: ct_fs X σ k (j + 1) r
def ct_w (X : sy_X) (σ : sy_S) : Nat → sy_Z → va_W
  | _, [] => []
  | k, z :: r => (X.2.2 k, ct_e X σ k z) :: ct_w X σ (k + 1) r
theorem ct_fs_eq (X : sy_X) (σ : sy_S) (k : Nat) (l : List (Option Nat)) : ∀ j, ct_e.ct_fs X σ k j l = l.mapIdx fun i f => sy_fv X σ k (j + i) f := by
  induction l with
  | nil => intro j; rfl
  | cons f r ih =>
    intro j
    rw [List.mapIdx_cons]
    show sy_fv X σ k j f :: ct_e.ct_fs X σ k (j + 1) r = _
    rw [ih (j + 1)]
    congr 1
    apply List.ext_getElem?
    intro i
    simp only [List.getElem?_mapIdx]
    rw [show j + 1 + i = j + (i + 1) by omega]
def ct_i3 (X : sy_X) (n : Nat) (f : Nat → Option Nat) : va_E := .inl (X.2.1 3, n, .inr (.inr (.inr (.inr f))))
theorem ct_e_eq (X : sy_X) (σ : sy_S) (k : Nat) (z : sy_Y) : ct_e X σ k z = sy_e X σ k z := by
  obtain ⟨a, n, fl⟩ := z
  match a with
  | 0 => rfl
  | 1 => rfl
  | 2 => rfl
  | 3 =>
    have h : (fun i => (fl.map (Option.map X.2.2)).getD i none) = fun i => (fl.getD i none).map X.2.2 := by
      funext i
      rw [List.getD_eq_getElem?_getD, List.getD_eq_getElem?_getD, List.getElem?_map]
      cases fl[i]? <;> rfl
    show ct_i3 X n (fun i => (fl.map (Option.map X.2.2)).getD i none) = ct_i3 X n (fun i => (fl.getD i none).map X.2.2)
    rw [h]
  | c + 4 =>
    have h : ct_e.ct_fs X σ k 0 fl = fl.mapIdx (sy_fv X σ k) := by
      rw [ct_fs_eq]
      congr 1
      funext i f
      rw [Nat.zero_add]
    show (Sum.inr (c, ct_e.ct_fs X σ k 0 fl) : va_E) = Sum.inr (c, fl.mapIdx (sy_fv X σ k))
    rw [h]
theorem ct_w_eq' (X : sy_X) (σ : sy_S) (sh : sy_Z) : ∀ k, ct_w X σ k sh = sh.mapIdx fun i z => (X.2.2 (k + i), sy_e X σ (k + i) z) := by
  induction sh with
  | nil => intro k; rfl
  | cons z r ih =>
    intro k
    rw [List.mapIdx_cons]
    show (X.2.2 k, ct_e X σ k z) :: ct_w X σ (k + 1) r = _
    rw [ih (k + 1), ct_e_eq]
    congr 1
    apply List.ext_getElem?
    intro i
    simp only [List.getElem?_mapIdx]
    rw [show k + 1 + i = k + (i + 1) by omega]
theorem ct_w_eq (X : sy_X) (σ : sy_S) (sh : sy_Z) : ct_w X σ 0 sh = sy_w X sh σ := by
  rw [ct_w_eq']
  unfold sy_w
  congr 1
  funext i z
  rw [Nat.zero_add]
set_option maxRecDepth 100000 in
theorem n_X0 (X : sy_X) (h0 : Nat) : ct_Met mX0_init 10 153 [.null, .int 0, .int 0] [] X h0 (fun u => ∃ q1 : Nat, u = ((h0, .inr (0, [.ref q1, .int 0, .int 0])) :: (ct_tab X q1 9 16))) := by
  refine ct_met (by decide +kernel) rfl rfl (Nat.le_of_ble_eq_true rfl) ?_
  intro l p e s m args below meth c ls A C hr hlk hin hA V hl
  have hl : lv_has ls 1 [(0, .ref h0)] := hl
  have C : ct_c cX0_init 1 RX0 X p s m args c := C
  have V : ct_V X A s [(h0, .inr (0, [.null, .int 0, .int 0]))] s.heap [] := V
  generalize hQe : MQ _ _ _ _ _ _ _ = Qe
  generalize s.heap = H at V ⊢
  generalize ([] : List Loc) = locs at V ⊢
  obtain ⟨hx, hb, -⟩ := id C
  refine ct_obj C hl.1 (lv_at hl 0 rfl) (by decide) (by decide) (sy_inT (sy_i1 (List.mem_of_getElem? (i := 83) (by decide +kernel))) rfl) (sy_inT (sy_i1 (List.mem_of_getElem? (i := 23) (by decide +kernel))) rfl) (sy_inT (sy_i1 (List.mem_of_getElem? (i := 24) rfl)) rfl) (show decode cX0_init 0 = .ok (.aload_n 0, 1) by decide +kernel) (show decode cX0_init 1 = .ok (.invokespecial 3, 3) by decide +kernel) ?_
  refine lv_aload_n hx hb (show decode cX0_init 4 = .ok (.aload_n 0, 1) by decide +kernel) rfl (lv_at hl 0 rfl) ?_
  refine lv_bipush (v := 9) hx hb (show decode cX0_init 5 = .ok (.bipush 9, 2) by decide +kernel) (by decide) ?_
  refine lv_bipush (v := 16) hx hb (show decode cX0_init 7 = .ok (.bipush 16, 2) by decide +kernel) (by decide) ?_
  refine ct_newII (N := 9) (M := 16) C V (sy_inT (sy_i1 (List.mem_of_getElem? (i := 84) (by decide +kernel))) rfl) (sy_inT (sy_i1 (List.mem_of_getElem? (i := 77) (by decide +kernel))) rfl) (by decide) (by decide) (by decide) (by decide) (by decide) (Nat.le_of_ble_eq_true rfl) (Nat.le_of_ble_eq_true rfl) (show decode cX0_init 9 = .ok (.multianewarray 11 2, 4) by decide +kernel) (fun q1 H locs V => ?_)
  have V : ct_V X A s (((h0, .inr (0, [.null, .int 0, .int 0])) :: (ct_tab X q1 9 16))) H locs := V
  refine ct_putF C hin V 0 (N := 3) (T := TX0) rfl (by decide) (by decide) rfl rfl ⟨rfl, rfl⟩ (by simp) (show decode cX0_init 13 = .ok (.putfield 13, 3) by decide +kernel) (fun H locs V => ?_)
  have V : ct_V X A s (((h0, .inr (0, [.ref q1, .int 0, .int 0])) :: (ct_tab X q1 9 16))) H locs := V
  subst hQe
  refine ct_end C hr hlk hA V ?_ ?_ ?_ (show decode cX0_init 16 = .ok (.return_, 1) by decide +kernel)
  · exact ⟨q1, rfl⟩
  · exact Nat.le_of_ble_eq_true rfl
  · exact Nat.le_of_ble_eq_true rfl
set_option maxRecDepth 100000 in
theorem n_X1 (X : sy_X) (h0 g : Nat) : ct_Met mX1_init 2 32 [.null, .null, .null] [.ref g] X h0 (fun u => ∃ q1 q2 : Nat, u = ((h0, .inr (1, [.ref g, .ref q1, .ref q2])) :: [(q1, .inl (X.2.1 0, 16, .inl fun _ => 0)), (q2, .inl (X.2.1 0, 16, .inl fun _ => 0))])) := by
  refine ct_met (by decide +kernel) rfl rfl (Nat.le_of_ble_eq_true rfl) ?_
  intro l p e s m args below meth c ls A C hr hlk hin hA V hl
  have hl : lv_has ls 2 [(0, .ref h0), (1, .ref g)] := hl
  have C : ct_c cX1_init 2 RX1 X p s m args c := C
  have V : ct_V X A s [(h0, .inr (1, [.null, .null, .null]))] s.heap [] := V
  generalize hQe : MQ _ _ _ _ _ _ _ = Qe
  generalize s.heap = H at V ⊢
  generalize ([] : List Loc) = locs at V ⊢
  obtain ⟨hx, hb, -⟩ := id C
  refine ct_obj C hl.1 (lv_at hl 0 rfl) (by decide) (by decide) (sy_inT (sy_i1 (List.mem_of_getElem? (i := 151) (by decide +kernel))) rfl) (sy_inT (sy_i1 (List.mem_of_getElem? (i := 23) (by decide +kernel))) rfl) (sy_inT (sy_i1 (List.mem_of_getElem? (i := 24) rfl)) rfl) (show decode cX1_init 0 = .ok (.aload_n 0, 1) by decide +kernel) (show decode cX1_init 1 = .ok (.invokespecial 3, 3) by decide +kernel) ?_
  refine lv_aload_n hx hb (show decode cX1_init 4 = .ok (.aload_n 0, 1) by decide +kernel) rfl (lv_at hl 0 rfl) ?_
  refine lv_bipush (v := 16) hx hb (show decode cX1_init 5 = .ok (.bipush 16, 2) by decide +kernel) (by decide) ?_
  refine ct_newI (N := 16) C V (sy_inT (sy_i1 (List.mem_of_getElem? (i := 77) (by decide +kernel))) rfl) (by decide) (by decide) (by decide) (Nat.le_of_ble_eq_true rfl) (Nat.le_of_ble_eq_true rfl) (show decode cX1_init 7 = .ok (.newarray .int, 2) by decide +kernel) (fun q1 H V => ?_)
  have V : ct_V X A s (((h0, .inr (1, [.null, .null, .null])) :: [(q1, .inl (X.2.1 0, 16, .inl fun _ => 0))])) H locs := V
  refine ct_putF C hin V 1 (N := 3) (T := TX1) rfl (by decide) (by decide) rfl rfl ⟨rfl, rfl⟩ (by simp) (show decode cX1_init 9 = .ok (.putfield 9, 3) by decide +kernel) (fun H locs V => ?_)
  have V : ct_V X A s (((h0, .inr (1, [.null, .ref q1, .null])) :: [(q1, .inl (X.2.1 0, 16, .inl fun _ => 0))])) H locs := V
  refine lv_aload_n hx hb (show decode cX1_init 12 = .ok (.aload_n 0, 1) by decide +kernel) rfl (lv_at hl 0 rfl) ?_
  refine lv_bipush (v := 16) hx hb (show decode cX1_init 13 = .ok (.bipush 16, 2) by decide +kernel) (by decide) ?_
  refine ct_newI (N := 16) C V (sy_inT (sy_i1 (List.mem_of_getElem? (i := 77) (by decide +kernel))) rfl) (by decide) (by decide) (by decide) (Nat.le_of_ble_eq_true rfl) (Nat.le_of_ble_eq_true rfl) (show decode cX1_init 15 = .ok (.newarray .int, 2) by decide +kernel) (fun q2 H V => ?_)
  have V : ct_V X A s (((h0, .inr (1, [.null, .ref q1, .null])) :: [(q1, .inl (X.2.1 0, 16, .inl fun _ => 0)), (q2, .inl (X.2.1 0, 16, .inl fun _ => 0))])) H locs := V
  refine ct_putF C hin V 2 (N := 3) (T := TX1) rfl (by decide) (by decide) rfl rfl ⟨rfl, rfl⟩ (by simp) (show decode cX1_init 17 = .ok (.putfield 15, 3) by decide +kernel) (fun H locs V => ?_)
  have V : ct_V X A s (((h0, .inr (1, [.null, .ref q1, .ref q2])) :: [(q1, .inl (X.2.1 0, 16, .inl fun _ => 0)), (q2, .inl (X.2.1 0, 16, .inl fun _ => 0))])) H locs := V
  refine lv_aload_n hx hb (show decode cX1_init 20 = .ok (.aload_n 0, 1) by decide +kernel) rfl (lv_at hl 0 rfl) ?_
  refine lv_aload_n hx hb (show decode cX1_init 21 = .ok (.aload_n 1, 1) by decide +kernel) rfl (lv_at hl 1 rfl) ?_
  refine ct_putF C hin V 0 (N := 3) (T := TX1) rfl (by decide) (by decide) rfl rfl ⟨rfl, rfl⟩ (by simp) (show decode cX1_init 22 = .ok (.putfield 18, 3) by decide +kernel) (fun H locs V => ?_)
  have V : ct_V X A s (((h0, .inr (1, [.ref g, .ref q1, .ref q2])) :: [(q1, .inl (X.2.1 0, 16, .inl fun _ => 0)), (q2, .inl (X.2.1 0, 16, .inl fun _ => 0))])) H locs := V
  subst hQe
  refine ct_end C hr hlk hA V ?_ ?_ ?_ (show decode cX1_init 25 = .ok (.return_, 1) by decide +kernel)
  · exact ⟨q1, q2, rfl⟩
  · exact Nat.le_of_ble_eq_true rfl
  · exact Nat.le_of_ble_eq_true rfl
set_option maxRecDepth 100000 in
theorem n_X2 (X : sy_X) (h0 g : Nat) : ct_Met mX2_init 1 16 [.null, .null] [.ref g] X h0 (fun u => ∃ q1 : Nat, u = ((h0, .inr (2, [.ref g, .ref q1])) :: [(q1, .inl (X.2.1 0, 16, .inl fun _ => 0))])) := by
  refine ct_met (by decide +kernel) rfl rfl (Nat.le_of_ble_eq_true rfl) ?_
  intro l p e s m args below meth c ls A C hr hlk hin hA V hl
  have hl : lv_has ls 2 [(0, .ref h0), (1, .ref g)] := hl
  have C : ct_c cX2_init 2 RX2 X p s m args c := C
  have V : ct_V X A s [(h0, .inr (2, [.null, .null]))] s.heap [] := V
  generalize hQe : MQ _ _ _ _ _ _ _ = Qe
  generalize s.heap = H at V ⊢
  generalize ([] : List Loc) = locs at V ⊢
  obtain ⟨hx, hb, -⟩ := id C
  refine ct_obj C hl.1 (lv_at hl 0 rfl) (by decide) (by decide) (sy_inT (sy_i1 (List.mem_of_getElem? (i := 220) (by decide +kernel))) rfl) (sy_inT (sy_i1 (List.mem_of_getElem? (i := 23) (by decide +kernel))) rfl) (sy_inT (sy_i1 (List.mem_of_getElem? (i := 24) rfl)) rfl) (show decode cX2_init 0 = .ok (.aload_n 0, 1) by decide +kernel) (show decode cX2_init 1 = .ok (.invokespecial 3, 3) by decide +kernel) ?_
  refine lv_aload_n hx hb (show decode cX2_init 4 = .ok (.aload_n 0, 1) by decide +kernel) rfl (lv_at hl 0 rfl) ?_
  refine lv_bipush (v := 16) hx hb (show decode cX2_init 5 = .ok (.bipush 16, 2) by decide +kernel) (by decide) ?_
  refine ct_newI (N := 16) C V (sy_inT (sy_i1 (List.mem_of_getElem? (i := 77) (by decide +kernel))) rfl) (by decide) (by decide) (by decide) (Nat.le_of_ble_eq_true rfl) (Nat.le_of_ble_eq_true rfl) (show decode cX2_init 7 = .ok (.newarray .int, 2) by decide +kernel) (fun q1 H V => ?_)
  have V : ct_V X A s (((h0, .inr (2, [.null, .null])) :: [(q1, .inl (X.2.1 0, 16, .inl fun _ => 0))])) H locs := V
  refine ct_putF C hin V 1 (N := 2) (T := TX2) rfl (by decide) (by decide) rfl rfl ⟨rfl, rfl⟩ (by simp) (show decode cX2_init 9 = .ok (.putfield 9, 3) by decide +kernel) (fun H locs V => ?_)
  have V : ct_V X A s (((h0, .inr (2, [.null, .ref q1])) :: [(q1, .inl (X.2.1 0, 16, .inl fun _ => 0))])) H locs := V
  refine lv_aload_n hx hb (show decode cX2_init 12 = .ok (.aload_n 0, 1) by decide +kernel) rfl (lv_at hl 0 rfl) ?_
  refine lv_aload_n hx hb (show decode cX2_init 13 = .ok (.aload_n 1, 1) by decide +kernel) rfl (lv_at hl 1 rfl) ?_
  refine ct_putF C hin V 0 (N := 2) (T := TX2) rfl (by decide) (by decide) rfl rfl ⟨rfl, rfl⟩ (by simp) (show decode cX2_init 14 = .ok (.putfield 15, 3) by decide +kernel) (fun H locs V => ?_)
  have V : ct_V X A s (((h0, .inr (2, [.ref g, .ref q1])) :: [(q1, .inl (X.2.1 0, 16, .inl fun _ => 0))])) H locs := V
  subst hQe
  refine ct_end C hr hlk hA V ?_ ?_ ?_ (show decode cX2_init 17 = .ok (.return_, 1) by decide +kernel)
  · exact ⟨q1, rfl⟩
  · exact Nat.le_of_ble_eq_true rfl
  · exact Nat.le_of_ble_eq_true rfl
set_option maxRecDepth 100000 in
theorem n_X4 (X : sy_X) (h0 g : Nat) : ct_Met mX4_init 2 32 [.null, .null, .null, .int 0, .int 0, .int 0, .int 0] [.ref g] X h0 (fun u => ∃ q1 q2 : Nat, u = ((h0, .inr (4, [.ref g, .ref q1, .ref q2, .int 0, .int 0, .int 0, .int 0])) :: [(q1, .inl (X.2.1 0, 16, .inl fun _ => 0)), (q2, .inl (X.2.1 0, 16, .inl fun _ => 0))])) := by
  refine ct_met (by decide +kernel) rfl rfl (Nat.le_of_ble_eq_true rfl) ?_
  intro l p e s m args below meth c ls A C hr hlk hin hA V hl
  have hl : lv_has ls 2 [(0, .ref h0), (1, .ref g)] := hl
  have C : ct_c cX4_init 2 RX4 X p s m args c := C
  have V : ct_V X A s [(h0, .inr (4, [.null, .null, .null, .int 0, .int 0, .int 0, .int 0]))] s.heap [] := V
  generalize hQe : MQ _ _ _ _ _ _ _ = Qe
  generalize s.heap = H at V ⊢
  generalize ([] : List Loc) = locs at V ⊢
  obtain ⟨hx, hb, -⟩ := id C
  refine ct_obj C hl.1 (lv_at hl 0 rfl) (by decide) (by decide) (sy_inT (sy_i1 (List.mem_of_getElem? (i := 167) (by decide +kernel))) rfl) (sy_inT (sy_i1 (List.mem_of_getElem? (i := 23) (by decide +kernel))) rfl) (sy_inT (sy_i1 (List.mem_of_getElem? (i := 24) rfl)) rfl) (show decode cX4_init 0 = .ok (.aload_n 0, 1) by decide +kernel) (show decode cX4_init 1 = .ok (.invokespecial 3, 3) by decide +kernel) ?_
  refine lv_aload_n hx hb (show decode cX4_init 4 = .ok (.aload_n 0, 1) by decide +kernel) rfl (lv_at hl 0 rfl) ?_
  refine lv_bipush (v := 16) hx hb (show decode cX4_init 5 = .ok (.bipush 16, 2) by decide +kernel) (by decide) ?_
  refine ct_newI (N := 16) C V (sy_inT (sy_i1 (List.mem_of_getElem? (i := 77) (by decide +kernel))) rfl) (by decide) (by decide) (by decide) (Nat.le_of_ble_eq_true rfl) (Nat.le_of_ble_eq_true rfl) (show decode cX4_init 7 = .ok (.newarray .int, 2) by decide +kernel) (fun q1 H V => ?_)
  have V : ct_V X A s (((h0, .inr (4, [.null, .null, .null, .int 0, .int 0, .int 0, .int 0])) :: [(q1, .inl (X.2.1 0, 16, .inl fun _ => 0))])) H locs := V
  refine ct_putF C hin V 1 (N := 7) (T := TX4) rfl (by decide) (by decide) rfl rfl ⟨rfl, rfl⟩ (by simp) (show decode cX4_init 9 = .ok (.putfield 9, 3) by decide +kernel) (fun H locs V => ?_)
  have V : ct_V X A s (((h0, .inr (4, [.null, .ref q1, .null, .int 0, .int 0, .int 0, .int 0])) :: [(q1, .inl (X.2.1 0, 16, .inl fun _ => 0))])) H locs := V
  refine lv_aload_n hx hb (show decode cX4_init 12 = .ok (.aload_n 0, 1) by decide +kernel) rfl (lv_at hl 0 rfl) ?_
  refine lv_bipush (v := 16) hx hb (show decode cX4_init 13 = .ok (.bipush 16, 2) by decide +kernel) (by decide) ?_
  refine ct_newI (N := 16) C V (sy_inT (sy_i1 (List.mem_of_getElem? (i := 77) (by decide +kernel))) rfl) (by decide) (by decide) (by decide) (Nat.le_of_ble_eq_true rfl) (Nat.le_of_ble_eq_true rfl) (show decode cX4_init 15 = .ok (.newarray .int, 2) by decide +kernel) (fun q2 H V => ?_)
  have V : ct_V X A s (((h0, .inr (4, [.null, .ref q1, .null, .int 0, .int 0, .int 0, .int 0])) :: [(q1, .inl (X.2.1 0, 16, .inl fun _ => 0)), (q2, .inl (X.2.1 0, 16, .inl fun _ => 0))])) H locs := V
  refine ct_putF C hin V 2 (N := 7) (T := TX4) rfl (by decide) (by decide) rfl rfl ⟨rfl, rfl⟩ (by simp) (show decode cX4_init 17 = .ok (.putfield 15, 3) by decide +kernel) (fun H locs V => ?_)
  have V : ct_V X A s (((h0, .inr (4, [.null, .ref q1, .ref q2, .int 0, .int 0, .int 0, .int 0])) :: [(q1, .inl (X.2.1 0, 16, .inl fun _ => 0)), (q2, .inl (X.2.1 0, 16, .inl fun _ => 0))])) H locs := V
  refine lv_aload_n hx hb (show decode cX4_init 20 = .ok (.aload_n 0, 1) by decide +kernel) rfl (lv_at hl 0 rfl) ?_
  refine lv_aload_n hx hb (show decode cX4_init 21 = .ok (.aload_n 1, 1) by decide +kernel) rfl (lv_at hl 1 rfl) ?_
  refine ct_putF C hin V 0 (N := 7) (T := TX4) rfl (by decide) (by decide) rfl rfl ⟨rfl, rfl⟩ (by simp) (show decode cX4_init 22 = .ok (.putfield 18, 3) by decide +kernel) (fun H locs V => ?_)
  have V : ct_V X A s (((h0, .inr (4, [.ref g, .ref q1, .ref q2, .int 0, .int 0, .int 0, .int 0])) :: [(q1, .inl (X.2.1 0, 16, .inl fun _ => 0)), (q2, .inl (X.2.1 0, 16, .inl fun _ => 0))])) H locs := V
  subst hQe
  refine ct_end C hr hlk hA V ?_ ?_ ?_ (show decode cX4_init 25 = .ok (.return_, 1) by decide +kernel)
  · exact ⟨q1, q2, rfl⟩
  · exact Nat.le_of_ble_eq_true rfl
  · exact Nat.le_of_ble_eq_true rfl
set_option maxRecDepth 100000 in
theorem n_X5 (X : sy_X) (h0 : Nat) : ct_Met mX5_init 1 256 [.null] [] X h0 (fun u => ∃ q1 : Nat, u = ((h0, .inr (5, [.ref q1])) :: [(q1, .inl (X.2.1 2, 256, .inr (.inl fun _ => 0)))])) := by
  refine ct_met (by decide +kernel) rfl rfl (Nat.le_of_ble_eq_true rfl) ?_
  intro l p e s m args below meth c ls A C hr hlk hin hA V hl
  have hl : lv_has ls 1 [(0, .ref h0)] := hl
  have C : ct_c cX5_init 1 RX5 X p s m args c := C
  have V : ct_V X A s [(h0, .inr (5, [.null]))] s.heap [] := V
  generalize hQe : MQ _ _ _ _ _ _ _ = Qe
  generalize s.heap = H at V ⊢
  generalize ([] : List Loc) = locs at V ⊢
  obtain ⟨hx, hb, -⟩ := id C
  refine ct_obj C hl.1 (lv_at hl 0 rfl) (by decide) (by decide) (sy_inT (sy_i1 (List.mem_of_getElem? (i := 233) (by decide +kernel))) rfl) (sy_inT (sy_i1 (List.mem_of_getElem? (i := 23) (by decide +kernel))) rfl) (sy_inT (sy_i1 (List.mem_of_getElem? (i := 24) rfl)) rfl) (show decode cX5_init 0 = .ok (.aload_n 0, 1) by decide +kernel) (show decode cX5_init 1 = .ok (.invokespecial 3, 3) by decide +kernel) ?_
  refine lv_aload_n hx hb (show decode cX5_init 4 = .ok (.aload_n 0, 1) by decide +kernel) rfl (lv_at hl 0 rfl) ?_
  refine lv_sipush (v := 256) hx hb (show decode cX5_init 5 = .ok (.sipush 256, 3) by decide +kernel) (by decide) ?_
  refine ct_newJ (N := 256) C V (sy_inT (sy_i1 (List.mem_of_getElem? (i := 238) (by decide +kernel))) rfl) (by decide) (by decide) (by decide) (Nat.le_of_ble_eq_true rfl) (Nat.le_of_ble_eq_true rfl) (show decode cX5_init 8 = .ok (.newarray .long, 2) by decide +kernel) (fun q1 H V => ?_)
  have V : ct_V X A s (((h0, .inr (5, [.null])) :: [(q1, .inl (X.2.1 2, 256, .inr (.inl fun _ => 0)))])) H locs := V
  refine ct_putF C hin V 0 (N := 1) (T := TX5) rfl (by decide) (by decide) rfl rfl ⟨rfl, rfl⟩ (by simp) (show decode cX5_init 10 = .ok (.putfield 9, 3) by decide +kernel) (fun H locs V => ?_)
  have V : ct_V X A s (((h0, .inr (5, [.ref q1])) :: [(q1, .inl (X.2.1 2, 256, .inr (.inl fun _ => 0)))])) H locs := V
  subst hQe
  refine ct_end C hr hlk hA V ?_ ?_ ?_ (show decode cX5_init 13 = .ok (.return_, 1) by decide +kernel)
  · exact ⟨q1, rfl⟩
  · exact Nat.le_of_ble_eq_true rfl
  · exact Nat.le_of_ble_eq_true rfl
set_option maxRecDepth 100000 in
theorem n_X6 (X : sy_X) (h0 : Nat) : ct_Met mX6_init 3 4258 [.null, .null, .null, .int 0] [] X h0 (fun u => ∃ q1 q2 q3 : Nat, u = ((h0, .inr (6, [.ref q1, .ref q2, .ref q3, .int 0])) :: [(q1, .inl (X.2.1 0, 2001, .inl fun _ => 0)), (q2, .inl (X.2.1 0, 2001, .inl fun _ => 0)), (q3, .inl (X.2.1 0, 256, .inl fun _ => 0))])) := by
  refine ct_met (by decide +kernel) rfl rfl (Nat.le_of_ble_eq_true rfl) ?_
  intro l p e s m args below meth c ls A C hr hlk hin hA V hl
  have hl : lv_has ls 1 [(0, .ref h0)] := hl
  have C : ct_c cX6_init 1 RX6 X p s m args c := C
  have V : ct_V X A s [(h0, .inr (6, [.null, .null, .null, .int 0]))] s.heap [] := V
  generalize hQe : MQ _ _ _ _ _ _ _ = Qe
  generalize s.heap = H at V ⊢
  generalize ([] : List Loc) = locs at V ⊢
  obtain ⟨hx, hb, -⟩ := id C
  refine ct_obj C hl.1 (lv_at hl 0 rfl) (by decide) (by decide) (sy_inT (sy_i2 (List.mem_of_getElem? (i := 4) (by decide +kernel))) rfl) (sy_inT (sy_i1 (List.mem_of_getElem? (i := 23) (by decide +kernel))) rfl) (sy_inT (sy_i1 (List.mem_of_getElem? (i := 24) rfl)) rfl) (show decode cX6_init 0 = .ok (.aload_n 0, 1) by decide +kernel) (show decode cX6_init 1 = .ok (.invokespecial 3, 3) by decide +kernel) ?_
  refine lv_aload_n hx hb (show decode cX6_init 4 = .ok (.aload_n 0, 1) by decide +kernel) rfl (lv_at hl 0 rfl) ?_
  refine lv_sipush (v := 2001) hx hb (show decode cX6_init 5 = .ok (.sipush 2001, 3) by decide +kernel) (by decide) ?_
  refine ct_newI (N := 2001) C V (sy_inT (sy_i1 (List.mem_of_getElem? (i := 77) (by decide +kernel))) rfl) (by decide) (by decide) (by decide) (Nat.le_of_ble_eq_true rfl) (Nat.le_of_ble_eq_true rfl) (show decode cX6_init 8 = .ok (.newarray .int, 2) by decide +kernel) (fun q1 H V => ?_)
  have V : ct_V X A s (((h0, .inr (6, [.null, .null, .null, .int 0])) :: [(q1, .inl (X.2.1 0, 2001, .inl fun _ => 0))])) H locs := V
  refine ct_putF C hin V 0 (N := 4) (T := TX6) rfl (by decide) (by decide) rfl rfl ⟨rfl, rfl⟩ (by simp) (show decode cX6_init 10 = .ok (.putfield 9, 3) by decide +kernel) (fun H locs V => ?_)
  have V : ct_V X A s (((h0, .inr (6, [.ref q1, .null, .null, .int 0])) :: [(q1, .inl (X.2.1 0, 2001, .inl fun _ => 0))])) H locs := V
  refine lv_aload_n hx hb (show decode cX6_init 13 = .ok (.aload_n 0, 1) by decide +kernel) rfl (lv_at hl 0 rfl) ?_
  refine lv_sipush (v := 2001) hx hb (show decode cX6_init 14 = .ok (.sipush 2001, 3) by decide +kernel) (by decide) ?_
  refine ct_newI (N := 2001) C V (sy_inT (sy_i1 (List.mem_of_getElem? (i := 77) (by decide +kernel))) rfl) (by decide) (by decide) (by decide) (Nat.le_of_ble_eq_true rfl) (Nat.le_of_ble_eq_true rfl) (show decode cX6_init 17 = .ok (.newarray .int, 2) by decide +kernel) (fun q2 H V => ?_)
  have V : ct_V X A s (((h0, .inr (6, [.ref q1, .null, .null, .int 0])) :: [(q1, .inl (X.2.1 0, 2001, .inl fun _ => 0)), (q2, .inl (X.2.1 0, 2001, .inl fun _ => 0))])) H locs := V
  refine ct_putF C hin V 1 (N := 4) (T := TX6) rfl (by decide) (by decide) rfl rfl ⟨rfl, rfl⟩ (by simp) (show decode cX6_init 19 = .ok (.putfield 15, 3) by decide +kernel) (fun H locs V => ?_)
  have V : ct_V X A s (((h0, .inr (6, [.ref q1, .ref q2, .null, .int 0])) :: [(q1, .inl (X.2.1 0, 2001, .inl fun _ => 0)), (q2, .inl (X.2.1 0, 2001, .inl fun _ => 0))])) H locs := V
  refine lv_aload_n hx hb (show decode cX6_init 22 = .ok (.aload_n 0, 1) by decide +kernel) rfl (lv_at hl 0 rfl) ?_
  refine lv_sipush (v := 256) hx hb (show decode cX6_init 23 = .ok (.sipush 256, 3) by decide +kernel) (by decide) ?_
  refine ct_newI (N := 256) C V (sy_inT (sy_i1 (List.mem_of_getElem? (i := 77) (by decide +kernel))) rfl) (by decide) (by decide) (by decide) (Nat.le_of_ble_eq_true rfl) (Nat.le_of_ble_eq_true rfl) (show decode cX6_init 26 = .ok (.newarray .int, 2) by decide +kernel) (fun q3 H V => ?_)
  have V : ct_V X A s (((h0, .inr (6, [.ref q1, .ref q2, .null, .int 0])) :: [(q1, .inl (X.2.1 0, 2001, .inl fun _ => 0)), (q2, .inl (X.2.1 0, 2001, .inl fun _ => 0)), (q3, .inl (X.2.1 0, 256, .inl fun _ => 0))])) H locs := V
  refine ct_putF C hin V 2 (N := 4) (T := TX6) rfl (by decide) (by decide) rfl rfl ⟨rfl, rfl⟩ (by simp) (show decode cX6_init 28 = .ok (.putfield 18, 3) by decide +kernel) (fun H locs V => ?_)
  have V : ct_V X A s (((h0, .inr (6, [.ref q1, .ref q2, .ref q3, .int 0])) :: [(q1, .inl (X.2.1 0, 2001, .inl fun _ => 0)), (q2, .inl (X.2.1 0, 2001, .inl fun _ => 0)), (q3, .inl (X.2.1 0, 256, .inl fun _ => 0))])) H locs := V
  subst hQe
  refine ct_end C hr hlk hA V ?_ ?_ ?_ (show decode cX6_init 31 = .ok (.return_, 1) by decide +kernel)
  · exact ⟨q1, q2, q3, rfl⟩
  · exact Nat.le_of_ble_eq_true rfl
  · exact Nat.le_of_ble_eq_true rfl
set_option maxRecDepth 100000 in
theorem n_X8 (X : sy_X) (h0 g g2 : Nat) : ct_Met mX8_init 4 64 [.null, .null, .null, .null, .null, .null] [.ref g, .ref g2] X h0 (fun u => ∃ q1 q2 q3 q4 : Nat, u = ((h0, .inr (8, [.ref g, .ref g2, .ref q1, .ref q2, .ref q3, .ref q4])) :: [(q1, .inl (X.2.1 0, 16, .inl fun _ => 0)), (q2, .inl (X.2.1 0, 16, .inl fun _ => 0)), (q3, .inl (X.2.1 0, 16, .inl fun _ => 0)), (q4, .inl (X.2.1 0, 16, .inl fun _ => 0))])) := by
  refine ct_met (by decide +kernel) rfl rfl (Nat.le_of_ble_eq_true rfl) ?_
  intro l p e s m args below meth c ls A C hr hlk hin hA V hl
  have hl : lv_has ls 3 [(0, .ref h0), (1, .ref g), (2, .ref g2)] := hl
  have C : ct_c cX8_init 3 RX8 X p s m args c := C
  have V : ct_V X A s [(h0, .inr (8, [.null, .null, .null, .null, .null, .null]))] s.heap [] := V
  generalize hQe : MQ _ _ _ _ _ _ _ = Qe
  generalize s.heap = H at V ⊢
  generalize ([] : List Loc) = locs at V ⊢
  obtain ⟨hx, hb, -⟩ := id C
  refine ct_obj C hl.1 (lv_at hl 0 rfl) (by decide) (by decide) (sy_inT (sy_i1 (List.mem_of_getElem? (i := 195) (by decide +kernel))) rfl) (sy_inT (sy_i1 (List.mem_of_getElem? (i := 23) (by decide +kernel))) rfl) (sy_inT (sy_i1 (List.mem_of_getElem? (i := 24) rfl)) rfl) (show decode cX8_init 0 = .ok (.aload_n 0, 1) by decide +kernel) (show decode cX8_init 1 = .ok (.invokespecial 3, 3) by decide +kernel) ?_
  refine lv_aload_n hx hb (show decode cX8_init 4 = .ok (.aload_n 0, 1) by decide +kernel) rfl (lv_at hl 0 rfl) ?_
  refine lv_bipush (v := 16) hx hb (show decode cX8_init 5 = .ok (.bipush 16, 2) by decide +kernel) (by decide) ?_
  refine ct_newI (N := 16) C V (sy_inT (sy_i1 (List.mem_of_getElem? (i := 77) (by decide +kernel))) rfl) (by decide) (by decide) (by decide) (Nat.le_of_ble_eq_true rfl) (Nat.le_of_ble_eq_true rfl) (show decode cX8_init 7 = .ok (.newarray .int, 2) by decide +kernel) (fun q1 H V => ?_)
  have V : ct_V X A s (((h0, .inr (8, [.null, .null, .null, .null, .null, .null])) :: [(q1, .inl (X.2.1 0, 16, .inl fun _ => 0))])) H locs := V
  refine ct_putF C hin V 2 (N := 6) (T := TX8) rfl (by decide) (by decide) rfl rfl ⟨rfl, rfl⟩ (by simp) (show decode cX8_init 9 = .ok (.putfield 9, 3) by decide +kernel) (fun H locs V => ?_)
  have V : ct_V X A s (((h0, .inr (8, [.null, .null, .ref q1, .null, .null, .null])) :: [(q1, .inl (X.2.1 0, 16, .inl fun _ => 0))])) H locs := V
  refine lv_aload_n hx hb (show decode cX8_init 12 = .ok (.aload_n 0, 1) by decide +kernel) rfl (lv_at hl 0 rfl) ?_
  refine lv_bipush (v := 16) hx hb (show decode cX8_init 13 = .ok (.bipush 16, 2) by decide +kernel) (by decide) ?_
  refine ct_newI (N := 16) C V (sy_inT (sy_i1 (List.mem_of_getElem? (i := 77) (by decide +kernel))) rfl) (by decide) (by decide) (by decide) (Nat.le_of_ble_eq_true rfl) (Nat.le_of_ble_eq_true rfl) (show decode cX8_init 15 = .ok (.newarray .int, 2) by decide +kernel) (fun q2 H V => ?_)
  have V : ct_V X A s (((h0, .inr (8, [.null, .null, .ref q1, .null, .null, .null])) :: [(q1, .inl (X.2.1 0, 16, .inl fun _ => 0)), (q2, .inl (X.2.1 0, 16, .inl fun _ => 0))])) H locs := V
  refine ct_putF C hin V 3 (N := 6) (T := TX8) rfl (by decide) (by decide) rfl rfl ⟨rfl, rfl⟩ (by simp) (show decode cX8_init 17 = .ok (.putfield 15, 3) by decide +kernel) (fun H locs V => ?_)
  have V : ct_V X A s (((h0, .inr (8, [.null, .null, .ref q1, .ref q2, .null, .null])) :: [(q1, .inl (X.2.1 0, 16, .inl fun _ => 0)), (q2, .inl (X.2.1 0, 16, .inl fun _ => 0))])) H locs := V
  refine lv_aload_n hx hb (show decode cX8_init 20 = .ok (.aload_n 0, 1) by decide +kernel) rfl (lv_at hl 0 rfl) ?_
  refine lv_bipush (v := 16) hx hb (show decode cX8_init 21 = .ok (.bipush 16, 2) by decide +kernel) (by decide) ?_
  refine ct_newI (N := 16) C V (sy_inT (sy_i1 (List.mem_of_getElem? (i := 77) (by decide +kernel))) rfl) (by decide) (by decide) (by decide) (Nat.le_of_ble_eq_true rfl) (Nat.le_of_ble_eq_true rfl) (show decode cX8_init 23 = .ok (.newarray .int, 2) by decide +kernel) (fun q3 H V => ?_)
  have V : ct_V X A s (((h0, .inr (8, [.null, .null, .ref q1, .ref q2, .null, .null])) :: [(q1, .inl (X.2.1 0, 16, .inl fun _ => 0)), (q2, .inl (X.2.1 0, 16, .inl fun _ => 0)), (q3, .inl (X.2.1 0, 16, .inl fun _ => 0))])) H locs := V
  refine ct_putF C hin V 4 (N := 6) (T := TX8) rfl (by decide) (by decide) rfl rfl ⟨rfl, rfl⟩ (by simp) (show decode cX8_init 25 = .ok (.putfield 18, 3) by decide +kernel) (fun H locs V => ?_)
  have V : ct_V X A s (((h0, .inr (8, [.null, .null, .ref q1, .ref q2, .ref q3, .null])) :: [(q1, .inl (X.2.1 0, 16, .inl fun _ => 0)), (q2, .inl (X.2.1 0, 16, .inl fun _ => 0)), (q3, .inl (X.2.1 0, 16, .inl fun _ => 0))])) H locs := V
  refine lv_aload_n hx hb (show decode cX8_init 28 = .ok (.aload_n 0, 1) by decide +kernel) rfl (lv_at hl 0 rfl) ?_
  refine lv_bipush (v := 16) hx hb (show decode cX8_init 29 = .ok (.bipush 16, 2) by decide +kernel) (by decide) ?_
  refine ct_newI (N := 16) C V (sy_inT (sy_i1 (List.mem_of_getElem? (i := 77) (by decide +kernel))) rfl) (by decide) (by decide) (by decide) (Nat.le_of_ble_eq_true rfl) (Nat.le_of_ble_eq_true rfl) (show decode cX8_init 31 = .ok (.newarray .int, 2) by decide +kernel) (fun q4 H V => ?_)
  have V : ct_V X A s (((h0, .inr (8, [.null, .null, .ref q1, .ref q2, .ref q3, .null])) :: [(q1, .inl (X.2.1 0, 16, .inl fun _ => 0)), (q2, .inl (X.2.1 0, 16, .inl fun _ => 0)), (q3, .inl (X.2.1 0, 16, .inl fun _ => 0)), (q4, .inl (X.2.1 0, 16, .inl fun _ => 0))])) H locs := V
  refine ct_putF C hin V 5 (N := 6) (T := TX8) rfl (by decide) (by decide) rfl rfl ⟨rfl, rfl⟩ (by simp) (show decode cX8_init 33 = .ok (.putfield 21, 3) by decide +kernel) (fun H locs V => ?_)
  have V : ct_V X A s (((h0, .inr (8, [.null, .null, .ref q1, .ref q2, .ref q3, .ref q4])) :: [(q1, .inl (X.2.1 0, 16, .inl fun _ => 0)), (q2, .inl (X.2.1 0, 16, .inl fun _ => 0)), (q3, .inl (X.2.1 0, 16, .inl fun _ => 0)), (q4, .inl (X.2.1 0, 16, .inl fun _ => 0))])) H locs := V
  refine lv_aload_n hx hb (show decode cX8_init 36 = .ok (.aload_n 0, 1) by decide +kernel) rfl (lv_at hl 0 rfl) ?_
  refine lv_aload_n hx hb (show decode cX8_init 37 = .ok (.aload_n 1, 1) by decide +kernel) rfl (lv_at hl 1 rfl) ?_
  refine ct_putF C hin V 0 (N := 6) (T := TX8) rfl (by decide) (by decide) rfl rfl ⟨rfl, rfl⟩ (by simp) (show decode cX8_init 38 = .ok (.putfield 24, 3) by decide +kernel) (fun H locs V => ?_)
  have V : ct_V X A s (((h0, .inr (8, [.ref g, .null, .ref q1, .ref q2, .ref q3, .ref q4])) :: [(q1, .inl (X.2.1 0, 16, .inl fun _ => 0)), (q2, .inl (X.2.1 0, 16, .inl fun _ => 0)), (q3, .inl (X.2.1 0, 16, .inl fun _ => 0)), (q4, .inl (X.2.1 0, 16, .inl fun _ => 0))])) H locs := V
  refine lv_aload_n hx hb (show decode cX8_init 41 = .ok (.aload_n 0, 1) by decide +kernel) rfl (lv_at hl 0 rfl) ?_
  refine lv_aload_n hx hb (show decode cX8_init 42 = .ok (.aload_n 2, 1) by decide +kernel) rfl (lv_at hl 2 rfl) ?_
  refine ct_putF C hin V 1 (N := 6) (T := TX8) rfl (by decide) (by decide) rfl rfl ⟨rfl, rfl⟩ (by simp) (show decode cX8_init 43 = .ok (.putfield 28, 3) by decide +kernel) (fun H locs V => ?_)
  have V : ct_V X A s (((h0, .inr (8, [.ref g, .ref g2, .ref q1, .ref q2, .ref q3, .ref q4])) :: [(q1, .inl (X.2.1 0, 16, .inl fun _ => 0)), (q2, .inl (X.2.1 0, 16, .inl fun _ => 0)), (q3, .inl (X.2.1 0, 16, .inl fun _ => 0)), (q4, .inl (X.2.1 0, 16, .inl fun _ => 0))])) H locs := V
  subst hQe
  refine ct_end C hr hlk hA V ?_ ?_ ?_ (show decode cX8_init 46 = .ok (.return_, 1) by decide +kernel)
  · exact ⟨q1, q2, q3, q4, rfl⟩
  · exact Nat.le_of_ble_eq_true rfl
  · exact Nat.le_of_ble_eq_true rfl
set_option maxRecDepth 100000 in
theorem n_X9 (X : sy_X) (h0 : Nat) : ct_Met mX9_init 2 400 [.null, .null, .int 0, .int 0, .int 0] [] X h0 (fun u => ∃ q1 q2 : Nat, u = ((h0, .inr (9, [.ref q1, .ref q2, .int 0, .int 0, .int 0])) :: [(q1, .inl (X.2.1 0, 200, .inl fun _ => 0)), (q2, .inl (X.2.1 0, 200, .inl fun _ => 0))])) := by
  refine ct_met (by decide +kernel) rfl rfl (Nat.le_of_ble_eq_true rfl) ?_
  intro l p e s m args below meth c ls A C hr hlk hin hA V hl
  have hl : lv_has ls 1 [(0, .ref h0)] := hl
  have C : ct_c cX9_init 1 RX9 X p s m args c := C
  have V : ct_V X A s [(h0, .inr (9, [.null, .null, .int 0, .int 0, .int 0]))] s.heap [] := V
  generalize hQe : MQ _ _ _ _ _ _ _ = Qe
  generalize s.heap = H at V ⊢
  generalize ([] : List Loc) = locs at V ⊢
  obtain ⟨hx, hb, -⟩ := id C
  refine ct_obj C hl.1 (lv_at hl 0 rfl) (by decide) (by decide) (sy_inT (sy_i2 (List.mem_of_getElem? (i := 23) (by decide +kernel))) rfl) (sy_inT (sy_i1 (List.mem_of_getElem? (i := 23) (by decide +kernel))) rfl) (sy_inT (sy_i1 (List.mem_of_getElem? (i := 24) rfl)) rfl) (show decode cX9_init 0 = .ok (.aload_n 0, 1) by decide +kernel) (show decode cX9_init 1 = .ok (.invokespecial 3, 3) by decide +kernel) ?_
  refine lv_aload_n hx hb (show decode cX9_init 4 = .ok (.aload_n 0, 1) by decide +kernel) rfl (lv_at hl 0 rfl) ?_
  refine lv_sipush (v := 200) hx hb (show decode cX9_init 5 = .ok (.sipush 200, 3) by decide +kernel) (by decide) ?_
  refine ct_newI (N := 200) C V (sy_inT (sy_i1 (List.mem_of_getElem? (i := 77) (by decide +kernel))) rfl) (by decide) (by decide) (by decide) (Nat.le_of_ble_eq_true rfl) (Nat.le_of_ble_eq_true rfl) (show decode cX9_init 8 = .ok (.newarray .int, 2) by decide +kernel) (fun q1 H V => ?_)
  have V : ct_V X A s (((h0, .inr (9, [.null, .null, .int 0, .int 0, .int 0])) :: [(q1, .inl (X.2.1 0, 200, .inl fun _ => 0))])) H locs := V
  refine ct_putF C hin V 0 (N := 5) (T := TX9) rfl (by decide) (by decide) rfl rfl ⟨rfl, rfl⟩ (by simp) (show decode cX9_init 10 = .ok (.putfield 9, 3) by decide +kernel) (fun H locs V => ?_)
  have V : ct_V X A s (((h0, .inr (9, [.ref q1, .null, .int 0, .int 0, .int 0])) :: [(q1, .inl (X.2.1 0, 200, .inl fun _ => 0))])) H locs := V
  refine lv_aload_n hx hb (show decode cX9_init 13 = .ok (.aload_n 0, 1) by decide +kernel) rfl (lv_at hl 0 rfl) ?_
  refine lv_sipush (v := 200) hx hb (show decode cX9_init 14 = .ok (.sipush 200, 3) by decide +kernel) (by decide) ?_
  refine ct_newI (N := 200) C V (sy_inT (sy_i1 (List.mem_of_getElem? (i := 77) (by decide +kernel))) rfl) (by decide) (by decide) (by decide) (Nat.le_of_ble_eq_true rfl) (Nat.le_of_ble_eq_true rfl) (show decode cX9_init 17 = .ok (.newarray .int, 2) by decide +kernel) (fun q2 H V => ?_)
  have V : ct_V X A s (((h0, .inr (9, [.ref q1, .null, .int 0, .int 0, .int 0])) :: [(q1, .inl (X.2.1 0, 200, .inl fun _ => 0)), (q2, .inl (X.2.1 0, 200, .inl fun _ => 0))])) H locs := V
  refine ct_putF C hin V 1 (N := 5) (T := TX9) rfl (by decide) (by decide) rfl rfl ⟨rfl, rfl⟩ (by simp) (show decode cX9_init 19 = .ok (.putfield 15, 3) by decide +kernel) (fun H locs V => ?_)
  have V : ct_V X A s (((h0, .inr (9, [.ref q1, .ref q2, .int 0, .int 0, .int 0])) :: [(q1, .inl (X.2.1 0, 200, .inl fun _ => 0)), (q2, .inl (X.2.1 0, 200, .inl fun _ => 0))])) H locs := V
  subst hQe
  refine ct_end C hr hlk hA V ?_ ?_ ?_ (show decode cX9_init 22 = .ok (.return_, 1) by decide +kernel)
  · exact ⟨q1, q2, rfl⟩
  · exact Nat.le_of_ble_eq_true rfl
  · exact Nat.le_of_ble_eq_true rfl
set_option maxRecDepth 100000 in
theorem n_X10 (X : sy_X) (h0 : Nat) : ct_Met mX10_init 3 59 [.null, .null, .null, .int 0, .int 0, .int 0, .int 0, .int 0] [] X h0 (fun u => ∃ q1 q2 q3 : Nat, u = ((h0, .inr (10, [.ref q1, .ref q2, .ref q3, .int 0, .int 0, .int 0, .int 0, .int 0])) :: [(q1, .inl (X.2.1 0, 40, .inl fun _ => 0)), (q2, .inl (X.2.1 0, 16, .inl fun _ => 0)), (q3, .inl (X.2.1 0, 3, .inl fun _ => 0))])) := by
  refine ct_met (by decide +kernel) rfl rfl (Nat.le_of_ble_eq_true rfl) ?_
  intro l p e s m args below meth c ls A C hr hlk hin hA V hl
  have hl : lv_has ls 1 [(0, .ref h0)] := hl
  have C : ct_c cX10_init 1 RX10 X p s m args c := C
  have V : ct_V X A s [(h0, .inr (10, [.null, .null, .null, .int 0, .int 0, .int 0, .int 0, .int 0]))] s.heap [] := V
  generalize hQe : MQ _ _ _ _ _ _ _ = Qe
  generalize s.heap = H at V ⊢
  generalize ([] : List Loc) = locs at V ⊢
  obtain ⟨hx, hb, -⟩ := id C
  refine ct_obj C hl.1 (lv_at hl 0 rfl) (by decide) (by decide) (sy_inT (sy_i1 (List.mem_of_getElem? (i := 101) (by decide +kernel))) rfl) (sy_inT (sy_i1 (List.mem_of_getElem? (i := 23) (by decide +kernel))) rfl) (sy_inT (sy_i1 (List.mem_of_getElem? (i := 24) rfl)) rfl) (show decode cX10_init 0 = .ok (.aload_n 0, 1) by decide +kernel) (show decode cX10_init 1 = .ok (.invokespecial 3, 3) by decide +kernel) ?_
  refine lv_aload_n hx hb (show decode cX10_init 4 = .ok (.aload_n 0, 1) by decide +kernel) rfl (lv_at hl 0 rfl) ?_
  refine lv_bipush (v := 40) hx hb (show decode cX10_init 5 = .ok (.bipush 40, 2) by decide +kernel) (by decide) ?_
  refine ct_newI (N := 40) C V (sy_inT (sy_i1 (List.mem_of_getElem? (i := 77) (by decide +kernel))) rfl) (by decide) (by decide) (by decide) (Nat.le_of_ble_eq_true rfl) (Nat.le_of_ble_eq_true rfl) (show decode cX10_init 7 = .ok (.newarray .int, 2) by decide +kernel) (fun q1 H V => ?_)
  have V : ct_V X A s (((h0, .inr (10, [.null, .null, .null, .int 0, .int 0, .int 0, .int 0, .int 0])) :: [(q1, .inl (X.2.1 0, 40, .inl fun _ => 0))])) H locs := V
  refine ct_putF C hin V 0 (N := 8) (T := TX10) rfl (by decide) (by decide) rfl rfl ⟨rfl, rfl⟩ (by simp) (show decode cX10_init 9 = .ok (.putfield 11, 3) by decide +kernel) (fun H locs V => ?_)
  have V : ct_V X A s (((h0, .inr (10, [.ref q1, .null, .null, .int 0, .int 0, .int 0, .int 0, .int 0])) :: [(q1, .inl (X.2.1 0, 40, .inl fun _ => 0))])) H locs := V
  refine lv_aload_n hx hb (show decode cX10_init 12 = .ok (.aload_n 0, 1) by decide +kernel) rfl (lv_at hl 0 rfl) ?_
  refine lv_bipush (v := 16) hx hb (show decode cX10_init 13 = .ok (.bipush 16, 2) by decide +kernel) (by decide) ?_
  refine ct_newI (N := 16) C V (sy_inT (sy_i1 (List.mem_of_getElem? (i := 77) (by decide +kernel))) rfl) (by decide) (by decide) (by decide) (Nat.le_of_ble_eq_true rfl) (Nat.le_of_ble_eq_true rfl) (show decode cX10_init 15 = .ok (.newarray .int, 2) by decide +kernel) (fun q2 H V => ?_)
  have V : ct_V X A s (((h0, .inr (10, [.ref q1, .null, .null, .int 0, .int 0, .int 0, .int 0, .int 0])) :: [(q1, .inl (X.2.1 0, 40, .inl fun _ => 0)), (q2, .inl (X.2.1 0, 16, .inl fun _ => 0))])) H locs := V
  refine ct_putF C hin V 1 (N := 8) (T := TX10) rfl (by decide) (by decide) rfl rfl ⟨rfl, rfl⟩ (by simp) (show decode cX10_init 17 = .ok (.putfield 15, 3) by decide +kernel) (fun H locs V => ?_)
  have V : ct_V X A s (((h0, .inr (10, [.ref q1, .ref q2, .null, .int 0, .int 0, .int 0, .int 0, .int 0])) :: [(q1, .inl (X.2.1 0, 40, .inl fun _ => 0)), (q2, .inl (X.2.1 0, 16, .inl fun _ => 0))])) H locs := V
  refine lv_aload_n hx hb (show decode cX10_init 20 = .ok (.aload_n 0, 1) by decide +kernel) rfl (lv_at hl 0 rfl) ?_
  refine lv_iconst (v := 3) hx hb (show decode cX10_init 21 = .ok (.iconst 3, 1) by decide +kernel) (by decide) ?_
  refine ct_newI (N := 3) C V (sy_inT (sy_i1 (List.mem_of_getElem? (i := 77) (by decide +kernel))) rfl) (by decide) (by decide) (by decide) (Nat.le_of_ble_eq_true rfl) (Nat.le_of_ble_eq_true rfl) (show decode cX10_init 22 = .ok (.newarray .int, 2) by decide +kernel) (fun q3 H V => ?_)
  have V : ct_V X A s (((h0, .inr (10, [.ref q1, .ref q2, .null, .int 0, .int 0, .int 0, .int 0, .int 0])) :: [(q1, .inl (X.2.1 0, 40, .inl fun _ => 0)), (q2, .inl (X.2.1 0, 16, .inl fun _ => 0)), (q3, .inl (X.2.1 0, 3, .inl fun _ => 0))])) H locs := V
  refine ct_putF C hin V 2 (N := 8) (T := TX10) rfl (by decide) (by decide) rfl rfl ⟨rfl, rfl⟩ (by simp) (show decode cX10_init 24 = .ok (.putfield 18, 3) by decide +kernel) (fun H locs V => ?_)
  have V : ct_V X A s (((h0, .inr (10, [.ref q1, .ref q2, .ref q3, .int 0, .int 0, .int 0, .int 0, .int 0])) :: [(q1, .inl (X.2.1 0, 40, .inl fun _ => 0)), (q2, .inl (X.2.1 0, 16, .inl fun _ => 0)), (q3, .inl (X.2.1 0, 3, .inl fun _ => 0))])) H locs := V
  subst hQe
  refine ct_end C hr hlk hA V ?_ ?_ ?_ (show decode cX10_init 27 = .ok (.return_, 1) by decide +kernel)
  · exact ⟨q1, q2, q3, rfl⟩
  · exact Nat.le_of_ble_eq_true rfl
  · exact Nat.le_of_ble_eq_true rfl
