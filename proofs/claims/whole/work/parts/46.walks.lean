/-! walks of Sums and alike (by program: wip/whole/gen/p46.py) -/
set_option maxRecDepth 20000 in
theorem w_x_alike_0 {Q : Option Value → sy_S → Prop} {σ : sy_S} {a : Nat} {b : Nat}   (k1 : sy_E shX mX11_alike (2, [some (.ref a), some (.ref b), some (.int 0)], [], σ) Q) : sy_E shX mX11_alike (0, sy_ent [.ref a, .ref b] 3, [], σ) Q := by
  show sy_E shX mX11_alike (0, [some (.ref a), some (.ref b), none], [], σ) _
  refine sy_bk [(.iconst 0, 0, 0, 0, 0), (.istore_n 2, 0, 0, 0, 0)] (2, [some (.ref a), some (.ref b), some (.int 0)], [], σ) [] (by decide +kernel) rfl trivial ?_
  exact k1

set_option maxRecDepth 20000 in
theorem w_x_alike_2 {Q : Option Value → sy_S → Prop} {σ : sy_S} {a : Nat} {b : Nat} {l2 : Int32} (ha : shX[a]? = some (0, 16, [])) (hb : shX[b]? = some (0, 16, [])) (b1 : ¬ (16 ≤ l2) → vp_in l2 16) (k1 : 16 ≤ l2 → Q (some (.int 1)) σ) (k2 : ¬ (16 ≤ l2) → (σ.1 a l2.toNatClampNeg) = (σ.1 b l2.toNatClampNeg) → sy_E shX mX11_alike (2, [some (.ref a), some (.ref b), some (.int (l2 + 1))], [], σ) Q) (k3 : ¬ (16 ≤ l2) → ¬ ((σ.1 a l2.toNatClampNeg) = (σ.1 b l2.toNatClampNeg)) → Q (some (.int 0)) σ) : sy_E shX mX11_alike (2, [some (.ref a), some (.ref b), some (.int l2)], [], σ) Q := by
  refine sy_bk [(.iload_n 2, 0, 0, 0, 0), (.bipush 16, 0, 0, 16, 0)] (5, [some (.ref a), some (.ref b), some (.int l2)], [.int 16, .int l2], σ) [] (by decide +kernel) rfl trivial ?_
  by_cases c1 : 16 ≤ l2
  · refine sy_bk [(.if_icmp .ge 20, 1, 25, 0, 0)] (25, [some (.ref a), some (.ref b), some (.int l2)], [], σ) [sy_cc .ge l2 16] (by decide +kernel) rfl ⟨c1, trivial⟩ ?_
    refine sy_bk [(.iconst 1, 0, 0, 1, 0)] (26, [some (.ref a), some (.ref b), some (.int l2)], [.int 1], σ) [] (by decide +kernel) rfl trivial ?_
    exact sy_retz rfl (by decide +kernel) (Or.inr rfl) (k1 c1)
  · refine sy_bk [(.if_icmp .ge 20, 0, 25, 0, 0)] (8, [some (.ref a), some (.ref b), some (.int l2)], [], σ) [¬ sy_cc .ge l2 16] (by decide +kernel) rfl ⟨c1, trivial⟩ ?_
    refine sy_bk [(.aload_n 0, 0, 0, 0, 0), (.iload_n 2, 0, 0, 0, 0), (.iaload, 0, 0, 0, 0), (.aload_n 1, 0, 0, 0, 0), (.iload_n 2, 0, 0, 0, 0), (.iaload, 0, 0, 0, 0)] (14, [some (.ref a), some (.ref b), some (.int l2)], [.int (σ.1 b l2.toNatClampNeg), .int (σ.1 a l2.toNatClampNeg)], σ) [sy_okA shX 0 a l2, sy_okA shX 0 b l2] (by decide +kernel) rfl ⟨⟨16, _, ha, (b1 c1)⟩, ⟨16, _, hb, (b1 c1)⟩, trivial⟩ ?_
    by_cases c2 : (σ.1 a l2.toNatClampNeg) = (σ.1 b l2.toNatClampNeg)
    · refine sy_bk [(.if_icmp .eq 5, 1, 19, 0, 0)] (19, [some (.ref a), some (.ref b), some (.int l2)], [], σ) [sy_cc .eq (σ.1 a l2.toNatClampNeg) (σ.1 b l2.toNatClampNeg)] (by decide +kernel) rfl ⟨c2, trivial⟩ ?_
      refine sy_bk [(.iinc 2 1, 0, 0, 1, 0), (.goto (-20), 0, 2, 0, 0)] (2, [some (.ref a), some (.ref b), some (.int (l2 + 1))], [], σ) [] (by decide +kernel) rfl trivial ?_
      exact k2 c1 c2
    · refine sy_bk [(.if_icmp .eq 5, 0, 19, 0, 0)] (17, [some (.ref a), some (.ref b), some (.int l2)], [], σ) [¬ sy_cc .eq (σ.1 a l2.toNatClampNeg) (σ.1 b l2.toNatClampNeg)] (by decide +kernel) rfl ⟨c2, trivial⟩ ?_
      refine sy_bk [(.iconst 0, 0, 0, 0, 0)] (18, [some (.ref a), some (.ref b), some (.int l2)], [.int 0], σ) [] (by decide +kernel) rfl trivial ?_
      exact sy_retz rfl (by decide +kernel) (Or.inl rfl) (k3 c1 c2)

set_option maxRecDepth 20000 in
theorem w_x_add_0 {Q : Option Value → sy_S → Prop} {σ : sy_S} {a : Nat} {b : Nat}   (k1 : sy_E shX mX8_add (2, [some (.ref 48), some (.ref a), some (.ref b), some (.int 0)], [], σ) Q) : sy_E shX mX8_add (0, sy_ent [.ref 48, .ref a, .ref b] 4, [], σ) Q := by
  show sy_E shX mX8_add (0, [some (.ref 48), some (.ref a), some (.ref b), none], [], σ) _
  refine sy_bk [(.iconst 0, 0, 0, 0, 0), (.istore_n 3, 0, 0, 0, 0)] (2, [some (.ref 48), some (.ref a), some (.ref b), some (.int 0)], [], σ) [] (by decide +kernel) rfl trivial ?_
  exact k1

set_option maxRecDepth 20000 in
theorem w_x_add_2 {Q : Option Value → sy_S → Prop} {σ : sy_S} {a : Nat} {b : Nat} {l3 : Int32} (ha : shX[a]? = some (0, 16, [])) (hb : shX[b]? = some (0, 16, [])) (b1 : ¬ (16 ≤ l3) → vp_in l3 16) (k1 : 16 ≤ l3 → sy_E shX mX1_begin (0, sy_ent [.ref 39, .ref 52] 2, [], σ) (fun r9 σ9 => sy_E shX mX8_add (38, [some (.ref 48), none, none, none], r9.toList ++ [], σ9) Q)) (k2 : ¬ (16 ≤ l3) → sy_E shX mX8_add (2, [some (.ref 48), some (.ref a), some (.ref b), some (.int (l3 + 1))], [], (sy_up σ.1 52 l3.toNatClampNeg ((σ.1 a l3.toNatClampNeg) + (σ.1 b l3.toNatClampNeg)), σ.2)) Q) : sy_E shX mX8_add (2, [some (.ref 48), some (.ref a), some (.ref b), some (.int l3)], [], σ) Q := by
  refine sy_bk [(.iload_n 3, 0, 0, 0, 0), (.bipush 16, 0, 0, 16, 0)] (5, [some (.ref 48), some (.ref a), some (.ref b), some (.int l3)], [.int 16, .int l3], σ) [] (by decide +kernel) rfl trivial ?_
  by_cases c1 : 16 ≤ l3
  · refine sy_bk [(.if_icmp .ge 22, 1, 27, 0, 0)] (27, [some (.ref 48), some (.ref a), some (.ref b), some (.int l3)], [], σ) [sy_cc .ge l3 16] (by decide +kernel) rfl ⟨c1, trivial⟩ ?_
    refine sy_bk [(.aload_n 0, 0, 0, 0, 0), (.getfield 28, 8, 1, 0, 0), (.aload_n 0, 0, 0, 0, 0), (.getfield 21, 8, 5, 0, 0)] (35, [some (.ref 48), some (.ref a), some (.ref b), some (.int l3)], [.ref 52, .ref 39], σ) [] (by decide +kernel) rfl trivial ?_
    refine sy_drop [some (.ref 48), none, none, none] ⟨rfl, trivial⟩ ?_
    refine sy_callV mX1_begin 39 [.ref 52] [] kX1_begin jX8_32 (by decide +kernel) rfl rfl (Nat.le_of_ble_eq_true rfl) (Nat.le_of_ble_eq_true rfl) (by decide) rfl ?_
    exact k1 c1
  · refine sy_bk [(.if_icmp .ge 22, 0, 27, 0, 0)] (8, [some (.ref 48), some (.ref a), some (.ref b), some (.int l3)], [], σ) [¬ sy_cc .ge l3 16] (by decide +kernel) rfl ⟨c1, trivial⟩ ?_
    refine sy_bk [(.aload_n 0, 0, 0, 0, 0), (.getfield 21, 8, 5, 0, 0), (.iload_n 3, 0, 0, 0, 0), (.aload_n 1, 0, 0, 0, 0), (.iload_n 3, 0, 0, 0, 0), (.iaload, 0, 0, 0, 0), (.aload_n 2, 0, 0, 0, 0), (.iload_n 3, 0, 0, 0, 0), (.iaload, 0, 0, 0, 0), (.iadd, 0, 0, 0, 0), (.iastore, 0, 0, 0, 0), (.iinc 3 1, 0, 0, 1, 0), (.goto (-22), 0, 2, 0, 0)] (2, [some (.ref 48), some (.ref a), some (.ref b), some (.int (l3 + 1))], [], (sy_up σ.1 52 l3.toNatClampNeg ((σ.1 a l3.toNatClampNeg) + (σ.1 b l3.toNatClampNeg)), σ.2)) [sy_okA shX 0 a l3, sy_okA shX 0 b l3, sy_okA shX 0 52 l3] (by decide +kernel) rfl ⟨⟨16, _, ha, (b1 c1)⟩, ⟨16, _, hb, (b1 c1)⟩, ⟨16, _, rfl, (b1 c1)⟩, trivial⟩ ?_
    exact k2 c1

set_option maxRecDepth 20000 in
theorem w_x_add_38 {Q : Option Value → sy_S → Prop} {σ : sy_S}    (k1 : sy_E shX mX1_level (0, sy_ent [.ref 39] 9, [], σ) (fun r9 σ9 => sy_E shX mX8_add (45, [none, none, none, none], r9.toList ++ [], σ9) Q)) : sy_E shX mX8_add (38, [some (.ref 48), none, none, none], [], σ) Q := by
  refine sy_bk [(.aload_n 0, 0, 0, 0, 0), (.getfield 28, 8, 1, 0, 0)] (42, [some (.ref 48), none, none, none], [.ref 39], σ) [] (by decide +kernel) rfl trivial ?_
  refine sy_drop [none, none, none, none] trivial ?_
  refine sy_callV mX1_level 39 [] [] kX1_level jX8_38 (by decide +kernel) rfl rfl (Nat.le_of_ble_eq_true rfl) (Nat.le_of_ble_eq_true rfl) (by decide) rfl ?_
  exact k1

set_option maxRecDepth 20000 in
theorem w_x_add_45 {Q : Option Value → sy_S → Prop} {σ : sy_S} {v : Int32}   (k1 : Q (some (.int v)) σ) : sy_E shX mX8_add (45, [none, none, none, none], [.int v], σ) Q := by
  exact sy_reti rfl (by decide +kernel) (k1)

set_option maxRecDepth 20000 in
theorem w_x_addInto_0 {Q : Option Value → sy_S → Prop} {σ : sy_S} {t : Nat} {a : Nat} {b : Nat}   (k1 : sy_E shX mX8_add (0, sy_ent [.ref 48, .ref a, .ref b] 4, [], σ) (fun r9 σ9 => sy_E shX mX8_addInto (6, [some (.ref 48), some (.ref t), none, none], r9.toList ++ [], σ9) Q)) : sy_E shX mX8_addInto (0, sy_ent [.ref 48, .ref t, .ref a, .ref b] 4, [], σ) Q := by
  show sy_E shX mX8_addInto (0, [some (.ref 48), some (.ref t), some (.ref a), some (.ref b)], [], σ) _
  refine sy_bk [(.aload_n 0, 0, 0, 0, 0), (.aload_n 2, 0, 0, 0, 0), (.aload_n 3, 0, 0, 0, 0)] (3, [some (.ref 48), some (.ref t), some (.ref a), some (.ref b)], [.ref b, .ref a, .ref 48], σ) [] (by decide +kernel) rfl trivial ?_
  refine sy_drop [some (.ref 48), some (.ref t), none, none] ⟨rfl, rfl, trivial⟩ ?_
  refine sy_callV mX8_add 48 [.ref a, .ref b] [] kX8_add jX8_42 (by decide +kernel) rfl rfl (Nat.le_of_ble_eq_true rfl) (Nat.le_of_ble_eq_true rfl) (by decide) rfl ?_
  exact k1

set_option maxRecDepth 20000 in
theorem w_x_addInto_6 {Q : Option Value → sy_S → Prop} {σ : sy_S} {t : Nat} {v : Int32}   (k1 : sy_E shX mX1_copyTo (0, sy_ent [.ref 39, .ref t] 2, [], σ) (fun r9 σ9 => sy_E shX mX8_addInto (15, [none, none, none, none], r9.toList ++ [], σ9) Q)) : sy_E shX mX8_addInto (6, [some (.ref 48), some (.ref t), none, none], [.int v], σ) Q := by
  refine sy_bk [(.pop, 0, 0, 0, 0), (.aload_n 0, 0, 0, 0, 0), (.getfield 28, 8, 1, 0, 0), (.aload_n 1, 0, 0, 0, 0)] (12, [some (.ref 48), some (.ref t), none, none], [.ref t, .ref 39], σ) [] (by decide +kernel) rfl trivial ?_
  refine sy_drop [none, none, none, none] trivial ?_
  refine sy_callV mX1_copyTo 39 [.ref t] [] kX1_copyTo jX8_46 (by decide +kernel) rfl rfl (Nat.le_of_ble_eq_true rfl) (Nat.le_of_ble_eq_true rfl) (by decide) rfl ?_
  exact k1

set_option maxRecDepth 20000 in
theorem w_x_addInto_15 {Q : Option Value → sy_S → Prop} {σ : sy_S}    (k1 : Q none σ) : sy_E shX mX8_addInto (15, [none, none, none, none], [], σ) Q := by
  exact sy_retv rfl (by decide +kernel) (k1)

set_option maxRecDepth 20000 in
theorem w_x_cpRes_0 {Q : Option Value → sy_S → Prop} {σ : sy_S} {t : Nat} (ht : shX[t]? = some (0, 16, []))  (k1 : Q none (sy_cp σ.1 50 t 16, σ.2)) : sy_E shX mX8_copyResultTo (0, sy_ent [.ref 48, .ref t] 2, [], σ) Q := by
  show sy_E shX mX8_copyResultTo (0, [some (.ref 48), some (.ref t)], [], σ) _
  refine sy_bk [(.aload_n 0, 0, 0, 0, 0), (.getfield 15, 8, 3, 0, 0), (.iconst 0, 0, 0, 0, 0), (.aload_n 1, 0, 0, 0, 0), (.iconst 0, 0, 0, 0, 0), (.bipush 16, 0, 0, 16, 0)] (9, [some (.ref 48), some (.ref t)], [.int 16, .int 0, .ref t, .int 0, .ref 50], σ) [] (by decide +kernel) rfl trivial ?_
  refine sy_copy [] jX8_49 (by decide +kernel) rfl rfl ht (by decide) (by decide) (Nat.le_of_ble_eq_true rfl) (by decide) (by decide) ?_
  show sy_E shX mX8_copyResultTo (12, [some (.ref 48), some (.ref t)], [], (sy_cp σ.1 50 t 16, σ.2)) _
  exact sy_retv rfl (by decide +kernel) (k1)

set_option maxRecDepth 20000 in
theorem w_x_start_0 {Q : Option Value → sy_S → Prop} {σ : sy_S}    (k1 : sy_E shX mX8_layFullZero (0, sy_ent [.ref 48] 2, [], σ) (fun r9 σ9 => sy_E shX mX8_startAtNought (4, [some (.ref 48)], r9.toList ++ [], σ9) Q)) : sy_E shX mX8_startAtNought (0, sy_ent [.ref 48] 1, [], σ) Q := by
  show sy_E shX mX8_startAtNought (0, [some (.ref 48)], [], σ) _
  refine sy_bk [(.aload_n 0, 0, 0, 0, 0)] (1, [some (.ref 48)], [.ref 48], σ) [] (by decide +kernel) rfl trivial ?_
  refine sy_callV mX8_layFullZero 48 [] [] kX8_layFullZero jX8_55 (by decide +kernel) rfl rfl (Nat.le_of_ble_eq_true rfl) (Nat.le_of_ble_eq_true rfl) (by decide) rfl ?_
  exact k1

set_option maxRecDepth 20000 in
theorem w_x_start_4 {Q : Option Value → sy_S → Prop} {σ : sy_S}    (k1 : sy_E shX mX8_settleResult (0, sy_ent [.ref 48] 1, [], σ) (fun r9 σ9 => sy_E shX mX8_startAtNought (8, [some (.ref 48)], r9.toList ++ [], σ9) Q)) : sy_E shX mX8_startAtNought (4, [some (.ref 48)], [], σ) Q := by
  refine sy_bk [(.aload_n 0, 0, 0, 0, 0)] (5, [some (.ref 48)], [.ref 48], σ) [] (by decide +kernel) rfl trivial ?_
  refine sy_callV mX8_settleResult 48 [] [] kX8_settleResult jX8_58 (by decide +kernel) rfl rfl (Nat.le_of_ble_eq_true rfl) (Nat.le_of_ble_eq_true rfl) (by decide) rfl ?_
  exact k1

set_option maxRecDepth 20000 in
theorem w_x_start_8 {Q : Option Value → sy_S → Prop} {σ : sy_S}    (k1 : sy_E shX mX8_copyResultTo (0, sy_ent [.ref 48, .ref 49] 2, [], σ) (fun r9 σ9 => sy_E shX mX8_startAtNought (16, [none], r9.toList ++ [], σ9) Q)) : sy_E shX mX8_startAtNought (8, [some (.ref 48)], [], σ) Q := by
  refine sy_bk [(.aload_n 0, 0, 0, 0, 0), (.aload_n 0, 0, 0, 0, 0), (.getfield 9, 8, 2, 0, 0)] (13, [some (.ref 48)], [.ref 49, .ref 48], σ) [] (by decide +kernel) rfl trivial ?_
  refine sy_drop [none] trivial ?_
  refine sy_callV mX8_copyResultTo 48 [.ref 49] [] kX8_copyResultTo jX8_61 (by decide +kernel) rfl rfl (Nat.le_of_ble_eq_true rfl) (Nat.le_of_ble_eq_true rfl) (by decide) rfl ?_
  exact k1

set_option maxRecDepth 20000 in
theorem w_x_start_16 {Q : Option Value → sy_S → Prop} {σ : sy_S}    (k1 : Q none σ) : sy_E shX mX8_startAtNought (16, [none], [], σ) Q := by
  exact sy_retv rfl (by decide +kernel) (k1)

set_option maxRecDepth 20000 in
theorem w_x_layZ_0 {Q : Option Value → sy_S → Prop} {σ : sy_S}    (k1 : sy_E shX mJ7_fill_53178 (0, sy_ent [.ref 50, .int 0] 4, [], σ) (fun r9 σ9 => sy_E shX mX8_layFullZero (8, [some (.ref 48), none], r9.toList ++ [], σ9) Q)) : sy_E shX mX8_layFullZero (0, sy_ent [.ref 48] 2, [], σ) Q := by
  show sy_E shX mX8_layFullZero (0, [some (.ref 48), none], [], σ) _
  refine sy_bk [(.aload_n 0, 0, 0, 0, 0), (.getfield 15, 8, 3, 0, 0), (.iconst 0, 0, 0, 0, 0)] (5, [some (.ref 48), none], [.int 0, .ref 50], σ) [] (by decide +kernel) rfl trivial ?_
  refine sy_callS mJ7_fill_53178 [.ref 50, .int 0] [] kJ7_fill_53178 jX8_64 (by decide +kernel) rfl rfl (Nat.le_of_ble_eq_true rfl) (Nat.le_of_ble_eq_true rfl) (by decide) ?_
  exact k1

set_option maxRecDepth 20000 in
theorem w_x_layZ_8 {Q : Option Value → sy_S → Prop} {σ : sy_S}    (k1 : sy_E shX mX8_layFullZero (10, [some (.ref 48), some (.int 0)], [], σ) Q) : sy_E shX mX8_layFullZero (8, [some (.ref 48), none], [], σ) Q := by
  refine sy_bk [(.iconst 0, 0, 0, 0, 0), (.istore_n 1, 0, 0, 0, 0)] (10, [some (.ref 48), some (.int 0)], [], σ) [] (by decide +kernel) rfl trivial ?_
  exact k1

set_option maxRecDepth 20000 in
theorem w_x_layZ_10 {Q : Option Value → sy_S → Prop} {σ : sy_S} {l1 : Int32}  (b1 : ¬ ((σ.1 0 7) ≤ l1) → vp_in l1 16) (b2 : ¬ ((σ.1 0 7) ≤ l1) → vp_in (σ.1 2 l1.toNatClampNeg) 16) (k1 : (σ.1 0 7) ≤ l1 → sy_E shX mX1_begin (0, sy_ent [.ref 39, .ref 50] 2, [], σ) (fun r9 σ9 => sy_E shX mX8_layFullZero (53, [some (.ref 48), none], r9.toList ++ [], σ9) Q)) (k2 : ¬ ((σ.1 0 7) ≤ l1) → sy_E shX mX8_layFullZero (10, [some (.ref 48), some (.int (l1 + 1))], [], (sy_up σ.1 50 ((σ.1 2 l1.toNatClampNeg).toNatClampNeg) 6, σ.2)) Q) : sy_E shX mX8_layFullZero (10, [some (.ref 48), some (.int l1)], [], σ) Q := by
  refine sy_bk [(.iload_n 1, 0, 0, 0, 0), (.aload_n 0, 0, 0, 0, 0), (.getfield 24, 8, 0, 0, 0)] (15, [some (.ref 48), some (.int l1)], [.ref 0, .int l1], σ) [] (by decide +kernel) rfl trivial ?_
  refine sy_callV mX3_placeCount 0 [] [.int l1] kX3_placeCount jX8_70 (by decide +kernel) rfl rfl (Nat.le_of_ble_eq_true rfl) (Nat.le_of_ble_eq_true rfl) (by decide) rfl ?_
  refine w_x_placeCount (σ := σ) ?_
  show sy_E shX mX8_layFullZero (18, [some (.ref 48), some (.int l1)], [.int (σ.1 0 7), .int l1], σ) _
  by_cases c1 : (σ.1 0 7) ≤ l1
  · refine sy_bk [(.if_icmp .ge 24, 1, 42, 0, 0)] (42, [some (.ref 48), some (.int l1)], [], σ) [sy_cc .ge l1 (σ.1 0 7)] (by decide +kernel) rfl ⟨c1, trivial⟩ ?_
    refine sy_bk [(.aload_n 0, 0, 0, 0, 0), (.getfield 28, 8, 1, 0, 0), (.aload_n 0, 0, 0, 0, 0), (.getfield 15, 8, 3, 0, 0)] (50, [some (.ref 48), some (.int l1)], [.ref 50, .ref 39], σ) [] (by decide +kernel) rfl trivial ?_
    refine sy_drop [some (.ref 48), none] ⟨rfl, trivial⟩ ?_
    refine sy_callV mX1_begin 39 [.ref 50] [] kX1_begin jX8_32 (by decide +kernel) rfl rfl (Nat.le_of_ble_eq_true rfl) (Nat.le_of_ble_eq_true rfl) (by decide) rfl ?_
    exact k1 c1
  · refine sy_bk [(.if_icmp .ge 24, 0, 42, 0, 0)] (21, [some (.ref 48), some (.int l1)], [], σ) [¬ sy_cc .ge l1 (σ.1 0 7)] (by decide +kernel) rfl ⟨c1, trivial⟩ ?_
    refine sy_bk [(.aload_n 0, 0, 0, 0, 0), (.getfield 15, 8, 3, 0, 0), (.aload_n 0, 0, 0, 0, 0), (.getfield 24, 8, 0, 0, 0), (.iload_n 1, 0, 0, 0, 0)] (30, [some (.ref 48), some (.int l1)], [.int l1, .ref 0, .ref 50], σ) [] (by decide +kernel) rfl trivial ?_
    refine sy_callV mX3_placeAt 0 [.int l1] [.ref 50] kX3_placeAt jX8_75 (by decide +kernel) rfl rfl (Nat.le_of_ble_eq_true rfl) (Nat.le_of_ble_eq_true rfl) (by decide) rfl ?_
    refine w_x_placeAt (σ := σ) (cell := l1) (b1 c1) ?_
    show sy_E shX mX8_layFullZero (33, [some (.ref 48), some (.int l1)], [.int (σ.1 2 l1.toNatClampNeg), .ref 50], σ) _
    refine sy_bk [(.bipush 6, 0, 0, 6, 0), (.iastore, 0, 0, 0, 0), (.iinc 1 1, 0, 0, 1, 0), (.goto (-29), 0, 10, 0, 0)] (10, [some (.ref 48), some (.int (l1 + 1))], [], (sy_up σ.1 50 ((σ.1 2 l1.toNatClampNeg).toNatClampNeg) 6, σ.2)) [sy_okA shX 0 50 (σ.1 2 l1.toNatClampNeg)] (by decide +kernel) rfl ⟨⟨16, _, rfl, (b2 c1)⟩, trivial⟩ ?_
    exact k2 c1

set_option maxRecDepth 20000 in
theorem w_x_layZ_53 {Q : Option Value → sy_S → Prop} {σ : sy_S}    (k1 : sy_E shX mX1_level (0, sy_ent [.ref 39] 9, [], σ) (fun r9 σ9 => sy_E shX mX8_layFullZero (60, [some (.ref 48), none], r9.toList ++ [], σ9) Q)) : sy_E shX mX8_layFullZero (53, [some (.ref 48), none], [], σ) Q := by
  refine sy_bk [(.aload_n 0, 0, 0, 0, 0), (.getfield 28, 8, 1, 0, 0)] (57, [some (.ref 48), none], [.ref 39], σ) [] (by decide +kernel) rfl trivial ?_
  refine sy_callV mX1_level 39 [] [] kX1_level jX8_38 (by decide +kernel) rfl rfl (Nat.le_of_ble_eq_true rfl) (Nat.le_of_ble_eq_true rfl) (by decide) rfl ?_
  exact k1

set_option maxRecDepth 20000 in
theorem w_x_layZ_60 {Q : Option Value → sy_S → Prop} {σ : sy_S} {v : Int32}   (k1 : sy_E shX mX8_layFullZero (63, [some (.ref 48), some (.int 0)], [], σ) Q) : sy_E shX mX8_layFullZero (60, [some (.ref 48), none], [.int v], σ) Q := by
  refine sy_bk [(.pop, 0, 0, 0, 0), (.iconst 0, 0, 0, 0, 0), (.istore_n 1, 0, 0, 0, 0)] (63, [some (.ref 48), some (.int 0)], [], σ) [] (by decide +kernel) rfl trivial ?_
  exact k1

set_option maxRecDepth 20000 in
theorem w_x_layZ_63 {Q : Option Value → sy_S → Prop} {σ : sy_S} {l1 : Int32}  (b1 : ¬ (16 ≤ l1) → vp_in l1 16) (k1 : 16 ≤ l1 → Q none σ) (k2 : ¬ (16 ≤ l1) → sy_E shX mX1_heightAt (0, sy_ent [.ref 39, .int l1] 2, [], σ) (fun r9 σ9 => sy_E shX mX8_layFullZero (84, [some (.ref 48), some (.int l1)], r9.toList ++ [.int (σ.1 50 l1.toNatClampNeg), .int l1, .ref 50], σ9) Q)) : sy_E shX mX8_layFullZero (63, [some (.ref 48), some (.int l1)], [], σ) Q := by
  refine sy_bk [(.iload_n 1, 0, 0, 0, 0), (.bipush 16, 0, 0, 16, 0)] (66, [some (.ref 48), some (.int l1)], [.int 16, .int l1], σ) [] (by decide +kernel) rfl trivial ?_
  by_cases c1 : 16 ≤ l1
  · refine sy_bk [(.if_icmp .ge 26, 1, 92, 0, 0)] (92, [some (.ref 48), some (.int l1)], [], σ) [sy_cc .ge l1 16] (by decide +kernel) rfl ⟨c1, trivial⟩ ?_
    exact sy_retv rfl (by decide +kernel) (k1 c1)
  · refine sy_bk [(.if_icmp .ge 26, 0, 92, 0, 0)] (69, [some (.ref 48), some (.int l1)], [], σ) [¬ sy_cc .ge l1 16] (by decide +kernel) rfl ⟨c1, trivial⟩ ?_
    refine sy_bk [(.aload_n 0, 0, 0, 0, 0), (.getfield 15, 8, 3, 0, 0), (.iload_n 1, 0, 0, 0, 0), (.dup2, 0, 0, 0, 0), (.iaload, 0, 0, 0, 0), (.aload_n 0, 0, 0, 0, 0), (.getfield 28, 8, 1, 0, 0), (.iload_n 1, 0, 0, 0, 0)] (81, [some (.ref 48), some (.int l1)], [.int l1, .ref 39, .int (σ.1 50 l1.toNatClampNeg), .int l1, .ref 50], σ) [sy_okA shX 0 50 l1] (by decide +kernel) rfl ⟨⟨16, _, rfl, (b1 c1)⟩, trivial⟩ ?_
    refine sy_callV mX1_heightAt 39 [.int l1] [.int (σ.1 50 l1.toNatClampNeg), .int l1, .ref 50] kX1_heightAt jX8_79 (by decide +kernel) rfl rfl (Nat.le_of_ble_eq_true rfl) (Nat.le_of_ble_eq_true rfl) (by decide) rfl ?_
    exact k2 c1

set_option maxRecDepth 20000 in
theorem w_x_layZ_84 {Q : Option Value → sy_S → Prop} {σ : sy_S} {l1 : Int32} {s0 : Int32} {s1 : Int32} {v : Int32}  (b1 : vp_in s1 16) (k1 : sy_E shX mX8_layFullZero (63, [some (.ref 48), some (.int (l1 + 1))], [], (sy_up σ.1 50 s1.toNatClampNeg (s0 - v), σ.2)) Q) : sy_E shX mX8_layFullZero (84, [some (.ref 48), some (.int l1)], [.int v, .int s0, .int s1, .ref 50], σ) Q := by
  refine sy_bk [(.isub, 0, 0, 0, 0), (.iastore, 0, 0, 0, 0), (.iinc 1 1, 0, 0, 1, 0), (.goto (-26), 0, 63, 0, 0)] (63, [some (.ref 48), some (.int (l1 + 1))], [], (sy_up σ.1 50 s1.toNatClampNeg (s0 - v), σ.2)) [sy_okA shX 0 50 s1] (by decide +kernel) rfl ⟨⟨16, _, rfl, b1⟩, trivial⟩ ?_
  exact k1

set_option maxRecDepth 20000 in
theorem w_x_setR_0 {Q : Option Value → sy_S → Prop} {σ : sy_S}    (k1 : sy_E shX mX1_begin (0, sy_ent [.ref 39, .ref 50] 2, [], σ) (fun r9 σ9 => sy_E shX mX8_settleResult (11, [some (.ref 48)], r9.toList ++ [], σ9) Q)) : sy_E shX mX8_settleResult (0, sy_ent [.ref 48] 1, [], σ) Q := by
  show sy_E shX mX8_settleResult (0, [some (.ref 48)], [], σ) _
  refine sy_bk [(.aload_n 0, 0, 0, 0, 0), (.getfield 28, 8, 1, 0, 0), (.aload_n 0, 0, 0, 0, 0), (.getfield 15, 8, 3, 0, 0)] (8, [some (.ref 48)], [.ref 50, .ref 39], σ) [] (by decide +kernel) rfl trivial ?_
  refine sy_callV mX1_begin 39 [.ref 50] [] kX1_begin jX8_32 (by decide +kernel) rfl rfl (Nat.le_of_ble_eq_true rfl) (Nat.le_of_ble_eq_true rfl) (by decide) rfl ?_
  exact k1

set_option maxRecDepth 20000 in
theorem w_x_setR_11 {Q : Option Value → sy_S → Prop} {σ : sy_S}    (k1 : sy_E shX mX1_level (0, sy_ent [.ref 39] 9, [], σ) (fun r9 σ9 => sy_E shX mX8_settleResult (18, [some (.ref 48)], r9.toList ++ [], σ9) Q)) : sy_E shX mX8_settleResult (11, [some (.ref 48)], [], σ) Q := by
  refine sy_bk [(.aload_n 0, 0, 0, 0, 0), (.getfield 28, 8, 1, 0, 0)] (15, [some (.ref 48)], [.ref 39], σ) [] (by decide +kernel) rfl trivial ?_
  refine sy_callV mX1_level 39 [] [] kX1_level jX8_38 (by decide +kernel) rfl rfl (Nat.le_of_ble_eq_true rfl) (Nat.le_of_ble_eq_true rfl) (by decide) rfl ?_
  exact k1

set_option maxRecDepth 20000 in
theorem w_x_setR_18 {Q : Option Value → sy_S → Prop} {σ : sy_S} {v : Int32}   (k1 : sy_E shX mX1_copyTo (0, sy_ent [.ref 39, .ref 50] 2, [], σ) (fun r9 σ9 => sy_E shX mX8_settleResult (30, [none], r9.toList ++ [], σ9) Q)) : sy_E shX mX8_settleResult (18, [some (.ref 48)], [.int v], σ) Q := by
  refine sy_bk [(.pop, 0, 0, 0, 0), (.aload_n 0, 0, 0, 0, 0), (.getfield 28, 8, 1, 0, 0), (.aload_n 0, 0, 0, 0, 0), (.getfield 15, 8, 3, 0, 0)] (27, [some (.ref 48)], [.ref 50, .ref 39], σ) [] (by decide +kernel) rfl trivial ?_
  refine sy_drop [none] trivial ?_
  refine sy_callV mX1_copyTo 39 [.ref 50] [] kX1_copyTo jX8_46 (by decide +kernel) rfl rfl (Nat.le_of_ble_eq_true rfl) (Nat.le_of_ble_eq_true rfl) (by decide) rfl ?_
  exact k1

set_option maxRecDepth 20000 in
theorem w_x_setR_30 {Q : Option Value → sy_S → Prop} {σ : sy_S}    (k1 : Q none σ) : sy_E shX mX8_settleResult (30, [none], [], σ) Q := by
  exact sy_retv rfl (by decide +kernel) (k1)

set_option maxRecDepth 20000 in
theorem w_x_mult_0 {Q : Option Value → sy_S → Prop} {σ : sy_S} {a : Nat} {n : Int32}   (k1 : sy_E shX mX8_startAtNought (0, sy_ent [.ref 48] 1, [], σ) (fun r9 σ9 => sy_E shX mX8_multiply (4, [some (.ref 48), some (.ref a), some (.int n), none, none], r9.toList ++ [], σ9) Q)) : sy_E shX mX8_multiply (0, sy_ent [.ref 48, .ref a, .int n] 5, [], σ) Q := by
  show sy_E shX mX8_multiply (0, [some (.ref 48), some (.ref a), some (.int n), none, none], [], σ) _
  refine sy_bk [(.aload_n 0, 0, 0, 0, 0)] (1, [some (.ref 48), some (.ref a), some (.int n), none, none], [.ref 48], σ) [] (by decide +kernel) rfl trivial ?_
  refine sy_callV mX8_startAtNought 48 [] [] kX8_startAtNought jX8_82 (by decide +kernel) rfl rfl (Nat.le_of_ble_eq_true rfl) (Nat.le_of_ble_eq_true rfl) (by decide) rfl ?_
  exact k1

set_option maxRecDepth 20000 in
theorem w_x_mult_4 {Q : Option Value → sy_S → Prop} {σ : sy_S} {a : Nat} {l2 : Int32} (ha : shX[a]? = some (0, 16, []))  (k1 : sy_E shX mX8_multiply (21, [some (.ref 48), none, none, some (.int l2), some (.int 0)], [], (sy_cp σ.1 a 51 16, σ.2)) Q) : sy_E shX mX8_multiply (4, [some (.ref 48), some (.ref a), some (.int l2), none, none], [], σ) Q := by
  refine sy_bk [(.aload_n 1, 0, 0, 0, 0), (.iconst 0, 0, 0, 0, 0), (.aload_n 0, 0, 0, 0, 0), (.getfield 18, 8, 4, 0, 0), (.iconst 0, 0, 0, 0, 0), (.bipush 16, 0, 0, 16, 0)] (13, [some (.ref 48), some (.ref a), some (.int l2), none, none], [.int 16, .int 0, .ref 51, .int 0, .ref a], σ) [] (by decide +kernel) rfl trivial ?_
  refine sy_copy [] jX8_49 (by decide +kernel) rfl ha rfl (by decide) (by decide) (Nat.le_of_ble_eq_true rfl) (by decide) (by decide) ?_
  show sy_E shX mX8_multiply (16, [some (.ref 48), some (.ref a), some (.int l2), none, none], [], (sy_cp σ.1 a 51 16, σ.2)) _
  refine sy_bk [(.iload_n 2, 0, 0, 0, 0), (.istore_n 3, 0, 0, 0, 0), (.iconst 0, 0, 0, 0, 0), (.istore 4, 0, 0, 0, 0)] (21, [some (.ref 48), some (.ref a), some (.int l2), some (.int l2), some (.int 0)], [], (sy_cp σ.1 a 51 16, σ.2)) [] (by decide +kernel) rfl trivial ?_
  refine sy_drop [some (.ref 48), none, none, some (.int l2), some (.int 0)] ⟨rfl, rfl, rfl, trivial⟩ ?_
  exact k1

set_option maxRecDepth 20000 in
theorem w_x_mult_21 {Q : Option Value → sy_S → Prop} {σ : sy_S} {l3 : Int32} {l4 : Int32}   (k1 : 31 ≤ l4 → Q none σ) (k2 : ¬ (31 ≤ l4) → l3 ≤ 0 → Q none σ) (k3 : ¬ (31 ≤ l4) → ¬ (l3 ≤ 0) → (l3 &&& 1) = 0 → sy_E shX mX8_addInto (0, sy_ent [.ref 48, .ref 51, .ref 51, .ref 51] 4, [], σ) (fun r9 σ9 => sy_E shX mX8_multiply (70, [some (.ref 48), none, none, some (.int l3), some (.int l4)], r9.toList ++ [], σ9) Q)) (k4 : ¬ (31 ≤ l4) → ¬ (l3 ≤ 0) → ¬ ((l3 &&& 1) = 0) → sy_E shX mX8_addInto (0, sy_ent [.ref 48, .ref 50, .ref 50, .ref 51] 4, [], σ) (fun r9 σ9 => sy_E shX mX8_multiply (54, [some (.ref 48), none, none, some (.int l3), some (.int l4)], r9.toList ++ [], σ9) Q)) : sy_E shX mX8_multiply (21, [some (.ref 48), none, none, some (.int l3), some (.int l4)], [], σ) Q := by
  refine sy_bk [(.iload 4, 0, 0, 0, 0), (.bipush 31, 0, 0, 31, 0)] (25, [some (.ref 48), none, none, some (.int l3), some (.int l4)], [.int 31, .int l4], σ) [] (by decide +kernel) rfl trivial ?_
  by_cases c1 : 31 ≤ l4
  · refine sy_bk [(.if_icmp .ge 55, 1, 80, 0, 0)] (80, [some (.ref 48), none, none, some (.int l3), some (.int l4)], [], σ) [sy_cc .ge l4 31] (by decide +kernel) rfl ⟨c1, trivial⟩ ?_
    exact sy_retv rfl (by decide +kernel) (k1 c1)
  · refine sy_bk [(.if_icmp .ge 55, 0, 80, 0, 0)] (28, [some (.ref 48), none, none, some (.int l3), some (.int l4)], [], σ) [¬ sy_cc .ge l4 31] (by decide +kernel) rfl ⟨c1, trivial⟩ ?_
    refine sy_bk [(.iload_n 3, 0, 0, 0, 0)] (29, [some (.ref 48), none, none, some (.int l3), some (.int l4)], [.int l3], σ) [] (by decide +kernel) rfl trivial ?_
    by_cases c2 : l3 ≤ 0
    · refine sy_bk [(.ifCond .le 51, 1, 80, 0, 0)] (80, [some (.ref 48), none, none, some (.int l3), some (.int l4)], [], σ) [sy_cc .le l3 0] (by decide +kernel) rfl ⟨c2, trivial⟩ ?_
      exact sy_retv rfl (by decide +kernel) (k2 c1 c2)
    · refine sy_bk [(.ifCond .le 51, 0, 80, 0, 0)] (32, [some (.ref 48), none, none, some (.int l3), some (.int l4)], [], σ) [¬ sy_cc .le l3 0] (by decide +kernel) rfl ⟨c2, trivial⟩ ?_
      refine sy_bk [(.iload_n 3, 0, 0, 0, 0), (.iconst 1, 0, 0, 1, 0), (.iand, 0, 0, 0, 0)] (35, [some (.ref 48), none, none, some (.int l3), some (.int l4)], [.int (l3 &&& 1)], σ) [] (by decide +kernel) rfl trivial ?_
      by_cases c3 : (l3 &&& 1) = 0
      · refine sy_bk [(.ifCond .eq 19, 1, 54, 0, 0)] (54, [some (.ref 48), none, none, some (.int l3), some (.int l4)], [], σ) [sy_cc .eq (l3 &&& 1) 0] (by decide +kernel) rfl ⟨c3, trivial⟩ ?_
        refine sy_bk [(.aload_n 0, 0, 0, 0, 0), (.aload_n 0, 0, 0, 0, 0), (.getfield 18, 8, 4, 0, 0), (.aload_n 0, 0, 0, 0, 0), (.getfield 18, 8, 4, 0, 0), (.aload_n 0, 0, 0, 0, 0), (.getfield 18, 8, 4, 0, 0)] (67, [some (.ref 48), none, none, some (.int l3), some (.int l4)], [.ref 51, .ref 51, .ref 51, .ref 48], σ) [] (by decide +kernel) rfl trivial ?_
        refine sy_callV mX8_addInto 48 [.ref 51, .ref 51, .ref 51] [] kX8_addInto jX8_85 (by decide +kernel) rfl rfl (Nat.le_of_ble_eq_true rfl) (Nat.le_of_ble_eq_true rfl) (by decide) rfl ?_
        exact k3 c1 c2 c3
      · refine sy_bk [(.ifCond .eq 19, 0, 54, 0, 0)] (38, [some (.ref 48), none, none, some (.int l3), some (.int l4)], [], σ) [¬ sy_cc .eq (l3 &&& 1) 0] (by decide +kernel) rfl ⟨c3, trivial⟩ ?_
        refine sy_bk [(.aload_n 0, 0, 0, 0, 0), (.aload_n 0, 0, 0, 0, 0), (.getfield 15, 8, 3, 0, 0), (.aload_n 0, 0, 0, 0, 0), (.getfield 15, 8, 3, 0, 0), (.aload_n 0, 0, 0, 0, 0), (.getfield 18, 8, 4, 0, 0)] (51, [some (.ref 48), none, none, some (.int l3), some (.int l4)], [.ref 51, .ref 50, .ref 50, .ref 48], σ) [] (by decide +kernel) rfl trivial ?_
        refine sy_callV mX8_addInto 48 [.ref 50, .ref 50, .ref 51] [] kX8_addInto jX8_85 (by decide +kernel) rfl rfl (Nat.le_of_ble_eq_true rfl) (Nat.le_of_ble_eq_true rfl) (by decide) rfl ?_
        exact k4 c1 c2 c3

set_option maxRecDepth 20000 in
theorem w_x_mult_70 {Q : Option Value → sy_S → Prop} {σ : sy_S} {l3 : Int32} {l4 : Int32}   (k1 : sy_E shX mX8_multiply (21, [some (.ref 48), none, none, some (.int (l3 >>> (1 &&& 31))), some (.int (l4 + 1))], [], σ) Q) : sy_E shX mX8_multiply (70, [some (.ref 48), none, none, some (.int l3), some (.int l4)], [], σ) Q := by
  refine sy_bk [(.iload_n 3, 0, 0, 0, 0), (.iconst 1, 0, 0, 1, 0), (.ishr, 0, 0, 0, 0), (.istore_n 3, 0, 0, 0, 0), (.iinc 4 1, 0, 0, 1, 0), (.goto (-56), 0, 21, 0, 0)] (21, [some (.ref 48), none, none, some (.int (l3 >>> (1 &&& 31))), some (.int (l4 + 1))], [], σ) [] (by decide +kernel) rfl trivial ?_
  exact k1

set_option maxRecDepth 20000 in
theorem w_x_mult_54 {Q : Option Value → sy_S → Prop} {σ : sy_S} {l3 : Int32} {l4 : Int32}   (k1 : sy_E shX mX8_addInto (0, sy_ent [.ref 48, .ref 51, .ref 51, .ref 51] 4, [], σ) (fun r9 σ9 => sy_E shX mX8_multiply (70, [some (.ref 48), none, none, some (.int l3), some (.int l4)], r9.toList ++ [], σ9) Q)) : sy_E shX mX8_multiply (54, [some (.ref 48), none, none, some (.int l3), some (.int l4)], [], σ) Q := by
  refine sy_bk [(.aload_n 0, 0, 0, 0, 0), (.aload_n 0, 0, 0, 0, 0), (.getfield 18, 8, 4, 0, 0), (.aload_n 0, 0, 0, 0, 0), (.getfield 18, 8, 4, 0, 0), (.aload_n 0, 0, 0, 0, 0), (.getfield 18, 8, 4, 0, 0)] (67, [some (.ref 48), none, none, some (.int l3), some (.int l4)], [.ref 51, .ref 51, .ref 51, .ref 48], σ) [] (by decide +kernel) rfl trivial ?_
  refine sy_callV mX8_addInto 48 [.ref 51, .ref 51, .ref 51] [] kX8_addInto jX8_85 (by decide +kernel) rfl rfl (Nat.le_of_ble_eq_true rfl) (Nat.le_of_ble_eq_true rfl) (by decide) rfl ?_
  exact k1

set_option maxRecDepth 20000 in
theorem w_x_neg_0 {Q : Option Value → sy_S → Prop} {σ : sy_S} {a : Nat}   (k1 : sy_E shX mX8_startAtNought (0, sy_ent [.ref 48] 1, [], σ) (fun r9 σ9 => sy_E shX mX8_negate (4, [some (.ref 48), some (.ref a), none], r9.toList ++ [], σ9) Q)) : sy_E shX mX8_negate (0, sy_ent [.ref 48, .ref a] 3, [], σ) Q := by
  show sy_E shX mX8_negate (0, [some (.ref 48), some (.ref a), none], [], σ) _
  refine sy_bk [(.aload_n 0, 0, 0, 0, 0)] (1, [some (.ref 48), some (.ref a), none], [.ref 48], σ) [] (by decide +kernel) rfl trivial ?_
  refine sy_callV mX8_startAtNought 48 [] [] kX8_startAtNought jX8_82 (by decide +kernel) rfl rfl (Nat.le_of_ble_eq_true rfl) (Nat.le_of_ble_eq_true rfl) (by decide) rfl ?_
  exact k1

set_option maxRecDepth 20000 in
theorem w_x_neg_4 {Q : Option Value → sy_S → Prop} {σ : sy_S} {a : Nat}   (k1 : sy_E shX mX8_layFullZero (0, sy_ent [.ref 48] 2, [], σ) (fun r9 σ9 => sy_E shX mX8_negate (8, [some (.ref 48), some (.ref a), none], r9.toList ++ [], σ9) Q)) : sy_E shX mX8_negate (4, [some (.ref 48), some (.ref a), none], [], σ) Q := by
  refine sy_bk [(.aload_n 0, 0, 0, 0, 0)] (5, [some (.ref 48), some (.ref a), none], [.ref 48], σ) [] (by decide +kernel) rfl trivial ?_
  refine sy_callV mX8_layFullZero 48 [] [] kX8_layFullZero jX8_55 (by decide +kernel) rfl rfl (Nat.le_of_ble_eq_true rfl) (Nat.le_of_ble_eq_true rfl) (by decide) rfl ?_
  exact k1

set_option maxRecDepth 20000 in
theorem w_x_neg_8 {Q : Option Value → sy_S → Prop} {σ : sy_S} {a : Nat}   (k1 : sy_E shX mX8_negate (10, [some (.ref 48), some (.ref a), some (.int 0)], [], σ) Q) : sy_E shX mX8_negate (8, [some (.ref 48), some (.ref a), none], [], σ) Q := by
  refine sy_bk [(.iconst 0, 0, 0, 0, 0), (.istore_n 2, 0, 0, 0, 0)] (10, [some (.ref 48), some (.ref a), some (.int 0)], [], σ) [] (by decide +kernel) rfl trivial ?_
  exact k1

set_option maxRecDepth 20000 in
theorem w_x_neg_10 {Q : Option Value → sy_S → Prop} {σ : sy_S} {a : Nat} {l2 : Int32} (ha : shX[a]? = some (0, 16, [])) (b1 : ¬ (16 ≤ l2) → vp_in l2 16) (k1 : 16 ≤ l2 → sy_E shX mX8_settleResult (0, sy_ent [.ref 48] 1, [], σ) (fun r9 σ9 => sy_E shX mX8_negate (45, [none, none, none], r9.toList ++ [], σ9) Q)) (k2 : ¬ (16 ≤ l2) → sy_E shX mX8_negate (10, [some (.ref 48), some (.ref a), some (.int (l2 + 1))], [], (sy_up σ.1 50 l2.toNatClampNeg ((σ.1 50 l2.toNatClampNeg) + ((σ.1 49 l2.toNatClampNeg) - (σ.1 a l2.toNatClampNeg))), σ.2)) Q) : sy_E shX mX8_negate (10, [some (.ref 48), some (.ref a), some (.int l2)], [], σ) Q := by
  refine sy_bk [(.iload_n 2, 0, 0, 0, 0), (.bipush 16, 0, 0, 16, 0)] (13, [some (.ref 48), some (.ref a), some (.int l2)], [.int 16, .int l2], σ) [] (by decide +kernel) rfl trivial ?_
  by_cases c1 : 16 ≤ l2
  · refine sy_bk [(.if_icmp .ge 28, 1, 41, 0, 0)] (41, [some (.ref 48), some (.ref a), some (.int l2)], [], σ) [sy_cc .ge l2 16] (by decide +kernel) rfl ⟨c1, trivial⟩ ?_
    refine sy_bk [(.aload_n 0, 0, 0, 0, 0)] (42, [some (.ref 48), some (.ref a), some (.int l2)], [.ref 48], σ) [] (by decide +kernel) rfl trivial ?_
    refine sy_drop [none, none, none] trivial ?_
    refine sy_callV mX8_settleResult 48 [] [] kX8_settleResult jX8_58 (by decide +kernel) rfl rfl (Nat.le_of_ble_eq_true rfl) (Nat.le_of_ble_eq_true rfl) (by decide) rfl ?_
    exact k1 c1
  · refine sy_bk [(.if_icmp .ge 28, 0, 41, 0, 0)] (16, [some (.ref 48), some (.ref a), some (.int l2)], [], σ) [¬ sy_cc .ge l2 16] (by decide +kernel) rfl ⟨c1, trivial⟩ ?_
    refine sy_bk [(.aload_n 0, 0, 0, 0, 0), (.getfield 15, 8, 3, 0, 0), (.iload_n 2, 0, 0, 0, 0), (.dup2, 0, 0, 0, 0), (.iaload, 0, 0, 0, 0), (.aload_n 0, 0, 0, 0, 0), (.getfield 9, 8, 2, 0, 0), (.iload_n 2, 0, 0, 0, 0), (.iaload, 0, 0, 0, 0), (.aload_n 1, 0, 0, 0, 0), (.iload_n 2, 0, 0, 0, 0), (.iaload, 0, 0, 0, 0), (.isub, 0, 0, 0, 0), (.iadd, 0, 0, 0, 0), (.iastore, 0, 0, 0, 0), (.iinc 2 1, 0, 0, 1, 0), (.goto (-28), 0, 10, 0, 0)] (10, [some (.ref 48), some (.ref a), some (.int (l2 + 1))], [], (sy_up σ.1 50 l2.toNatClampNeg ((σ.1 50 l2.toNatClampNeg) + ((σ.1 49 l2.toNatClampNeg) - (σ.1 a l2.toNatClampNeg))), σ.2)) [sy_okA shX 0 50 l2, sy_okA shX 0 49 l2, sy_okA shX 0 a l2, sy_okA shX 0 50 l2] (by decide +kernel) rfl ⟨⟨16, _, rfl, (b1 c1)⟩, ⟨16, _, rfl, (b1 c1)⟩, ⟨16, _, ha, (b1 c1)⟩, ⟨16, _, rfl, (b1 c1)⟩, trivial⟩ ?_
    exact k2 c1

set_option maxRecDepth 20000 in
theorem w_x_neg_45 {Q : Option Value → sy_S → Prop} {σ : sy_S}    (k1 : Q none σ) : sy_E shX mX8_negate (45, [none, none, none], [], σ) Q := by
  exact sy_retv rfl (by decide +kernel) (k1)

set_option maxRecDepth 20000 in
theorem w_x_least_0 {Q : Option Value → sy_S → Prop} {σ : sy_S} {a : Nat} {n : Int32}   (k1 : sy_E shX mX8_startAtNought (0, sy_ent [.ref 48] 1, [], σ) (fun r9 σ9 => sy_E shX mX8_leastToNought (4, [some (.ref 48), some (.ref a), some (.int n), none], r9.toList ++ [], σ9) Q)) : sy_E shX mX8_leastToNought (0, sy_ent [.ref 48, .ref a, .int n] 4, [], σ) Q := by
  show sy_E shX mX8_leastToNought (0, [some (.ref 48), some (.ref a), some (.int n), none], [], σ) _
  refine sy_bk [(.aload_n 0, 0, 0, 0, 0)] (1, [some (.ref 48), some (.ref a), some (.int n), none], [.ref 48], σ) [] (by decide +kernel) rfl trivial ?_
  refine sy_callV mX8_startAtNought 48 [] [] kX8_startAtNought jX8_82 (by decide +kernel) rfl rfl (Nat.le_of_ble_eq_true rfl) (Nat.le_of_ble_eq_true rfl) (by decide) rfl ?_
  exact k1

set_option maxRecDepth 20000 in
theorem w_x_least_4 {Q : Option Value → sy_S → Prop} {σ : sy_S} {a : Nat} {l2 : Int32}   (k1 : sy_E shX mX8_leastToNought (6, [some (.ref 48), some (.ref a), some (.int l2), some (.int 1)], [], σ) Q) : sy_E shX mX8_leastToNought (4, [some (.ref 48), some (.ref a), some (.int l2), none], [], σ) Q := by
  refine sy_bk [(.iconst 1, 0, 0, 1, 0), (.istore_n 3, 0, 0, 0, 0)] (6, [some (.ref 48), some (.ref a), some (.int l2), some (.int 1)], [], σ) [] (by decide +kernel) rfl trivial ?_
  exact k1

set_option maxRecDepth 20000 in
theorem w_x_least_6 {Q : Option Value → sy_S → Prop} {σ : sy_S} {a : Nat} {l2 : Int32} {l3 : Int32}   (k1 : l2 < l3 → Q (some (.int 0)) σ) (k2 : ¬ (l2 < l3) → sy_E shX mX8_addInto (0, sy_ent [.ref 48, .ref 50, .ref 50, .ref a] 4, [], σ) (fun r9 σ9 => sy_E shX mX8_leastToNought (24, [some (.ref 48), some (.ref a), some (.int l2), some (.int l3)], r9.toList ++ [], σ9) Q)) : sy_E shX mX8_leastToNought (6, [some (.ref 48), some (.ref a), some (.int l2), some (.int l3)], [], σ) Q := by
  refine sy_bk [(.iload_n 3, 0, 0, 0, 0), (.iload_n 2, 0, 0, 0, 0)] (8, [some (.ref 48), some (.ref a), some (.int l2), some (.int l3)], [.int l2, .int l3], σ) [] (by decide +kernel) rfl trivial ?_
  by_cases c1 : l2 < l3
  · refine sy_bk [(.if_icmp .gt 38, 1, 46, 0, 0)] (46, [some (.ref 48), some (.ref a), some (.int l2), some (.int l3)], [], σ) [sy_cc .gt l3 l2] (by decide +kernel) rfl ⟨c1, trivial⟩ ?_
    refine sy_bk [(.iconst 0, 0, 0, 0, 0)] (47, [some (.ref 48), some (.ref a), some (.int l2), some (.int l3)], [.int 0], σ) [] (by decide +kernel) rfl trivial ?_
    exact sy_reti rfl (by decide +kernel) (k1 c1)
  · refine sy_bk [(.if_icmp .gt 38, 0, 46, 0, 0)] (11, [some (.ref 48), some (.ref a), some (.int l2), some (.int l3)], [], σ) [¬ sy_cc .gt l3 l2] (by decide +kernel) rfl ⟨c1, trivial⟩ ?_
    refine sy_bk [(.aload_n 0, 0, 0, 0, 0), (.aload_n 0, 0, 0, 0, 0), (.getfield 15, 8, 3, 0, 0), (.aload_n 0, 0, 0, 0, 0), (.getfield 15, 8, 3, 0, 0), (.aload_n 1, 0, 0, 0, 0)] (21, [some (.ref 48), some (.ref a), some (.int l2), some (.int l3)], [.ref a, .ref 50, .ref 50, .ref 48], σ) [] (by decide +kernel) rfl trivial ?_
    refine sy_callV mX8_addInto 48 [.ref 50, .ref 50, .ref a] [] kX8_addInto jX8_85 (by decide +kernel) rfl rfl (Nat.le_of_ble_eq_true rfl) (Nat.le_of_ble_eq_true rfl) (by decide) rfl ?_
    exact k2 c1

set_option maxRecDepth 20000 in
theorem w_x_least_24 {Q : Option Value → sy_S → Prop} {σ : sy_S} {a : Nat} {l2 : Int32} {l3 : Int32}   (k1 : sy_E shX mX11_alike (0, sy_ent [.ref 50, .ref 49] 3, [], σ) (fun r9 σ9 => sy_E shX mX8_leastToNought (35, [some (.ref 48), some (.ref a), some (.int l2), some (.int l3)], r9.toList ++ [], σ9) Q)) : sy_E shX mX8_leastToNought (24, [some (.ref 48), some (.ref a), some (.int l2), some (.int l3)], [], σ) Q := by
  refine sy_bk [(.aload_n 0, 0, 0, 0, 0), (.getfield 15, 8, 3, 0, 0), (.aload_n 0, 0, 0, 0, 0), (.getfield 9, 8, 2, 0, 0)] (32, [some (.ref 48), some (.ref a), some (.int l2), some (.int l3)], [.ref 49, .ref 50], σ) [] (by decide +kernel) rfl trivial ?_
  refine sy_callN [.ref 50, .ref 49] [] rfl (by decide +kernel) rfl rfl (Nat.le_of_ble_eq_true rfl) (Nat.le_of_ble_eq_true rfl) (by decide) ?_
  exact k1

set_option maxRecDepth 20000 in
theorem w_x_least_35 {Q : Option Value → sy_S → Prop} {σ : sy_S} {a : Nat} {l2 : Int32} {l3 : Int32} {v : Int32}   (k1 : v = 0 → sy_E shX mX8_leastToNought (6, [some (.ref 48), some (.ref a), some (.int l2), some (.int (l3 + 1))], [], σ) Q) (k2 : ¬ (v = 0) → Q (some (.int l3)) σ) : sy_E shX mX8_leastToNought (35, [some (.ref 48), some (.ref a), some (.int l2), some (.int l3)], [.int v], σ) Q := by
  by_cases c1 : v = 0
  · refine sy_bk [(.ifCond .eq 5, 1, 40, 0, 0)] (40, [some (.ref 48), some (.ref a), some (.int l2), some (.int l3)], [], σ) [sy_cc .eq v 0] (by decide +kernel) rfl ⟨c1, trivial⟩ ?_
    refine sy_bk [(.iinc 3 1, 0, 0, 1, 0), (.goto (-37), 0, 6, 0, 0)] (6, [some (.ref 48), some (.ref a), some (.int l2), some (.int (l3 + 1))], [], σ) [] (by decide +kernel) rfl trivial ?_
    exact k1 c1
  · refine sy_bk [(.ifCond .eq 5, 0, 40, 0, 0)] (38, [some (.ref 48), some (.ref a), some (.int l2), some (.int l3)], [], σ) [¬ sy_cc .eq v 0] (by decide +kernel) rfl ⟨c1, trivial⟩ ?_
    refine sy_bk [(.iload_n 3, 0, 0, 0, 0)] (39, [some (.ref 48), some (.ref a), some (.int l2), some (.int l3)], [.int l3], σ) [] (by decide +kernel) rfl trivial ?_
    exact sy_reti rfl (by decide +kernel) (k2 c1)

set_option maxRecDepth 20000 in
theorem w_x_areOne_0 {Q : Option Value → sy_S → Prop} {σ : sy_S} {a : Nat} {b : Nat}   (k1 : sy_E shX mX8_startAtNought (0, sy_ent [.ref 48] 1, [], σ) (fun r9 σ9 => sy_E shX mX8_areOne (4, [some (.ref 48), some (.ref a), some (.ref b)], r9.toList ++ [], σ9) Q)) : sy_E shX mX8_areOne (0, sy_ent [.ref 48, .ref a, .ref b] 3, [], σ) Q := by
  show sy_E shX mX8_areOne (0, [some (.ref 48), some (.ref a), some (.ref b)], [], σ) _
  refine sy_bk [(.aload_n 0, 0, 0, 0, 0)] (1, [some (.ref 48), some (.ref a), some (.ref b)], [.ref 48], σ) [] (by decide +kernel) rfl trivial ?_
  refine sy_callV mX8_startAtNought 48 [] [] kX8_startAtNought jX8_82 (by decide +kernel) rfl rfl (Nat.le_of_ble_eq_true rfl) (Nat.le_of_ble_eq_true rfl) (by decide) rfl ?_
  exact k1

set_option maxRecDepth 20000 in
theorem w_x_areOne_4 {Q : Option Value → sy_S → Prop} {σ : sy_S} {a : Nat} {b : Nat}   (k1 : sy_E shX mX8_addInto (0, sy_ent [.ref 48, .ref 50, .ref 49, .ref a] 4, [], σ) (fun r9 σ9 => sy_E shX mX8_areOne (17, [some (.ref 48), none, some (.ref b)], r9.toList ++ [], σ9) Q)) : sy_E shX mX8_areOne (4, [some (.ref 48), some (.ref a), some (.ref b)], [], σ) Q := by
  refine sy_bk [(.aload_n 0, 0, 0, 0, 0), (.aload_n 0, 0, 0, 0, 0), (.getfield 15, 8, 3, 0, 0), (.aload_n 0, 0, 0, 0, 0), (.getfield 9, 8, 2, 0, 0), (.aload_n 1, 0, 0, 0, 0)] (14, [some (.ref 48), some (.ref a), some (.ref b)], [.ref a, .ref 49, .ref 50, .ref 48], σ) [] (by decide +kernel) rfl trivial ?_
  refine sy_drop [some (.ref 48), none, some (.ref b)] ⟨rfl, rfl, trivial⟩ ?_
  refine sy_callV mX8_addInto 48 [.ref 50, .ref 49, .ref a] [] kX8_addInto jX8_85 (by decide +kernel) rfl rfl (Nat.le_of_ble_eq_true rfl) (Nat.le_of_ble_eq_true rfl) (by decide) rfl ?_
  exact k1

set_option maxRecDepth 20000 in
theorem w_x_areOne_17 {Q : Option Value → sy_S → Prop} {σ : sy_S} {b : Nat}   (k1 : sy_E shX mX8_addInto (0, sy_ent [.ref 48, .ref 51, .ref 49, .ref b] 4, [], σ) (fun r9 σ9 => sy_E shX mX8_areOne (30, [some (.ref 48), none, none], r9.toList ++ [], σ9) Q)) : sy_E shX mX8_areOne (17, [some (.ref 48), none, some (.ref b)], [], σ) Q := by
  refine sy_bk [(.aload_n 0, 0, 0, 0, 0), (.aload_n 0, 0, 0, 0, 0), (.getfield 18, 8, 4, 0, 0), (.aload_n 0, 0, 0, 0, 0), (.getfield 9, 8, 2, 0, 0), (.aload_n 2, 0, 0, 0, 0)] (27, [some (.ref 48), none, some (.ref b)], [.ref b, .ref 49, .ref 51, .ref 48], σ) [] (by decide +kernel) rfl trivial ?_
  refine sy_drop [some (.ref 48), none, none] ⟨rfl, trivial⟩ ?_
  refine sy_callV mX8_addInto 48 [.ref 51, .ref 49, .ref b] [] kX8_addInto jX8_85 (by decide +kernel) rfl rfl (Nat.le_of_ble_eq_true rfl) (Nat.le_of_ble_eq_true rfl) (by decide) rfl ?_
  exact k1

set_option maxRecDepth 20000 in
theorem w_x_areOne_30 {Q : Option Value → sy_S → Prop} {σ : sy_S}    (k1 : sy_E shX mX11_alike (0, sy_ent [.ref 50, .ref 51] 3, [], σ) (fun r9 σ9 => sy_E shX mX8_areOne (41, [none, none, none], r9.toList ++ [], σ9) Q)) : sy_E shX mX8_areOne (30, [some (.ref 48), none, none], [], σ) Q := by
  refine sy_bk [(.aload_n 0, 0, 0, 0, 0), (.getfield 15, 8, 3, 0, 0), (.aload_n 0, 0, 0, 0, 0), (.getfield 18, 8, 4, 0, 0)] (38, [some (.ref 48), none, none], [.ref 51, .ref 50], σ) [] (by decide +kernel) rfl trivial ?_
  refine sy_drop [none, none, none] trivial ?_
  refine sy_callN [.ref 50, .ref 51] [] rfl (by decide +kernel) rfl rfl (Nat.le_of_ble_eq_true rfl) (Nat.le_of_ble_eq_true rfl) (by decide) ?_
  exact k1

set_option maxRecDepth 20000 in
theorem w_x_areOne_41 {Q : Option Value → sy_S → Prop} {σ : sy_S} {v : Int32}  (b1 : v = 0 ∨ v = 1) (k1 : Q (some (.int v)) σ) : sy_E shX mX8_areOne (41, [none, none, none], [.int v], σ) Q := by
  exact sy_retz rfl (by decide +kernel) b1 (k1)
