/-! walks of SandGroup's own methods (by program: wip/whole/gen/p61.py) -/
set_option maxRecDepth 20000 in
theorem w_X_forget_0 {Q : Option Value → sy_S → Prop} {σ : sy_S}    (k1 : sy_E shX mX7_clear (0, sy_ent [.ref 23] 1, [], σ) (fun r9 σ9 => sy_E shX mX11_forgetPilesAndChanges (7, [some (.ref 6)], r9.toList ++ [], σ9) Q)) : sy_E shX mX11_forgetPilesAndChanges (0, sy_ent [.ref 6] 1, [], σ) Q := by
  show sy_E shX mX11_forgetPilesAndChanges (0, [some (.ref 6)], [], σ) _
  refine sy_bk [(.aload_n 0, 0, 0, 0, 0), (.getfield 41, 11, 4, 0, 0)] (4, [some (.ref 6)], [.ref 23], σ) [] (by decide +kernel) rfl trivial ?_
  refine sy_callV mX7_clear 23 [] [] kX7_clear jX11_361 (by decide +kernel) rfl rfl (Nat.le_of_ble_eq_true rfl) (Nat.le_of_ble_eq_true rfl) (by decide) rfl ?_
  exact k1

set_option maxRecDepth 20000 in
theorem w_X_forget_7 {Q : Option Value → sy_S → Prop} {σ : sy_S}    (k1 : sy_E shX mX0_restart (0, sy_ent [.ref 8, .ref 7] 2, [], σ) (fun r9 σ9 => sy_E shX mX11_forgetPilesAndChanges (18, [none], r9.toList ++ [], σ9) Q)) : sy_E shX mX11_forgetPilesAndChanges (7, [some (.ref 6)], [], σ) Q := by
  refine sy_bk [(.aload_n 0, 0, 0, 0, 0), (.getfield 27, 11, 2, 0, 0), (.aload_n 0, 0, 0, 0, 0), (.getfield 20, 11, 1, 0, 0)] (15, [some (.ref 6)], [.ref 7, .ref 8], σ) [] (by decide +kernel) rfl trivial ?_
  refine sy_drop [none] trivial ?_
  refine sy_callV mX0_restart 8 [.ref 7] [] kX0_restart jX11_362 (by decide +kernel) rfl rfl (Nat.le_of_ble_eq_true rfl) (Nat.le_of_ble_eq_true rfl) (by decide) rfl ?_
  exact k1

set_option maxRecDepth 20000 in
theorem w_X_forget_18 {Q : Option Value → sy_S → Prop} {σ : sy_S}    (k1 : Q none σ) : sy_E shX mX11_forgetPilesAndChanges (18, [none], [], σ) Q := by
  exact sy_retv rfl (by decide +kernel) (k1)

set_option maxRecDepth 20000 in
theorem w_X_lay_0 {Q : Option Value → sy_S → Prop} {σ : sy_S} {cell : Int32} {v : Int32}  (b1 : ¬ v = (-1) → vp_in cell 16) (k1 : ¬ v = (-1) → Q none (sy_up σ.1 7 cell.toNatClampNeg v, σ.2)) (k2 : ¬ (¬ v = (-1)) → sy_E shX mX3_build (0, sy_ent [.ref 0, .int cell, .int 1] 3, [], σ) (fun r9 σ9 => sy_E shX mX11_lay (14, [none, none, none], r9.toList ++ [], σ9) Q)) : sy_E shX mX11_lay (0, sy_ent [.ref 6, .int cell, .int v] 3, [], σ) Q := by
  show sy_E shX mX11_lay (0, [some (.ref 6), some (.int cell), some (.int v)], [], σ) _
  refine sy_bk [(.iload_n 2, 0, 0, 0, 0), (.iconst (-1), 0, 0, (-1), 0)] (2, [some (.ref 6), some (.int cell), some (.int v)], [.int (-1), .int v], σ) [] (by decide +kernel) rfl trivial ?_
  by_cases c1 : ¬ v = (-1)
  · refine sy_bk [(.if_icmp .ne 15, 1, 17, 0, 0)] (17, [some (.ref 6), some (.int cell), some (.int v)], [], σ) [sy_cc .ne v (-1)] (by decide +kernel) rfl ⟨c1, trivial⟩ ?_
    refine sy_bk [(.aload_n 0, 0, 0, 0, 0), (.getfield 20, 11, 1, 0, 0), (.iload_n 1, 0, 0, 0, 0), (.iload_n 2, 0, 0, 0, 0), (.iastore, 0, 0, 0, 0)] (24, [some (.ref 6), some (.int cell), some (.int v)], [], (sy_up σ.1 7 cell.toNatClampNeg v, σ.2)) [sy_okA shX 0 7 cell] (by decide +kernel) rfl ⟨⟨16, _, rfl, (b1 c1)⟩, trivial⟩ ?_
    exact sy_retv rfl (by decide +kernel) (k1 c1)
  · refine sy_bk [(.if_icmp .ne 15, 0, 17, 0, 0)] (5, [some (.ref 6), some (.int cell), some (.int v)], [], σ) [¬ sy_cc .ne v (-1)] (by decide +kernel) rfl ⟨c1, trivial⟩ ?_
    refine sy_bk [(.aload_n 0, 0, 0, 0, 0), (.getfield 16, 11, 0, 0, 0), (.iload_n 1, 0, 0, 0, 0), (.iconst 1, 0, 0, 1, 0)] (11, [some (.ref 6), some (.int cell), some (.int v)], [.int 1, .int cell, .ref 0], σ) [] (by decide +kernel) rfl trivial ?_
    refine sy_drop [none, none, none] trivial ?_
    refine sy_callV mX3_build 0 [.int cell, .int 1] [] kX3_build jX11_130 (by decide +kernel) rfl rfl (Nat.le_of_ble_eq_true rfl) (Nat.le_of_ble_eq_true rfl) (by decide) rfl ?_
    exact k2 c1

set_option maxRecDepth 20000 in
theorem w_X_lay_14 {Q : Option Value → sy_S → Prop} {σ : sy_S}    (k1 : Q none σ) : sy_E shX mX11_lay (14, [none, none, none], [], σ) Q := by
  refine sy_bk [(.goto 10, 0, 24, 0, 0)] (24, [none, none, none], [], σ) [] (by decide +kernel) rfl trivial ?_
  exact sy_retv rfl (by decide +kernel) (k1)

set_option maxRecDepth 20000 in
theorem w_X_holdRes_0 {Q : Option Value → sy_S → Prop} {σ : sy_S} {p : Int32}  (b1 : vp_in p 6) (b2 : sy_okR shX 24 p) (k1 : sy_E shX mX8_copyResultTo (0, sy_ent [.ref 48, .ref (sy_rf shX 24 p.toNatClampNeg)] 2, [], (sy_up σ.1 31 p.toNatClampNeg 16, σ.2)) (fun r9 σ9 => sy_E shX mX11_holdResult (19, [some (.ref 6), none, some (.ref (sy_rf shX 24 p.toNatClampNeg))], r9.toList ++ [], σ9) Q)) : sy_E shX mX11_holdResult (0, sy_ent [.ref 6, .int p] 3, [], σ) Q := by
  show sy_E shX mX11_holdResult (0, [some (.ref 6), some (.int p), none], [], σ) _
  refine sy_bk [(.aload_n 0, 0, 0, 0, 0), (.getfield 41, 11, 4, 0, 0), (.iload_n 1, 0, 0, 0, 0), (.bipush 16, 0, 0, 16, 0)] (7, [some (.ref 6), some (.int p), none], [.int 16, .int p, .ref 23], σ) [] (by decide +kernel) rfl trivial ?_
  refine sy_callV mX7_hold 23 [.int p, .int 16] [] kX7_hold jX11_213 (by decide +kernel) rfl rfl (Nat.le_of_ble_eq_true rfl) (Nat.le_of_ble_eq_true rfl) (by decide) rfl ?_
  refine w_pl_hold (σ := σ) (i := p) (len := 16) b1 b2 ?_
  show sy_E shX mX11_holdResult (10, [some (.ref 6), some (.int p), none], [.ref (sy_rf shX 24 p.toNatClampNeg)], (sy_up σ.1 31 p.toNatClampNeg 16, σ.2)) _
  refine sy_bk [(.astore_n 2, 0, 0, 0, 0), (.aload_n 0, 0, 0, 0, 0), (.getfield 72, 11, 9, 0, 0), (.aload_n 2, 0, 0, 0, 0)] (16, [some (.ref 6), some (.int p), some (.ref (sy_rf shX 24 p.toNatClampNeg))], [.ref (sy_rf shX 24 p.toNatClampNeg), .ref 48], (sy_up σ.1 31 p.toNatClampNeg 16, σ.2)) [] (by decide +kernel) rfl trivial ?_
  refine sy_drop [some (.ref 6), none, some (.ref (sy_rf shX 24 p.toNatClampNeg))] ⟨rfl, rfl, trivial⟩ ?_
  refine sy_callV mX8_copyResultTo 48 [.ref (sy_rf shX 24 p.toNatClampNeg)] [] kX8_copyResultTo jX11_365 (by decide +kernel) rfl rfl (Nat.le_of_ble_eq_true rfl) (Nat.le_of_ble_eq_true rfl) (by decide) rfl ?_
  exact k1

set_option maxRecDepth 20000 in
theorem w_X_holdRes_19 {Q : Option Value → sy_S → Prop} {σ : sy_S} {p : Int32}   (k1 : sy_E shX mX3_grainsOf (0, sy_ent [.ref 0, .ref (sy_rf shX 24 p.toNatClampNeg)] 4, [], σ) (fun r9 σ9 => sy_E shX mX11_holdResult (27, [none, none, none], r9.toList ++ [], σ9) Q)) : sy_E shX mX11_holdResult (19, [some (.ref 6), none, some (.ref (sy_rf shX 24 p.toNatClampNeg))], [], σ) Q := by
  refine sy_bk [(.aload_n 0, 0, 0, 0, 0), (.getfield 16, 11, 0, 0, 0), (.aload_n 2, 0, 0, 0, 0)] (24, [some (.ref 6), none, some (.ref (sy_rf shX 24 p.toNatClampNeg))], [.ref (sy_rf shX 24 p.toNatClampNeg), .ref 0], σ) [] (by decide +kernel) rfl trivial ?_
  refine sy_drop [none, none, none] trivial ?_
  refine sy_callV mX3_grainsOf 0 [.ref (sy_rf shX 24 p.toNatClampNeg)] [] kX3_grainsOf jX11_230 (by decide +kernel) rfl rfl (Nat.le_of_ble_eq_true rfl) (Nat.le_of_ble_eq_true rfl) (by decide) rfl ?_
  exact k1

set_option maxRecDepth 20000 in
theorem w_X_holdRes_27 {Q : Option Value → sy_S → Prop} {σ : sy_S} {v : Int32}   (k1 : Q (some (.int v)) σ) : sy_E shX mX11_holdResult (27, [none, none, none], [.int v], σ) Q := by
  exact sy_reti rfl (by decide +kernel) (k1)

set_option maxRecDepth 20000 in
theorem w_X_scatter_0 {Q : Option Value → sy_S → Prop} {σ : sy_S} {z : Int32} {n : Int32}   (k1 : sy_E shX mX1_begin (0, sy_ent [.ref 39, .ref 7] 2, [], σ) (fun r9 σ9 => sy_E shX mX11_scatter (19, [some (.ref 6), some (.int z), some (.int n), some (.int (σ.1 0 7)), none, none, none], r9.toList ++ [], σ9) Q)) : sy_E shX mX11_scatter (0, sy_ent [.ref 6, .int z, .int n] 7, [], σ) Q := by
  show sy_E shX mX11_scatter (0, [some (.ref 6), some (.int z), some (.int n), none, none, none, none], [], σ) _
  refine sy_bk [(.aload_n 0, 0, 0, 0, 0), (.getfield 16, 11, 0, 0, 0)] (4, [some (.ref 6), some (.int z), some (.int n), none, none, none, none], [.ref 0], σ) [] (by decide +kernel) rfl trivial ?_
  refine sy_callV mX3_placeCount 0 [] [] kX3_placeCount jX11_275 (by decide +kernel) rfl rfl (Nat.le_of_ble_eq_true rfl) (Nat.le_of_ble_eq_true rfl) (by decide) rfl ?_
  refine w_x_placeCount (σ := σ) ?_
  show sy_E shX mX11_scatter (7, [some (.ref 6), some (.int z), some (.int n), none, none, none, none], [.int (σ.1 0 7)], σ) _
  refine sy_bk [(.istore_n 3, 0, 0, 0, 0), (.aload_n 0, 0, 0, 0, 0), (.getfield 53, 11, 6, 0, 0), (.aload_n 0, 0, 0, 0, 0), (.getfield 20, 11, 1, 0, 0)] (16, [some (.ref 6), some (.int z), some (.int n), some (.int (σ.1 0 7)), none, none, none], [.ref 7, .ref 39], σ) [] (by decide +kernel) rfl trivial ?_
  refine sy_callV mX1_begin 39 [.ref 7] [] kX1_begin jX11_146 (by decide +kernel) rfl rfl (Nat.le_of_ble_eq_true rfl) (Nat.le_of_ble_eq_true rfl) (by decide) rfl ?_
  exact k1

set_option maxRecDepth 20000 in
theorem w_X_scatter_19 {Q : Option Value → sy_S → Prop} {σ : sy_S} {l1 : Int32} {l2 : Int32} {l3 : Int32}   (k1 : sy_E shX mX1_level (0, sy_ent [.ref 39] 9, [], σ) (fun r9 σ9 => sy_E shX mX11_scatter (26, [some (.ref 6), some (.int l1), some (.int l2), some (.int l3), none, none, none], r9.toList ++ [], σ9) Q)) : sy_E shX mX11_scatter (19, [some (.ref 6), some (.int l1), some (.int l2), some (.int l3), none, none, none], [], σ) Q := by
  refine sy_bk [(.aload_n 0, 0, 0, 0, 0), (.getfield 53, 11, 6, 0, 0)] (23, [some (.ref 6), some (.int l1), some (.int l2), some (.int l3), none, none, none], [.ref 39], σ) [] (by decide +kernel) rfl trivial ?_
  refine sy_callV mX1_level 39 [] [] kX1_level jX11_149 (by decide +kernel) rfl rfl (Nat.le_of_ble_eq_true rfl) (Nat.le_of_ble_eq_true rfl) (by decide) rfl ?_
  exact k1

set_option maxRecDepth 20000 in
theorem w_X_scatter_26 {Q : Option Value → sy_S → Prop} {σ : sy_S} {l1 : Int32} {l2 : Int32} {l3 : Int32} {v : Int32}   (k1 : sy_E shX mX1_forgetCounts (0, sy_ent [.ref 39] 1, [], σ) (fun r9 σ9 => sy_E shX mX11_scatter (34, [some (.ref 6), some (.int l1), some (.int l2), some (.int l3), none, none, none], r9.toList ++ [], σ9) Q)) : sy_E shX mX11_scatter (26, [some (.ref 6), some (.int l1), some (.int l2), some (.int l3), none, none, none], [.int v], σ) Q := by
  refine sy_bk [(.pop, 0, 0, 0, 0), (.aload_n 0, 0, 0, 0, 0), (.getfield 53, 11, 6, 0, 0)] (31, [some (.ref 6), some (.int l1), some (.int l2), some (.int l3), none, none, none], [.ref 39], σ) [] (by decide +kernel) rfl trivial ?_
  refine sy_callV mX1_forgetCounts 39 [] [] kX1_forgetCounts jX11_368 (by decide +kernel) rfl rfl (Nat.le_of_ble_eq_true rfl) (Nat.le_of_ble_eq_true rfl) (by decide) rfl ?_
  exact k1

set_option maxRecDepth 20000 in
theorem w_X_scatter_34 {Q : Option Value → sy_S → Prop} {σ : sy_S} {l1 : Int32} {l2 : Int32} {l3 : Int32}   (k1 : sy_E shX mX11_scatter (47, [some (.ref 6), none, some (.int l2), some (.int l3), some (.int l1), some (.int 0), none], [], (sy_up (sy_up (sy_up σ.1 61 2 0) 61 3 0) 61 4 0, σ.2)) Q) : sy_E shX mX11_scatter (34, [some (.ref 6), some (.int l1), some (.int l2), some (.int l3), none, none, none], [], σ) Q := by
  refine sy_bk [(.aload_n 0, 0, 0, 0, 0), (.getfield 100, 11, 13, 0, 0)] (38, [some (.ref 6), some (.int l1), some (.int l2), some (.int l3), none, none, none], [.ref 61], σ) [] (by decide +kernel) rfl trivial ?_
  refine sy_callV mX9_clear 61 [] [] kX9_clear jX11_371 (by decide +kernel) rfl rfl (Nat.le_of_ble_eq_true rfl) (Nat.le_of_ble_eq_true rfl) (by decide) rfl ?_
  refine w_x_yclear (σ := σ) ?_
  show sy_E shX mX11_scatter (41, [some (.ref 6), some (.int l1), some (.int l2), some (.int l3), none, none, none], [], (sy_up (sy_up (sy_up σ.1 61 2 0) 61 3 0) 61 4 0, σ.2)) _
  refine sy_bk [(.iload_n 1, 0, 0, 0, 0), (.istore 4, 0, 0, 0, 0), (.iconst 0, 0, 0, 0, 0), (.istore 5, 0, 0, 0, 0)] (47, [some (.ref 6), some (.int l1), some (.int l2), some (.int l3), some (.int l1), some (.int 0), none], [], (sy_up (sy_up (sy_up σ.1 61 2 0) 61 3 0) 61 4 0, σ.2)) [] (by decide +kernel) rfl trivial ?_
  refine sy_drop [some (.ref 6), none, some (.int l2), some (.int l3), some (.int l1), some (.int 0), none] ⟨rfl, rfl, rfl, rfl, rfl, trivial⟩ ?_
  exact k1

set_option maxRecDepth 20000 in
theorem w_X_scatter_47 {Q : Option Value → sy_S → Prop} {σ : sy_S} {l2 : Int32} {l3 : Int32} {l4 : Int32} {l5 : Int32}  (b1 : ¬ (l2 ≤ l5) → ¬ (l3 ≤ 0) → ¬ l3 = 0) (b2 : ¬ (l2 ≤ l5) → ¬ (l3 ≤ 0) → vp_in (((((l4 * 1103515245) + 12345) &&& 2147483647) / 65536) - ((((l4 * 1103515245) + 12345) &&& 2147483647) / 65536) / l3 * l3) 16) (k1 : l2 ≤ l5 → Q none σ) (k2 : ¬ (l2 ≤ l5) → l3 ≤ 0 → Q none σ) (k3 : ¬ (l2 ≤ l5) → ¬ (l3 ≤ 0) → sy_E shX mX1_addGrain (0, sy_ent [.ref 39, .int (σ.1 2 (((((l4 * 1103515245) + 12345) &&& 2147483647) / 65536) - ((((l4 * 1103515245) + 12345) &&& 2147483647) / 65536) / l3 * l3).toNatClampNeg)] 2, [], σ) (fun r9 σ9 => sy_E shX mX11_scatter (99, [some (.ref 6), none, some (.int l2), some (.int l3), some (.int ((l4 * 1103515245) + 12345)), some (.int l5), none], r9.toList ++ [], σ9) Q)) : sy_E shX mX11_scatter (47, [some (.ref 6), none, some (.int l2), some (.int l3), some (.int l4), some (.int l5), none], [], σ) Q := by
  refine sy_bk [(.iload 5, 0, 0, 0, 0), (.iload_n 2, 0, 0, 0, 0)] (50, [some (.ref 6), none, some (.int l2), some (.int l3), some (.int l4), some (.int l5), none], [.int l2, .int l5], σ) [] (by decide +kernel) rfl trivial ?_
  by_cases c1 : l2 ≤ l5
  · refine sy_bk [(.if_icmp .ge 69, 1, 119, 0, 0)] (119, [some (.ref 6), none, some (.int l2), some (.int l3), some (.int l4), some (.int l5), none], [], σ) [sy_cc .ge l5 l2] (by decide +kernel) rfl ⟨c1, trivial⟩ ?_
    exact sy_retv rfl (by decide +kernel) (k1 c1)
  · refine sy_bk [(.if_icmp .ge 69, 0, 119, 0, 0)] (53, [some (.ref 6), none, some (.int l2), some (.int l3), some (.int l4), some (.int l5), none], [], σ) [¬ sy_cc .ge l5 l2] (by decide +kernel) rfl ⟨c1, trivial⟩ ?_
    refine sy_bk [(.iload_n 3, 0, 0, 0, 0)] (54, [some (.ref 6), none, some (.int l2), some (.int l3), some (.int l4), some (.int l5), none], [.int l3], σ) [] (by decide +kernel) rfl trivial ?_
    by_cases c2 : l3 ≤ 0
    · refine sy_bk [(.ifCond .le 65, 1, 119, 0, 0)] (119, [some (.ref 6), none, some (.int l2), some (.int l3), some (.int l4), some (.int l5), none], [], σ) [sy_cc .le l3 0] (by decide +kernel) rfl ⟨c2, trivial⟩ ?_
      exact sy_retv rfl (by decide +kernel) (k2 c1 c2)
    · refine sy_bk [(.ifCond .le 65, 0, 119, 0, 0)] (57, [some (.ref 6), none, some (.int l2), some (.int l3), some (.int l4), some (.int l5), none], [], σ) [¬ sy_cc .le l3 0] (by decide +kernel) rfl ⟨c2, trivial⟩ ?_
      refine sy_bk [(.iload 4, 0, 0, 0, 0), (.ldc_w 372, 0, 0, 1103515245, 0), (.imul, 0, 0, 0, 0), (.sipush 12345, 0, 0, 12345, 0), (.iadd, 0, 0, 0, 0), (.istore 4, 0, 0, 0, 0), (.iload 4, 0, 0, 0, 0), (.ldc_w 373, 0, 0, 2147483647, 0), (.iand, 0, 0, 0, 0), (.ldc_w 374, 0, 0, 65536, 0), (.idiv, 0, 0, 0, 0), (.iload_n 3, 0, 0, 0, 0), (.irem, 0, 0, 0, 0), (.istore 6, 0, 0, 0, 0), (.aload_n 0, 0, 0, 0, 0), (.getfield 53, 11, 6, 0, 0), (.aload_n 0, 0, 0, 0, 0), (.getfield 16, 11, 0, 0, 0), (.iload 6, 0, 0, 0, 0)] (93, [some (.ref 6), none, some (.int l2), some (.int l3), some (.int ((l4 * 1103515245) + 12345)), some (.int l5), some (.int (((((l4 * 1103515245) + 12345) &&& 2147483647) / 65536) - ((((l4 * 1103515245) + 12345) &&& 2147483647) / 65536) / l3 * l3))], [.int (((((l4 * 1103515245) + 12345) &&& 2147483647) / 65536) - ((((l4 * 1103515245) + 12345) &&& 2147483647) / 65536) / l3 * l3), .ref 0, .ref 39], σ) [¬ (65536 : Int32) = 0, ¬ l3 = 0] (by decide +kernel) rfl ⟨(by decide), (b1 c1 c2), trivial⟩ ?_
      refine sy_callV mX3_placeAt 0 [.int (((((l4 * 1103515245) + 12345) &&& 2147483647) / 65536) - ((((l4 * 1103515245) + 12345) &&& 2147483647) / 65536) / l3 * l3)] [.ref 39] kX3_placeAt jX11_334 (by decide +kernel) rfl rfl (Nat.le_of_ble_eq_true rfl) (Nat.le_of_ble_eq_true rfl) (by decide) rfl ?_
      refine w_x_placeAt (σ := σ) (cell := (((((l4 * 1103515245) + 12345) &&& 2147483647) / 65536) - ((((l4 * 1103515245) + 12345) &&& 2147483647) / 65536) / l3 * l3)) (b2 c1 c2) ?_
      show sy_E shX mX11_scatter (96, [some (.ref 6), none, some (.int l2), some (.int l3), some (.int ((l4 * 1103515245) + 12345)), some (.int l5), some (.int (((((l4 * 1103515245) + 12345) &&& 2147483647) / 65536) - ((((l4 * 1103515245) + 12345) &&& 2147483647) / 65536) / l3 * l3))], [.int (σ.1 2 (((((l4 * 1103515245) + 12345) &&& 2147483647) / 65536) - ((((l4 * 1103515245) + 12345) &&& 2147483647) / 65536) / l3 * l3).toNatClampNeg), .ref 39], σ) _
      refine sy_drop [some (.ref 6), none, some (.int l2), some (.int l3), some (.int ((l4 * 1103515245) + 12345)), some (.int l5), none] ⟨rfl, rfl, rfl, rfl, rfl, trivial⟩ ?_
      refine sy_callV mX1_addGrain 39 [.int (σ.1 2 (((((l4 * 1103515245) + 12345) &&& 2147483647) / 65536) - ((((l4 * 1103515245) + 12345) &&& 2147483647) / 65536) / l3 * l3).toNatClampNeg)] [] kX1_addGrain jX11_286 (by decide +kernel) rfl rfl (Nat.le_of_ble_eq_true rfl) (Nat.le_of_ble_eq_true rfl) (by decide) rfl ?_
      exact k3 c1 c2

set_option maxRecDepth 20000 in
theorem w_X_scatter_99 {Q : Option Value → sy_S → Prop} {σ : sy_S} {l2 : Int32} {l3 : Int32} {l4 : Int32} {l5 : Int32}   (k1 : sy_E shX mX1_level (0, sy_ent [.ref 39] 9, [], σ) (fun r9 σ9 => sy_E shX mX11_scatter (110, [some (.ref 6), none, some (.int l2), some (.int l3), some (.int l4), some (.int l5), none], r9.toList ++ [.ref 61], σ9) Q)) : sy_E shX mX11_scatter (99, [some (.ref 6), none, some (.int l2), some (.int l3), some (.int l4), some (.int l5), none], [], σ) Q := by
  refine sy_bk [(.aload_n 0, 0, 0, 0, 0), (.getfield 100, 11, 13, 0, 0), (.aload_n 0, 0, 0, 0, 0), (.getfield 53, 11, 6, 0, 0)] (107, [some (.ref 6), none, some (.int l2), some (.int l3), some (.int l4), some (.int l5), none], [.ref 39, .ref 61], σ) [] (by decide +kernel) rfl trivial ?_
  refine sy_callV mX1_level 39 [] [.ref 61] kX1_level jX11_149 (by decide +kernel) rfl rfl (Nat.le_of_ble_eq_true rfl) (Nat.le_of_ble_eq_true rfl) (by decide) rfl ?_
  exact k1

set_option maxRecDepth 20000 in
theorem w_X_scatter_110 {Q : Option Value → sy_S → Prop} {σ : sy_S} {l2 : Int32} {l3 : Int32} {l4 : Int32} {l5 : Int32} {v : Int32}   (k1 : sy_E shX mX9_add (0, sy_ent [.ref 61, .int v] 3, [], σ) (fun r9 σ9 => sy_E shX mX11_scatter (113, [some (.ref 6), none, some (.int l2), some (.int l3), some (.int l4), some (.int l5), none], r9.toList ++ [], σ9) Q)) : sy_E shX mX11_scatter (110, [some (.ref 6), none, some (.int l2), some (.int l3), some (.int l4), some (.int l5), none], [.int v, .ref 61], σ) Q := by
  refine sy_callV mX9_add 61 [.int v] [] kX9_add jX11_375 (by decide +kernel) rfl rfl (Nat.le_of_ble_eq_true rfl) (Nat.le_of_ble_eq_true rfl) (by decide) rfl ?_
  exact k1

set_option maxRecDepth 20000 in
theorem w_X_scatter_113 {Q : Option Value → sy_S → Prop} {σ : sy_S} {l2 : Int32} {l3 : Int32} {l4 : Int32} {l5 : Int32}   (k1 : sy_E shX mX11_scatter (47, [some (.ref 6), none, some (.int l2), some (.int l3), some (.int l4), some (.int (l5 + 1)), none], [], σ) Q) : sy_E shX mX11_scatter (113, [some (.ref 6), none, some (.int l2), some (.int l3), some (.int l4), some (.int l5), none], [], σ) Q := by
  refine sy_bk [(.iinc 5 1, 0, 0, 1, 0), (.goto (-69), 0, 47, 0, 0)] (47, [some (.ref 6), none, some (.int l2), some (.int l3), some (.int l4), some (.int (l5 + 1)), none], [], σ) [] (by decide +kernel) rfl trivial ?_
  exact k1

set_option maxRecDepth 20000 in
theorem w_X_untold_0 {Q : Option Value → sy_S → Prop} {σ : sy_S} {k : Nat} {n : Int32}   (k1 : sy_E shX mX11_firstUntold (2, [some (.ref 6), some (.ref k), some (.int n), some (.int 0)], [], σ) Q) : sy_E shX mX11_firstUntold (0, sy_ent [.ref 6, .ref k, .int n] 4, [], σ) Q := by
  show sy_E shX mX11_firstUntold (0, [some (.ref 6), some (.ref k), some (.int n), none], [], σ) _
  refine sy_bk [(.iconst 0, 0, 0, 0, 0), (.istore_n 3, 0, 0, 0, 0)] (2, [some (.ref 6), some (.ref k), some (.int n), some (.int 0)], [], σ) [] (by decide +kernel) rfl trivial ?_
  exact k1

set_option maxRecDepth 20000 in
theorem w_X_untold_2 {Q : Option Value → sy_S → Prop} {σ : sy_S} {k : Nat} {l2 : Int32} {l3 : Int32} (hk : shX[k]? = some (0, 40, [])) (b1 : ¬ ((σ.1 0 7) ≤ l3) → ¬ (l2 ≤ l3) → vp_in l3 40) (k1 : (σ.1 0 7) ≤ l3 → Q (some (.int (-1))) σ) (k2 : ¬ ((σ.1 0 7) ≤ l3) → l2 ≤ l3 → Q (some (.int l3)) σ) (k3 : ¬ ((σ.1 0 7) ≤ l3) → ¬ (l2 ≤ l3) → (σ.1 k l3.toNatClampNeg) < 0 → Q (some (.int l3)) σ) (k4 : ¬ ((σ.1 0 7) ≤ l3) → ¬ (l2 ≤ l3) → ¬ ((σ.1 k l3.toNatClampNeg) < 0) → (σ.1 k l3.toNatClampNeg) ≤ 1000000 → sy_E shX mX11_firstUntold (2, [some (.ref 6), some (.ref k), some (.int l2), some (.int (l3 + 1))], [], σ) Q) (k5 : ¬ ((σ.1 0 7) ≤ l3) → ¬ (l2 ≤ l3) → ¬ ((σ.1 k l3.toNatClampNeg) < 0) → ¬ ((σ.1 k l3.toNatClampNeg) ≤ 1000000) → Q (some (.int l3)) σ) : sy_E shX mX11_firstUntold (2, [some (.ref 6), some (.ref k), some (.int l2), some (.int l3)], [], σ) Q := by
  refine sy_bk [(.iload_n 3, 0, 0, 0, 0), (.aload_n 0, 0, 0, 0, 0), (.getfield 16, 11, 0, 0, 0)] (7, [some (.ref 6), some (.ref k), some (.int l2), some (.int l3)], [.ref 0, .int l3], σ) [] (by decide +kernel) rfl trivial ?_
  refine sy_callV mX3_placeCount 0 [] [.int l3] kX3_placeCount jX11_275 (by decide +kernel) rfl rfl (Nat.le_of_ble_eq_true rfl) (Nat.le_of_ble_eq_true rfl) (by decide) rfl ?_
  refine w_x_placeCount (σ := σ) ?_
  show sy_E shX mX11_firstUntold (10, [some (.ref 6), some (.ref k), some (.int l2), some (.int l3)], [.int (σ.1 0 7), .int l3], σ) _
  by_cases c1 : (σ.1 0 7) ≤ l3
  · refine sy_bk [(.if_icmp .ge 30, 1, 40, 0, 0)] (40, [some (.ref 6), some (.ref k), some (.int l2), some (.int l3)], [], σ) [sy_cc .ge l3 (σ.1 0 7)] (by decide +kernel) rfl ⟨c1, trivial⟩ ?_
    refine sy_bk [(.iconst (-1), 0, 0, (-1), 0)] (41, [some (.ref 6), some (.ref k), some (.int l2), some (.int l3)], [.int (-1)], σ) [] (by decide +kernel) rfl trivial ?_
    exact sy_reti rfl (by decide +kernel) (k1 c1)
  · refine sy_bk [(.if_icmp .ge 30, 0, 40, 0, 0)] (13, [some (.ref 6), some (.ref k), some (.int l2), some (.int l3)], [], σ) [¬ sy_cc .ge l3 (σ.1 0 7)] (by decide +kernel) rfl ⟨c1, trivial⟩ ?_
    refine sy_bk [(.iload_n 3, 0, 0, 0, 0), (.iload_n 2, 0, 0, 0, 0)] (15, [some (.ref 6), some (.ref k), some (.int l2), some (.int l3)], [.int l2, .int l3], σ) [] (by decide +kernel) rfl trivial ?_
    by_cases c2 : l2 ≤ l3
    · refine sy_bk [(.if_icmp .ge 17, 1, 32, 0, 0)] (32, [some (.ref 6), some (.ref k), some (.int l2), some (.int l3)], [], σ) [sy_cc .ge l3 l2] (by decide +kernel) rfl ⟨c2, trivial⟩ ?_
      refine sy_bk [(.iload_n 3, 0, 0, 0, 0)] (33, [some (.ref 6), some (.ref k), some (.int l2), some (.int l3)], [.int l3], σ) [] (by decide +kernel) rfl trivial ?_
      exact sy_reti rfl (by decide +kernel) (k2 c1 c2)
    · refine sy_bk [(.if_icmp .ge 17, 0, 32, 0, 0)] (18, [some (.ref 6), some (.ref k), some (.int l2), some (.int l3)], [], σ) [¬ sy_cc .ge l3 l2] (by decide +kernel) rfl ⟨c2, trivial⟩ ?_
      refine sy_bk [(.aload_n 1, 0, 0, 0, 0), (.iload_n 3, 0, 0, 0, 0), (.iaload, 0, 0, 0, 0)] (21, [some (.ref 6), some (.ref k), some (.int l2), some (.int l3)], [.int (σ.1 k l3.toNatClampNeg)], σ) [sy_okA shX 0 k l3] (by decide +kernel) rfl ⟨⟨40, _, hk, (b1 c1 c2)⟩, trivial⟩ ?_
      by_cases c3 : (σ.1 k l3.toNatClampNeg) < 0
      · refine sy_bk [(.ifCond .lt 11, 1, 32, 0, 0)] (32, [some (.ref 6), some (.ref k), some (.int l2), some (.int l3)], [], σ) [sy_cc .lt (σ.1 k l3.toNatClampNeg) 0] (by decide +kernel) rfl ⟨c3, trivial⟩ ?_
        refine sy_bk [(.iload_n 3, 0, 0, 0, 0)] (33, [some (.ref 6), some (.ref k), some (.int l2), some (.int l3)], [.int l3], σ) [] (by decide +kernel) rfl trivial ?_
        exact sy_reti rfl (by decide +kernel) (k3 c1 c2 c3)
      · refine sy_bk [(.ifCond .lt 11, 0, 32, 0, 0)] (24, [some (.ref 6), some (.ref k), some (.int l2), some (.int l3)], [], σ) [¬ sy_cc .lt (σ.1 k l3.toNatClampNeg) 0] (by decide +kernel) rfl ⟨c3, trivial⟩ ?_
        refine sy_bk [(.aload_n 1, 0, 0, 0, 0), (.iload_n 3, 0, 0, 0, 0), (.iaload, 0, 0, 0, 0), (.ldc 204, 0, 0, 1000000, 0)] (29, [some (.ref 6), some (.ref k), some (.int l2), some (.int l3)], [.int 1000000, .int (σ.1 k l3.toNatClampNeg)], σ) [sy_okA shX 0 k l3] (by decide +kernel) rfl ⟨⟨40, _, hk, (b1 c1 c2)⟩, trivial⟩ ?_
        by_cases c4 : (σ.1 k l3.toNatClampNeg) ≤ 1000000
        · refine sy_bk [(.if_icmp .le 5, 1, 34, 0, 0)] (34, [some (.ref 6), some (.ref k), some (.int l2), some (.int l3)], [], σ) [sy_cc .le (σ.1 k l3.toNatClampNeg) 1000000] (by decide +kernel) rfl ⟨c4, trivial⟩ ?_
          refine sy_bk [(.iinc 3 1, 0, 0, 1, 0), (.goto (-35), 0, 2, 0, 0)] (2, [some (.ref 6), some (.ref k), some (.int l2), some (.int (l3 + 1))], [], σ) [] (by decide +kernel) rfl trivial ?_
          exact k4 c1 c2 c3 c4
        · refine sy_bk [(.if_icmp .le 5, 0, 34, 0, 0)] (32, [some (.ref 6), some (.ref k), some (.int l2), some (.int l3)], [], σ) [¬ sy_cc .le (σ.1 k l3.toNatClampNeg) 1000000] (by decide +kernel) rfl ⟨c4, trivial⟩ ?_
          refine sy_bk [(.iload_n 3, 0, 0, 0, 0)] (33, [some (.ref 6), some (.ref k), some (.int l2), some (.int l3)], [.int l3], σ) [] (by decide +kernel) rfl trivial ?_
          exact sy_reti rfl (by decide +kernel) (k5 c1 c2 c3 c4)

set_option maxRecDepth 20000 in
theorem w_X_unsteady_0 {Q : Option Value → sy_S → Prop} {σ : sy_S} {k : Nat}   (k1 : sy_E shX mX11_firstUnsteady (2, [some (.ref 6), some (.ref k), some (.int 0), none, none, none], [], σ) Q) : sy_E shX mX11_firstUnsteady (0, sy_ent [.ref 6, .ref k] 6, [], σ) Q := by
  show sy_E shX mX11_firstUnsteady (0, [some (.ref 6), some (.ref k), none, none, none, none], [], σ) _
  refine sy_bk [(.iconst 0, 0, 0, 0, 0), (.istore_n 2, 0, 0, 0, 0)] (2, [some (.ref 6), some (.ref k), some (.int 0), none, none, none], [], σ) [] (by decide +kernel) rfl trivial ?_
  exact k1

set_option maxRecDepth 20000 in
theorem w_X_unsteady_2 {Q : Option Value → sy_S → Prop} {σ : sy_S} {k : Nat} {l2 : Int32} (hk : shX[k]? = some (0, 40, [])) (b1 : ¬ ((σ.1 0 7) ≤ l2) → vp_in l2 16) (b2 : ¬ ((σ.1 0 7) ≤ l2) → vp_in (σ.1 2 l2.toNatClampNeg) 16) (b3 : ¬ ((σ.1 0 7) ≤ l2) → vp_in l2 40) (k1 : (σ.1 0 7) ≤ l2 → Q (some (.int (-5))) σ) (k2 : ¬ ((σ.1 0 7) ≤ l2) → sy_E shX mX11_firstUnsteady (39, [some (.ref 6), some (.ref k), some (.int l2), some (.int (σ.1 2 l2.toNatClampNeg)), some (.int ((σ.1 7 ((σ.1 2 l2.toNatClampNeg).toNatClampNeg)) - (4 * (σ.1 k l2.toNatClampNeg)))), some (.int 0)], [], σ) Q) : sy_E shX mX11_firstUnsteady (2, [some (.ref 6), some (.ref k), some (.int l2), none, none, none], [], σ) Q := by
  refine sy_bk [(.iload_n 2, 0, 0, 0, 0), (.aload_n 0, 0, 0, 0, 0), (.getfield 16, 11, 0, 0, 0)] (7, [some (.ref 6), some (.ref k), some (.int l2), none, none, none], [.ref 0, .int l2], σ) [] (by decide +kernel) rfl trivial ?_
  refine sy_callV mX3_placeCount 0 [] [.int l2] kX3_placeCount jX11_275 (by decide +kernel) rfl rfl (Nat.le_of_ble_eq_true rfl) (Nat.le_of_ble_eq_true rfl) (by decide) rfl ?_
  refine w_x_placeCount (σ := σ) ?_
  show sy_E shX mX11_firstUnsteady (10, [some (.ref 6), some (.ref k), some (.int l2), none, none, none], [.int (σ.1 0 7), .int l2], σ) _
  by_cases c1 : (σ.1 0 7) ≤ l2
  · refine sy_bk [(.if_icmp .ge 86, 1, 96, 0, 0)] (96, [some (.ref 6), some (.ref k), some (.int l2), none, none, none], [], σ) [sy_cc .ge l2 (σ.1 0 7)] (by decide +kernel) rfl ⟨c1, trivial⟩ ?_
    refine sy_bk [(.bipush (-5), 0, 0, (-5), 0)] (98, [some (.ref 6), some (.ref k), some (.int l2), none, none, none], [.int (-5)], σ) [] (by decide +kernel) rfl trivial ?_
    exact sy_reti rfl (by decide +kernel) (k1 c1)
  · refine sy_bk [(.if_icmp .ge 86, 0, 96, 0, 0)] (13, [some (.ref 6), some (.ref k), some (.int l2), none, none, none], [], σ) [¬ sy_cc .ge l2 (σ.1 0 7)] (by decide +kernel) rfl ⟨c1, trivial⟩ ?_
    refine sy_bk [(.aload_n 0, 0, 0, 0, 0), (.getfield 16, 11, 0, 0, 0), (.iload_n 2, 0, 0, 0, 0)] (18, [some (.ref 6), some (.ref k), some (.int l2), none, none, none], [.int l2, .ref 0], σ) [] (by decide +kernel) rfl trivial ?_
    refine sy_callV mX3_placeAt 0 [.int l2] [] kX3_placeAt jX11_334 (by decide +kernel) rfl rfl (Nat.le_of_ble_eq_true rfl) (Nat.le_of_ble_eq_true rfl) (by decide) rfl ?_
    refine w_x_placeAt (σ := σ) (cell := l2) (b1 c1) ?_
    show sy_E shX mX11_firstUnsteady (21, [some (.ref 6), some (.ref k), some (.int l2), none, none, none], [.int (σ.1 2 l2.toNatClampNeg)], σ) _
    refine sy_bk [(.istore_n 3, 0, 0, 0, 0), (.aload_n 0, 0, 0, 0, 0), (.getfield 20, 11, 1, 0, 0), (.iload_n 3, 0, 0, 0, 0), (.iaload, 0, 0, 0, 0), (.iconst 4, 0, 0, 4, 0), (.aload_n 1, 0, 0, 0, 0), (.iload_n 2, 0, 0, 0, 0), (.iaload, 0, 0, 0, 0), (.imul, 0, 0, 0, 0), (.isub, 0, 0, 0, 0), (.istore 4, 0, 0, 0, 0), (.iconst 0, 0, 0, 0, 0), (.istore 5, 0, 0, 0, 0)] (39, [some (.ref 6), some (.ref k), some (.int l2), some (.int (σ.1 2 l2.toNatClampNeg)), some (.int ((σ.1 7 ((σ.1 2 l2.toNatClampNeg).toNatClampNeg)) - (4 * (σ.1 k l2.toNatClampNeg)))), some (.int 0)], [], σ) [sy_okA shX 0 7 (σ.1 2 l2.toNatClampNeg), sy_okA shX 0 k l2] (by decide +kernel) rfl ⟨⟨16, _, rfl, (b2 c1)⟩, ⟨40, _, hk, (b3 c1)⟩, trivial⟩ ?_
    exact k2 c1

set_option maxRecDepth 20000 in
theorem w_X_unsteady_39 {Q : Option Value → sy_S → Prop} {σ : sy_S} {k : Nat} {l2 : Int32} {l3 : Int32} {l4 : Int32} {l5 : Int32} (hk : shX[k]? = some (0, 40, [])) (b1 : vp_in l3 16) (b2 : ¬ ((σ.1 5 l3.toNatClampNeg) ≤ l5) → vp_in ((l3 * 4) + l5) 64) (b3 : ¬ ((σ.1 5 l3.toNatClampNeg) ≤ l5) → vp_in (σ.1 4 (((l3 * 4) + l5).toNatClampNeg)) 16) (b4 : ¬ ((σ.1 5 l3.toNatClampNeg) ≤ l5) → vp_in (σ.1 3 (σ.1 4 (((l3 * 4) + l5).toNatClampNeg)).toNatClampNeg) 40) (k1 : (σ.1 5 l3.toNatClampNeg) ≤ l5 → l4 ≤ 3 → sy_E shX mX11_firstUnsteady (2, [some (.ref 6), some (.ref k), some (.int (l2 + 1)), none, none, none], [], σ) Q) (k2 : (σ.1 5 l3.toNatClampNeg) ≤ l5 → ¬ (l4 ≤ 3) → Q (some (.int l2)) σ) (k3 : ¬ ((σ.1 5 l3.toNatClampNeg) ≤ l5) → sy_E shX mX11_firstUnsteady (39, [some (.ref 6), some (.ref k), some (.int l2), some (.int l3), some (.int (l4 + (σ.1 k ((σ.1 3 (σ.1 4 (((l3 * 4) + l5).toNatClampNeg)).toNatClampNeg).toNatClampNeg)))), some (.int (l5 + 1))], [], σ) Q) : sy_E shX mX11_firstUnsteady (39, [some (.ref 6), some (.ref k), some (.int l2), some (.int l3), some (.int l4), some (.int l5)], [], σ) Q := by
  refine sy_bk [(.iload 5, 0, 0, 0, 0), (.aload_n 0, 0, 0, 0, 0), (.getfield 16, 11, 0, 0, 0), (.iload_n 3, 0, 0, 0, 0)] (46, [some (.ref 6), some (.ref k), some (.int l2), some (.int l3), some (.int l4), some (.int l5)], [.int l3, .ref 0, .int l5], σ) [] (by decide +kernel) rfl trivial ?_
  refine sy_callV mX3_nextCount 0 [.int l3] [.int l5] kX3_nextCount jX11_376 (by decide +kernel) rfl rfl (Nat.le_of_ble_eq_true rfl) (Nat.le_of_ble_eq_true rfl) (by decide) rfl ?_
  refine w_x_nextCount (σ := σ) (cell := l3) b1 ?_
  show sy_E shX mX11_firstUnsteady (49, [some (.ref 6), some (.ref k), some (.int l2), some (.int l3), some (.int l4), some (.int l5)], [.int (σ.1 5 l3.toNatClampNeg), .int l5], σ) _
  by_cases c1 : (σ.1 5 l3.toNatClampNeg) ≤ l5
  · refine sy_bk [(.if_icmp .ge 33, 1, 82, 0, 0)] (82, [some (.ref 6), some (.ref k), some (.int l2), some (.int l3), some (.int l4), some (.int l5)], [], σ) [sy_cc .ge l5 (σ.1 5 l3.toNatClampNeg)] (by decide +kernel) rfl ⟨c1, trivial⟩ ?_
    refine sy_bk [(.iload 4, 0, 0, 0, 0), (.iconst 3, 0, 0, 3, 0)] (85, [some (.ref 6), some (.ref k), some (.int l2), some (.int l3), some (.int l4), some (.int l5)], [.int 3, .int l4], σ) [] (by decide +kernel) rfl trivial ?_
    by_cases c2 : l4 ≤ 3
    · refine sy_bk [(.if_icmp .le 5, 1, 90, 0, 0)] (90, [some (.ref 6), some (.ref k), some (.int l2), some (.int l3), some (.int l4), some (.int l5)], [], σ) [sy_cc .le l4 3] (by decide +kernel) rfl ⟨c2, trivial⟩ ?_
      refine sy_bk [(.iinc 2 1, 0, 0, 1, 0), (.goto (-91), 0, 2, 0, 0)] (2, [some (.ref 6), some (.ref k), some (.int (l2 + 1)), some (.int l3), some (.int l4), some (.int l5)], [], σ) [] (by decide +kernel) rfl trivial ?_
      refine sy_drop [some (.ref 6), some (.ref k), some (.int (l2 + 1)), none, none, none] ⟨rfl, rfl, rfl, trivial⟩ ?_
      exact k1 c1 c2
    · refine sy_bk [(.if_icmp .le 5, 0, 90, 0, 0)] (88, [some (.ref 6), some (.ref k), some (.int l2), some (.int l3), some (.int l4), some (.int l5)], [], σ) [¬ sy_cc .le l4 3] (by decide +kernel) rfl ⟨c2, trivial⟩ ?_
      refine sy_bk [(.iload_n 2, 0, 0, 0, 0)] (89, [some (.ref 6), some (.ref k), some (.int l2), some (.int l3), some (.int l4), some (.int l5)], [.int l2], σ) [] (by decide +kernel) rfl trivial ?_
      exact sy_reti rfl (by decide +kernel) (k2 c1 c2)
  · refine sy_bk [(.if_icmp .ge 33, 0, 82, 0, 0)] (52, [some (.ref 6), some (.ref k), some (.int l2), some (.int l3), some (.int l4), some (.int l5)], [], σ) [¬ sy_cc .ge l5 (σ.1 5 l3.toNatClampNeg)] (by decide +kernel) rfl ⟨c1, trivial⟩ ?_
    refine sy_bk [(.iload 4, 0, 0, 0, 0), (.aload_n 1, 0, 0, 0, 0), (.aload_n 0, 0, 0, 0, 0), (.getfield 16, 11, 0, 0, 0), (.aload_n 0, 0, 0, 0, 0), (.getfield 16, 11, 0, 0, 0), (.iload_n 3, 0, 0, 0, 0), (.iload 5, 0, 0, 0, 0)] (66, [some (.ref 6), some (.ref k), some (.int l2), some (.int l3), some (.int l4), some (.int l5)], [.int l5, .int l3, .ref 0, .ref 0, .ref k, .int l4], σ) [] (by decide +kernel) rfl trivial ?_
    refine sy_callV mX3_nextAt 0 [.int l3, .int l5] [.ref 0, .ref k, .int l4] kX3_nextAt jX11_379 (by decide +kernel) rfl rfl (Nat.le_of_ble_eq_true rfl) (Nat.le_of_ble_eq_true rfl) (by decide) rfl ?_
    refine w_x_nextAt (σ := σ) (cell := l3) (side := l5) (b2 c1) ?_
    show sy_E shX mX11_firstUnsteady (69, [some (.ref 6), some (.ref k), some (.int l2), some (.int l3), some (.int l4), some (.int l5)], [.int (σ.1 4 (((l3 * 4) + l5).toNatClampNeg)), .ref 0, .ref k, .int l4], σ) _
    refine sy_callV mX3_numberOf 0 [.int (σ.1 4 (((l3 * 4) + l5).toNatClampNeg))] [.ref k, .int l4] kX3_numberOf jX11_383 (by decide +kernel) rfl rfl (Nat.le_of_ble_eq_true rfl) (Nat.le_of_ble_eq_true rfl) (by decide) rfl ?_
    refine w_x_numberOf (σ := σ) (cell := (σ.1 4 (((l3 * 4) + l5).toNatClampNeg))) (b3 c1) ?_
    show sy_E shX mX11_firstUnsteady (72, [some (.ref 6), some (.ref k), some (.int l2), some (.int l3), some (.int l4), some (.int l5)], [.int (σ.1 3 (σ.1 4 (((l3 * 4) + l5).toNatClampNeg)).toNatClampNeg), .ref k, .int l4], σ) _
    refine sy_bk [(.iaload, 0, 0, 0, 0), (.iadd, 0, 0, 0, 0), (.istore 4, 0, 0, 0, 0), (.iinc 5 1, 0, 0, 1, 0), (.goto (-40), 0, 39, 0, 0)] (39, [some (.ref 6), some (.ref k), some (.int l2), some (.int l3), some (.int (l4 + (σ.1 k ((σ.1 3 (σ.1 4 (((l3 * 4) + l5).toNatClampNeg)).toNatClampNeg).toNatClampNeg)))), some (.int (l5 + 1))], [], σ) [sy_okA shX 0 k (σ.1 3 (σ.1 4 (((l3 * 4) + l5).toNatClampNeg)).toNatClampNeg)] (by decide +kernel) rfl ⟨⟨40, _, hk, (b4 c1)⟩, trivial⟩ ?_
    exact k3 c1

set_option maxRecDepth 20000 in
theorem w_X_size_0 {Q : Option Value → sy_S → Prop} {σ : sy_S} {r : Int32} {c : Int32}   (k1 : r < 1 → Q (some (.int (-2))) σ) (k2 : ¬ (r < 1) → 4 < r → Q (some (.int (-2))) σ) (k3 : ¬ (r < 1) → ¬ (4 < r) → c < 1 → Q (some (.int (-2))) σ) (k4 : ¬ (r < 1) → ¬ (4 < r) → ¬ (c < 1) → c ≤ 4 → sy_E shX mX3_shape (0, sy_ent [.ref 0, .int r, .int c] 3, [], σ) (fun r9 σ9 => sy_E shX mX11_size (40, [some (.ref 6), none, none, some (.int ((σ.1 0 5) * (σ.1 0 6)))], r9.toList ++ [], σ9) Q)) (k5 : ¬ (r < 1) → ¬ (4 < r) → ¬ (c < 1) → ¬ (c ≤ 4) → Q (some (.int (-2))) σ) : sy_E shX mX11_size (0, sy_ent [.ref 6, .int r, .int c] 4, [], σ) Q := by
  show sy_E shX mX11_size (0, [some (.ref 6), some (.int r), some (.int c), none], [], σ) _
  refine sy_bk [(.iload_n 1, 0, 0, 0, 0), (.iconst 1, 0, 0, 1, 0)] (2, [some (.ref 6), some (.int r), some (.int c), none], [.int 1, .int r], σ) [] (by decide +kernel) rfl trivial ?_
  by_cases c1 : r < 1
  · refine sy_bk [(.if_icmp .lt 18, 1, 20, 0, 0)] (20, [some (.ref 6), some (.int r), some (.int c), none], [], σ) [sy_cc .lt r 1] (by decide +kernel) rfl ⟨c1, trivial⟩ ?_
    refine sy_bk [(.bipush (-2), 0, 0, (-2), 0)] (22, [some (.ref 6), some (.int r), some (.int c), none], [.int (-2)], σ) [] (by decide +kernel) rfl trivial ?_
    exact sy_reti rfl (by decide +kernel) (k1 c1)
  · refine sy_bk [(.if_icmp .lt 18, 0, 20, 0, 0)] (5, [some (.ref 6), some (.int r), some (.int c), none], [], σ) [¬ sy_cc .lt r 1] (by decide +kernel) rfl ⟨c1, trivial⟩ ?_
    refine sy_bk [(.iload_n 1, 0, 0, 0, 0), (.iconst 4, 0, 0, 4, 0)] (7, [some (.ref 6), some (.int r), some (.int c), none], [.int 4, .int r], σ) [] (by decide +kernel) rfl trivial ?_
    by_cases c2 : 4 < r
    · refine sy_bk [(.if_icmp .gt 13, 1, 20, 0, 0)] (20, [some (.ref 6), some (.int r), some (.int c), none], [], σ) [sy_cc .gt r 4] (by decide +kernel) rfl ⟨c2, trivial⟩ ?_
      refine sy_bk [(.bipush (-2), 0, 0, (-2), 0)] (22, [some (.ref 6), some (.int r), some (.int c), none], [.int (-2)], σ) [] (by decide +kernel) rfl trivial ?_
      exact sy_reti rfl (by decide +kernel) (k2 c1 c2)
    · refine sy_bk [(.if_icmp .gt 13, 0, 20, 0, 0)] (10, [some (.ref 6), some (.int r), some (.int c), none], [], σ) [¬ sy_cc .gt r 4] (by decide +kernel) rfl ⟨c2, trivial⟩ ?_
      refine sy_bk [(.iload_n 2, 0, 0, 0, 0), (.iconst 1, 0, 0, 1, 0)] (12, [some (.ref 6), some (.int r), some (.int c), none], [.int 1, .int c], σ) [] (by decide +kernel) rfl trivial ?_
      by_cases c3 : c < 1
      · refine sy_bk [(.if_icmp .lt 8, 1, 20, 0, 0)] (20, [some (.ref 6), some (.int r), some (.int c), none], [], σ) [sy_cc .lt c 1] (by decide +kernel) rfl ⟨c3, trivial⟩ ?_
        refine sy_bk [(.bipush (-2), 0, 0, (-2), 0)] (22, [some (.ref 6), some (.int r), some (.int c), none], [.int (-2)], σ) [] (by decide +kernel) rfl trivial ?_
        exact sy_reti rfl (by decide +kernel) (k3 c1 c2 c3)
      · refine sy_bk [(.if_icmp .lt 8, 0, 20, 0, 0)] (15, [some (.ref 6), some (.int r), some (.int c), none], [], σ) [¬ sy_cc .lt c 1] (by decide +kernel) rfl ⟨c3, trivial⟩ ?_
        refine sy_bk [(.iload_n 2, 0, 0, 0, 0), (.iconst 4, 0, 0, 4, 0)] (17, [some (.ref 6), some (.int r), some (.int c), none], [.int 4, .int c], σ) [] (by decide +kernel) rfl trivial ?_
        by_cases c4 : c ≤ 4
        · refine sy_bk [(.if_icmp .le 6, 1, 23, 0, 0)] (23, [some (.ref 6), some (.int r), some (.int c), none], [], σ) [sy_cc .le c 4] (by decide +kernel) rfl ⟨c4, trivial⟩ ?_
          refine sy_bk [(.aload_n 0, 0, 0, 0, 0), (.getfield 16, 11, 0, 0, 0)] (27, [some (.ref 6), some (.int r), some (.int c), none], [.ref 0], σ) [] (by decide +kernel) rfl trivial ?_
          refine sy_callV mX3_cellCount 0 [] [] kX3_cellCount jX11_107 (by decide +kernel) rfl rfl (Nat.le_of_ble_eq_true rfl) (Nat.le_of_ble_eq_true rfl) (by decide) rfl ?_
          refine w_x_cellCount (σ := σ) ?_
          show sy_E shX mX11_size (30, [some (.ref 6), some (.int r), some (.int c), none], [.int ((σ.1 0 5) * (σ.1 0 6))], σ) _
          refine sy_bk [(.istore_n 3, 0, 0, 0, 0), (.aload_n 0, 0, 0, 0, 0), (.getfield 16, 11, 0, 0, 0), (.iload_n 1, 0, 0, 0, 0), (.iload_n 2, 0, 0, 0, 0)] (37, [some (.ref 6), some (.int r), some (.int c), some (.int ((σ.1 0 5) * (σ.1 0 6)))], [.int c, .int r, .ref 0], σ) [] (by decide +kernel) rfl trivial ?_
          refine sy_drop [some (.ref 6), none, none, some (.int ((σ.1 0 5) * (σ.1 0 6)))] ⟨rfl, rfl, trivial⟩ ?_
          refine sy_callV mX3_shape 0 [.int r, .int c] [] kX3_shape jX11_111 (by decide +kernel) rfl rfl (Nat.le_of_ble_eq_true rfl) (Nat.le_of_ble_eq_true rfl) (by decide) rfl ?_
          exact k4 c1 c2 c3 c4
        · refine sy_bk [(.if_icmp .le 6, 0, 23, 0, 0)] (20, [some (.ref 6), some (.int r), some (.int c), none], [], σ) [¬ sy_cc .le c 4] (by decide +kernel) rfl ⟨c4, trivial⟩ ?_
          refine sy_bk [(.bipush (-2), 0, 0, (-2), 0)] (22, [some (.ref 6), some (.int r), some (.int c), none], [.int (-2)], σ) [] (by decide +kernel) rfl trivial ?_
          exact sy_reti rfl (by decide +kernel) (k5 c1 c2 c3 c4)

set_option maxRecDepth 20000 in
theorem w_X_size_40 {Q : Option Value → sy_S → Prop} {σ : sy_S} {l3 : Int32}   (k1 : sy_E shX mJ7_fill_53178 (0, sy_ent [.ref 7, .int 0] 4, [], σ) (fun r9 σ9 => sy_E shX mX11_size (48, [some (.ref 6), none, none, some (.int l3)], r9.toList ++ [], σ9) Q)) : sy_E shX mX11_size (40, [some (.ref 6), none, none, some (.int l3)], [], σ) Q := by
  refine sy_bk [(.aload_n 0, 0, 0, 0, 0), (.getfield 20, 11, 1, 0, 0), (.iconst 0, 0, 0, 0, 0)] (45, [some (.ref 6), none, none, some (.int l3)], [.int 0, .ref 7], σ) [] (by decide +kernel) rfl trivial ?_
  refine sy_callS mJ7_fill_53178 [.ref 7, .int 0] [] kJ7_fill_53178 jX11_114 (by decide +kernel) rfl rfl (Nat.le_of_ble_eq_true rfl) (Nat.le_of_ble_eq_true rfl) (by decide) ?_
  exact k1

set_option maxRecDepth 20000 in
theorem w_X_size_48 {Q : Option Value → sy_S → Prop} {σ : sy_S} {l3 : Int32}   (k1 : sy_E shX mX11_forgetPilesAndChanges (0, sy_ent [.ref 6] 1, [], σ) (fun r9 σ9 => sy_E shX mX11_size (52, [none, none, none, some (.int l3)], r9.toList ++ [], σ9) Q)) : sy_E shX mX11_size (48, [some (.ref 6), none, none, some (.int l3)], [], σ) Q := by
  refine sy_bk [(.aload_n 0, 0, 0, 0, 0)] (49, [some (.ref 6), none, none, some (.int l3)], [.ref 6], σ) [] (by decide +kernel) rfl trivial ?_
  refine sy_drop [none, none, none, some (.int l3)] ⟨rfl, trivial⟩ ?_
  refine sy_callV mX11_forgetPilesAndChanges 6 [] [] kX11_forgetPilesAndChanges jX11_120 (by decide +kernel) rfl rfl (Nat.le_of_ble_eq_true rfl) (Nat.le_of_ble_eq_true rfl) (by decide) rfl ?_
  exact k1

set_option maxRecDepth 20000 in
theorem w_X_size_52 {Q : Option Value → sy_S → Prop} {σ : sy_S} {l3 : Int32}   (k1 : Q (some (.int l3)) σ) : sy_E shX mX11_size (52, [none, none, none, some (.int l3)], [], σ) Q := by
  refine sy_bk [(.iload_n 3, 0, 0, 0, 0)] (53, [none, none, none, some (.int l3)], [.int l3], σ) [] (by decide +kernel) rfl trivial ?_
  exact sy_reti rfl (by decide +kernel) (k1)

set_option maxRecDepth 20000 in
theorem w_X_wall_0 {Q : Option Value → sy_S → Prop} {σ : sy_S} {cell : Int32} {b : Int32} {G : sg_G}  (b1 : ¬ (cell < 0) → ¬ (((σ.1 0 5) * (σ.1 0 6)) ≤ cell) → gx G σ.1) (k1 : cell < 0 → Q (some (.int (-1))) σ) (k2 : ¬ (cell < 0) → ((σ.1 0 5) * (σ.1 0 6)) ≤ cell → Q (some (.int (-1))) σ) (k3 : ¬ (cell < 0) → ¬ (((σ.1 0 5) * (σ.1 0 6)) ≤ cell) → ∀ (m_6 : Nat), px (sg_p G) cell = some m_6 → 0 = b → Q (some (.int 0)) σ) (k4 : ¬ (cell < 0) → ¬ (((σ.1 0 5) * (σ.1 0 6)) ≤ cell) → ∀ (m_6 : Nat), px (sg_p G) cell = some m_6 → ¬ (0 = b) → sy_E shX mX3_build (0, sy_ent [.ref 0, .int cell, .int b] 3, [], σ) (fun r9 σ9 => sy_E shX mX11_wall (44, [some (.ref 6), some (.int cell), none, some (.int 0)], r9.toList ++ [], σ9) Q)) (k5 : ¬ (cell < 0) → ¬ (((σ.1 0 5) * (σ.1 0 6)) ≤ cell) → px (sg_p G) cell = none → 1 = b → Q (some (.int 1)) σ) (k6 : ¬ (cell < 0) → ¬ (((σ.1 0 5) * (σ.1 0 6)) ≤ cell) → px (sg_p G) cell = none → ¬ (1 = b) → sy_E shX mX3_build (0, sy_ent [.ref 0, .int cell, .int b] 3, [], σ) (fun r9 σ9 => sy_E shX mX11_wall (44, [some (.ref 6), some (.int cell), none, some (.int 1)], r9.toList ++ [], σ9) Q)) : sy_E shX mX11_wall (0, sy_ent [.ref 6, .int cell, .int b] 4, [], σ) Q := by
  show sy_E shX mX11_wall (0, [some (.ref 6), some (.int cell), some (.int b), none], [], σ) _
  refine sy_bk [(.aload_n 0, 0, 0, 0, 0), (.getfield 16, 11, 0, 0, 0), (.iload_n 1, 0, 0, 0, 0)] (5, [some (.ref 6), some (.int cell), some (.int b), none], [.int cell, .ref 0], σ) [] (by decide +kernel) rfl trivial ?_
  refine sy_callV mX3_isCell 0 [.int cell] [] kX3_isCell jX11_123 (by decide +kernel) rfl rfl (Nat.le_of_ble_eq_true rfl) (Nat.le_of_ble_eq_true rfl) (by decide) rfl ?_
  refine w_x_isCell (σ := σ) (cell := cell) ?_ ?_ ?_
  · intro c1
    show sy_E shX mX11_wall (8, [some (.ref 6), some (.int cell), some (.int b), none], [.int 0], σ) _
    refine sy_bk [(.ifCond .ne 5, 0, 13, 0, 0), (.iconst (-1), 0, 0, (-1), 0)] (12, [some (.ref 6), some (.int cell), some (.int b), none], [.int (-1)], σ) [¬ sy_cc .ne 0 0] (by decide +kernel) rfl ⟨(by decide : ¬ (¬ (0 : Int32) = 0)), trivial⟩ ?_
    exact sy_reti rfl (by decide +kernel) (k1 c1)
  · intro c2 c3
    show sy_E shX mX11_wall (8, [some (.ref 6), some (.int cell), some (.int b), none], [.int 0], σ) _
    refine sy_bk [(.ifCond .ne 5, 0, 13, 0, 0), (.iconst (-1), 0, 0, (-1), 0)] (12, [some (.ref 6), some (.int cell), some (.int b), none], [.int (-1)], σ) [¬ sy_cc .ne 0 0] (by decide +kernel) rfl ⟨(by decide : ¬ (¬ (0 : Int32) = 0)), trivial⟩ ?_
    exact sy_reti rfl (by decide +kernel) (k2 c2 c3)
  · intro c4 c5
    show sy_E shX mX11_wall (8, [some (.ref 6), some (.int cell), some (.int b), none], [.int 1], σ) _
    refine sy_bk [(.ifCond .ne 5, 1, 13, 0, 0), (.aload_n 0, 0, 0, 0, 0), (.getfield 16, 11, 0, 0, 0), (.iload_n 1, 0, 0, 0, 0)] (18, [some (.ref 6), some (.int cell), some (.int b), none], [.int cell, .ref 0], σ) [sy_cc .ne 1 0] (by decide +kernel) rfl ⟨(by decide : (¬ (1 : Int32) = 0)), trivial⟩ ?_
    refine sy_callV mX3_isPlace 0 [.int cell] [] kX3_isPlace jX11_127 (by decide +kernel) rfl rfl (Nat.le_of_ble_eq_true rfl) (Nat.le_of_ble_eq_true rfl) (by decide) rfl ?_
    refine e_x_isPl (σ := σ) (cell := cell) (b1 c4 c5) ?_ ?_
    · intro m_6 c7
      show sy_E shX mX11_wall (21, [some (.ref 6), some (.int cell), some (.int b), none], [.int 1], σ) _
      refine sy_bk [(.ifCond .ne 7, 1, 28, 0, 0), (.iconst 0, 0, 0, 0, 0), (.istore_n 3, 0, 0, 0, 0), (.iload_n 3, 0, 0, 0, 0), (.iload_n 2, 0, 0, 0, 0)] (32, [some (.ref 6), some (.int cell), some (.int b), some (.int 0)], [.int b, .int 0], σ) [sy_cc .ne 1 0] (by decide +kernel) rfl ⟨(by decide : (¬ (1 : Int32) = 0)), trivial⟩ ?_
      by_cases c8 : 0 = b
      · refine sy_bk [(.if_icmp .eq 23, 1, 55, 0, 0)] (55, [some (.ref 6), some (.int cell), some (.int b), some (.int 0)], [], σ) [sy_cc .eq 0 b] (by decide +kernel) rfl ⟨c8, trivial⟩ ?_
        refine sy_bk [(.iload_n 3, 0, 0, 0, 0), (.ifCond .eq 7, 1, 63, 0, 0), (.iconst 0, 0, 0, 0, 0)] (64, [some (.ref 6), some (.int cell), some (.int b), some (.int 0)], [.int 0], σ) [sy_cc .eq 0 0] (by decide +kernel) rfl ⟨(by decide : ((0 : Int32) = 0)), trivial⟩ ?_
        exact sy_reti rfl (by decide +kernel) (k3 c4 c5 m_6 c7 c8)
      · refine sy_bk [(.if_icmp .eq 23, 0, 55, 0, 0)] (35, [some (.ref 6), some (.int cell), some (.int b), some (.int 0)], [], σ) [¬ sy_cc .eq 0 b] (by decide +kernel) rfl ⟨c8, trivial⟩ ?_
        refine sy_bk [(.aload_n 0, 0, 0, 0, 0), (.getfield 16, 11, 0, 0, 0), (.iload_n 1, 0, 0, 0, 0), (.iload_n 2, 0, 0, 0, 0)] (41, [some (.ref 6), some (.int cell), some (.int b), some (.int 0)], [.int b, .int cell, .ref 0], σ) [] (by decide +kernel) rfl trivial ?_
        refine sy_drop [some (.ref 6), some (.int cell), none, some (.int 0)] ⟨rfl, rfl, rfl, trivial⟩ ?_
        refine sy_callV mX3_build 0 [.int cell, .int b] [] kX3_build jX11_130 (by decide +kernel) rfl rfl (Nat.le_of_ble_eq_true rfl) (Nat.le_of_ble_eq_true rfl) (by decide) rfl ?_
        exact k4 c4 c5 m_6 c7 c8
    · intro c9
      show sy_E shX mX11_wall (21, [some (.ref 6), some (.int cell), some (.int b), none], [.int 0], σ) _
      refine sy_bk [(.ifCond .ne 7, 0, 28, 0, 0), (.iconst 1, 0, 0, 1, 0), (.goto 4, 0, 29, 0, 0), (.istore_n 3, 0, 0, 0, 0), (.iload_n 3, 0, 0, 0, 0), (.iload_n 2, 0, 0, 0, 0)] (32, [some (.ref 6), some (.int cell), some (.int b), some (.int 1)], [.int b, .int 1], σ) [¬ sy_cc .ne 0 0] (by decide +kernel) rfl ⟨(by decide : ¬ (¬ (0 : Int32) = 0)), trivial⟩ ?_
      by_cases c10 : 1 = b
      · refine sy_bk [(.if_icmp .eq 23, 1, 55, 0, 0)] (55, [some (.ref 6), some (.int cell), some (.int b), some (.int 1)], [], σ) [sy_cc .eq 1 b] (by decide +kernel) rfl ⟨c10, trivial⟩ ?_
        refine sy_bk [(.iload_n 3, 0, 0, 0, 0), (.ifCond .eq 7, 0, 63, 0, 0), (.iconst 1, 0, 0, 1, 0), (.goto 4, 0, 64, 0, 0)] (64, [some (.ref 6), some (.int cell), some (.int b), some (.int 1)], [.int 1], σ) [¬ sy_cc .eq 1 0] (by decide +kernel) rfl ⟨(by decide : ¬ ((1 : Int32) = 0)), trivial⟩ ?_
        exact sy_reti rfl (by decide +kernel) (k5 c4 c5 c9 c10)
      · refine sy_bk [(.if_icmp .eq 23, 0, 55, 0, 0)] (35, [some (.ref 6), some (.int cell), some (.int b), some (.int 1)], [], σ) [¬ sy_cc .eq 1 b] (by decide +kernel) rfl ⟨c10, trivial⟩ ?_
        refine sy_bk [(.aload_n 0, 0, 0, 0, 0), (.getfield 16, 11, 0, 0, 0), (.iload_n 1, 0, 0, 0, 0), (.iload_n 2, 0, 0, 0, 0)] (41, [some (.ref 6), some (.int cell), some (.int b), some (.int 1)], [.int b, .int cell, .ref 0], σ) [] (by decide +kernel) rfl trivial ?_
        refine sy_drop [some (.ref 6), some (.int cell), none, some (.int 1)] ⟨rfl, rfl, rfl, trivial⟩ ?_
        refine sy_callV mX3_build 0 [.int cell, .int b] [] kX3_build jX11_130 (by decide +kernel) rfl rfl (Nat.le_of_ble_eq_true rfl) (Nat.le_of_ble_eq_true rfl) (by decide) rfl ?_
        exact k6 c4 c5 c9 c10

set_option maxRecDepth 20000 in
theorem w_X_wall_44 {Q : Option Value → sy_S → Prop} {σ : sy_S} {l1 : Int32} {l3 : Int32}  (b1 : vp_in l1 16) (k1 : sy_E shX mX11_forgetPilesAndChanges (0, sy_ent [.ref 6] 1, [], (sy_up σ.1 7 l1.toNatClampNeg 0, σ.2)) (fun r9 σ9 => sy_E shX mX11_wall (55, [none, none, none, some (.int l3)], r9.toList ++ [], σ9) Q)) : sy_E shX mX11_wall (44, [some (.ref 6), some (.int l1), none, some (.int l3)], [], σ) Q := by
  refine sy_bk [(.aload_n 0, 0, 0, 0, 0), (.getfield 20, 11, 1, 0, 0), (.iload_n 1, 0, 0, 0, 0), (.iconst 0, 0, 0, 0, 0), (.iastore, 0, 0, 0, 0), (.aload_n 0, 0, 0, 0, 0)] (52, [some (.ref 6), some (.int l1), none, some (.int l3)], [.ref 6], (sy_up σ.1 7 l1.toNatClampNeg 0, σ.2)) [sy_okA shX 0 7 l1] (by decide +kernel) rfl ⟨⟨16, _, rfl, b1⟩, trivial⟩ ?_
  refine sy_drop [none, none, none, some (.int l3)] ⟨rfl, trivial⟩ ?_
  refine sy_callV mX11_forgetPilesAndChanges 6 [] [] kX11_forgetPilesAndChanges jX11_120 (by decide +kernel) rfl rfl (Nat.le_of_ble_eq_true rfl) (Nat.le_of_ble_eq_true rfl) (by decide) rfl ?_
  exact k1

set_option maxRecDepth 20000 in
theorem w_X_wall_55 {Q : Option Value → sy_S → Prop} {σ : sy_S} {l3 : Int32}   (k1 : l3 = 0 → Q (some (.int 0)) σ) (k2 : ¬ (l3 = 0) → Q (some (.int 1)) σ) : sy_E shX mX11_wall (55, [none, none, none, some (.int l3)], [], σ) Q := by
  refine sy_bk [(.iload_n 3, 0, 0, 0, 0)] (56, [none, none, none, some (.int l3)], [.int l3], σ) [] (by decide +kernel) rfl trivial ?_
  by_cases c1 : l3 = 0
  · refine sy_bk [(.ifCond .eq 7, 1, 63, 0, 0)] (63, [none, none, none, some (.int l3)], [], σ) [sy_cc .eq l3 0] (by decide +kernel) rfl ⟨c1, trivial⟩ ?_
    refine sy_bk [(.iconst 0, 0, 0, 0, 0)] (64, [none, none, none, some (.int l3)], [.int 0], σ) [] (by decide +kernel) rfl trivial ?_
    exact sy_reti rfl (by decide +kernel) (k1 c1)
  · refine sy_bk [(.ifCond .eq 7, 0, 63, 0, 0)] (59, [none, none, none, some (.int l3)], [], σ) [¬ sy_cc .eq l3 0] (by decide +kernel) rfl ⟨c1, trivial⟩ ?_
    refine sy_bk [(.iconst 1, 0, 0, 1, 0), (.goto 4, 0, 64, 0, 0)] (64, [none, none, none, some (.int l3)], [.int 1], σ) [] (by decide +kernel) rfl trivial ?_
    exact sy_reti rfl (by decide +kernel) (k2 c1)

set_option maxRecDepth 20000 in
theorem w_X_set_0 {Q : Option Value → sy_S → Prop} {σ : sy_S} {cell : Int32} {v : Int32} {G : sg_G}  (b1 : gx G σ.1) (b2 : ∀ (m_1 : Nat), px (sg_p G) cell = some m_1 → ¬ (v < 0) → v ≤ 999 → vp_in cell 16) (k1 : ∀ (m_1 : Nat), px (sg_p G) cell = some m_1 → v < 0 → Q (some (.int (-2))) σ) (k2 : ∀ (m_1 : Nat), px (sg_p G) cell = some m_1 → ¬ (v < 0) → v ≤ 999 → sy_E shX mX0_note (0, sy_ent [.ref 8, .ref 7] 3, [], (sy_up σ.1 7 cell.toNatClampNeg v, σ.2)) (fun r9 σ9 => sy_E shX mX11_set (52, [none, none, none, some (.int (σ.1 7 cell.toNatClampNeg))], r9.toList ++ [], σ9) Q)) (k3 : ∀ (m_1 : Nat), px (sg_p G) cell = some m_1 → ¬ (v < 0) → ¬ (v ≤ 999) → Q (some (.int (-2))) σ) (k4 : px (sg_p G) cell = none → Q (some (.int (-1))) σ) : sy_E shX mX11_set (0, sy_ent [.ref 6, .int cell, .int v] 4, [], σ) Q := by
  show sy_E shX mX11_set (0, [some (.ref 6), some (.int cell), some (.int v), none], [], σ) _
  refine sy_bk [(.aload_n 0, 0, 0, 0, 0), (.getfield 16, 11, 0, 0, 0), (.iload_n 1, 0, 0, 0, 0)] (5, [some (.ref 6), some (.int cell), some (.int v), none], [.int cell, .ref 0], σ) [] (by decide +kernel) rfl trivial ?_
  refine sy_callV mX3_isPlace 0 [.int cell] [] kX3_isPlace jX11_127 (by decide +kernel) rfl rfl (Nat.le_of_ble_eq_true rfl) (Nat.le_of_ble_eq_true rfl) (by decide) rfl ?_
  refine e_x_isPl (σ := σ) (cell := cell) b1 ?_ ?_
  · intro m_1 c2
    show sy_E shX mX11_set (8, [some (.ref 6), some (.int cell), some (.int v), none], [.int 1], σ) _
    refine sy_bk [(.ifCond .ne 5, 1, 13, 0, 0), (.iload_n 2, 0, 0, 0, 0)] (14, [some (.ref 6), some (.int cell), some (.int v), none], [.int v], σ) [sy_cc .ne 1 0] (by decide +kernel) rfl ⟨(by decide : (¬ (1 : Int32) = 0)), trivial⟩ ?_
    by_cases c3 : v < 0
    · refine sy_bk [(.ifCond .lt 10, 1, 24, 0, 0)] (24, [some (.ref 6), some (.int cell), some (.int v), none], [], σ) [sy_cc .lt v 0] (by decide +kernel) rfl ⟨c3, trivial⟩ ?_
      refine sy_bk [(.bipush (-2), 0, 0, (-2), 0)] (26, [some (.ref 6), some (.int cell), some (.int v), none], [.int (-2)], σ) [] (by decide +kernel) rfl trivial ?_
      exact sy_reti rfl (by decide +kernel) (k1 m_1 c2 c3)
    · refine sy_bk [(.ifCond .lt 10, 0, 24, 0, 0)] (17, [some (.ref 6), some (.int cell), some (.int v), none], [], σ) [¬ sy_cc .lt v 0] (by decide +kernel) rfl ⟨c3, trivial⟩ ?_
      refine sy_bk [(.iload_n 2, 0, 0, 0, 0), (.sipush 999, 0, 0, 999, 0)] (21, [some (.ref 6), some (.int cell), some (.int v), none], [.int 999, .int v], σ) [] (by decide +kernel) rfl trivial ?_
      by_cases c4 : v ≤ 999
      · refine sy_bk [(.if_icmp .le 6, 1, 27, 0, 0)] (27, [some (.ref 6), some (.int cell), some (.int v), none], [], σ) [sy_cc .le v 999] (by decide +kernel) rfl ⟨c4, trivial⟩ ?_
        refine sy_bk [(.aload_n 0, 0, 0, 0, 0), (.getfield 20, 11, 1, 0, 0), (.iload_n 1, 0, 0, 0, 0), (.iaload, 0, 0, 0, 0), (.istore_n 3, 0, 0, 0, 0), (.aload_n 0, 0, 0, 0, 0), (.getfield 20, 11, 1, 0, 0), (.iload_n 1, 0, 0, 0, 0), (.iload_n 2, 0, 0, 0, 0), (.iastore, 0, 0, 0, 0), (.aload_n 0, 0, 0, 0, 0), (.getfield 27, 11, 2, 0, 0), (.aload_n 0, 0, 0, 0, 0), (.getfield 20, 11, 1, 0, 0)] (49, [some (.ref 6), some (.int cell), some (.int v), some (.int (σ.1 7 cell.toNatClampNeg))], [.ref 7, .ref 8], (sy_up σ.1 7 cell.toNatClampNeg v, σ.2)) [sy_okA shX 0 7 cell, sy_okA shX 0 7 cell] (by decide +kernel) rfl ⟨⟨16, _, rfl, (b2 m_1 c2 c3 c4)⟩, ⟨16, _, rfl, (b2 m_1 c2 c3 c4)⟩, trivial⟩ ?_
        refine sy_drop [none, none, none, some (.int (σ.1 7 cell.toNatClampNeg))] ⟨rfl, trivial⟩ ?_
        refine sy_callV mX0_note 8 [.ref 7] [] kX0_note jX11_134 (by decide +kernel) rfl rfl (Nat.le_of_ble_eq_true rfl) (Nat.le_of_ble_eq_true rfl) (by decide) rfl ?_
        exact k2 m_1 c2 c3 c4
      · refine sy_bk [(.if_icmp .le 6, 0, 27, 0, 0)] (24, [some (.ref 6), some (.int cell), some (.int v), none], [], σ) [¬ sy_cc .le v 999] (by decide +kernel) rfl ⟨c4, trivial⟩ ?_
        refine sy_bk [(.bipush (-2), 0, 0, (-2), 0)] (26, [some (.ref 6), some (.int cell), some (.int v), none], [.int (-2)], σ) [] (by decide +kernel) rfl trivial ?_
        exact sy_reti rfl (by decide +kernel) (k3 m_1 c2 c3 c4)
  · intro c5
    show sy_E shX mX11_set (8, [some (.ref 6), some (.int cell), some (.int v), none], [.int 0], σ) _
    refine sy_bk [(.ifCond .ne 5, 0, 13, 0, 0), (.iconst (-1), 0, 0, (-1), 0)] (12, [some (.ref 6), some (.int cell), some (.int v), none], [.int (-1)], σ) [¬ sy_cc .ne 0 0] (by decide +kernel) rfl ⟨(by decide : ¬ (¬ (0 : Int32) = 0)), trivial⟩ ?_
    exact sy_reti rfl (by decide +kernel) (k4 c5)

set_option maxRecDepth 20000 in
theorem w_X_set_52 {Q : Option Value → sy_S → Prop} {σ : sy_S} {l3 : Int32}   (k1 : Q (some (.int l3)) σ) : sy_E shX mX11_set (52, [none, none, none, some (.int l3)], [], σ) Q := by
  refine sy_bk [(.iload_n 3, 0, 0, 0, 0)] (53, [none, none, none, some (.int l3)], [.int l3], σ) [] (by decide +kernel) rfl trivial ?_
  exact sy_reti rfl (by decide +kernel) (k1)

set_option maxRecDepth 20000 in
theorem w_X_height_0 {Q : Option Value → sy_S → Prop} {σ : sy_S} {cell : Int32} {G : sg_G}  (b1 : gx G σ.1) (b2 : ∀ (m_1 : Nat), px (sg_p G) cell = some m_1 → vp_in cell 16) (k1 : ∀ (m_1 : Nat), px (sg_p G) cell = some m_1 → Q (some (.int (σ.1 7 cell.toNatClampNeg))) σ) (k2 : px (sg_p G) cell = none → Q (some (.int (-1))) σ) : sy_E shX mX11_height (0, sy_ent [.ref 6, .int cell] 2, [], σ) Q := by
  show sy_E shX mX11_height (0, [some (.ref 6), some (.int cell)], [], σ) _
  refine sy_bk [(.aload_n 0, 0, 0, 0, 0), (.getfield 16, 11, 0, 0, 0), (.iload_n 1, 0, 0, 0, 0)] (5, [some (.ref 6), some (.int cell)], [.int cell, .ref 0], σ) [] (by decide +kernel) rfl trivial ?_
  refine sy_callV mX3_isPlace 0 [.int cell] [] kX3_isPlace jX11_127 (by decide +kernel) rfl rfl (Nat.le_of_ble_eq_true rfl) (Nat.le_of_ble_eq_true rfl) (by decide) rfl ?_
  refine e_x_isPl (σ := σ) (cell := cell) b1 ?_ ?_
  · intro m_1 c2
    show sy_E shX mX11_height (8, [some (.ref 6), some (.int cell)], [.int 1], σ) _
    refine sy_bk [(.ifCond .eq 12, 0, 20, 0, 0), (.aload_n 0, 0, 0, 0, 0), (.getfield 20, 11, 1, 0, 0), (.iload_n 1, 0, 0, 0, 0), (.iaload, 0, 0, 0, 0), (.goto 4, 0, 21, 0, 0)] (21, [some (.ref 6), some (.int cell)], [.int (σ.1 7 cell.toNatClampNeg)], σ) [¬ sy_cc .eq 1 0, sy_okA shX 0 7 cell] (by decide +kernel) rfl ⟨(by decide : ¬ ((1 : Int32) = 0)), ⟨16, _, rfl, (b2 m_1 c2)⟩, trivial⟩ ?_
    exact sy_reti rfl (by decide +kernel) (k1 m_1 c2)
  · intro c3
    show sy_E shX mX11_height (8, [some (.ref 6), some (.int cell)], [.int 0], σ) _
    refine sy_bk [(.ifCond .eq 12, 1, 20, 0, 0), (.iconst (-1), 0, 0, (-1), 0)] (21, [some (.ref 6), some (.int cell)], [.int (-1)], σ) [sy_cc .eq 0 0] (by decide +kernel) rfl ⟨(by decide : ((0 : Int32) = 0)), trivial⟩ ?_
    exact sy_reti rfl (by decide +kernel) (k2 c3)

set_option maxRecDepth 20000 in
theorem w_X_drop_0 {Q : Option Value → sy_S → Prop} {σ : sy_S} {cell : Int32} {n : Int32} {G : sg_G}  (b1 : gx G σ.1) (b2 : ∀ (m_1 : Nat), px (sg_p G) cell = some m_1 → ¬ (n < 1) → n ≤ 99 → vp_in cell 16) (k1 : ∀ (m_1 : Nat), px (sg_p G) cell = some m_1 → n < 1 → Q (some (.int (-2))) σ) (k2 : ∀ (m_1 : Nat), px (sg_p G) cell = some m_1 → ¬ (n < 1) → n ≤ 99 → ((σ.1 7 cell.toNatClampNeg) + n) ≤ 999 → sy_E shX mX0_note (0, sy_ent [.ref 8, .ref 7] 3, [], (sy_up σ.1 7 cell.toNatClampNeg ((σ.1 7 cell.toNatClampNeg) + n), σ.2)) (fun r9 σ9 => sy_E shX mX11_drop (65, [some (.ref 6), some (.int cell), none], r9.toList ++ [], σ9) Q)) (k3 : ∀ (m_1 : Nat), px (sg_p G) cell = some m_1 → ¬ (n < 1) → n ≤ 99 → ¬ (((σ.1 7 cell.toNatClampNeg) + n) ≤ 999) → Q (some (.int (-4))) σ) (k4 : ∀ (m_1 : Nat), px (sg_p G) cell = some m_1 → ¬ (n < 1) → ¬ (n ≤ 99) → Q (some (.int (-2))) σ) (k5 : px (sg_p G) cell = none → Q (some (.int (-1))) σ) : sy_E shX mX11_drop (0, sy_ent [.ref 6, .int cell, .int n] 3, [], σ) Q := by
  show sy_E shX mX11_drop (0, [some (.ref 6), some (.int cell), some (.int n)], [], σ) _
  refine sy_bk [(.aload_n 0, 0, 0, 0, 0), (.getfield 16, 11, 0, 0, 0), (.iload_n 1, 0, 0, 0, 0)] (5, [some (.ref 6), some (.int cell), some (.int n)], [.int cell, .ref 0], σ) [] (by decide +kernel) rfl trivial ?_
  refine sy_callV mX3_isPlace 0 [.int cell] [] kX3_isPlace jX11_127 (by decide +kernel) rfl rfl (Nat.le_of_ble_eq_true rfl) (Nat.le_of_ble_eq_true rfl) (by decide) rfl ?_
  refine e_x_isPl (σ := σ) (cell := cell) b1 ?_ ?_
  · intro m_1 c2
    show sy_E shX mX11_drop (8, [some (.ref 6), some (.int cell), some (.int n)], [.int 1], σ) _
    refine sy_bk [(.ifCond .ne 5, 1, 13, 0, 0), (.iload_n 2, 0, 0, 0, 0), (.iconst 1, 0, 0, 1, 0)] (15, [some (.ref 6), some (.int cell), some (.int n)], [.int 1, .int n], σ) [sy_cc .ne 1 0] (by decide +kernel) rfl ⟨(by decide : (¬ (1 : Int32) = 0)), trivial⟩ ?_
    by_cases c3 : n < 1
    · refine sy_bk [(.if_icmp .lt 9, 1, 24, 0, 0)] (24, [some (.ref 6), some (.int cell), some (.int n)], [], σ) [sy_cc .lt n 1] (by decide +kernel) rfl ⟨c3, trivial⟩ ?_
      refine sy_bk [(.bipush (-2), 0, 0, (-2), 0)] (26, [some (.ref 6), some (.int cell), some (.int n)], [.int (-2)], σ) [] (by decide +kernel) rfl trivial ?_
      exact sy_reti rfl (by decide +kernel) (k1 m_1 c2 c3)
    · refine sy_bk [(.if_icmp .lt 9, 0, 24, 0, 0)] (18, [some (.ref 6), some (.int cell), some (.int n)], [], σ) [¬ sy_cc .lt n 1] (by decide +kernel) rfl ⟨c3, trivial⟩ ?_
      refine sy_bk [(.iload_n 2, 0, 0, 0, 0), (.bipush 99, 0, 0, 99, 0)] (21, [some (.ref 6), some (.int cell), some (.int n)], [.int 99, .int n], σ) [] (by decide +kernel) rfl trivial ?_
      by_cases c4 : n ≤ 99
      · refine sy_bk [(.if_icmp .le 6, 1, 27, 0, 0)] (27, [some (.ref 6), some (.int cell), some (.int n)], [], σ) [sy_cc .le n 99] (by decide +kernel) rfl ⟨c4, trivial⟩ ?_
        refine sy_bk [(.aload_n 0, 0, 0, 0, 0), (.getfield 20, 11, 1, 0, 0), (.iload_n 1, 0, 0, 0, 0), (.iaload, 0, 0, 0, 0), (.iload_n 2, 0, 0, 0, 0), (.iadd, 0, 0, 0, 0), (.sipush 999, 0, 0, 999, 0)] (38, [some (.ref 6), some (.int cell), some (.int n)], [.int 999, .int ((σ.1 7 cell.toNatClampNeg) + n)], σ) [sy_okA shX 0 7 cell] (by decide +kernel) rfl ⟨⟨16, _, rfl, (b2 m_1 c2 c3 c4)⟩, trivial⟩ ?_
        by_cases c5 : ((σ.1 7 cell.toNatClampNeg) + n) ≤ 999
        · refine sy_bk [(.if_icmp .le 6, 1, 44, 0, 0)] (44, [some (.ref 6), some (.int cell), some (.int n)], [], σ) [sy_cc .le ((σ.1 7 cell.toNatClampNeg) + n) 999] (by decide +kernel) rfl ⟨c5, trivial⟩ ?_
          refine sy_bk [(.aload_n 0, 0, 0, 0, 0), (.getfield 20, 11, 1, 0, 0), (.iload_n 1, 0, 0, 0, 0), (.dup2, 0, 0, 0, 0), (.iaload, 0, 0, 0, 0), (.iload_n 2, 0, 0, 0, 0), (.iadd, 0, 0, 0, 0), (.iastore, 0, 0, 0, 0), (.aload_n 0, 0, 0, 0, 0), (.getfield 27, 11, 2, 0, 0), (.aload_n 0, 0, 0, 0, 0), (.getfield 20, 11, 1, 0, 0)] (62, [some (.ref 6), some (.int cell), some (.int n)], [.ref 7, .ref 8], (sy_up σ.1 7 cell.toNatClampNeg ((σ.1 7 cell.toNatClampNeg) + n), σ.2)) [sy_okA shX 0 7 cell, sy_okA shX 0 7 cell] (by decide +kernel) rfl ⟨⟨16, _, rfl, (b2 m_1 c2 c3 c4)⟩, ⟨16, _, rfl, (b2 m_1 c2 c3 c4)⟩, trivial⟩ ?_
          refine sy_drop [some (.ref 6), some (.int cell), none] ⟨rfl, rfl, trivial⟩ ?_
          refine sy_callV mX0_note 8 [.ref 7] [] kX0_note jX11_134 (by decide +kernel) rfl rfl (Nat.le_of_ble_eq_true rfl) (Nat.le_of_ble_eq_true rfl) (by decide) rfl ?_
          exact k2 m_1 c2 c3 c4 c5
        · refine sy_bk [(.if_icmp .le 6, 0, 44, 0, 0)] (41, [some (.ref 6), some (.int cell), some (.int n)], [], σ) [¬ sy_cc .le ((σ.1 7 cell.toNatClampNeg) + n) 999] (by decide +kernel) rfl ⟨c5, trivial⟩ ?_
          refine sy_bk [(.bipush (-4), 0, 0, (-4), 0)] (43, [some (.ref 6), some (.int cell), some (.int n)], [.int (-4)], σ) [] (by decide +kernel) rfl trivial ?_
          exact sy_reti rfl (by decide +kernel) (k3 m_1 c2 c3 c4 c5)
      · refine sy_bk [(.if_icmp .le 6, 0, 27, 0, 0)] (24, [some (.ref 6), some (.int cell), some (.int n)], [], σ) [¬ sy_cc .le n 99] (by decide +kernel) rfl ⟨c4, trivial⟩ ?_
        refine sy_bk [(.bipush (-2), 0, 0, (-2), 0)] (26, [some (.ref 6), some (.int cell), some (.int n)], [.int (-2)], σ) [] (by decide +kernel) rfl trivial ?_
        exact sy_reti rfl (by decide +kernel) (k4 m_1 c2 c3 c4)
  · intro c6
    show sy_E shX mX11_drop (8, [some (.ref 6), some (.int cell), some (.int n)], [.int 0], σ) _
    refine sy_bk [(.ifCond .ne 5, 0, 13, 0, 0), (.iconst (-1), 0, 0, (-1), 0)] (12, [some (.ref 6), some (.int cell), some (.int n)], [.int (-1)], σ) [¬ sy_cc .ne 0 0] (by decide +kernel) rfl ⟨(by decide : ¬ (¬ (0 : Int32) = 0)), trivial⟩ ?_
    exact sy_reti rfl (by decide +kernel) (k5 c6)

set_option maxRecDepth 20000 in
theorem w_X_drop_65 {Q : Option Value → sy_S → Prop} {σ : sy_S} {l1 : Int32}  (b1 : vp_in l1 16) (k1 : Q (some (.int (σ.1 7 l1.toNatClampNeg))) σ) : sy_E shX mX11_drop (65, [some (.ref 6), some (.int l1), none], [], σ) Q := by
  refine sy_bk [(.aload_n 0, 0, 0, 0, 0), (.getfield 20, 11, 1, 0, 0), (.iload_n 1, 0, 0, 0, 0), (.iaload, 0, 0, 0, 0)] (71, [some (.ref 6), some (.int l1), none], [.int (σ.1 7 l1.toNatClampNeg)], σ) [sy_okA shX 0 7 l1] (by decide +kernel) rfl ⟨⟨16, _, rfl, b1⟩, trivial⟩ ?_
  exact sy_reti rfl (by decide +kernel) (k1)

set_option maxRecDepth 20000 in
theorem w_X_topple_0 {Q : Option Value → sy_S → Prop} {σ : sy_S} {cell : Int32} {G : sg_G}  (b1 : gx G σ.1) (b2 : ∀ (m_1 : Nat), px (sg_p G) cell = some m_1 → vp_in cell 16) (k1 : ∀ (m_1 : Nat), px (sg_p G) cell = some m_1 → 4 ≤ (σ.1 7 cell.toNatClampNeg) → sy_E shX mX3_spill (0, sy_ent [.ref 0, .ref 7, .int cell, .int 1] 7, [], σ) (fun r9 σ9 => sy_E shX mX11_topple (39, [some (.ref 6), some (.int cell)], r9.toList ++ [], σ9) Q)) (k2 : ∀ (m_1 : Nat), px (sg_p G) cell = some m_1 → ¬ (4 ≤ (σ.1 7 cell.toNatClampNeg)) → Q (some (.int (-5))) σ) (k3 : px (sg_p G) cell = none → Q (some (.int (-1))) σ) : sy_E shX mX11_topple (0, sy_ent [.ref 6, .int cell] 2, [], σ) Q := by
  show sy_E shX mX11_topple (0, [some (.ref 6), some (.int cell)], [], σ) _
  refine sy_bk [(.aload_n 0, 0, 0, 0, 0), (.getfield 16, 11, 0, 0, 0), (.iload_n 1, 0, 0, 0, 0)] (5, [some (.ref 6), some (.int cell)], [.int cell, .ref 0], σ) [] (by decide +kernel) rfl trivial ?_
  refine sy_callV mX3_isPlace 0 [.int cell] [] kX3_isPlace jX11_127 (by decide +kernel) rfl rfl (Nat.le_of_ble_eq_true rfl) (Nat.le_of_ble_eq_true rfl) (by decide) rfl ?_
  refine e_x_isPl (σ := σ) (cell := cell) b1 ?_ ?_
  · intro m_1 c2
    show sy_E shX mX11_topple (8, [some (.ref 6), some (.int cell)], [.int 1], σ) _
    refine sy_bk [(.ifCond .ne 5, 1, 13, 0, 0), (.aload_n 0, 0, 0, 0, 0), (.getfield 20, 11, 1, 0, 0), (.iload_n 1, 0, 0, 0, 0), (.iaload, 0, 0, 0, 0), (.iconst 4, 0, 0, 4, 0)] (20, [some (.ref 6), some (.int cell)], [.int 4, .int (σ.1 7 cell.toNatClampNeg)], σ) [sy_cc .ne 1 0, sy_okA shX 0 7 cell] (by decide +kernel) rfl ⟨(by decide : (¬ (1 : Int32) = 0)), ⟨16, _, rfl, (b2 m_1 c2)⟩, trivial⟩ ?_
    by_cases c3 : 4 ≤ (σ.1 7 cell.toNatClampNeg)
    · refine sy_bk [(.if_icmp .ge 6, 1, 26, 0, 0)] (26, [some (.ref 6), some (.int cell)], [], σ) [sy_cc .ge (σ.1 7 cell.toNatClampNeg) 4] (by decide +kernel) rfl ⟨c3, trivial⟩ ?_
      refine sy_bk [(.aload_n 0, 0, 0, 0, 0), (.getfield 16, 11, 0, 0, 0), (.aload_n 0, 0, 0, 0, 0), (.getfield 20, 11, 1, 0, 0), (.iload_n 1, 0, 0, 0, 0), (.iconst 1, 0, 0, 1, 0)] (36, [some (.ref 6), some (.int cell)], [.int 1, .int cell, .ref 7, .ref 0], σ) [] (by decide +kernel) rfl trivial ?_
      refine sy_callV mX3_spill 0 [.ref 7, .int cell, .int 1] [] kX3_spill jX11_138 (by decide +kernel) rfl rfl (Nat.le_of_ble_eq_true rfl) (Nat.le_of_ble_eq_true rfl) (by decide) rfl ?_
      exact k1 m_1 c2 c3
    · refine sy_bk [(.if_icmp .ge 6, 0, 26, 0, 0)] (23, [some (.ref 6), some (.int cell)], [], σ) [¬ sy_cc .ge (σ.1 7 cell.toNatClampNeg) 4] (by decide +kernel) rfl ⟨c3, trivial⟩ ?_
      refine sy_bk [(.bipush (-5), 0, 0, (-5), 0)] (25, [some (.ref 6), some (.int cell)], [.int (-5)], σ) [] (by decide +kernel) rfl trivial ?_
      exact sy_reti rfl (by decide +kernel) (k2 m_1 c2 c3)
  · intro c4
    show sy_E shX mX11_topple (8, [some (.ref 6), some (.int cell)], [.int 0], σ) _
    refine sy_bk [(.ifCond .ne 5, 0, 13, 0, 0), (.iconst (-1), 0, 0, (-1), 0)] (12, [some (.ref 6), some (.int cell)], [.int (-1)], σ) [¬ sy_cc .ne 0 0] (by decide +kernel) rfl ⟨(by decide : ¬ (¬ (0 : Int32) = 0)), trivial⟩ ?_
    exact sy_reti rfl (by decide +kernel) (k3 c4)

set_option maxRecDepth 20000 in
theorem w_X_topple_39 {Q : Option Value → sy_S → Prop} {σ : sy_S} {l1 : Int32}   (k1 : sy_E shX mX0_note (0, sy_ent [.ref 8, .ref 7] 3, [], σ) (fun r9 σ9 => sy_E shX mX11_topple (50, [some (.ref 6), some (.int l1)], r9.toList ++ [], σ9) Q)) : sy_E shX mX11_topple (39, [some (.ref 6), some (.int l1)], [], σ) Q := by
  refine sy_bk [(.aload_n 0, 0, 0, 0, 0), (.getfield 27, 11, 2, 0, 0), (.aload_n 0, 0, 0, 0, 0), (.getfield 20, 11, 1, 0, 0)] (47, [some (.ref 6), some (.int l1)], [.ref 7, .ref 8], σ) [] (by decide +kernel) rfl trivial ?_
  refine sy_callV mX0_note 8 [.ref 7] [] kX0_note jX11_134 (by decide +kernel) rfl rfl (Nat.le_of_ble_eq_true rfl) (Nat.le_of_ble_eq_true rfl) (by decide) rfl ?_
  exact k1

set_option maxRecDepth 20000 in
theorem w_X_topple_50 {Q : Option Value → sy_S → Prop} {σ : sy_S} {l1 : Int32}  (b1 : vp_in l1 16) (k1 : Q (some (.int (4 - (σ.1 5 l1.toNatClampNeg)))) σ) : sy_E shX mX11_topple (50, [some (.ref 6), some (.int l1)], [], σ) Q := by
  refine sy_bk [(.aload_n 0, 0, 0, 0, 0), (.getfield 16, 11, 0, 0, 0), (.iload_n 1, 0, 0, 0, 0)] (55, [some (.ref 6), some (.int l1)], [.int l1, .ref 0], σ) [] (by decide +kernel) rfl trivial ?_
  refine sy_callV mX3_lossAt 0 [.int l1] [] kX3_lossAt jX11_142 (by decide +kernel) rfl rfl (Nat.le_of_ble_eq_true rfl) (Nat.le_of_ble_eq_true rfl) (by decide) rfl ?_
  refine w_x_lossAt (σ := σ) (cell := l1) b1 ?_
  show sy_E shX mX11_topple (58, [some (.ref 6), some (.int l1)], [.int (4 - (σ.1 5 l1.toNatClampNeg))], σ) _
  exact sy_reti rfl (by decide +kernel) (k1)

set_option maxRecDepth 20000 in
theorem w_X_settle_0 {Q : Option Value → sy_S → Prop} {σ : sy_S}    (k1 : sy_E shX mX1_begin (0, sy_ent [.ref 39, .ref 7] 2, [], σ) (fun r9 σ9 => sy_E shX mX11_settle (11, [some (.ref 6), none], r9.toList ++ [], σ9) Q)) : sy_E shX mX11_settle (0, sy_ent [.ref 6] 2, [], σ) Q := by
  show sy_E shX mX11_settle (0, [some (.ref 6), none], [], σ) _
  refine sy_bk [(.aload_n 0, 0, 0, 0, 0), (.getfield 53, 11, 6, 0, 0), (.aload_n 0, 0, 0, 0, 0), (.getfield 20, 11, 1, 0, 0)] (8, [some (.ref 6), none], [.ref 7, .ref 39], σ) [] (by decide +kernel) rfl trivial ?_
  refine sy_callV mX1_begin 39 [.ref 7] [] kX1_begin jX11_146 (by decide +kernel) rfl rfl (Nat.le_of_ble_eq_true rfl) (Nat.le_of_ble_eq_true rfl) (by decide) rfl ?_
  exact k1

set_option maxRecDepth 20000 in
theorem w_X_settle_11 {Q : Option Value → sy_S → Prop} {σ : sy_S}    (k1 : sy_E shX mX1_level (0, sy_ent [.ref 39] 9, [], σ) (fun r9 σ9 => sy_E shX mX11_settle (18, [some (.ref 6), none], r9.toList ++ [], σ9) Q)) : sy_E shX mX11_settle (11, [some (.ref 6), none], [], σ) Q := by
  refine sy_bk [(.aload_n 0, 0, 0, 0, 0), (.getfield 53, 11, 6, 0, 0)] (15, [some (.ref 6), none], [.ref 39], σ) [] (by decide +kernel) rfl trivial ?_
  refine sy_callV mX1_level 39 [] [] kX1_level jX11_149 (by decide +kernel) rfl rfl (Nat.le_of_ble_eq_true rfl) (Nat.le_of_ble_eq_true rfl) (by decide) rfl ?_
  exact k1

set_option maxRecDepth 20000 in
theorem w_X_settle_18 {Q : Option Value → sy_S → Prop} {σ : sy_S} {v : Int32}   (k1 : sy_E shX mX1_copyTo (0, sy_ent [.ref 39, .ref 7] 2, [], σ) (fun r9 σ9 => sy_E shX mX11_settle (30, [some (.ref 6), some (.int v)], r9.toList ++ [], σ9) Q)) : sy_E shX mX11_settle (18, [some (.ref 6), none], [.int v], σ) Q := by
  refine sy_bk [(.istore_n 1, 0, 0, 0, 0), (.aload_n 0, 0, 0, 0, 0), (.getfield 53, 11, 6, 0, 0), (.aload_n 0, 0, 0, 0, 0), (.getfield 20, 11, 1, 0, 0)] (27, [some (.ref 6), some (.int v)], [.ref 7, .ref 39], σ) [] (by decide +kernel) rfl trivial ?_
  refine sy_callV mX1_copyTo 39 [.ref 7] [] kX1_copyTo jX11_152 (by decide +kernel) rfl rfl (Nat.le_of_ble_eq_true rfl) (Nat.le_of_ble_eq_true rfl) (by decide) rfl ?_
  exact k1

set_option maxRecDepth 20000 in
theorem w_X_settle_30 {Q : Option Value → sy_S → Prop} {σ : sy_S} {l1 : Int32}   (k1 : sy_E shX mX0_note (0, sy_ent [.ref 8, .ref 7] 3, [], σ) (fun r9 σ9 => sy_E shX mX11_settle (41, [none, some (.int l1)], r9.toList ++ [], σ9) Q)) : sy_E shX mX11_settle (30, [some (.ref 6), some (.int l1)], [], σ) Q := by
  refine sy_bk [(.aload_n 0, 0, 0, 0, 0), (.getfield 27, 11, 2, 0, 0), (.aload_n 0, 0, 0, 0, 0), (.getfield 20, 11, 1, 0, 0)] (38, [some (.ref 6), some (.int l1)], [.ref 7, .ref 8], σ) [] (by decide +kernel) rfl trivial ?_
  refine sy_drop [none, some (.int l1)] ⟨rfl, trivial⟩ ?_
  refine sy_callV mX0_note 8 [.ref 7] [] kX0_note jX11_134 (by decide +kernel) rfl rfl (Nat.le_of_ble_eq_true rfl) (Nat.le_of_ble_eq_true rfl) (by decide) rfl ?_
  exact k1

set_option maxRecDepth 20000 in
theorem w_X_settle_41 {Q : Option Value → sy_S → Prop} {σ : sy_S} {l1 : Int32}   (k1 : Q (some (.int l1)) σ) : sy_E shX mX11_settle (41, [none, some (.int l1)], [], σ) Q := by
  refine sy_bk [(.iload_n 1, 0, 0, 0, 0)] (42, [none, some (.int l1)], [.int l1], σ) [] (by decide +kernel) rfl trivial ?_
  exact sy_reti rfl (by decide +kernel) (k1)

set_option maxRecDepth 20000 in
theorem w_X_feed_0 {Q : Option Value → sy_S → Prop} {σ : sy_S} {b : Int32}  (b1 : ¬ (b < 1) → b ≤ 127 → (σ.1 19 3) < 40 → ¬ (40 ≤ (σ.1 19 3)) → vp_in (σ.1 19 3) 40) (k1 : b < 1 → Q (some (.int (-2))) σ) (k2 : ¬ (b < 1) → b ≤ 127 → (σ.1 19 3) < 40 → 40 ≤ (σ.1 19 3) → Q (some (.int (σ.1 19 3))) σ) (k3 : ¬ (b < 1) → b ≤ 127 → (σ.1 19 3) < 40 → ¬ (40 ≤ (σ.1 19 3)) → Q (some (.int ((σ.1 19 3) + 1))) (sy_up (sy_up σ.1 20 ((σ.1 19 3).toNatClampNeg) b) 19 3 ((σ.1 19 3) + 1), σ.2)) (k4 : ¬ (b < 1) → b ≤ 127 → ¬ ((σ.1 19 3) < 40) → Q (some (.int (-4))) σ) (k5 : ¬ (b < 1) → ¬ (b ≤ 127) → Q (some (.int (-2))) σ) : sy_E shX mX11_feed (0, sy_ent [.ref 6, .int b] 2, [], σ) Q := by
  show sy_E shX mX11_feed (0, [some (.ref 6), some (.int b)], [], σ) _
  refine sy_bk [(.iload_n 1, 0, 0, 0, 0), (.iconst 1, 0, 0, 1, 0)] (2, [some (.ref 6), some (.int b)], [.int 1, .int b], σ) [] (by decide +kernel) rfl trivial ?_
  by_cases c1 : b < 1
  · refine sy_bk [(.if_icmp .lt 9, 1, 11, 0, 0)] (11, [some (.ref 6), some (.int b)], [], σ) [sy_cc .lt b 1] (by decide +kernel) rfl ⟨c1, trivial⟩ ?_
    refine sy_bk [(.bipush (-2), 0, 0, (-2), 0)] (13, [some (.ref 6), some (.int b)], [.int (-2)], σ) [] (by decide +kernel) rfl trivial ?_
    exact sy_reti rfl (by decide +kernel) (k1 c1)
  · refine sy_bk [(.if_icmp .lt 9, 0, 11, 0, 0)] (5, [some (.ref 6), some (.int b)], [], σ) [¬ sy_cc .lt b 1] (by decide +kernel) rfl ⟨c1, trivial⟩ ?_
    refine sy_bk [(.iload_n 1, 0, 0, 0, 0), (.bipush 127, 0, 0, 127, 0)] (8, [some (.ref 6), some (.int b)], [.int 127, .int b], σ) [] (by decide +kernel) rfl trivial ?_
    by_cases c2 : b ≤ 127
    · refine sy_bk [(.if_icmp .le 6, 1, 14, 0, 0)] (14, [some (.ref 6), some (.int b)], [], σ) [sy_cc .le b 127] (by decide +kernel) rfl ⟨c2, trivial⟩ ?_
      refine sy_bk [(.aload_n 0, 0, 0, 0, 0), (.getfield 34, 11, 3, 0, 0)] (18, [some (.ref 6), some (.int b)], [.ref 19], σ) [] (by decide +kernel) rfl trivial ?_
      refine sy_callV mX10_isFull 19 [] [] kX10_isFull jX11_155 (by decide +kernel) rfl rfl (Nat.le_of_ble_eq_true rfl) (Nat.le_of_ble_eq_true rfl) (by decide) rfl ?_
      refine w_x_tisFull (σ := σ) ?_ ?_
      · intro c3
        show sy_E shX mX11_feed (21, [some (.ref 6), some (.int b)], [.int 0], σ) _
        refine sy_bk [(.ifCond .eq 8, 1, 29, 0, 0), (.aload_n 0, 0, 0, 0, 0), (.getfield 34, 11, 3, 0, 0), (.iload_n 1, 0, 0, 0, 0)] (34, [some (.ref 6), some (.int b)], [.int b, .ref 19], σ) [sy_cc .eq 0 0] (by decide +kernel) rfl ⟨(by decide : ((0 : Int32) = 0)), trivial⟩ ?_
        refine sy_callV mX10_append 19 [.int b] [] kX10_append jX11_159 (by decide +kernel) rfl rfl (Nat.le_of_ble_eq_true rfl) (Nat.le_of_ble_eq_true rfl) (by decide) rfl ?_
        refine w_x_tappend (σ := σ) (b := b) (fun c1b => (b1 c1 c2 c3 c1b)) ?_ ?_
        · intro c4
          show sy_E shX mX11_feed (37, [some (.ref 6), some (.int b)], [.int (σ.1 19 3)], σ) _
          exact sy_reti rfl (by decide +kernel) (k2 c1 c2 c3 c4)
        · intro c5
          show sy_E shX mX11_feed (37, [some (.ref 6), some (.int b)], [.int ((σ.1 19 3) + 1)], (sy_up (sy_up σ.1 20 ((σ.1 19 3).toNatClampNeg) b) 19 3 ((σ.1 19 3) + 1), σ.2)) _
          exact sy_reti rfl (by decide +kernel) (k3 c1 c2 c3 c5)
      · intro c6
        show sy_E shX mX11_feed (21, [some (.ref 6), some (.int b)], [.int 1], σ) _
        refine sy_bk [(.ifCond .eq 8, 0, 29, 0, 0), (.bipush (-4), 0, 0, (-4), 0), (.goto 11, 0, 37, 0, 0)] (37, [some (.ref 6), some (.int b)], [.int (-4)], σ) [¬ sy_cc .eq 1 0] (by decide +kernel) rfl ⟨(by decide : ¬ ((1 : Int32) = 0)), trivial⟩ ?_
        exact sy_reti rfl (by decide +kernel) (k4 c1 c2 c6)
    · refine sy_bk [(.if_icmp .le 6, 0, 14, 0, 0)] (11, [some (.ref 6), some (.int b)], [], σ) [¬ sy_cc .le b 127] (by decide +kernel) rfl ⟨c2, trivial⟩ ?_
      refine sy_bk [(.bipush (-2), 0, 0, (-2), 0)] (13, [some (.ref 6), some (.int b)], [.int (-2)], σ) [] (by decide +kernel) rfl trivial ?_
      exact sy_reti rfl (by decide +kernel) (k5 c1 c2)

set_option maxRecDepth 20000 in
theorem w_X_read_0 {Q : Option Value → sy_S → Prop} {σ : sy_S}    (k1 : sy_E shX mX10_parse (0, sy_ent [.ref 19] 3, [], σ) (fun r9 σ9 => sy_E shX mX11_read (7, [some (.ref 6), none, none], r9.toList ++ [], σ9) Q)) : sy_E shX mX11_read (0, sy_ent [.ref 6] 3, [], σ) Q := by
  show sy_E shX mX11_read (0, [some (.ref 6), none, none], [], σ) _
  refine sy_bk [(.aload_n 0, 0, 0, 0, 0), (.getfield 34, 11, 3, 0, 0)] (4, [some (.ref 6), none, none], [.ref 19], σ) [] (by decide +kernel) rfl trivial ?_
  refine sy_callV mX10_parse 19 [] [] kX10_parse jX11_162 (by decide +kernel) rfl rfl (Nat.le_of_ble_eq_true rfl) (Nat.le_of_ble_eq_true rfl) (by decide) rfl ?_
  exact k1

set_option maxRecDepth 20000 in
theorem w_X_read_7 {Q : Option Value → sy_S → Prop} {σ : sy_S} {v : Int32}   (k1 : v < 0 → sy_E shX mX3_shape (0, sy_ent [.ref 0, .int (((sy_up σ.1 19 3 0, σ.2).1 19 5) + 1), .int ((sy_up σ.1 19 3 0, σ.2).1 19 6)] 3, [], (sy_up σ.1 19 3 0, σ.2)) (fun r9 σ9 => sy_E shX mX11_read (45, [some (.ref 6), none, none], r9.toList ++ [], σ9) Q)) (k2 : ¬ (v < 0) → Q (some (.int ((-100) - v))) (sy_up σ.1 19 3 0, σ.2)) : sy_E shX mX11_read (7, [some (.ref 6), none, none], [.int v], σ) Q := by
  refine sy_bk [(.istore_n 1, 0, 0, 0, 0), (.aload_n 0, 0, 0, 0, 0), (.getfield 34, 11, 3, 0, 0)] (12, [some (.ref 6), some (.int v), none], [.ref 19], σ) [] (by decide +kernel) rfl trivial ?_
  refine sy_callV mX10_rewind 19 [] [] kX10_rewind jX11_165 (by decide +kernel) rfl rfl (Nat.le_of_ble_eq_true rfl) (Nat.le_of_ble_eq_true rfl) (by decide) rfl ?_
  refine w_x_trewind (σ := σ) ?_
  show sy_E shX mX11_read (15, [some (.ref 6), some (.int v), none], [], (sy_up σ.1 19 3 0, σ.2)) _
  refine sy_bk [(.iload_n 1, 0, 0, 0, 0)] (16, [some (.ref 6), some (.int v), none], [.int v], (sy_up σ.1 19 3 0, σ.2)) [] (by decide +kernel) rfl trivial ?_
  by_cases c1 : v < 0
  · refine sy_bk [(.ifCond .lt 8, 1, 24, 0, 0)] (24, [some (.ref 6), some (.int v), none], [], (sy_up σ.1 19 3 0, σ.2)) [sy_cc .lt v 0] (by decide +kernel) rfl ⟨c1, trivial⟩ ?_
    refine sy_bk [(.aload_n 0, 0, 0, 0, 0), (.getfield 16, 11, 0, 0, 0), (.aload_n 0, 0, 0, 0, 0), (.getfield 34, 11, 3, 0, 0)] (32, [some (.ref 6), some (.int v), none], [.ref 19, .ref 0], (sy_up σ.1 19 3 0, σ.2)) [] (by decide +kernel) rfl trivial ?_
    refine sy_callV mX10_rowCount 19 [] [.ref 0] kX10_rowCount jX11_168 (by decide +kernel) rfl rfl (Nat.le_of_ble_eq_true rfl) (Nat.le_of_ble_eq_true rfl) (by decide) rfl ?_
    refine w_x_trowCount (σ := (sy_up σ.1 19 3 0, σ.2)) ?_
    show sy_E shX mX11_read (35, [some (.ref 6), some (.int v), none], [.int (((sy_up σ.1 19 3 0, σ.2).1 19 5) + 1), .ref 0], (sy_up σ.1 19 3 0, σ.2)) _
    refine sy_bk [(.aload_n 0, 0, 0, 0, 0), (.getfield 34, 11, 3, 0, 0)] (39, [some (.ref 6), some (.int v), none], [.ref 19, .int (((sy_up σ.1 19 3 0, σ.2).1 19 5) + 1), .ref 0], (sy_up σ.1 19 3 0, σ.2)) [] (by decide +kernel) rfl trivial ?_
    refine sy_callV mX10_columnCount 19 [] [.int (((sy_up σ.1 19 3 0, σ.2).1 19 5) + 1), .ref 0] kX10_columnCount jX11_171 (by decide +kernel) rfl rfl (Nat.le_of_ble_eq_true rfl) (Nat.le_of_ble_eq_true rfl) (by decide) rfl ?_
    refine w_x_tcolumnCount (σ := (sy_up σ.1 19 3 0, σ.2)) ?_
    show sy_E shX mX11_read (42, [some (.ref 6), some (.int v), none], [.int ((sy_up σ.1 19 3 0, σ.2).1 19 6), .int (((sy_up σ.1 19 3 0, σ.2).1 19 5) + 1), .ref 0], (sy_up σ.1 19 3 0, σ.2)) _
    refine sy_drop [some (.ref 6), none, none] ⟨rfl, trivial⟩ ?_
    refine sy_callV mX3_shape 0 [.int (((sy_up σ.1 19 3 0, σ.2).1 19 5) + 1), .int ((sy_up σ.1 19 3 0, σ.2).1 19 6)] [] kX3_shape jX11_111 (by decide +kernel) rfl rfl (Nat.le_of_ble_eq_true rfl) (Nat.le_of_ble_eq_true rfl) (by decide) rfl ?_
    exact k1 c1
  · refine sy_bk [(.ifCond .lt 8, 0, 24, 0, 0)] (19, [some (.ref 6), some (.int v), none], [], (sy_up σ.1 19 3 0, σ.2)) [¬ sy_cc .lt v 0] (by decide +kernel) rfl ⟨c1, trivial⟩ ?_
    refine sy_bk [(.bipush (-100), 0, 0, (-100), 0), (.iload_n 1, 0, 0, 0, 0), (.isub, 0, 0, 0, 0)] (23, [some (.ref 6), some (.int v), none], [.int ((-100) - v)], (sy_up σ.1 19 3 0, σ.2)) [] (by decide +kernel) rfl trivial ?_
    exact sy_reti rfl (by decide +kernel) (k2 c1)

set_option maxRecDepth 20000 in
theorem w_X_read_45 {Q : Option Value → sy_S → Prop} {σ : sy_S}    (k1 : sy_E shX mX11_read (47, [some (.ref 6), none, some (.int 0)], [], σ) Q) : sy_E shX mX11_read (45, [some (.ref 6), none, none], [], σ) Q := by
  refine sy_bk [(.iconst 0, 0, 0, 0, 0), (.istore_n 2, 0, 0, 0, 0)] (47, [some (.ref 6), none, some (.int 0)], [], σ) [] (by decide +kernel) rfl trivial ?_
  exact k1

set_option maxRecDepth 20000 in
theorem w_X_read_47 {Q : Option Value → sy_S → Prop} {σ : sy_S} {l2 : Int32}  (b1 : ¬ (16 ≤ l2) → vp_in l2 16) (k1 : 16 ≤ l2 → sy_E shX mX11_forgetPilesAndChanges (0, sy_ent [.ref 6] 1, [], σ) (fun r9 σ9 => sy_E shX mX11_read (94, [some (.ref 6), none, none], r9.toList ++ [], σ9) Q)) (k2 : ¬ (16 ≤ l2) → l2 < 0 → sy_E shX mX11_read (47, [some (.ref 6), none, some (.int (l2 + 1))], [], (sy_up σ.1 7 l2.toNatClampNeg 0, σ.2)) Q) (k3 : ¬ (16 ≤ l2) → ¬ (l2 < 0) → (((sy_up σ.1 7 l2.toNatClampNeg 0, σ.2).1 0 5) * ((sy_up σ.1 7 l2.toNatClampNeg 0, σ.2).1 0 6)) ≤ l2 → sy_E shX mX11_read (47, [some (.ref 6), none, some (.int (l2 + 1))], [], (sy_up σ.1 7 l2.toNatClampNeg 0, σ.2)) Q) (k4 : ¬ (16 ≤ l2) → ¬ (l2 < 0) → ¬ ((((sy_up σ.1 7 l2.toNatClampNeg 0, σ.2).1 0 5) * ((sy_up σ.1 7 l2.toNatClampNeg 0, σ.2).1 0 6)) ≤ l2) → sy_E shX mX11_lay (0, sy_ent [.ref 6, .int l2, .int ((sy_up σ.1 7 l2.toNatClampNeg 0, σ.2).1 21 l2.toNatClampNeg)] 3, [], (sy_up σ.1 7 l2.toNatClampNeg 0, σ.2)) (fun r9 σ9 => sy_E shX mX11_read (84, [some (.ref 6), none, some (.int l2)], r9.toList ++ [], σ9) Q)) : sy_E shX mX11_read (47, [some (.ref 6), none, some (.int l2)], [], σ) Q := by
  refine sy_bk [(.iload_n 2, 0, 0, 0, 0), (.bipush 16, 0, 0, 16, 0)] (50, [some (.ref 6), none, some (.int l2)], [.int 16, .int l2], σ) [] (by decide +kernel) rfl trivial ?_
  by_cases c1 : 16 ≤ l2
  · refine sy_bk [(.if_icmp .ge 40, 1, 90, 0, 0)] (90, [some (.ref 6), none, some (.int l2)], [], σ) [sy_cc .ge l2 16] (by decide +kernel) rfl ⟨c1, trivial⟩ ?_
    refine sy_bk [(.aload_n 0, 0, 0, 0, 0)] (91, [some (.ref 6), none, some (.int l2)], [.ref 6], σ) [] (by decide +kernel) rfl trivial ?_
    refine sy_drop [some (.ref 6), none, none] ⟨rfl, trivial⟩ ?_
    refine sy_callV mX11_forgetPilesAndChanges 6 [] [] kX11_forgetPilesAndChanges jX11_120 (by decide +kernel) rfl rfl (Nat.le_of_ble_eq_true rfl) (Nat.le_of_ble_eq_true rfl) (by decide) rfl ?_
    exact k1 c1
  · refine sy_bk [(.if_icmp .ge 40, 0, 90, 0, 0)] (53, [some (.ref 6), none, some (.int l2)], [], σ) [¬ sy_cc .ge l2 16] (by decide +kernel) rfl ⟨c1, trivial⟩ ?_
    refine sy_bk [(.aload_n 0, 0, 0, 0, 0), (.getfield 20, 11, 1, 0, 0), (.iload_n 2, 0, 0, 0, 0), (.iconst 0, 0, 0, 0, 0), (.iastore, 0, 0, 0, 0), (.aload_n 0, 0, 0, 0, 0), (.getfield 16, 11, 0, 0, 0), (.iload_n 2, 0, 0, 0, 0)] (65, [some (.ref 6), none, some (.int l2)], [.int l2, .ref 0], (sy_up σ.1 7 l2.toNatClampNeg 0, σ.2)) [sy_okA shX 0 7 l2] (by decide +kernel) rfl ⟨⟨16, _, rfl, (b1 c1)⟩, trivial⟩ ?_
    refine sy_callV mX3_isCell 0 [.int l2] [] kX3_isCell jX11_123 (by decide +kernel) rfl rfl (Nat.le_of_ble_eq_true rfl) (Nat.le_of_ble_eq_true rfl) (by decide) rfl ?_
    refine w_x_isCell (σ := (sy_up σ.1 7 l2.toNatClampNeg 0, σ.2)) (cell := l2) ?_ ?_ ?_
    · intro c2
      show sy_E shX mX11_read (68, [some (.ref 6), none, some (.int l2)], [.int 0], (sy_up σ.1 7 l2.toNatClampNeg 0, σ.2)) _
      refine sy_bk [(.ifCond .eq 16, 1, 84, 0, 0), (.iinc 2 1, 0, 0, 1, 0), (.goto (-40), 0, 47, 0, 0)] (47, [some (.ref 6), none, some (.int (l2 + 1))], [], (sy_up σ.1 7 l2.toNatClampNeg 0, σ.2)) [sy_cc .eq 0 0] (by decide +kernel) rfl ⟨(by decide : ((0 : Int32) = 0)), trivial⟩ ?_
      exact k2 c1 c2
    · intro c3 c4
      show sy_E shX mX11_read (68, [some (.ref 6), none, some (.int l2)], [.int 0], (sy_up σ.1 7 l2.toNatClampNeg 0, σ.2)) _
      refine sy_bk [(.ifCond .eq 16, 1, 84, 0, 0), (.iinc 2 1, 0, 0, 1, 0), (.goto (-40), 0, 47, 0, 0)] (47, [some (.ref 6), none, some (.int (l2 + 1))], [], (sy_up σ.1 7 l2.toNatClampNeg 0, σ.2)) [sy_cc .eq 0 0] (by decide +kernel) rfl ⟨(by decide : ((0 : Int32) = 0)), trivial⟩ ?_
      exact k3 c1 c3 c4
    · intro c5 c6
      show sy_E shX mX11_read (68, [some (.ref 6), none, some (.int l2)], [.int 1], (sy_up σ.1 7 l2.toNatClampNeg 0, σ.2)) _
      refine sy_bk [(.ifCond .eq 16, 0, 84, 0, 0), (.aload_n 0, 0, 0, 0, 0), (.iload_n 2, 0, 0, 0, 0), (.aload_n 0, 0, 0, 0, 0), (.getfield 34, 11, 3, 0, 0), (.iload_n 2, 0, 0, 0, 0)] (78, [some (.ref 6), none, some (.int l2)], [.int l2, .ref 19, .int l2, .ref 6], (sy_up σ.1 7 l2.toNatClampNeg 0, σ.2)) [¬ sy_cc .eq 1 0] (by decide +kernel) rfl ⟨(by decide : ¬ ((1 : Int32) = 0)), trivial⟩ ?_
      refine sy_callV mX10_valueAt 19 [.int l2] [.int l2, .ref 6] kX10_valueAt jX11_174 (by decide +kernel) rfl rfl (Nat.le_of_ble_eq_true rfl) (Nat.le_of_ble_eq_true rfl) (by decide) rfl ?_
      refine w_x_tvalueAt (σ := (sy_up σ.1 7 l2.toNatClampNeg 0, σ.2)) (i := l2) (b1 c1) ?_
      show sy_E shX mX11_read (81, [some (.ref 6), none, some (.int l2)], [.int ((sy_up σ.1 7 l2.toNatClampNeg 0, σ.2).1 21 l2.toNatClampNeg), .int l2, .ref 6], (sy_up σ.1 7 l2.toNatClampNeg 0, σ.2)) _
      refine sy_callV mX11_lay 6 [.int l2, .int ((sy_up σ.1 7 l2.toNatClampNeg 0, σ.2).1 21 l2.toNatClampNeg)] [] kX11_lay jX11_177 (by decide +kernel) rfl rfl (Nat.le_of_ble_eq_true rfl) (Nat.le_of_ble_eq_true rfl) (by decide) rfl ?_
      exact k4 c1 c5 c6

set_option maxRecDepth 20000 in
theorem w_X_read_94 {Q : Option Value → sy_S → Prop} {σ : sy_S}    (k1 : Q (some (.int ((σ.1 0 5) * (σ.1 0 6)))) σ) : sy_E shX mX11_read (94, [some (.ref 6), none, none], [], σ) Q := by
  refine sy_bk [(.aload_n 0, 0, 0, 0, 0), (.getfield 16, 11, 0, 0, 0)] (98, [some (.ref 6), none, none], [.ref 0], σ) [] (by decide +kernel) rfl trivial ?_
  refine sy_callV mX3_cellCount 0 [] [] kX3_cellCount jX11_107 (by decide +kernel) rfl rfl (Nat.le_of_ble_eq_true rfl) (Nat.le_of_ble_eq_true rfl) (by decide) rfl ?_
  refine w_x_cellCount (σ := σ) ?_
  show sy_E shX mX11_read (101, [some (.ref 6), none, none], [.int ((σ.1 0 5) * (σ.1 0 6))], σ) _
  exact sy_reti rfl (by decide +kernel) (k1)

set_option maxRecDepth 20000 in
theorem w_X_read_84 {Q : Option Value → sy_S → Prop} {σ : sy_S} {l2 : Int32}   (k1 : sy_E shX mX11_read (47, [some (.ref 6), none, some (.int (l2 + 1))], [], σ) Q) : sy_E shX mX11_read (84, [some (.ref 6), none, some (.int l2)], [], σ) Q := by
  refine sy_bk [(.iinc 2 1, 0, 0, 1, 0), (.goto (-40), 0, 47, 0, 0)] (47, [some (.ref 6), none, some (.int (l2 + 1))], [], σ) [] (by decide +kernel) rfl trivial ?_
  exact k1

set_option maxRecDepth 20000 in
theorem w_X_why_0 {Q : Option Value → sy_S → Prop} {σ : sy_S} {i : Int32}  (b1 : ¬ (i < 0) → ¬ ((σ.1 19 4) ≤ i) → vp_in i 3) (k1 : i < 0 → Q (some (.int (-1))) σ) (k2 : ¬ (i < 0) → (σ.1 19 4) ≤ i → Q (some (.int (-1))) σ) (k3 : ¬ (i < 0) → ¬ ((σ.1 19 4) ≤ i) → Q (some (.int (σ.1 22 i.toNatClampNeg))) σ) : sy_E shX mX11_why (0, sy_ent [.ref 6, .int i] 2, [], σ) Q := by
  show sy_E shX mX11_why (0, [some (.ref 6), some (.int i)], [], σ) _
  refine sy_bk [(.aload_n 0, 0, 0, 0, 0), (.getfield 34, 11, 3, 0, 0), (.iload_n 1, 0, 0, 0, 0)] (5, [some (.ref 6), some (.int i)], [.int i, .ref 19], σ) [] (by decide +kernel) rfl trivial ?_
  refine sy_callV mX10_codeAt 19 [.int i] [] kX10_codeAt jX11_180 (by decide +kernel) rfl rfl (Nat.le_of_ble_eq_true rfl) (Nat.le_of_ble_eq_true rfl) (by decide) rfl ?_
  refine w_x_tcodeAt (σ := σ) (i := i) (fun c1b c2b => (b1 c1b c2b)) ?_ ?_ ?_
  · intro c1
    show sy_E shX mX11_why (8, [some (.ref 6), some (.int i)], [.int (-1)], σ) _
    exact sy_reti rfl (by decide +kernel) (k1 c1)
  · intro c2 c3
    show sy_E shX mX11_why (8, [some (.ref 6), some (.int i)], [.int (-1)], σ) _
    exact sy_reti rfl (by decide +kernel) (k2 c2 c3)
  · intro c4 c5
    show sy_E shX mX11_why (8, [some (.ref 6), some (.int i)], [.int (σ.1 22 i.toNatClampNeg)], σ) _
    exact sy_reti rfl (by decide +kernel) (k3 c4 c5)

set_option maxRecDepth 20000 in
theorem w_X_settled_0 {Q : Option Value → sy_S → Prop} {σ : sy_S} {w : Int32} {G : sg_G}  (b1 : ¬ w = 2 → gx G σ.1) (k1 : ¬ w = 2 → ∀ (m_2 : Nat), px (sg_p G) (w - 100) = some m_2 → ∀ (m_4 : Nat), px (sg_p G) (w - 200) = some m_4 → sy_E shX mX1_begin (0, sy_ent [.ref 39, .ref 7] 2, [], σ) (fun r9 σ9 => sy_E shX mX11_settled (79, [some (.ref 6), some (.int w), some (.int 1), some (.int 1), none], r9.toList ++ [], σ9) Q)) (k2 : ¬ w = 2 → ∀ (m_2 : Nat), px (sg_p G) (w - 100) = some m_2 → px (sg_p G) (w - 200) = none → sy_E shX mX1_begin (0, sy_ent [.ref 39, .ref 7] 2, [], σ) (fun r9 σ9 => sy_E shX mX11_settled (79, [some (.ref 6), some (.int w), some (.int 1), some (.int 0), none], r9.toList ++ [], σ9) Q)) (k3 : ¬ w = 2 → px (sg_p G) (w - 100) = none → ∀ (m_8 : Nat), px (sg_p G) (w - 200) = some m_8 → sy_E shX mX1_begin (0, sy_ent [.ref 39, .ref 7] 2, [], σ) (fun r9 σ9 => sy_E shX mX11_settled (79, [some (.ref 6), some (.int w), some (.int 0), some (.int 1), none], r9.toList ++ [], σ9) Q)) (k4 : ¬ w = 2 → px (sg_p G) (w - 100) = none → px (sg_p G) (w - 200) = none → w < 0 → Q (some (.int (-1))) σ) (k5 : ¬ w = 2 → px (sg_p G) (w - 100) = none → px (sg_p G) (w - 200) = none → ¬ (w < 0) → w ≤ 4 → sy_E shX mX1_begin (0, sy_ent [.ref 39, .ref 7] 2, [], σ) (fun r9 σ9 => sy_E shX mX11_settled (79, [some (.ref 6), some (.int w), some (.int 0), some (.int 0), none], r9.toList ++ [], σ9) Q)) (k6 : ¬ w = 2 → px (sg_p G) (w - 100) = none → px (sg_p G) (w - 200) = none → ¬ (w < 0) → ¬ (w ≤ 4) → Q (some (.int (-1))) σ) (k7 : ¬ (¬ w = 2) → sy_E shX mX1_begin (0, sy_ent [.ref 39, .ref 7] 2, [], σ) (fun r9 σ9 => sy_E shX mX11_settled (16, [some (.ref 6), none, none, none, none], r9.toList ++ [], σ9) Q)) : sy_E shX mX11_settled (0, sy_ent [.ref 6, .int w] 5, [], σ) Q := by
  show sy_E shX mX11_settled (0, [some (.ref 6), some (.int w), none, none, none], [], σ) _
  refine sy_bk [(.iload_n 1, 0, 0, 0, 0), (.iconst 2, 0, 0, 2, 0)] (2, [some (.ref 6), some (.int w), none, none, none], [.int 2, .int w], σ) [] (by decide +kernel) rfl trivial ?_
  by_cases c1 : ¬ w = 2
  · refine sy_bk [(.if_icmp .ne 22, 1, 24, 0, 0)] (24, [some (.ref 6), some (.int w), none, none, none], [], σ) [sy_cc .ne w 2] (by decide +kernel) rfl ⟨c1, trivial⟩ ?_
    refine sy_bk [(.aload_n 0, 0, 0, 0, 0), (.getfield 16, 11, 0, 0, 0), (.iload_n 1, 0, 0, 0, 0), (.bipush 100, 0, 0, 100, 0), (.isub, 0, 0, 0, 0)] (32, [some (.ref 6), some (.int w), none, none, none], [.int (w - 100), .ref 0], σ) [] (by decide +kernel) rfl trivial ?_
    refine sy_callV mX3_isPlace 0 [.int (w - 100)] [] kX3_isPlace jX11_127 (by decide +kernel) rfl rfl (Nat.le_of_ble_eq_true rfl) (Nat.le_of_ble_eq_true rfl) (by decide) rfl ?_
    refine e_x_isPl (σ := σ) (cell := (w - 100)) (b1 c1) ?_ ?_
    · intro m_2 c3
      show sy_E shX mX11_settled (35, [some (.ref 6), some (.int w), none, none, none], [.int 1], σ) _
      refine sy_bk [(.istore_n 2, 0, 0, 0, 0), (.aload_n 0, 0, 0, 0, 0), (.getfield 16, 11, 0, 0, 0), (.iload_n 1, 0, 0, 0, 0), (.sipush 200, 0, 0, 200, 0), (.isub, 0, 0, 0, 0)] (45, [some (.ref 6), some (.int w), some (.int 1), none, none], [.int (w - 200), .ref 0], σ) [] (by decide +kernel) rfl trivial ?_
      refine sy_callV mX3_isPlace 0 [.int (w - 200)] [] kX3_isPlace jX11_127 (by decide +kernel) rfl rfl (Nat.le_of_ble_eq_true rfl) (Nat.le_of_ble_eq_true rfl) (by decide) rfl ?_
      refine e_x_isPl (σ := σ) (cell := (w - 200)) (b1 c1) ?_ ?_
      · intro m_4 c5
        show sy_E shX mX11_settled (48, [some (.ref 6), some (.int w), some (.int 1), none, none], [.int 1], σ) _
        refine sy_bk [(.istore_n 3, 0, 0, 0, 0), (.iload_n 2, 0, 0, 0, 0), (.ifCond .ne 18, 1, 68, 0, 0), (.aload_n 0, 0, 0, 0, 0), (.getfield 53, 11, 6, 0, 0), (.aload_n 0, 0, 0, 0, 0), (.getfield 20, 11, 1, 0, 0)] (76, [some (.ref 6), some (.int w), some (.int 1), some (.int 1), none], [.ref 7, .ref 39], σ) [sy_cc .ne 1 0] (by decide +kernel) rfl ⟨(by decide : (¬ (1 : Int32) = 0)), trivial⟩ ?_
        refine sy_callV mX1_begin 39 [.ref 7] [] kX1_begin jX11_146 (by decide +kernel) rfl rfl (Nat.le_of_ble_eq_true rfl) (Nat.le_of_ble_eq_true rfl) (by decide) rfl ?_
        exact k1 c1 m_2 c3 m_4 c5
      · intro c6
        show sy_E shX mX11_settled (48, [some (.ref 6), some (.int w), some (.int 1), none, none], [.int 0], σ) _
        refine sy_bk [(.istore_n 3, 0, 0, 0, 0), (.iload_n 2, 0, 0, 0, 0), (.ifCond .ne 18, 1, 68, 0, 0), (.aload_n 0, 0, 0, 0, 0), (.getfield 53, 11, 6, 0, 0), (.aload_n 0, 0, 0, 0, 0), (.getfield 20, 11, 1, 0, 0)] (76, [some (.ref 6), some (.int w), some (.int 1), some (.int 0), none], [.ref 7, .ref 39], σ) [sy_cc .ne 1 0] (by decide +kernel) rfl ⟨(by decide : (¬ (1 : Int32) = 0)), trivial⟩ ?_
        refine sy_callV mX1_begin 39 [.ref 7] [] kX1_begin jX11_146 (by decide +kernel) rfl rfl (Nat.le_of_ble_eq_true rfl) (Nat.le_of_ble_eq_true rfl) (by decide) rfl ?_
        exact k2 c1 m_2 c3 c6
    · intro c7
      show sy_E shX mX11_settled (35, [some (.ref 6), some (.int w), none, none, none], [.int 0], σ) _
      refine sy_bk [(.istore_n 2, 0, 0, 0, 0), (.aload_n 0, 0, 0, 0, 0), (.getfield 16, 11, 0, 0, 0), (.iload_n 1, 0, 0, 0, 0), (.sipush 200, 0, 0, 200, 0), (.isub, 0, 0, 0, 0)] (45, [some (.ref 6), some (.int w), some (.int 0), none, none], [.int (w - 200), .ref 0], σ) [] (by decide +kernel) rfl trivial ?_
      refine sy_callV mX3_isPlace 0 [.int (w - 200)] [] kX3_isPlace jX11_127 (by decide +kernel) rfl rfl (Nat.le_of_ble_eq_true rfl) (Nat.le_of_ble_eq_true rfl) (by decide) rfl ?_
      refine e_x_isPl (σ := σ) (cell := (w - 200)) (b1 c1) ?_ ?_
      · intro m_8 c9
        show sy_E shX mX11_settled (48, [some (.ref 6), some (.int w), some (.int 0), none, none], [.int 1], σ) _
        refine sy_bk [(.istore_n 3, 0, 0, 0, 0), (.iload_n 2, 0, 0, 0, 0), (.ifCond .ne 18, 0, 68, 0, 0), (.iload_n 3, 0, 0, 0, 0), (.ifCond .ne 14, 1, 68, 0, 0), (.aload_n 0, 0, 0, 0, 0), (.getfield 53, 11, 6, 0, 0), (.aload_n 0, 0, 0, 0, 0), (.getfield 20, 11, 1, 0, 0)] (76, [some (.ref 6), some (.int w), some (.int 0), some (.int 1), none], [.ref 7, .ref 39], σ) [¬ sy_cc .ne 0 0, sy_cc .ne 1 0] (by decide +kernel) rfl ⟨(by decide : ¬ (¬ (0 : Int32) = 0)), (by decide : (¬ (1 : Int32) = 0)), trivial⟩ ?_
        refine sy_callV mX1_begin 39 [.ref 7] [] kX1_begin jX11_146 (by decide +kernel) rfl rfl (Nat.le_of_ble_eq_true rfl) (Nat.le_of_ble_eq_true rfl) (by decide) rfl ?_
        exact k3 c1 c7 m_8 c9
      · intro c10
        show sy_E shX mX11_settled (48, [some (.ref 6), some (.int w), some (.int 0), none, none], [.int 0], σ) _
        refine sy_bk [(.istore_n 3, 0, 0, 0, 0), (.iload_n 2, 0, 0, 0, 0), (.ifCond .ne 18, 0, 68, 0, 0), (.iload_n 3, 0, 0, 0, 0), (.ifCond .ne 14, 0, 68, 0, 0), (.iload_n 1, 0, 0, 0, 0)] (58, [some (.ref 6), some (.int w), some (.int 0), some (.int 0), none], [.int w], σ) [¬ sy_cc .ne 0 0, ¬ sy_cc .ne 0 0] (by decide +kernel) rfl ⟨(by decide : ¬ (¬ (0 : Int32) = 0)), (by decide : ¬ (¬ (0 : Int32) = 0)), trivial⟩ ?_
        by_cases c11 : w < 0
        · refine sy_bk [(.ifCond .lt 8, 1, 66, 0, 0)] (66, [some (.ref 6), some (.int w), some (.int 0), some (.int 0), none], [], σ) [sy_cc .lt w 0] (by decide +kernel) rfl ⟨c11, trivial⟩ ?_
          refine sy_bk [(.iconst (-1), 0, 0, (-1), 0)] (67, [some (.ref 6), some (.int w), some (.int 0), some (.int 0), none], [.int (-1)], σ) [] (by decide +kernel) rfl trivial ?_
          exact sy_reti rfl (by decide +kernel) (k4 c1 c7 c10 c11)
        · refine sy_bk [(.ifCond .lt 8, 0, 66, 0, 0)] (61, [some (.ref 6), some (.int w), some (.int 0), some (.int 0), none], [], σ) [¬ sy_cc .lt w 0] (by decide +kernel) rfl ⟨c11, trivial⟩ ?_
          refine sy_bk [(.iload_n 1, 0, 0, 0, 0), (.iconst 4, 0, 0, 4, 0)] (63, [some (.ref 6), some (.int w), some (.int 0), some (.int 0), none], [.int 4, .int w], σ) [] (by decide +kernel) rfl trivial ?_
          by_cases c12 : w ≤ 4
          · refine sy_bk [(.if_icmp .le 5, 1, 68, 0, 0)] (68, [some (.ref 6), some (.int w), some (.int 0), some (.int 0), none], [], σ) [sy_cc .le w 4] (by decide +kernel) rfl ⟨c12, trivial⟩ ?_
            refine sy_bk [(.aload_n 0, 0, 0, 0, 0), (.getfield 53, 11, 6, 0, 0), (.aload_n 0, 0, 0, 0, 0), (.getfield 20, 11, 1, 0, 0)] (76, [some (.ref 6), some (.int w), some (.int 0), some (.int 0), none], [.ref 7, .ref 39], σ) [] (by decide +kernel) rfl trivial ?_
            refine sy_callV mX1_begin 39 [.ref 7] [] kX1_begin jX11_146 (by decide +kernel) rfl rfl (Nat.le_of_ble_eq_true rfl) (Nat.le_of_ble_eq_true rfl) (by decide) rfl ?_
            exact k5 c1 c7 c10 c11 c12
          · refine sy_bk [(.if_icmp .le 5, 0, 68, 0, 0)] (66, [some (.ref 6), some (.int w), some (.int 0), some (.int 0), none], [], σ) [¬ sy_cc .le w 4] (by decide +kernel) rfl ⟨c12, trivial⟩ ?_
            refine sy_bk [(.iconst (-1), 0, 0, (-1), 0)] (67, [some (.ref 6), some (.int w), some (.int 0), some (.int 0), none], [.int (-1)], σ) [] (by decide +kernel) rfl trivial ?_
            exact sy_reti rfl (by decide +kernel) (k6 c1 c7 c10 c11 c12)
  · refine sy_bk [(.if_icmp .ne 22, 0, 24, 0, 0)] (5, [some (.ref 6), some (.int w), none, none, none], [], σ) [¬ sy_cc .ne w 2] (by decide +kernel) rfl ⟨c1, trivial⟩ ?_
    refine sy_bk [(.aload_n 0, 0, 0, 0, 0), (.getfield 53, 11, 6, 0, 0), (.aload_n 0, 0, 0, 0, 0), (.getfield 20, 11, 1, 0, 0)] (13, [some (.ref 6), some (.int w), none, none, none], [.ref 7, .ref 39], σ) [] (by decide +kernel) rfl trivial ?_
    refine sy_drop [some (.ref 6), none, none, none, none] ⟨rfl, trivial⟩ ?_
    refine sy_callV mX1_begin 39 [.ref 7] [] kX1_begin jX11_146 (by decide +kernel) rfl rfl (Nat.le_of_ble_eq_true rfl) (Nat.le_of_ble_eq_true rfl) (by decide) rfl ?_
    exact k7 c1

set_option maxRecDepth 20000 in
theorem w_X_settled_79 {Q : Option Value → sy_S → Prop} {σ : sy_S} {l1 : Int32} {l2 : Int32} {l3 : Int32}   (k1 : sy_E shX mX1_level (0, sy_ent [.ref 39] 9, [], σ) (fun r9 σ9 => sy_E shX mX11_settled (86, [some (.ref 6), some (.int l1), some (.int l2), some (.int l3), none], r9.toList ++ [], σ9) Q)) : sy_E shX mX11_settled (79, [some (.ref 6), some (.int l1), some (.int l2), some (.int l3), none], [], σ) Q := by
  refine sy_bk [(.aload_n 0, 0, 0, 0, 0), (.getfield 53, 11, 6, 0, 0)] (83, [some (.ref 6), some (.int l1), some (.int l2), some (.int l3), none], [.ref 39], σ) [] (by decide +kernel) rfl trivial ?_
  refine sy_callV mX1_level 39 [] [] kX1_level jX11_149 (by decide +kernel) rfl rfl (Nat.le_of_ble_eq_true rfl) (Nat.le_of_ble_eq_true rfl) (by decide) rfl ?_
  exact k1

set_option maxRecDepth 20000 in
theorem w_X_settled_16 {Q : Option Value → sy_S → Prop} {σ : sy_S}    (k1 : sy_E shX mX1_inRounds (0, sy_ent [.ref 39] 4, [], σ) (fun r9 σ9 => sy_E shX mX11_settled (23, [none, none, none, none, none], r9.toList ++ [], σ9) Q)) : sy_E shX mX11_settled (16, [some (.ref 6), none, none, none, none], [], σ) Q := by
  refine sy_bk [(.aload_n 0, 0, 0, 0, 0), (.getfield 53, 11, 6, 0, 0)] (20, [some (.ref 6), none, none, none, none], [.ref 39], σ) [] (by decide +kernel) rfl trivial ?_
  refine sy_drop [none, none, none, none, none] trivial ?_
  refine sy_callV mX1_inRounds 39 [] [] kX1_inRounds jX11_183 (by decide +kernel) rfl rfl (Nat.le_of_ble_eq_true rfl) (Nat.le_of_ble_eq_true rfl) (by decide) rfl ?_
  exact k1

set_option maxRecDepth 20000 in
theorem w_X_settled_86 {Q : Option Value → sy_S → Prop} {σ : sy_S} {l1 : Int32} {l2 : Int32} {l3 : Int32} {v : Int32}   (k1 : l2 = 0 → l3 = 0 → l1 = 0 → Q (some (.int v)) σ) (k2 : l2 = 0 → l3 = 0 → ¬ l1 = 0 → l1 = 1 → sy_E shX mX1_lost (0, sy_ent [.ref 39] 4, [], σ) (fun r9 σ9 => sy_E shX mX11_settled (162, [none, none, none, none, none], r9.toList ++ [], σ9) Q)) (k3 : l2 = 0 → l3 = 0 → ¬ l1 = 0 → ¬ l1 = 1 → l1 = 2 → sy_E shX mX1_grains (0, sy_ent [.ref 39] 1, [], σ) (fun r9 σ9 => sy_E shX mX11_settled (178, [none, none, none, none, none], r9.toList ++ [], σ9) Q)) (k4 : l2 = 0 → l3 = 0 → ¬ l1 = 0 → ¬ l1 = 1 → ¬ l1 = 2 → l1 = 3 → sy_E shX mX1_area (0, sy_ent [.ref 39] 3, [], σ) (fun r9 σ9 => sy_E shX mX11_settled (170, [none, none, none, none, none], r9.toList ++ [], σ9) Q)) (k5 : l2 = 0 → l3 = 0 → ¬ l1 = 0 → ¬ l1 = 1 → ¬ l1 = 2 → ¬ l1 = 3 → sy_E shX mX1_grains (0, sy_ent [.ref 39] 1, [], σ) (fun r9 σ9 => sy_E shX mX11_settled (178, [none, none, none, none, none], r9.toList ++ [], σ9) Q)) (k6 : l2 = 0 → ¬ (l3 = 0) → sy_E shX mX1_heightAt (0, sy_ent [.ref 39, .int (l1 - 200)] 2, [], σ) (fun r9 σ9 => sy_E shX mX11_settled (120, [none, none, none, none, none], r9.toList ++ [], σ9) Q)) (k7 : ¬ (l2 = 0) → sy_E shX mX1_countAt (0, sy_ent [.ref 39, .int (l1 - 100)] 2, [], σ) (fun r9 σ9 => sy_E shX mX11_settled (103, [none, none, none, none, none], r9.toList ++ [], σ9) Q)) : sy_E shX mX11_settled (86, [some (.ref 6), some (.int l1), some (.int l2), some (.int l3), none], [.int v], σ) Q := by
  refine sy_bk [(.istore 4, 0, 0, 0, 0), (.iload_n 2, 0, 0, 0, 0)] (89, [some (.ref 6), some (.int l1), some (.int l2), some (.int l3), some (.int v)], [.int l2], σ) [] (by decide +kernel) rfl trivial ?_
  by_cases c1 : l2 = 0
  · refine sy_bk [(.ifCond .eq 15, 1, 104, 0, 0)] (104, [some (.ref 6), some (.int l1), some (.int l2), some (.int l3), some (.int v)], [], σ) [sy_cc .eq l2 0] (by decide +kernel) rfl ⟨c1, trivial⟩ ?_
    refine sy_bk [(.iload_n 3, 0, 0, 0, 0)] (105, [some (.ref 6), some (.int l1), some (.int l2), some (.int l3), some (.int v)], [.int l3], σ) [] (by decide +kernel) rfl trivial ?_
    by_cases c2 : l3 = 0
    · refine sy_bk [(.ifCond .eq 16, 1, 121, 0, 0)] (121, [some (.ref 6), some (.int l1), some (.int l2), some (.int l3), some (.int v)], [], σ) [sy_cc .eq l3 0] (by decide +kernel) rfl ⟨c2, trivial⟩ ?_
      refine sy_bk [(.iload_n 1, 0, 0, 0, 0)] (122, [some (.ref 6), some (.int l1), some (.int l2), some (.int l3), some (.int v)], [.int l1], σ) [] (by decide +kernel) rfl trivial ?_
      by_cases c3 : l1 = 0
      · refine sy_bk [(.tableswitch 49 0 3 #[30, 33, 49, 41], 1, 152, 0, 0)] (152, [some (.ref 6), some (.int l1), some (.int l2), some (.int l3), some (.int v)], [], σ) [l1 = 0] (by decide +kernel) rfl ⟨c3, trivial⟩ ?_
        refine sy_bk [(.iload 4, 0, 0, 0, 0)] (154, [some (.ref 6), some (.int l1), some (.int l2), some (.int l3), some (.int v)], [.int v], σ) [] (by decide +kernel) rfl trivial ?_
        exact sy_reti rfl (by decide +kernel) (k1 c1 c2 c3)
      by_cases c4 : l1 = 1
      · refine sy_bk [(.tableswitch 49 0 3 #[30, 33, 49, 41], 1, 155, 1, 0)] (155, [some (.ref 6), some (.int l1), some (.int l2), some (.int l3), some (.int v)], [], σ) [l1 = 1] (by decide +kernel) rfl ⟨c4, trivial⟩ ?_
        refine sy_bk [(.aload_n 0, 0, 0, 0, 0), (.getfield 53, 11, 6, 0, 0)] (159, [some (.ref 6), some (.int l1), some (.int l2), some (.int l3), some (.int v)], [.ref 39], σ) [] (by decide +kernel) rfl trivial ?_
        refine sy_drop [none, none, none, none, none] trivial ?_
        refine sy_callV mX1_lost 39 [] [] kX1_lost jX11_192 (by decide +kernel) rfl rfl (Nat.le_of_ble_eq_true rfl) (Nat.le_of_ble_eq_true rfl) (by decide) rfl ?_
        exact k2 c1 c2 c3 c4
      by_cases c5 : l1 = 2
      · refine sy_bk [(.tableswitch 49 0 3 #[30, 33, 49, 41], 1, 171, 2, 0)] (171, [some (.ref 6), some (.int l1), some (.int l2), some (.int l3), some (.int v)], [], σ) [l1 = 2] (by decide +kernel) rfl ⟨c5, trivial⟩ ?_
        refine sy_bk [(.aload_n 0, 0, 0, 0, 0), (.getfield 53, 11, 6, 0, 0)] (175, [some (.ref 6), some (.int l1), some (.int l2), some (.int l3), some (.int v)], [.ref 39], σ) [] (by decide +kernel) rfl trivial ?_
        refine sy_drop [none, none, none, none, none] trivial ?_
        refine sy_callV mX1_grains 39 [] [] kX1_grains jX11_198 (by decide +kernel) rfl rfl (Nat.le_of_ble_eq_true rfl) (Nat.le_of_ble_eq_true rfl) (by decide) rfl ?_
        exact k3 c1 c2 c3 c4 c5
      by_cases c6 : l1 = 3
      · refine sy_bk [(.tableswitch 49 0 3 #[30, 33, 49, 41], 1, 163, 3, 0)] (163, [some (.ref 6), some (.int l1), some (.int l2), some (.int l3), some (.int v)], [], σ) [l1 = 3] (by decide +kernel) rfl ⟨c6, trivial⟩ ?_
        refine sy_bk [(.aload_n 0, 0, 0, 0, 0), (.getfield 53, 11, 6, 0, 0)] (167, [some (.ref 6), some (.int l1), some (.int l2), some (.int l3), some (.int v)], [.ref 39], σ) [] (by decide +kernel) rfl trivial ?_
        refine sy_drop [none, none, none, none, none] trivial ?_
        refine sy_callV mX1_area 39 [] [] kX1_area jX11_195 (by decide +kernel) rfl rfl (Nat.le_of_ble_eq_true rfl) (Nat.le_of_ble_eq_true rfl) (by decide) rfl ?_
        exact k4 c1 c2 c3 c4 c5 c6
      refine sy_bk [(.tableswitch 49 0 3 #[30, 33, 49, 41], 0, 171, 0, 0)] (171, [some (.ref 6), some (.int l1), some (.int l2), some (.int l3), some (.int v)], [], σ) [l1.toInt < 0 ∨ 3 < l1.toInt] (by decide +kernel) rfl ⟨sy_sw4 c3 c4 c5 c6, trivial⟩ ?_
      refine sy_bk [(.aload_n 0, 0, 0, 0, 0), (.getfield 53, 11, 6, 0, 0)] (175, [some (.ref 6), some (.int l1), some (.int l2), some (.int l3), some (.int v)], [.ref 39], σ) [] (by decide +kernel) rfl trivial ?_
      refine sy_drop [none, none, none, none, none] trivial ?_
      refine sy_callV mX1_grains 39 [] [] kX1_grains jX11_198 (by decide +kernel) rfl rfl (Nat.le_of_ble_eq_true rfl) (Nat.le_of_ble_eq_true rfl) (by decide) rfl ?_
      exact k5 c1 c2 c3 c4 c5 c6
    · refine sy_bk [(.ifCond .eq 16, 0, 121, 0, 0)] (108, [some (.ref 6), some (.int l1), some (.int l2), some (.int l3), some (.int v)], [], σ) [¬ sy_cc .eq l3 0] (by decide +kernel) rfl ⟨c2, trivial⟩ ?_
      refine sy_bk [(.aload_n 0, 0, 0, 0, 0), (.getfield 53, 11, 6, 0, 0), (.iload_n 1, 0, 0, 0, 0), (.sipush 200, 0, 0, 200, 0), (.isub, 0, 0, 0, 0)] (117, [some (.ref 6), some (.int l1), some (.int l2), some (.int l3), some (.int v)], [.int (l1 - 200), .ref 39], σ) [] (by decide +kernel) rfl trivial ?_
      refine sy_drop [none, none, none, none, none] trivial ?_
      refine sy_callV mX1_heightAt 39 [.int (l1 - 200)] [] kX1_heightAt jX11_189 (by decide +kernel) rfl rfl (Nat.le_of_ble_eq_true rfl) (Nat.le_of_ble_eq_true rfl) (by decide) rfl ?_
      exact k6 c1 c2
  · refine sy_bk [(.ifCond .eq 15, 0, 104, 0, 0)] (92, [some (.ref 6), some (.int l1), some (.int l2), some (.int l3), some (.int v)], [], σ) [¬ sy_cc .eq l2 0] (by decide +kernel) rfl ⟨c1, trivial⟩ ?_
    refine sy_bk [(.aload_n 0, 0, 0, 0, 0), (.getfield 53, 11, 6, 0, 0), (.iload_n 1, 0, 0, 0, 0), (.bipush 100, 0, 0, 100, 0), (.isub, 0, 0, 0, 0)] (100, [some (.ref 6), some (.int l1), some (.int l2), some (.int l3), some (.int v)], [.int (l1 - 100), .ref 39], σ) [] (by decide +kernel) rfl trivial ?_
    refine sy_drop [none, none, none, none, none] trivial ?_
    refine sy_callV mX1_countAt 39 [.int (l1 - 100)] [] kX1_countAt jX11_186 (by decide +kernel) rfl rfl (Nat.le_of_ble_eq_true rfl) (Nat.le_of_ble_eq_true rfl) (by decide) rfl ?_
    exact k7 c1

set_option maxRecDepth 20000 in
theorem w_X_settled_23 {Q : Option Value → sy_S → Prop} {σ : sy_S} {v : Int32}   (k1 : Q (some (.int v)) σ) : sy_E shX mX11_settled (23, [none, none, none, none, none], [.int v], σ) Q := by
  exact sy_reti rfl (by decide +kernel) (k1)

set_option maxRecDepth 20000 in
theorem w_X_settled_162 {Q : Option Value → sy_S → Prop} {σ : sy_S} {v : Int32}   (k1 : Q (some (.int v)) σ) : sy_E shX mX11_settled (162, [none, none, none, none, none], [.int v], σ) Q := by
  exact sy_reti rfl (by decide +kernel) (k1)

set_option maxRecDepth 20000 in
theorem w_X_settled_178 {Q : Option Value → sy_S → Prop} {σ : sy_S} {v : Int32}   (k1 : Q (some (.int v)) σ) : sy_E shX mX11_settled (178, [none, none, none, none, none], [.int v], σ) Q := by
  exact sy_reti rfl (by decide +kernel) (k1)

set_option maxRecDepth 20000 in
theorem w_X_settled_170 {Q : Option Value → sy_S → Prop} {σ : sy_S} {v : Int32}   (k1 : Q (some (.int v)) σ) : sy_E shX mX11_settled (170, [none, none, none, none, none], [.int v], σ) Q := by
  exact sy_reti rfl (by decide +kernel) (k1)

set_option maxRecDepth 20000 in
theorem w_X_settled_120 {Q : Option Value → sy_S → Prop} {σ : sy_S} {v : Int32}   (k1 : Q (some (.int v)) σ) : sy_E shX mX11_settled (120, [none, none, none, none, none], [.int v], σ) Q := by
  exact sy_reti rfl (by decide +kernel) (k1)

set_option maxRecDepth 20000 in
theorem w_X_settled_103 {Q : Option Value → sy_S → Prop} {σ : sy_S} {v : Int32}   (k1 : Q (some (.int v)) σ) : sy_E shX mX11_settled (103, [none, none, none, none, none], [.int v], σ) Q := by
  exact sy_reti rfl (by decide +kernel) (k1)

set_option maxRecDepth 20000 in
theorem w_X_trace_0 {Q : Option Value → sy_S → Prop} {σ : sy_S} {o : Int32} {i : Int32}   (k1 : ∀ (m_1 : Nat), px p4 o = some m_1 → sy_E shX mX1_begin (0, sy_ent [.ref 39, .ref 7] 2, [], σ) (fun r9 σ9 => sy_E shX mX11_trace (20, [some (.ref 6), some (.int o), some (.int i), none, none], r9.toList ++ [], σ9) Q)) (k2 : px p4 o = none → Q (some (.int (-1))) σ) : sy_E shX mX11_trace (0, sy_ent [.ref 6, .int o, .int i] 5, [], σ) Q := by
  show sy_E shX mX11_trace (0, [some (.ref 6), some (.int o), some (.int i), none, none], [], σ) _
  refine sy_bk [(.iload_n 1, 0, 0, 0, 0)] (1, [some (.ref 6), some (.int o), some (.int i), none, none], [.int o], σ) [] (by decide +kernel) rfl trivial ?_
  refine sy_callS mX11_isOrder [.int o] [] kX11_isOrder jX11_201 (by decide +kernel) rfl rfl (Nat.le_of_ble_eq_true rfl) (Nat.le_of_ble_eq_true rfl) (by decide) ?_
  refine e_x_isOrder (σ := σ) (o := o) ?_ ?_
  · intro m_1 c2
    show sy_E shX mX11_trace (4, [some (.ref 6), some (.int o), some (.int i), none, none], [.int 1], σ) _
    refine sy_bk [(.ifCond .ne 5, 1, 9, 0, 0), (.aload_n 0, 0, 0, 0, 0), (.getfield 53, 11, 6, 0, 0), (.aload_n 0, 0, 0, 0, 0), (.getfield 20, 11, 1, 0, 0)] (17, [some (.ref 6), some (.int o), some (.int i), none, none], [.ref 7, .ref 39], σ) [sy_cc .ne 1 0] (by decide +kernel) rfl ⟨(by decide : (¬ (1 : Int32) = 0)), trivial⟩ ?_
    refine sy_callV mX1_begin 39 [.ref 7] [] kX1_begin jX11_146 (by decide +kernel) rfl rfl (Nat.le_of_ble_eq_true rfl) (Nat.le_of_ble_eq_true rfl) (by decide) rfl ?_
    exact k1 m_1 c2
  · intro c3
    show sy_E shX mX11_trace (4, [some (.ref 6), some (.int o), some (.int i), none, none], [.int 0], σ) _
    refine sy_bk [(.ifCond .ne 5, 0, 9, 0, 0), (.iconst (-1), 0, 0, (-1), 0)] (8, [some (.ref 6), some (.int o), some (.int i), none, none], [.int (-1)], σ) [¬ sy_cc .ne 0 0] (by decide +kernel) rfl ⟨(by decide : ¬ (¬ (0 : Int32) = 0)), trivial⟩ ?_
    exact sy_reti rfl (by decide +kernel) (k2 c3)

set_option maxRecDepth 20000 in
theorem w_X_trace_20 {Q : Option Value → sy_S → Prop} {σ : sy_S} {l1 : Int32} {l2 : Int32}   (k1 : l2 < 0 → Q (some (.int (-5))) σ) (k2 : ¬ (l2 < 0) → sy_E shX mX1_level (0, sy_ent [.ref 39] 9, [], σ) (fun r9 σ9 => sy_E shX mX11_trace (32, [some (.ref 6), some (.int l1), some (.int l2), none, none], r9.toList ++ [.int l2], σ9) Q)) : sy_E shX mX11_trace (20, [some (.ref 6), some (.int l1), some (.int l2), none, none], [], σ) Q := by
  refine sy_bk [(.iload_n 2, 0, 0, 0, 0)] (21, [some (.ref 6), some (.int l1), some (.int l2), none, none], [.int l2], σ) [] (by decide +kernel) rfl trivial ?_
  by_cases c1 : l2 < 0
  · refine sy_bk [(.ifCond .lt 20, 1, 41, 0, 0)] (41, [some (.ref 6), some (.int l1), some (.int l2), none, none], [], σ) [sy_cc .lt l2 0] (by decide +kernel) rfl ⟨c1, trivial⟩ ?_
    refine sy_bk [(.bipush (-5), 0, 0, (-5), 0)] (43, [some (.ref 6), some (.int l1), some (.int l2), none, none], [.int (-5)], σ) [] (by decide +kernel) rfl trivial ?_
    exact sy_reti rfl (by decide +kernel) (k1 c1)
  · refine sy_bk [(.ifCond .lt 20, 0, 41, 0, 0)] (24, [some (.ref 6), some (.int l1), some (.int l2), none, none], [], σ) [¬ sy_cc .lt l2 0] (by decide +kernel) rfl ⟨c1, trivial⟩ ?_
    refine sy_bk [(.iload_n 2, 0, 0, 0, 0), (.aload_n 0, 0, 0, 0, 0), (.getfield 53, 11, 6, 0, 0)] (29, [some (.ref 6), some (.int l1), some (.int l2), none, none], [.ref 39, .int l2], σ) [] (by decide +kernel) rfl trivial ?_
    refine sy_callV mX1_level 39 [] [.int l2] kX1_level jX11_149 (by decide +kernel) rfl rfl (Nat.le_of_ble_eq_true rfl) (Nat.le_of_ble_eq_true rfl) (by decide) rfl ?_
    exact k2 c1

set_option maxRecDepth 20000 in
theorem w_X_trace_32 {Q : Option Value → sy_S → Prop} {σ : sy_S} {l1 : Int32} {l2 : Int32} {s0 : Int32} {v : Int32}   (k1 : v ≤ s0 → Q (some (.int (-5))) σ) (k2 : ¬ (v ≤ s0) → l2 < 1000000 → sy_E shX mX4_begin (0, sy_ent [.ref 42, .ref 7, .int l1] 4, [], σ) (fun r9 σ9 => sy_E shX mX11_trace (56, [some (.ref 6), none, some (.int l2), none, none], r9.toList ++ [], σ9) Q)) (k3 : ¬ (v ≤ s0) → ¬ (l2 < 1000000) → Q (some (.int (-5))) σ) : sy_E shX mX11_trace (32, [some (.ref 6), some (.int l1), some (.int l2), none, none], [.int v, .int s0], σ) Q := by
  by_cases c1 : v ≤ s0
  · refine sy_bk [(.if_icmp .ge 9, 1, 41, 0, 0)] (41, [some (.ref 6), some (.int l1), some (.int l2), none, none], [], σ) [sy_cc .ge s0 v] (by decide +kernel) rfl ⟨c1, trivial⟩ ?_
    refine sy_bk [(.bipush (-5), 0, 0, (-5), 0)] (43, [some (.ref 6), some (.int l1), some (.int l2), none, none], [.int (-5)], σ) [] (by decide +kernel) rfl trivial ?_
    exact sy_reti rfl (by decide +kernel) (k1 c1)
  · refine sy_bk [(.if_icmp .ge 9, 0, 41, 0, 0)] (35, [some (.ref 6), some (.int l1), some (.int l2), none, none], [], σ) [¬ sy_cc .ge s0 v] (by decide +kernel) rfl ⟨c1, trivial⟩ ?_
    refine sy_bk [(.iload_n 2, 0, 0, 0, 0), (.ldc 204, 0, 0, 1000000, 0)] (38, [some (.ref 6), some (.int l1), some (.int l2), none, none], [.int 1000000, .int l2], σ) [] (by decide +kernel) rfl trivial ?_
    by_cases c2 : l2 < 1000000
    · refine sy_bk [(.if_icmp .lt 6, 1, 44, 0, 0)] (44, [some (.ref 6), some (.int l1), some (.int l2), none, none], [], σ) [sy_cc .lt l2 1000000] (by decide +kernel) rfl ⟨c2, trivial⟩ ?_
      refine sy_bk [(.aload_n 0, 0, 0, 0, 0), (.getfield 60, 11, 7, 0, 0), (.aload_n 0, 0, 0, 0, 0), (.getfield 20, 11, 1, 0, 0), (.iload_n 1, 0, 0, 0, 0)] (53, [some (.ref 6), some (.int l1), some (.int l2), none, none], [.int l1, .ref 7, .ref 42], σ) [] (by decide +kernel) rfl trivial ?_
      refine sy_drop [some (.ref 6), none, some (.int l2), none, none] ⟨rfl, rfl, trivial⟩ ?_
      refine sy_callV mX4_begin 42 [.ref 7, .int l1] [] kX4_begin jX11_205 (by decide +kernel) rfl rfl (Nat.le_of_ble_eq_true rfl) (Nat.le_of_ble_eq_true rfl) (by decide) rfl ?_
      exact k2 c1 c2
    · refine sy_bk [(.if_icmp .lt 6, 0, 44, 0, 0)] (41, [some (.ref 6), some (.int l1), some (.int l2), none, none], [], σ) [¬ sy_cc .lt l2 1000000] (by decide +kernel) rfl ⟨c2, trivial⟩ ?_
      refine sy_bk [(.bipush (-5), 0, 0, (-5), 0)] (43, [some (.ref 6), some (.int l1), some (.int l2), none, none], [.int (-5)], σ) [] (by decide +kernel) rfl trivial ?_
      exact sy_reti rfl (by decide +kernel) (k3 c1 c2)

set_option maxRecDepth 20000 in
theorem w_X_trace_56 {Q : Option Value → sy_S → Prop} {σ : sy_S} {l2 : Int32}   (k1 : sy_E shX mX11_trace (62, [some (.ref 6), none, some (.int l2), some (.int (-5)), some (.int 0)], [], σ) Q) : sy_E shX mX11_trace (56, [some (.ref 6), none, some (.int l2), none, none], [], σ) Q := by
  refine sy_bk [(.bipush (-5), 0, 0, (-5), 0), (.istore_n 3, 0, 0, 0, 0), (.iconst 0, 0, 0, 0, 0), (.istore 4, 0, 0, 0, 0)] (62, [some (.ref 6), none, some (.int l2), some (.int (-5)), some (.int 0)], [], σ) [] (by decide +kernel) rfl trivial ?_
  exact k1

set_option maxRecDepth 20000 in
theorem w_X_trace_62 {Q : Option Value → sy_S → Prop} {σ : sy_S} {l2 : Int32} {l3 : Int32} {l4 : Int32}   (k1 : l2 < l4 → Q (some (.int l3)) σ) (k2 : ¬ (l2 < l4) → sy_E shX mX4_step (0, sy_ent [.ref 42] 3, [], σ) (fun r9 σ9 => sy_E shX mX11_trace (75, [some (.ref 6), none, some (.int l2), none, some (.int l4)], r9.toList ++ [], σ9) Q)) : sy_E shX mX11_trace (62, [some (.ref 6), none, some (.int l2), some (.int l3), some (.int l4)], [], σ) Q := by
  refine sy_bk [(.iload 4, 0, 0, 0, 0), (.iload_n 2, 0, 0, 0, 0)] (65, [some (.ref 6), none, some (.int l2), some (.int l3), some (.int l4)], [.int l2, .int l4], σ) [] (by decide +kernel) rfl trivial ?_
  by_cases c1 : l2 < l4
  · refine sy_bk [(.if_icmp .gt 17, 1, 82, 0, 0)] (82, [some (.ref 6), none, some (.int l2), some (.int l3), some (.int l4)], [], σ) [sy_cc .gt l4 l2] (by decide +kernel) rfl ⟨c1, trivial⟩ ?_
    refine sy_bk [(.iload_n 3, 0, 0, 0, 0)] (83, [some (.ref 6), none, some (.int l2), some (.int l3), some (.int l4)], [.int l3], σ) [] (by decide +kernel) rfl trivial ?_
    exact sy_reti rfl (by decide +kernel) (k1 c1)
  · refine sy_bk [(.if_icmp .gt 17, 0, 82, 0, 0)] (68, [some (.ref 6), none, some (.int l2), some (.int l3), some (.int l4)], [], σ) [¬ sy_cc .gt l4 l2] (by decide +kernel) rfl ⟨c1, trivial⟩ ?_
    refine sy_bk [(.aload_n 0, 0, 0, 0, 0), (.getfield 60, 11, 7, 0, 0)] (72, [some (.ref 6), none, some (.int l2), some (.int l3), some (.int l4)], [.ref 42], σ) [] (by decide +kernel) rfl trivial ?_
    refine sy_drop [some (.ref 6), none, some (.int l2), none, some (.int l4)] ⟨rfl, rfl, rfl, trivial⟩ ?_
    refine sy_callV mX4_step 42 [] [] kX4_step jX11_207 (by decide +kernel) rfl rfl (Nat.le_of_ble_eq_true rfl) (Nat.le_of_ble_eq_true rfl) (by decide) rfl ?_
    exact k2 c1

set_option maxRecDepth 20000 in
theorem w_X_trace_75 {Q : Option Value → sy_S → Prop} {σ : sy_S} {l2 : Int32} {l4 : Int32} {v : Int32}   (k1 : sy_E shX mX11_trace (62, [some (.ref 6), none, some (.int l2), some (.int v), some (.int (l4 + 1))], [], σ) Q) : sy_E shX mX11_trace (75, [some (.ref 6), none, some (.int l2), none, some (.int l4)], [.int v], σ) Q := by
  refine sy_bk [(.istore_n 3, 0, 0, 0, 0), (.iinc 4 1, 0, 0, 1, 0), (.goto (-17), 0, 62, 0, 0)] (62, [some (.ref 6), none, some (.int l2), some (.int v), some (.int (l4 + 1))], [], σ) [] (by decide +kernel) rfl trivial ?_
  exact k1

set_option maxRecDepth 20000 in
theorem w_X_common_0 {Q : Option Value → sy_S → Prop} {σ : sy_S} {o : Int32} {u : Int32}   (k1 : ∀ (m_1 : Nat), px p4 o = some m_1 → ∀ (m_3 : Nat), px p4 u = some m_3 → sy_E shX mX4_begin (0, sy_ent [.ref 42, .ref 7, .int o] 4, [], σ) (fun r9 σ9 => sy_E shX mX11_common (28, [some (.ref 6), none, some (.int u), none, none, none, none], r9.toList ++ [], σ9) Q)) (k2 : ∀ (m_1 : Nat), px p4 o = some m_1 → px p4 u = none → Q (some (.int (-1))) σ) (k3 : px p4 o = none → Q (some (.int (-1))) σ) : sy_E shX mX11_common (0, sy_ent [.ref 6, .int o, .int u] 7, [], σ) Q := by
  show sy_E shX mX11_common (0, [some (.ref 6), some (.int o), some (.int u), none, none, none, none], [], σ) _
  refine sy_bk [(.iload_n 1, 0, 0, 0, 0)] (1, [some (.ref 6), some (.int o), some (.int u), none, none, none, none], [.int o], σ) [] (by decide +kernel) rfl trivial ?_
  refine sy_callS mX11_isOrder [.int o] [] kX11_isOrder jX11_201 (by decide +kernel) rfl rfl (Nat.le_of_ble_eq_true rfl) (Nat.le_of_ble_eq_true rfl) (by decide) ?_
  refine e_x_isOrder (σ := σ) (o := o) ?_ ?_
  · intro m_1 c2
    show sy_E shX mX11_common (4, [some (.ref 6), some (.int o), some (.int u), none, none, none, none], [.int 1], σ) _
    refine sy_bk [(.ifCond .eq 10, 0, 14, 0, 0), (.iload_n 2, 0, 0, 0, 0)] (8, [some (.ref 6), some (.int o), some (.int u), none, none, none, none], [.int u], σ) [¬ sy_cc .eq 1 0] (by decide +kernel) rfl ⟨(by decide : ¬ ((1 : Int32) = 0)), trivial⟩ ?_
    refine sy_callS mX11_isOrder [.int u] [] kX11_isOrder jX11_201 (by decide +kernel) rfl rfl (Nat.le_of_ble_eq_true rfl) (Nat.le_of_ble_eq_true rfl) (by decide) ?_
    refine e_x_isOrder (σ := σ) (o := u) ?_ ?_
    · intro m_3 c4
      show sy_E shX mX11_common (11, [some (.ref 6), some (.int o), some (.int u), none, none, none, none], [.int 1], σ) _
      refine sy_bk [(.ifCond .ne 5, 1, 16, 0, 0), (.aload_n 0, 0, 0, 0, 0), (.getfield 60, 11, 7, 0, 0), (.aload_n 0, 0, 0, 0, 0), (.getfield 20, 11, 1, 0, 0), (.iload_n 1, 0, 0, 0, 0)] (25, [some (.ref 6), some (.int o), some (.int u), none, none, none, none], [.int o, .ref 7, .ref 42], σ) [sy_cc .ne 1 0] (by decide +kernel) rfl ⟨(by decide : (¬ (1 : Int32) = 0)), trivial⟩ ?_
      refine sy_drop [some (.ref 6), none, some (.int u), none, none, none, none] ⟨rfl, rfl, trivial⟩ ?_
      refine sy_callV mX4_begin 42 [.ref 7, .int o] [] kX4_begin jX11_205 (by decide +kernel) rfl rfl (Nat.le_of_ble_eq_true rfl) (Nat.le_of_ble_eq_true rfl) (by decide) rfl ?_
      exact k1 m_1 c2 m_3 c4
    · intro c5
      show sy_E shX mX11_common (11, [some (.ref 6), some (.int o), some (.int u), none, none, none, none], [.int 0], σ) _
      refine sy_bk [(.ifCond .ne 5, 0, 16, 0, 0), (.iconst (-1), 0, 0, (-1), 0)] (15, [some (.ref 6), some (.int o), some (.int u), none, none, none, none], [.int (-1)], σ) [¬ sy_cc .ne 0 0] (by decide +kernel) rfl ⟨(by decide : ¬ (¬ (0 : Int32) = 0)), trivial⟩ ?_
      exact sy_reti rfl (by decide +kernel) (k2 m_1 c2 c5)
  · intro c6
    show sy_E shX mX11_common (4, [some (.ref 6), some (.int o), some (.int u), none, none, none, none], [.int 0], σ) _
    refine sy_bk [(.ifCond .eq 10, 1, 14, 0, 0), (.iconst (-1), 0, 0, (-1), 0)] (15, [some (.ref 6), some (.int o), some (.int u), none, none, none, none], [.int (-1)], σ) [sy_cc .eq 0 0] (by decide +kernel) rfl ⟨(by decide : ((0 : Int32) = 0)), trivial⟩ ?_
    exact sy_reti rfl (by decide +kernel) (k3 c6)

set_option maxRecDepth 20000 in
theorem w_X_common_28 {Q : Option Value → sy_S → Prop} {σ : sy_S} {l2 : Int32}   (k1 : sy_E shX mX4_begin (0, sy_ent [.ref 45, .ref 7, .int l2] 4, [], σ) (fun r9 σ9 => sy_E shX mX11_common (40, [some (.ref 6), none, none, none, none, none, none], r9.toList ++ [], σ9) Q)) : sy_E shX mX11_common (28, [some (.ref 6), none, some (.int l2), none, none, none, none], [], σ) Q := by
  refine sy_bk [(.aload_n 0, 0, 0, 0, 0), (.getfield 64, 11, 8, 0, 0), (.aload_n 0, 0, 0, 0, 0), (.getfield 20, 11, 1, 0, 0), (.iload_n 2, 0, 0, 0, 0)] (37, [some (.ref 6), none, some (.int l2), none, none, none, none], [.int l2, .ref 7, .ref 45], σ) [] (by decide +kernel) rfl trivial ?_
  refine sy_drop [some (.ref 6), none, none, none, none, none, none] ⟨rfl, trivial⟩ ?_
  refine sy_callV mX4_begin 45 [.ref 7, .int l2] [] kX4_begin jX11_205 (by decide +kernel) rfl rfl (Nat.le_of_ble_eq_true rfl) (Nat.le_of_ble_eq_true rfl) (by decide) rfl ?_
  exact k1

set_option maxRecDepth 20000 in
theorem w_X_common_40 {Q : Option Value → sy_S → Prop} {σ : sy_S}    (k1 : sy_E shX mX11_common (45, [some (.ref 6), none, none, some (.int 0), some (.int 0), none, none], [], σ) Q) : sy_E shX mX11_common (40, [some (.ref 6), none, none, none, none, none, none], [], σ) Q := by
  refine sy_bk [(.iconst 0, 0, 0, 0, 0), (.istore_n 3, 0, 0, 0, 0), (.iconst 0, 0, 0, 0, 0), (.istore 4, 0, 0, 0, 0)] (45, [some (.ref 6), none, none, some (.int 0), some (.int 0), none, none], [], σ) [] (by decide +kernel) rfl trivial ?_
  exact k1

set_option maxRecDepth 20000 in
theorem w_X_common_45 {Q : Option Value → sy_S → Prop} {σ : sy_S} {l3 : Int32} {l4 : Int32}   (k1 : 60 ≤ l4 → Q (some (.int l3)) σ) (k2 : ¬ (60 ≤ l4) → sy_E shX mX4_step (0, sy_ent [.ref 42] 3, [], σ) (fun r9 σ9 => sy_E shX mX11_common (59, [some (.ref 6), none, none, some (.int l3), some (.int l4), none, none], r9.toList ++ [], σ9) Q)) : sy_E shX mX11_common (45, [some (.ref 6), none, none, some (.int l3), some (.int l4), none, none], [], σ) Q := by
  refine sy_bk [(.iload 4, 0, 0, 0, 0), (.bipush 60, 0, 0, 60, 0)] (49, [some (.ref 6), none, none, some (.int l3), some (.int l4), none, none], [.int 60, .int l4], σ) [] (by decide +kernel) rfl trivial ?_
  by_cases c1 : 60 ≤ l4
  · refine sy_bk [(.if_icmp .ge 42, 1, 91, 0, 0)] (91, [some (.ref 6), none, none, some (.int l3), some (.int l4), none, none], [], σ) [sy_cc .ge l4 60] (by decide +kernel) rfl ⟨c1, trivial⟩ ?_
    refine sy_bk [(.iload_n 3, 0, 0, 0, 0)] (92, [some (.ref 6), none, none, some (.int l3), some (.int l4), none, none], [.int l3], σ) [] (by decide +kernel) rfl trivial ?_
    exact sy_reti rfl (by decide +kernel) (k1 c1)
  · refine sy_bk [(.if_icmp .ge 42, 0, 91, 0, 0)] (52, [some (.ref 6), none, none, some (.int l3), some (.int l4), none, none], [], σ) [¬ sy_cc .ge l4 60] (by decide +kernel) rfl ⟨c1, trivial⟩ ?_
    refine sy_bk [(.aload_n 0, 0, 0, 0, 0), (.getfield 60, 11, 7, 0, 0)] (56, [some (.ref 6), none, none, some (.int l3), some (.int l4), none, none], [.ref 42], σ) [] (by decide +kernel) rfl trivial ?_
    refine sy_callV mX4_step 42 [] [] kX4_step jX11_207 (by decide +kernel) rfl rfl (Nat.le_of_ble_eq_true rfl) (Nat.le_of_ble_eq_true rfl) (by decide) rfl ?_
    exact k2 c1

set_option maxRecDepth 20000 in
theorem w_X_common_59 {Q : Option Value → sy_S → Prop} {σ : sy_S} {l3 : Int32} {l4 : Int32} {v : Int32}   (k1 : sy_E shX mX4_step (0, sy_ent [.ref 45] 3, [], σ) (fun r9 σ9 => sy_E shX mX11_common (68, [some (.ref 6), none, none, some (.int l3), some (.int l4), some (.int v), none], r9.toList ++ [], σ9) Q)) : sy_E shX mX11_common (59, [some (.ref 6), none, none, some (.int l3), some (.int l4), none, none], [.int v], σ) Q := by
  refine sy_bk [(.istore 5, 0, 0, 0, 0), (.aload_n 0, 0, 0, 0, 0), (.getfield 64, 11, 8, 0, 0)] (65, [some (.ref 6), none, none, some (.int l3), some (.int l4), some (.int v), none], [.ref 45], σ) [] (by decide +kernel) rfl trivial ?_
  refine sy_callV mX4_step 45 [] [] kX4_step jX11_207 (by decide +kernel) rfl rfl (Nat.le_of_ble_eq_true rfl) (Nat.le_of_ble_eq_true rfl) (by decide) rfl ?_
  exact k1

set_option maxRecDepth 20000 in
theorem w_X_common_68 {Q : Option Value → sy_S → Prop} {σ : sy_S} {l3 : Int32} {l4 : Int32} {l5 : Int32} {v : Int32}   (k1 : l5 < 0 → sy_E shX mX11_common (45, [some (.ref 6), none, none, some (.int l3), some (.int (l4 + 1)), none, none], [], σ) Q) (k2 : ¬ (l5 < 0) → ¬ l5 = v → sy_E shX mX11_common (45, [some (.ref 6), none, none, some (.int l3), some (.int (l4 + 1)), none, none], [], σ) Q) (k3 : ¬ (l5 < 0) → ¬ (¬ l5 = v) → sy_E shX mX11_common (45, [some (.ref 6), none, none, some (.int (l3 + 1)), some (.int (l4 + 1)), none, none], [], σ) Q) : sy_E shX mX11_common (68, [some (.ref 6), none, none, some (.int l3), some (.int l4), some (.int l5), none], [.int v], σ) Q := by
  refine sy_bk [(.istore 6, 0, 0, 0, 0), (.iload 5, 0, 0, 0, 0)] (72, [some (.ref 6), none, none, some (.int l3), some (.int l4), some (.int l5), some (.int v)], [.int l5], σ) [] (by decide +kernel) rfl trivial ?_
  by_cases c1 : l5 < 0
  · refine sy_bk [(.ifCond .lt 13, 1, 85, 0, 0)] (85, [some (.ref 6), none, none, some (.int l3), some (.int l4), some (.int l5), some (.int v)], [], σ) [sy_cc .lt l5 0] (by decide +kernel) rfl ⟨c1, trivial⟩ ?_
    refine sy_bk [(.iinc 4 1, 0, 0, 1, 0), (.goto (-43), 0, 45, 0, 0)] (45, [some (.ref 6), none, none, some (.int l3), some (.int (l4 + 1)), some (.int l5), some (.int v)], [], σ) [] (by decide +kernel) rfl trivial ?_
    refine sy_drop [some (.ref 6), none, none, some (.int l3), some (.int (l4 + 1)), none, none] ⟨rfl, rfl, rfl, trivial⟩ ?_
    exact k1 c1
  · refine sy_bk [(.ifCond .lt 13, 0, 85, 0, 0)] (75, [some (.ref 6), none, none, some (.int l3), some (.int l4), some (.int l5), some (.int v)], [], σ) [¬ sy_cc .lt l5 0] (by decide +kernel) rfl ⟨c1, trivial⟩ ?_
    refine sy_bk [(.iload 5, 0, 0, 0, 0), (.iload 6, 0, 0, 0, 0)] (79, [some (.ref 6), none, none, some (.int l3), some (.int l4), some (.int l5), some (.int v)], [.int v, .int l5], σ) [] (by decide +kernel) rfl trivial ?_
    by_cases c2 : ¬ l5 = v
    · refine sy_bk [(.if_icmp .ne 6, 1, 85, 0, 0)] (85, [some (.ref 6), none, none, some (.int l3), some (.int l4), some (.int l5), some (.int v)], [], σ) [sy_cc .ne l5 v] (by decide +kernel) rfl ⟨c2, trivial⟩ ?_
      refine sy_bk [(.iinc 4 1, 0, 0, 1, 0), (.goto (-43), 0, 45, 0, 0)] (45, [some (.ref 6), none, none, some (.int l3), some (.int (l4 + 1)), some (.int l5), some (.int v)], [], σ) [] (by decide +kernel) rfl trivial ?_
      refine sy_drop [some (.ref 6), none, none, some (.int l3), some (.int (l4 + 1)), none, none] ⟨rfl, rfl, rfl, trivial⟩ ?_
      exact k2 c1 c2
    · refine sy_bk [(.if_icmp .ne 6, 0, 85, 0, 0)] (82, [some (.ref 6), none, none, some (.int l3), some (.int l4), some (.int l5), some (.int v)], [], σ) [¬ sy_cc .ne l5 v] (by decide +kernel) rfl ⟨c2, trivial⟩ ?_
      refine sy_bk [(.iinc 3 1, 0, 0, 1, 0), (.iinc 4 1, 0, 0, 1, 0), (.goto (-43), 0, 45, 0, 0)] (45, [some (.ref 6), none, none, some (.int (l3 + 1)), some (.int (l4 + 1)), some (.int l5), some (.int v)], [], σ) [] (by decide +kernel) rfl trivial ?_
      refine sy_drop [some (.ref 6), none, none, some (.int (l3 + 1)), some (.int (l4 + 1)), none, none] ⟨rfl, rfl, rfl, trivial⟩ ?_
      exact k3 c1 c2

set_option maxRecDepth 20000 in
theorem w_X_keep_0 {Q : Option Value → sy_S → Prop} {σ : sy_S} {p : Int32}   (k1 : ∀ (m_1 : Nat), px p6 p = some m_1 → sy_E shX mX1_begin (0, sy_ent [.ref 39, .ref 7] 2, [], σ) (fun r9 σ9 => sy_E shX mX11_keep (24, [some (.ref 6), some (.int p), none], r9.toList ++ [], σ9) Q)) (k2 : px p6 p = none → Q (some (.int (-1))) σ) : sy_E shX mX11_keep (0, sy_ent [.ref 6, .int p] 3, [], σ) Q := by
  show sy_E shX mX11_keep (0, [some (.ref 6), some (.int p), none], [], σ) _
  refine sy_bk [(.aload_n 0, 0, 0, 0, 0), (.getfield 41, 11, 4, 0, 0), (.iload_n 1, 0, 0, 0, 0)] (5, [some (.ref 6), some (.int p), none], [.int p, .ref 23], σ) [] (by decide +kernel) rfl trivial ?_
  refine sy_callV mX7_has 23 [.int p] [] kX7_has jX11_210 (by decide +kernel) rfl rfl (Nat.le_of_ble_eq_true rfl) (Nat.le_of_ble_eq_true rfl) (by decide) rfl ?_
  refine e_pl_has (σ := σ) (i := p) ?_ ?_
  · intro m_1 c2
    show sy_E shX mX11_keep (8, [some (.ref 6), some (.int p), none], [.int 1], σ) _
    refine sy_bk [(.ifCond .ne 5, 1, 13, 0, 0), (.aload_n 0, 0, 0, 0, 0), (.getfield 53, 11, 6, 0, 0), (.aload_n 0, 0, 0, 0, 0), (.getfield 20, 11, 1, 0, 0)] (21, [some (.ref 6), some (.int p), none], [.ref 7, .ref 39], σ) [sy_cc .ne 1 0] (by decide +kernel) rfl ⟨(by decide : (¬ (1 : Int32) = 0)), trivial⟩ ?_
    refine sy_callV mX1_begin 39 [.ref 7] [] kX1_begin jX11_146 (by decide +kernel) rfl rfl (Nat.le_of_ble_eq_true rfl) (Nat.le_of_ble_eq_true rfl) (by decide) rfl ?_
    exact k1 m_1 c2
  · intro c3
    show sy_E shX mX11_keep (8, [some (.ref 6), some (.int p), none], [.int 0], σ) _
    refine sy_bk [(.ifCond .ne 5, 0, 13, 0, 0), (.iconst (-1), 0, 0, (-1), 0)] (12, [some (.ref 6), some (.int p), none], [.int (-1)], σ) [¬ sy_cc .ne 0 0] (by decide +kernel) rfl ⟨(by decide : ¬ (¬ (0 : Int32) = 0)), trivial⟩ ?_
    exact sy_reti rfl (by decide +kernel) (k2 c3)

set_option maxRecDepth 20000 in
theorem w_X_keep_24 {Q : Option Value → sy_S → Prop} {σ : sy_S} {l1 : Int32}   (k1 : sy_E shX mX1_level (0, sy_ent [.ref 39] 9, [], σ) (fun r9 σ9 => sy_E shX mX11_keep (31, [some (.ref 6), some (.int l1), none], r9.toList ++ [], σ9) Q)) : sy_E shX mX11_keep (24, [some (.ref 6), some (.int l1), none], [], σ) Q := by
  refine sy_bk [(.aload_n 0, 0, 0, 0, 0), (.getfield 53, 11, 6, 0, 0)] (28, [some (.ref 6), some (.int l1), none], [.ref 39], σ) [] (by decide +kernel) rfl trivial ?_
  refine sy_callV mX1_level 39 [] [] kX1_level jX11_149 (by decide +kernel) rfl rfl (Nat.le_of_ble_eq_true rfl) (Nat.le_of_ble_eq_true rfl) (by decide) rfl ?_
  exact k1

set_option maxRecDepth 20000 in
theorem w_X_keep_31 {Q : Option Value → sy_S → Prop} {σ : sy_S} {l1 : Int32} {v : Int32}  (b1 : vp_in l1 6) (b2 : sy_okR shX 24 l1) (k1 : sy_E shX mX1_copyTo (0, sy_ent [.ref 39, .ref (sy_rf shX 24 l1.toNatClampNeg)] 2, [], (sy_up σ.1 31 l1.toNatClampNeg 16, σ.2)) (fun r9 σ9 => sy_E shX mX11_keep (49, [none, none, some (.int v)], r9.toList ++ [], σ9) Q)) : sy_E shX mX11_keep (31, [some (.ref 6), some (.int l1), none], [.int v], σ) Q := by
  refine sy_bk [(.istore_n 2, 0, 0, 0, 0), (.aload_n 0, 0, 0, 0, 0), (.getfield 53, 11, 6, 0, 0), (.aload_n 0, 0, 0, 0, 0), (.getfield 41, 11, 4, 0, 0), (.iload_n 1, 0, 0, 0, 0), (.bipush 16, 0, 0, 16, 0)] (43, [some (.ref 6), some (.int l1), some (.int v)], [.int 16, .int l1, .ref 23, .ref 39], σ) [] (by decide +kernel) rfl trivial ?_
  refine sy_callV mX7_hold 23 [.int l1, .int 16] [.ref 39] kX7_hold jX11_213 (by decide +kernel) rfl rfl (Nat.le_of_ble_eq_true rfl) (Nat.le_of_ble_eq_true rfl) (by decide) rfl ?_
  refine w_pl_hold (σ := σ) (i := l1) (len := 16) b1 b2 ?_
  show sy_E shX mX11_keep (46, [some (.ref 6), some (.int l1), some (.int v)], [.ref (sy_rf shX 24 l1.toNatClampNeg), .ref 39], (sy_up σ.1 31 l1.toNatClampNeg 16, σ.2)) _
  refine sy_drop [none, none, some (.int v)] ⟨rfl, trivial⟩ ?_
  refine sy_callV mX1_copyTo 39 [.ref (sy_rf shX 24 l1.toNatClampNeg)] [] kX1_copyTo jX11_152 (by decide +kernel) rfl rfl (Nat.le_of_ble_eq_true rfl) (Nat.le_of_ble_eq_true rfl) (by decide) rfl ?_
  exact k1

set_option maxRecDepth 20000 in
theorem w_X_keep_49 {Q : Option Value → sy_S → Prop} {σ : sy_S} {l2 : Int32}   (k1 : Q (some (.int l2)) σ) : sy_E shX mX11_keep (49, [none, none, some (.int l2)], [], σ) Q := by
  refine sy_bk [(.iload_n 2, 0, 0, 0, 0)] (50, [none, none, some (.int l2)], [.int l2], σ) [] (by decide +kernel) rfl trivial ?_
  exact sy_reti rfl (by decide +kernel) (k1)

set_option maxRecDepth 20000 in
theorem w_X_load_0 {Q : Option Value → sy_S → Prop} {σ : sy_S} {p : Int32}   (k1 : ∀ (m_1 : Nat), px p6 p = some m_1 → sy_E shX mX11_load (13, [some (.ref 6), some (.int p)], [], σ) Q) (k2 : px p6 p = none → Q (some (.int (-1))) σ) : sy_E shX mX11_load (0, sy_ent [.ref 6, .int p] 2, [], σ) Q := by
  show sy_E shX mX11_load (0, [some (.ref 6), some (.int p)], [], σ) _
  refine sy_bk [(.aload_n 0, 0, 0, 0, 0), (.getfield 41, 11, 4, 0, 0), (.iload_n 1, 0, 0, 0, 0)] (5, [some (.ref 6), some (.int p)], [.int p, .ref 23], σ) [] (by decide +kernel) rfl trivial ?_
  refine sy_callV mX7_has 23 [.int p] [] kX7_has jX11_210 (by decide +kernel) rfl rfl (Nat.le_of_ble_eq_true rfl) (Nat.le_of_ble_eq_true rfl) (by decide) rfl ?_
  refine e_pl_has (σ := σ) (i := p) ?_ ?_
  · intro m_1 c2
    show sy_E shX mX11_load (8, [some (.ref 6), some (.int p)], [.int 1], σ) _
    refine sy_bk [(.ifCond .ne 5, 1, 13, 0, 0)] (13, [some (.ref 6), some (.int p)], [], σ) [sy_cc .ne 1 0] (by decide +kernel) rfl ⟨(by decide : (¬ (1 : Int32) = 0)), trivial⟩ ?_
    exact k1 m_1 c2
  · intro c3
    show sy_E shX mX11_load (8, [some (.ref 6), some (.int p)], [.int 0], σ) _
    refine sy_bk [(.ifCond .ne 5, 0, 13, 0, 0), (.iconst (-1), 0, 0, (-1), 0)] (12, [some (.ref 6), some (.int p)], [.int (-1)], σ) [¬ sy_cc .ne 0 0] (by decide +kernel) rfl ⟨(by decide : ¬ (¬ (0 : Int32) = 0)), trivial⟩ ?_
    exact sy_reti rfl (by decide +kernel) (k2 c3)

set_option maxRecDepth 20000 in
theorem w_X_load_13 {Q : Option Value → sy_S → Prop} {σ : sy_S} {l1 : Int32} (hk0 : shX[sy_rf shX 24 l1.toNatClampNeg]? = some (0, 16, [])) (b1 : vp_in l1 6) (b2 : ¬ ((σ.1 31 l1.toNatClampNeg) < 0) → sy_okR shX 24 l1) (k1 : (σ.1 31 l1.toNatClampNeg) < 0 → Q (some (.int (-6))) σ) (k2 : ¬ ((σ.1 31 l1.toNatClampNeg) < 0) → sy_E shX mX0_note (0, sy_ent [.ref 8, .ref 7] 3, [], (sy_cp σ.1 (sy_rf shX 24 l1.toNatClampNeg) 7 16, σ.2)) (fun r9 σ9 => sy_E shX mX11_load (57, [some (.ref 6), none], r9.toList ++ [], σ9) Q)) : sy_E shX mX11_load (13, [some (.ref 6), some (.int l1)], [], σ) Q := by
  refine sy_bk [(.aload_n 0, 0, 0, 0, 0), (.getfield 41, 11, 4, 0, 0), (.iload_n 1, 0, 0, 0, 0)] (18, [some (.ref 6), some (.int l1)], [.int l1, .ref 23], σ) [] (by decide +kernel) rfl trivial ?_
  refine sy_callV mX7_holds 23 [.int l1] [] kX7_holds jX11_217 (by decide +kernel) rfl rfl (Nat.le_of_ble_eq_true rfl) (Nat.le_of_ble_eq_true rfl) (by decide) rfl ?_
  refine w_pl_holds (σ := σ) (i := l1) b1 ?_ ?_
  · intro c1
    show sy_E shX mX11_load (21, [some (.ref 6), some (.int l1)], [.int 0], σ) _
    refine sy_bk [(.ifCond .ne 6, 0, 27, 0, 0), (.bipush (-6), 0, 0, (-6), 0)] (26, [some (.ref 6), some (.int l1)], [.int (-6)], σ) [¬ sy_cc .ne 0 0] (by decide +kernel) rfl ⟨(by decide : ¬ (¬ (0 : Int32) = 0)), trivial⟩ ?_
    exact sy_reti rfl (by decide +kernel) (k1 c1)
  · intro c2
    show sy_E shX mX11_load (21, [some (.ref 6), some (.int l1)], [.int 1], σ) _
    refine sy_bk [(.ifCond .ne 6, 1, 27, 0, 0), (.aload_n 0, 0, 0, 0, 0), (.getfield 41, 11, 4, 0, 0), (.iload_n 1, 0, 0, 0, 0)] (32, [some (.ref 6), some (.int l1)], [.int l1, .ref 23], σ) [sy_cc .ne 1 0] (by decide +kernel) rfl ⟨(by decide : (¬ (1 : Int32) = 0)), trivial⟩ ?_
    refine sy_callV mX7_rowAt 23 [.int l1] [] kX7_rowAt jX11_220 (by decide +kernel) rfl rfl (Nat.le_of_ble_eq_true rfl) (Nat.le_of_ble_eq_true rfl) (by decide) rfl ?_
    refine w_pl_rowAt (σ := σ) (i := l1) (b2 c2) ?_
    show sy_E shX mX11_load (35, [some (.ref 6), some (.int l1)], [.ref (sy_rf shX 24 l1.toNatClampNeg)], σ) _
    refine sy_bk [(.iconst 0, 0, 0, 0, 0), (.aload_n 0, 0, 0, 0, 0), (.getfield 20, 11, 1, 0, 0), (.iconst 0, 0, 0, 0, 0), (.bipush 16, 0, 0, 16, 0)] (43, [some (.ref 6), some (.int l1)], [.int 16, .int 0, .ref 7, .int 0, .ref (sy_rf shX 24 l1.toNatClampNeg)], σ) [] (by decide +kernel) rfl trivial ?_
    refine sy_copy [] jX11_224 (by decide +kernel) rfl hk0 rfl (by decide) (by decide) (Nat.le_of_ble_eq_true rfl) (by decide) (by decide) ?_
    show sy_E shX mX11_load (46, [some (.ref 6), some (.int l1)], [], (sy_cp σ.1 (sy_rf shX 24 l1.toNatClampNeg) 7 16, σ.2)) _
    refine sy_bk [(.aload_n 0, 0, 0, 0, 0), (.getfield 27, 11, 2, 0, 0), (.aload_n 0, 0, 0, 0, 0), (.getfield 20, 11, 1, 0, 0)] (54, [some (.ref 6), some (.int l1)], [.ref 7, .ref 8], (sy_cp σ.1 (sy_rf shX 24 l1.toNatClampNeg) 7 16, σ.2)) [] (by decide +kernel) rfl trivial ?_
    refine sy_drop [some (.ref 6), none] ⟨rfl, trivial⟩ ?_
    refine sy_callV mX0_note 8 [.ref 7] [] kX0_note jX11_134 (by decide +kernel) rfl rfl (Nat.le_of_ble_eq_true rfl) (Nat.le_of_ble_eq_true rfl) (by decide) rfl ?_
    exact k2 c2

set_option maxRecDepth 20000 in
theorem w_X_load_57 {Q : Option Value → sy_S → Prop} {σ : sy_S}    (k1 : sy_E shX mX3_grainsOf (0, sy_ent [.ref 0, .ref 7] 4, [], σ) (fun r9 σ9 => sy_E shX mX11_load (68, [none, none], r9.toList ++ [], σ9) Q)) : sy_E shX mX11_load (57, [some (.ref 6), none], [], σ) Q := by
  refine sy_bk [(.aload_n 0, 0, 0, 0, 0), (.getfield 16, 11, 0, 0, 0), (.aload_n 0, 0, 0, 0, 0), (.getfield 20, 11, 1, 0, 0)] (65, [some (.ref 6), none], [.ref 7, .ref 0], σ) [] (by decide +kernel) rfl trivial ?_
  refine sy_drop [none, none] trivial ?_
  refine sy_callV mX3_grainsOf 0 [.ref 7] [] kX3_grainsOf jX11_230 (by decide +kernel) rfl rfl (Nat.le_of_ble_eq_true rfl) (Nat.le_of_ble_eq_true rfl) (by decide) rfl ?_
  exact k1

set_option maxRecDepth 20000 in
theorem w_X_load_68 {Q : Option Value → sy_S → Prop} {σ : sy_S} {v : Int32}   (k1 : Q (some (.int v)) σ) : sy_E shX mX11_load (68, [none, none], [.int v], σ) Q := by
  exact sy_reti rfl (by decide +kernel) (k1)
