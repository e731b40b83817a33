/-! walks of Matrix (by program: wip/whole/gen/p49.py) -/
set_option maxRecDepth 20000 in
theorem w_x_fillL_0 {Q : Option Value → sy_S → Prop} {σ : sy_S} {v : Int64}   (k1 : sy_E shX mJ7_fill_d0a16 (6, [some (.ref 56), some (.long v), none, some (.int 0), some (.int 256)], [], σ) Q) : sy_E shX mJ7_fill_d0a16 (0, sy_ent [.ref 56, .long v] 5, [], σ) Q := by
  show sy_E shX mJ7_fill_d0a16 (0, [some (.ref 56), some (.long v), none, none, none], [], σ) _
  refine sy_bk [(.iconst 0, 0, 0, 0, 0), (.istore_n 3, 0, 0, 0, 0), (.aload_n 0, 0, 0, 0, 0), (.arraylength, 0, 0, 0, 0), (.istore 4, 0, 0, 0, 0)] (6, [some (.ref 56), some (.long v), none, some (.int 0), some (.int 256)], [], σ) [sy_okL shX 56] (by decide +kernel) rfl ⟨⟨2, _, _, rfl, by decide⟩, trivial⟩ ?_
  exact k1

set_option maxRecDepth 20000 in
theorem w_x_fillL_6 {Q : Option Value → sy_S → Prop} {σ : sy_S} {l1 : Int64} {l3 : Int32} {l4 : Int32}  (b1 : ¬ (l4 ≤ l3) → vp_in l3 256) (k1 : l4 ≤ l3 → Q none σ) (k2 : ¬ (l4 ≤ l3) → sy_E shX mJ7_fill_d0a16 (6, [some (.ref 56), some (.long l1), none, some (.int (l3 + 1)), some (.int l4)], [], (σ.1, sy_upL σ.2 56 l3.toNatClampNeg l1)) Q) : sy_E shX mJ7_fill_d0a16 (6, [some (.ref 56), some (.long l1), none, some (.int l3), some (.int l4)], [], σ) Q := by
  refine sy_bk [(.iload_n 3, 0, 0, 0, 0), (.iload 4, 0, 0, 0, 0)] (9, [some (.ref 56), some (.long l1), none, some (.int l3), some (.int l4)], [.int l4, .int l3], σ) [] (by decide +kernel) rfl trivial ?_
  by_cases c1 : l4 ≤ l3
  · refine sy_bk [(.if_icmp .ge 13, 1, 22, 0, 0)] (22, [some (.ref 56), some (.long l1), none, some (.int l3), some (.int l4)], [], σ) [sy_cc .ge l3 l4] (by decide +kernel) rfl ⟨c1, trivial⟩ ?_
    exact sy_retv rfl (by decide +kernel) (k1 c1)
  · refine sy_bk [(.if_icmp .ge 13, 0, 22, 0, 0)] (12, [some (.ref 56), some (.long l1), none, some (.int l3), some (.int l4)], [], σ) [¬ sy_cc .ge l3 l4] (by decide +kernel) rfl ⟨c1, trivial⟩ ?_
    refine sy_bk [(.aload_n 0, 0, 0, 0, 0), (.iload_n 3, 0, 0, 0, 0), (.lload_n 1, 0, 0, 0, 0), (.lastore, 0, 0, 0, 0), (.iinc 3 1, 0, 0, 1, 0), (.goto (-13), 0, 6, 0, 0)] (6, [some (.ref 56), some (.long l1), none, some (.int (l3 + 1)), some (.int l4)], [], (σ.1, sy_upL σ.2 56 l3.toNatClampNeg l1)) [sy_okA shX 2 56 l3] (by decide +kernel) rfl ⟨⟨256, _, rfl, (b1 c1)⟩, trivial⟩ ?_
    exact k2 c1

set_option maxRecDepth 20000 in
theorem w_x_det_0 {Q : Option Value → sy_S → Prop} {σ : sy_S}    (k1 : ¬ (σ.1 0 7) = 0 → sy_E shX mX5_fillFrom (0, sy_ent [.ref 55, .ref 0, .int (σ.1 0 7)] 6, [], σ) (fun r9 σ9 => sy_E shX mX5_determinant (17, [some (.ref 55), none, some (.int (σ.1 0 7)), none, none, none], r9.toList ++ [], σ9) Q)) (k2 : ¬ (¬ (σ.1 0 7) = 0) → Q (some (.long 1)) σ) : sy_E shX mX5_determinant (0, sy_ent [.ref 55, .ref 0] 6, [], σ) Q := by
  show sy_E shX mX5_determinant (0, [some (.ref 55), some (.ref 0), none, none, none, none], [], σ) _
  refine sy_bk [(.aload_n 1, 0, 0, 0, 0)] (1, [some (.ref 55), some (.ref 0), none, none, none, none], [.ref 0], σ) [] (by decide +kernel) rfl trivial ?_
  refine sy_callV mX3_placeCount 0 [] [] kX3_placeCount jX5_15 (by decide +kernel) rfl rfl (Nat.le_of_ble_eq_true rfl) (Nat.le_of_ble_eq_true rfl) (by decide) rfl ?_
  refine w_x_placeCount (σ := σ) ?_
  show sy_E shX mX5_determinant (4, [some (.ref 55), some (.ref 0), none, none, none, none], [.int (σ.1 0 7)], σ) _
  refine sy_bk [(.istore_n 2, 0, 0, 0, 0), (.iload_n 2, 0, 0, 0, 0)] (6, [some (.ref 55), some (.ref 0), some (.int (σ.1 0 7)), none, none, none], [.int (σ.1 0 7)], σ) [] (by decide +kernel) rfl trivial ?_
  by_cases c1 : ¬ (σ.1 0 7) = 0
  · refine sy_bk [(.ifCond .ne 5, 1, 11, 0, 0)] (11, [some (.ref 55), some (.ref 0), some (.int (σ.1 0 7)), none, none, none], [], σ) [sy_cc .ne (σ.1 0 7) 0] (by decide +kernel) rfl ⟨c1, trivial⟩ ?_
    refine sy_bk [(.aload_n 0, 0, 0, 0, 0), (.aload_n 1, 0, 0, 0, 0), (.iload_n 2, 0, 0, 0, 0)] (14, [some (.ref 55), some (.ref 0), some (.int (σ.1 0 7)), none, none, none], [.int (σ.1 0 7), .ref 0, .ref 55], σ) [] (by decide +kernel) rfl trivial ?_
    refine sy_drop [some (.ref 55), none, some (.int (σ.1 0 7)), none, none, none] ⟨rfl, rfl, trivial⟩ ?_
    refine sy_callV mX5_fillFrom 55 [.ref 0, .int (σ.1 0 7)] [] kX5_fillFrom jX5_21 (by decide +kernel) rfl rfl (Nat.le_of_ble_eq_true rfl) (Nat.le_of_ble_eq_true rfl) (by decide) rfl ?_
    exact k1 c1
  · refine sy_bk [(.ifCond .ne 5, 0, 11, 0, 0)] (9, [some (.ref 55), some (.ref 0), some (.int (σ.1 0 7)), none, none, none], [], σ) [¬ sy_cc .ne (σ.1 0 7) 0] (by decide +kernel) rfl ⟨c1, trivial⟩ ?_
    refine sy_bk [(.lconst 1, 0, 0, 0, 1)] (10, [some (.ref 55), some (.ref 0), some (.int (σ.1 0 7)), none, none, none], [.long 1], σ) [] (by decide +kernel) rfl trivial ?_
    exact sy_retl rfl (by decide +kernel) (k2 c1)

set_option maxRecDepth 20000 in
theorem w_x_det_17 {Q : Option Value → sy_S → Prop} {σ : sy_S} {l2 : Int32}   (k1 : sy_E shX mX5_determinant (22, [some (.ref 55), none, some (.int l2), some (.long 1), none, some (.int 0)], [], σ) Q) : sy_E shX mX5_determinant (17, [some (.ref 55), none, some (.int l2), none, none, none], [], σ) Q := by
  refine sy_bk [(.lconst 1, 0, 0, 0, 1), (.lstore_n 3, 0, 0, 0, 0), (.iconst 0, 0, 0, 0, 0), (.istore 5, 0, 0, 0, 0)] (22, [some (.ref 55), none, some (.int l2), some (.long 1), none, some (.int 0)], [], σ) [] (by decide +kernel) rfl trivial ?_
  exact k1

set_option maxRecDepth 20000 in
theorem w_x_det_22 {Q : Option Value → sy_S → Prop} {σ : sy_S} {l2 : Int32} {l3 : Int64} {l5 : Int32}  (b1 : l2 ≤ (l5 + 1) → vp_in ((l2 * l2) - 1) 256) (k1 : l2 ≤ (l5 + 1) → Q (some (.long (σ.2 56 (((l2 * l2) - 1).toNatClampNeg)))) σ) (k2 : ¬ (l2 ≤ (l5 + 1)) → sy_E shX mX5_eliminate (0, sy_ent [.ref 55, .int l2, .int l5, .long l3] 13, [], σ) (fun r9 σ9 => sy_E shX mX5_determinant (38, [some (.ref 55), none, some (.int l2), none, none, some (.int l5)], r9.toList ++ [], σ9) Q)) : sy_E shX mX5_determinant (22, [some (.ref 55), none, some (.int l2), some (.long l3), none, some (.int l5)], [], σ) Q := by
  refine sy_bk [(.iload 5, 0, 0, 0, 0), (.iconst 1, 0, 0, 1, 0), (.iadd, 0, 0, 0, 0), (.iload_n 2, 0, 0, 0, 0)] (27, [some (.ref 55), none, some (.int l2), some (.long l3), none, some (.int l5)], [.int l2, .int (l5 + 1)], σ) [] (by decide +kernel) rfl trivial ?_
  by_cases c1 : l2 ≤ (l5 + 1)
  · refine sy_bk [(.if_icmp .ge 30, 1, 57, 0, 0)] (57, [some (.ref 55), none, some (.int l2), some (.long l3), none, some (.int l5)], [], σ) [sy_cc .ge (l5 + 1) l2] (by decide +kernel) rfl ⟨c1, trivial⟩ ?_
    refine sy_bk [(.aload_n 0, 0, 0, 0, 0), (.getfield 9, 5, 0, 0, 0), (.iload_n 2, 0, 0, 0, 0), (.iload_n 2, 0, 0, 0, 0), (.imul, 0, 0, 0, 0), (.iconst 1, 0, 0, 1, 0), (.isub, 0, 0, 0, 0), (.laload, 0, 0, 0, 0)] (67, [some (.ref 55), none, some (.int l2), some (.long l3), none, some (.int l5)], [.long (σ.2 56 (((l2 * l2) - 1).toNatClampNeg))], σ) [sy_okA shX 2 56 ((l2 * l2) - 1)] (by decide +kernel) rfl ⟨⟨256, _, rfl, (b1 c1)⟩, trivial⟩ ?_
    exact sy_retl rfl (by decide +kernel) (k1 c1)
  · refine sy_bk [(.if_icmp .ge 30, 0, 57, 0, 0)] (30, [some (.ref 55), none, some (.int l2), some (.long l3), none, some (.int l5)], [], σ) [¬ sy_cc .ge (l5 + 1) l2] (by decide +kernel) rfl ⟨c1, trivial⟩ ?_
    refine sy_bk [(.aload_n 0, 0, 0, 0, 0), (.iload_n 2, 0, 0, 0, 0), (.iload 5, 0, 0, 0, 0), (.lload_n 3, 0, 0, 0, 0)] (35, [some (.ref 55), none, some (.int l2), some (.long l3), none, some (.int l5)], [.long l3, .int l5, .int l2, .ref 55], σ) [] (by decide +kernel) rfl trivial ?_
    refine sy_drop [some (.ref 55), none, some (.int l2), none, none, some (.int l5)] ⟨rfl, rfl, rfl, trivial⟩ ?_
    refine sy_callV mX5_eliminate 55 [.int l2, .int l5, .long l3] [] kX5_eliminate jX5_25 (by decide +kernel) rfl rfl (Nat.le_of_ble_eq_true rfl) (Nat.le_of_ble_eq_true rfl) (by decide) rfl ?_
    exact k2 c1

set_option maxRecDepth 20000 in
theorem w_x_det_38 {Q : Option Value → sy_S → Prop} {σ : sy_S} {l2 : Int32} {l5 : Int32}  (b1 : vp_in ((l5 * l2) + l5) 256) (k1 : sy_E shX mX5_determinant (22, [some (.ref 55), none, some (.int l2), some (.long (σ.2 56 (((l5 * l2) + l5).toNatClampNeg))), none, some (.int (l5 + 1))], [], σ) Q) : sy_E shX mX5_determinant (38, [some (.ref 55), none, some (.int l2), none, none, some (.int l5)], [], σ) Q := by
  refine sy_bk [(.aload_n 0, 0, 0, 0, 0), (.getfield 9, 5, 0, 0, 0), (.iload 5, 0, 0, 0, 0), (.iload_n 2, 0, 0, 0, 0), (.imul, 0, 0, 0, 0), (.iload 5, 0, 0, 0, 0), (.iadd, 0, 0, 0, 0), (.laload, 0, 0, 0, 0), (.lstore_n 3, 0, 0, 0, 0), (.iinc 5 1, 0, 0, 1, 0), (.goto (-32), 0, 22, 0, 0)] (22, [some (.ref 55), none, some (.int l2), some (.long (σ.2 56 (((l5 * l2) + l5).toNatClampNeg))), none, some (.int (l5 + 1))], [], σ) [sy_okA shX 2 56 ((l5 * l2) + l5)] (by decide +kernel) rfl ⟨⟨256, _, rfl, b1⟩, trivial⟩ ?_
  exact k1

set_option maxRecDepth 20000 in
theorem w_x_fillF_0 {Q : Option Value → sy_S → Prop} {σ : sy_S} {n : Int32}   (k1 : sy_E shX mJ7_fill_d0a16 (0, sy_ent [.ref 56, .long 0] 5, [], σ) (fun r9 σ9 => sy_E shX mX5_fillFrom (8, [some (.ref 55), some (.ref 0), some (.int n), none, none, none], r9.toList ++ [], σ9) Q)) : sy_E shX mX5_fillFrom (0, sy_ent [.ref 55, .ref 0, .int n] 6, [], σ) Q := by
  show sy_E shX mX5_fillFrom (0, [some (.ref 55), some (.ref 0), some (.int n), none, none, none], [], σ) _
  refine sy_bk [(.aload_n 0, 0, 0, 0, 0), (.getfield 9, 5, 0, 0, 0), (.lconst 0, 0, 0, 0, 0)] (5, [some (.ref 55), some (.ref 0), some (.int n), none, none, none], [.long 0, .ref 56], σ) [] (by decide +kernel) rfl trivial ?_
  refine sy_callS mJ7_fill_d0a16 [.ref 56, .long 0] [] kJ7_fill_d0a16 jX5_29 (by decide +kernel) rfl rfl (Nat.le_of_ble_eq_true rfl) (Nat.le_of_ble_eq_true rfl) (by decide) ?_
  exact k1

set_option maxRecDepth 20000 in
theorem w_x_fillF_8 {Q : Option Value → sy_S → Prop} {σ : sy_S} {l2 : Int32}   (k1 : sy_E shX mX5_fillFrom (10, [some (.ref 55), some (.ref 0), some (.int l2), some (.int 0), none, none], [], σ) Q) : sy_E shX mX5_fillFrom (8, [some (.ref 55), some (.ref 0), some (.int l2), none, none, none], [], σ) Q := by
  refine sy_bk [(.iconst 0, 0, 0, 0, 0), (.istore_n 3, 0, 0, 0, 0)] (10, [some (.ref 55), some (.ref 0), some (.int l2), some (.int 0), none, none], [], σ) [] (by decide +kernel) rfl trivial ?_
  exact k1

set_option maxRecDepth 20000 in
theorem w_x_fillF_10 {Q : Option Value → sy_S → Prop} {σ : sy_S} {l2 : Int32} {l3 : Int32}  (b1 : ¬ (l2 ≤ l3) → vp_in l3 16) (b2 : ¬ (l2 ≤ l3) → vp_in ((l3 * l2) + l3) 256) (k1 : l2 ≤ l3 → Q none σ) (k2 : ¬ (l2 ≤ l3) → sy_E shX mX5_fillFrom (38, [some (.ref 55), some (.ref 0), some (.int l2), some (.int l3), some (.int (σ.1 2 l3.toNatClampNeg)), some (.int 0)], [], (σ.1, sy_upL σ.2 56 (((l3 * l2) + l3).toNatClampNeg) 4)) Q) : sy_E shX mX5_fillFrom (10, [some (.ref 55), some (.ref 0), some (.int l2), some (.int l3), none, none], [], σ) Q := by
  refine sy_bk [(.iload_n 3, 0, 0, 0, 0), (.iload_n 2, 0, 0, 0, 0)] (12, [some (.ref 55), some (.ref 0), some (.int l2), some (.int l3), none, none], [.int l2, .int l3], σ) [] (by decide +kernel) rfl trivial ?_
  by_cases c1 : l2 ≤ l3
  · refine sy_bk [(.if_icmp .ge 73, 1, 85, 0, 0)] (85, [some (.ref 55), some (.ref 0), some (.int l2), some (.int l3), none, none], [], σ) [sy_cc .ge l3 l2] (by decide +kernel) rfl ⟨c1, trivial⟩ ?_
    exact sy_retv rfl (by decide +kernel) (k1 c1)
  · refine sy_bk [(.if_icmp .ge 73, 0, 85, 0, 0)] (15, [some (.ref 55), some (.ref 0), some (.int l2), some (.int l3), none, none], [], σ) [¬ sy_cc .ge l3 l2] (by decide +kernel) rfl ⟨c1, trivial⟩ ?_
    refine sy_bk [(.aload_n 1, 0, 0, 0, 0), (.iload_n 3, 0, 0, 0, 0)] (17, [some (.ref 55), some (.ref 0), some (.int l2), some (.int l3), none, none], [.int l3, .ref 0], σ) [] (by decide +kernel) rfl trivial ?_
    refine sy_callV mX3_placeAt 0 [.int l3] [] kX3_placeAt jX5_35 (by decide +kernel) rfl rfl (Nat.le_of_ble_eq_true rfl) (Nat.le_of_ble_eq_true rfl) (by decide) rfl ?_
    refine w_x_placeAt (σ := σ) (cell := l3) (b1 c1) ?_
    show sy_E shX mX5_fillFrom (20, [some (.ref 55), some (.ref 0), some (.int l2), some (.int l3), none, none], [.int (σ.1 2 l3.toNatClampNeg)], σ) _
    refine sy_bk [(.istore 4, 0, 0, 0, 0), (.aload_n 0, 0, 0, 0, 0), (.getfield 9, 5, 0, 0, 0), (.iload_n 3, 0, 0, 0, 0), (.iload_n 2, 0, 0, 0, 0), (.imul, 0, 0, 0, 0), (.iload_n 3, 0, 0, 0, 0), (.iadd, 0, 0, 0, 0), (.ldc2_w 39, 0, 0, 0, 4), (.lastore, 0, 0, 0, 0), (.iconst 0, 0, 0, 0, 0), (.istore 5, 0, 0, 0, 0)] (38, [some (.ref 55), some (.ref 0), some (.int l2), some (.int l3), some (.int (σ.1 2 l3.toNatClampNeg)), some (.int 0)], [], (σ.1, sy_upL σ.2 56 (((l3 * l2) + l3).toNatClampNeg) 4)) [sy_okA shX 2 56 ((l3 * l2) + l3)] (by decide +kernel) rfl ⟨⟨256, _, rfl, (b2 c1)⟩, trivial⟩ ?_
    exact k2 c1

set_option maxRecDepth 20000 in
theorem w_x_fillF_38 {Q : Option Value → sy_S → Prop} {σ : sy_S} {l2 : Int32} {l3 : Int32} {l4 : Int32} {l5 : Int32}  (b1 : vp_in l4 16) (b2 : ¬ ((σ.1 5 l4.toNatClampNeg) ≤ l5) → vp_in ((l4 * 4) + l5) 64) (b3 : ¬ ((σ.1 5 l4.toNatClampNeg) ≤ l5) → vp_in (σ.1 4 (((l4 * 4) + l5).toNatClampNeg)) 16) (b4 : ¬ ((σ.1 5 l4.toNatClampNeg) ≤ l5) → vp_in ((l3 * l2) + (σ.1 3 (σ.1 4 (((l4 * 4) + l5).toNatClampNeg)).toNatClampNeg)) 256) (k1 : (σ.1 5 l4.toNatClampNeg) ≤ l5 → sy_E shX mX5_fillFrom (10, [some (.ref 55), some (.ref 0), some (.int l2), some (.int (l3 + 1)), none, none], [], σ) Q) (k2 : ¬ ((σ.1 5 l4.toNatClampNeg) ≤ l5) → sy_E shX mX5_fillFrom (38, [some (.ref 55), some (.ref 0), some (.int l2), some (.int l3), some (.int l4), some (.int (l5 + 1))], [], (σ.1, sy_upL σ.2 56 (((l3 * l2) + (σ.1 3 (σ.1 4 (((l4 * 4) + l5).toNatClampNeg)).toNatClampNeg)).toNatClampNeg) (-1))) Q) : sy_E shX mX5_fillFrom (38, [some (.ref 55), some (.ref 0), some (.int l2), some (.int l3), some (.int l4), some (.int l5)], [], σ) Q := by
  refine sy_bk [(.iload 5, 0, 0, 0, 0), (.aload_n 1, 0, 0, 0, 0), (.iload 4, 0, 0, 0, 0)] (43, [some (.ref 55), some (.ref 0), some (.int l2), some (.int l3), some (.int l4), some (.int l5)], [.int l4, .ref 0, .int l5], σ) [] (by decide +kernel) rfl trivial ?_
  refine sy_callV mX3_nextCount 0 [.int l4] [.int l5] kX3_nextCount jX5_41 (by decide +kernel) rfl rfl (Nat.le_of_ble_eq_true rfl) (Nat.le_of_ble_eq_true rfl) (by decide) rfl ?_
  refine w_x_nextCount (σ := σ) (cell := l4) b1 ?_
  show sy_E shX mX5_fillFrom (46, [some (.ref 55), some (.ref 0), some (.int l2), some (.int l3), some (.int l4), some (.int l5)], [.int (σ.1 5 l4.toNatClampNeg), .int l5], σ) _
  by_cases c1 : (σ.1 5 l4.toNatClampNeg) ≤ l5
  · refine sy_bk [(.if_icmp .ge 33, 1, 79, 0, 0)] (79, [some (.ref 55), some (.ref 0), some (.int l2), some (.int l3), some (.int l4), some (.int l5)], [], σ) [sy_cc .ge l5 (σ.1 5 l4.toNatClampNeg)] (by decide +kernel) rfl ⟨c1, trivial⟩ ?_
    refine sy_bk [(.iinc 3 1, 0, 0, 1, 0), (.goto (-72), 0, 10, 0, 0)] (10, [some (.ref 55), some (.ref 0), some (.int l2), some (.int (l3 + 1)), some (.int l4), some (.int l5)], [], σ) [] (by decide +kernel) rfl trivial ?_
    refine sy_drop [some (.ref 55), some (.ref 0), some (.int l2), some (.int (l3 + 1)), none, none] ⟨rfl, rfl, rfl, rfl, trivial⟩ ?_
    exact k1 c1
  · refine sy_bk [(.if_icmp .ge 33, 0, 79, 0, 0)] (49, [some (.ref 55), some (.ref 0), some (.int l2), some (.int l3), some (.int l4), some (.int l5)], [], σ) [¬ sy_cc .ge l5 (σ.1 5 l4.toNatClampNeg)] (by decide +kernel) rfl ⟨c1, trivial⟩ ?_
    refine sy_bk [(.aload_n 0, 0, 0, 0, 0), (.getfield 9, 5, 0, 0, 0), (.iload_n 3, 0, 0, 0, 0), (.iload_n 2, 0, 0, 0, 0), (.imul, 0, 0, 0, 0), (.aload_n 1, 0, 0, 0, 0), (.aload_n 1, 0, 0, 0, 0), (.iload 4, 0, 0, 0, 0), (.iload 5, 0, 0, 0, 0)] (62, [some (.ref 55), some (.ref 0), some (.int l2), some (.int l3), some (.int l4), some (.int l5)], [.int l5, .int l4, .ref 0, .ref 0, .int (l3 * l2), .ref 56], σ) [] (by decide +kernel) rfl trivial ?_
    refine sy_callV mX3_nextAt 0 [.int l4, .int l5] [.ref 0, .int (l3 * l2), .ref 56] kX3_nextAt jX5_44 (by decide +kernel) rfl rfl (Nat.le_of_ble_eq_true rfl) (Nat.le_of_ble_eq_true rfl) (by decide) rfl ?_
    refine w_x_nextAt (σ := σ) (cell := l4) (side := l5) (b2 c1) ?_
    show sy_E shX mX5_fillFrom (65, [some (.ref 55), some (.ref 0), some (.int l2), some (.int l3), some (.int l4), some (.int l5)], [.int (σ.1 4 (((l4 * 4) + l5).toNatClampNeg)), .ref 0, .int (l3 * l2), .ref 56], σ) _
    refine sy_callV mX3_numberOf 0 [.int (σ.1 4 (((l4 * 4) + l5).toNatClampNeg))] [.int (l3 * l2), .ref 56] kX3_numberOf jX5_48 (by decide +kernel) rfl rfl (Nat.le_of_ble_eq_true rfl) (Nat.le_of_ble_eq_true rfl) (by decide) rfl ?_
    refine w_x_numberOf (σ := σ) (cell := (σ.1 4 (((l4 * 4) + l5).toNatClampNeg))) (b3 c1) ?_
    show sy_E shX mX5_fillFrom (68, [some (.ref 55), some (.ref 0), some (.int l2), some (.int l3), some (.int l4), some (.int l5)], [.int (σ.1 3 (σ.1 4 (((l4 * 4) + l5).toNatClampNeg)).toNatClampNeg), .int (l3 * l2), .ref 56], σ) _
    refine sy_bk [(.iadd, 0, 0, 0, 0), (.ldc2_w 51, 0, 0, 0, (-1)), (.lastore, 0, 0, 0, 0), (.iinc 5 1, 0, 0, 1, 0), (.goto (-38), 0, 38, 0, 0)] (38, [some (.ref 55), some (.ref 0), some (.int l2), some (.int l3), some (.int l4), some (.int (l5 + 1))], [], (σ.1, sy_upL σ.2 56 (((l3 * l2) + (σ.1 3 (σ.1 4 (((l4 * 4) + l5).toNatClampNeg)).toNatClampNeg)).toNatClampNeg) (-1))) [sy_okA shX 2 56 ((l3 * l2) + (σ.1 3 (σ.1 4 (((l4 * 4) + l5).toNatClampNeg)).toNatClampNeg))] (by decide +kernel) rfl ⟨⟨256, _, rfl, (b4 c1)⟩, trivial⟩ ?_
    exact k2 c1

set_option maxRecDepth 20000 in
theorem w_x_elim_0 {Q : Option Value → sy_S → Prop} {σ : sy_S} {n : Int32} {k : Int32} {bef : Int64}  (b1 : ¬ bef = 0 → vp_in ((k * n) + k) 256) (k1 : ¬ bef = 0 → sy_E shX mX5_eliminate (24, [some (.ref 55), some (.int n), some (.int k), some (.long bef), none, some (.long (σ.2 56 (((k * n) + k).toNatClampNeg))), none, some (.int (k + 1)), none, none, none, none, none], [], σ) Q) (k2 : ¬ (¬ bef = 0) → Q none σ) : sy_E shX mX5_eliminate (0, sy_ent [.ref 55, .int n, .int k, .long bef] 13, [], σ) Q := by
  show sy_E shX mX5_eliminate (0, [some (.ref 55), some (.int n), some (.int k), some (.long bef), none, none, none, none, none, none, none, none, none], [], σ) _
  refine sy_bk [(.lload_n 3, 0, 0, 0, 0), (.lconst 0, 0, 0, 0, 0), (.lcmp, 0, 0, 0, 0)] (3, [some (.ref 55), some (.int n), some (.int k), some (.long bef), none, none, none, none, none, none, none, none, none], [.int (lg_cmp bef 0)], σ) [] (by decide +kernel) rfl trivial ?_
  by_cases c1 : ¬ bef = 0
  · refine sy_bk [(.ifCond .ne 4, 1, 7, 0, 0)] (7, [some (.ref 55), some (.int n), some (.int k), some (.long bef), none, none, none, none, none, none, none, none, none], [], σ) [sy_cc .ne (lg_cmp bef 0) 0] (by decide +kernel) rfl ⟨(sy_lc_ne.mpr c1), trivial⟩ ?_
    refine sy_bk [(.aload_n 0, 0, 0, 0, 0), (.getfield 9, 5, 0, 0, 0), (.iload_n 2, 0, 0, 0, 0), (.iload_n 1, 0, 0, 0, 0), (.imul, 0, 0, 0, 0), (.iload_n 2, 0, 0, 0, 0), (.iadd, 0, 0, 0, 0), (.laload, 0, 0, 0, 0), (.lstore 5, 0, 0, 0, 0), (.iload_n 2, 0, 0, 0, 0), (.iconst 1, 0, 0, 1, 0), (.iadd, 0, 0, 0, 0), (.istore 7, 0, 0, 0, 0)] (24, [some (.ref 55), some (.int n), some (.int k), some (.long bef), none, some (.long (σ.2 56 (((k * n) + k).toNatClampNeg))), none, some (.int (k + 1)), none, none, none, none, none], [], σ) [sy_okA shX 2 56 ((k * n) + k)] (by decide +kernel) rfl ⟨⟨256, _, rfl, (b1 c1)⟩, trivial⟩ ?_
    exact k1 c1
  · refine sy_bk [(.ifCond .ne 4, 0, 7, 0, 0)] (6, [some (.ref 55), some (.int n), some (.int k), some (.long bef), none, none, none, none, none, none, none, none, none], [], σ) [¬ sy_cc .ne (lg_cmp bef 0) 0] (by decide +kernel) rfl ⟨(fun q => c1 (sy_lc_ne.mp q)), trivial⟩ ?_
    exact sy_retv rfl (by decide +kernel) (k2 c1)

set_option maxRecDepth 20000 in
theorem w_x_elim_24 {Q : Option Value → sy_S → Prop} {σ : sy_S} {l1 : Int32} {l2 : Int32} {l3 : Int64} {l5 : Int64} {l7 : Int32}  (b1 : ¬ (l1 ≤ l7) → vp_in ((l7 * l1) + l2) 256) (k1 : l1 ≤ l7 → Q none σ) (k2 : ¬ (l1 ≤ l7) → sy_E shX mX5_eliminate (48, [some (.ref 55), some (.int l1), some (.int l2), some (.long l3), none, some (.long l5), none, some (.int l7), some (.long (σ.2 56 (((l7 * l1) + l2).toNatClampNeg))), none, some (.int (l2 + 1)), none, none], [], σ) Q) : sy_E shX mX5_eliminate (24, [some (.ref 55), some (.int l1), some (.int l2), some (.long l3), none, some (.long l5), none, some (.int l7), none, none, none, none, none], [], σ) Q := by
  refine sy_bk [(.iload 7, 0, 0, 0, 0), (.iload_n 1, 0, 0, 0, 0)] (27, [some (.ref 55), some (.int l1), some (.int l2), some (.long l3), none, some (.long l5), none, some (.int l7), none, none, none, none, none], [.int l1, .int l7], σ) [] (by decide +kernel) rfl trivial ?_
  by_cases c1 : l1 ≤ l7
  · refine sy_bk [(.if_icmp .ge 87, 1, 114, 0, 0)] (114, [some (.ref 55), some (.int l1), some (.int l2), some (.long l3), none, some (.long l5), none, some (.int l7), none, none, none, none, none], [], σ) [sy_cc .ge l7 l1] (by decide +kernel) rfl ⟨c1, trivial⟩ ?_
    exact sy_retv rfl (by decide +kernel) (k1 c1)
  · refine sy_bk [(.if_icmp .ge 87, 0, 114, 0, 0)] (30, [some (.ref 55), some (.int l1), some (.int l2), some (.long l3), none, some (.long l5), none, some (.int l7), none, none, none, none, none], [], σ) [¬ sy_cc .ge l7 l1] (by decide +kernel) rfl ⟨c1, trivial⟩ ?_
    refine sy_bk [(.aload_n 0, 0, 0, 0, 0), (.getfield 9, 5, 0, 0, 0), (.iload 7, 0, 0, 0, 0), (.iload_n 1, 0, 0, 0, 0), (.imul, 0, 0, 0, 0), (.iload_n 2, 0, 0, 0, 0), (.iadd, 0, 0, 0, 0), (.laload, 0, 0, 0, 0), (.lstore 8, 0, 0, 0, 0), (.iload_n 2, 0, 0, 0, 0), (.iconst 1, 0, 0, 1, 0), (.iadd, 0, 0, 0, 0), (.istore 10, 0, 0, 0, 0)] (48, [some (.ref 55), some (.int l1), some (.int l2), some (.long l3), none, some (.long l5), none, some (.int l7), some (.long (σ.2 56 (((l7 * l1) + l2).toNatClampNeg))), none, some (.int (l2 + 1)), none, none], [], σ) [sy_okA shX 2 56 ((l7 * l1) + l2)] (by decide +kernel) rfl ⟨⟨256, _, rfl, (b1 c1)⟩, trivial⟩ ?_
    exact k2 c1

set_option maxRecDepth 20000 in
theorem w_x_elim_48 {Q : Option Value → sy_S → Prop} {σ : sy_S} {l1 : Int32} {l2 : Int32} {l3 : Int64} {l5 : Int64} {l7 : Int32} {l8 : Int64} {l10 : Int32}  (b1 : ¬ (l1 ≤ l10) → vp_in ((l7 * l1) + l10) 256) (b2 : ¬ (l1 ≤ l10) → vp_in ((l2 * l1) + l10) 256) (b3 : ¬ (l1 ≤ l10) → ¬ l3 = 0) (k1 : l1 ≤ l10 → sy_E shX mX5_eliminate (24, [some (.ref 55), some (.int l1), some (.int l2), some (.long l3), none, some (.long l5), none, some (.int (l7 + 1)), none, none, none, none, none], [], σ) Q) (k2 : ¬ (l1 ≤ l10) → sy_E shX mX5_eliminate (48, [some (.ref 55), some (.int l1), some (.int l2), some (.long l3), none, some (.long l5), none, some (.int l7), some (.long l8), none, some (.int (l10 + 1)), none, none], [], (σ.1, sy_upL σ.2 56 (((l7 * l1) + l10).toNatClampNeg) ((((σ.2 56 (((l7 * l1) + l10).toNatClampNeg)) * l5) - (l8 * (σ.2 56 (((l2 * l1) + l10).toNatClampNeg)))) / l3))) Q) : sy_E shX mX5_eliminate (48, [some (.ref 55), some (.int l1), some (.int l2), some (.long l3), none, some (.long l5), none, some (.int l7), some (.long l8), none, some (.int l10), none, none], [], σ) Q := by
  refine sy_bk [(.iload 10, 0, 0, 0, 0), (.iload_n 1, 0, 0, 0, 0)] (51, [some (.ref 55), some (.int l1), some (.int l2), some (.long l3), none, some (.long l5), none, some (.int l7), some (.long l8), none, some (.int l10), none, none], [.int l1, .int l10], σ) [] (by decide +kernel) rfl trivial ?_
  by_cases c1 : l1 ≤ l10
  · refine sy_bk [(.if_icmp .ge 57, 1, 108, 0, 0)] (108, [some (.ref 55), some (.int l1), some (.int l2), some (.long l3), none, some (.long l5), none, some (.int l7), some (.long l8), none, some (.int l10), none, none], [], σ) [sy_cc .ge l10 l1] (by decide +kernel) rfl ⟨c1, trivial⟩ ?_
    refine sy_bk [(.iinc 7 1, 0, 0, 1, 0), (.goto (-87), 0, 24, 0, 0)] (24, [some (.ref 55), some (.int l1), some (.int l2), some (.long l3), none, some (.long l5), none, some (.int (l7 + 1)), some (.long l8), none, some (.int l10), none, none], [], σ) [] (by decide +kernel) rfl trivial ?_
    refine sy_drop [some (.ref 55), some (.int l1), some (.int l2), some (.long l3), none, some (.long l5), none, some (.int (l7 + 1)), none, none, none, none, none] ⟨rfl, rfl, rfl, rfl, rfl, rfl, trivial⟩ ?_
    exact k1 c1
  · refine sy_bk [(.if_icmp .ge 57, 0, 108, 0, 0)] (54, [some (.ref 55), some (.int l1), some (.int l2), some (.long l3), none, some (.long l5), none, some (.int l7), some (.long l8), none, some (.int l10), none, none], [], σ) [¬ sy_cc .ge l10 l1] (by decide +kernel) rfl ⟨c1, trivial⟩ ?_
    refine sy_bk [(.aload_n 0, 0, 0, 0, 0), (.getfield 9, 5, 0, 0, 0), (.iload 7, 0, 0, 0, 0), (.iload_n 1, 0, 0, 0, 0), (.imul, 0, 0, 0, 0), (.iload 10, 0, 0, 0, 0), (.iadd, 0, 0, 0, 0), (.laload, 0, 0, 0, 0), (.lload 5, 0, 0, 0, 0), (.lmul, 0, 0, 0, 0), (.lload 8, 0, 0, 0, 0), (.aload_n 0, 0, 0, 0, 0), (.getfield 9, 5, 0, 0, 0), (.iload_n 2, 0, 0, 0, 0), (.iload_n 1, 0, 0, 0, 0), (.imul, 0, 0, 0, 0), (.iload 10, 0, 0, 0, 0), (.iadd, 0, 0, 0, 0), (.laload, 0, 0, 0, 0), (.lmul, 0, 0, 0, 0), (.lsub, 0, 0, 0, 0), (.lstore 11, 0, 0, 0, 0), (.aload_n 0, 0, 0, 0, 0), (.getfield 9, 5, 0, 0, 0), (.iload 7, 0, 0, 0, 0), (.iload_n 1, 0, 0, 0, 0), (.imul, 0, 0, 0, 0), (.iload 10, 0, 0, 0, 0), (.iadd, 0, 0, 0, 0), (.lload 11, 0, 0, 0, 0), (.lload_n 3, 0, 0, 0, 0), (.ldiv, 0, 0, 0, 0), (.lastore, 0, 0, 0, 0), (.iinc 10 1, 0, 0, 1, 0), (.goto (-57), 0, 48, 0, 0)] (48, [some (.ref 55), some (.int l1), some (.int l2), some (.long l3), none, some (.long l5), none, some (.int l7), some (.long l8), none, some (.int (l10 + 1)), some (.long (((σ.2 56 (((l7 * l1) + l10).toNatClampNeg)) * l5) - (l8 * (σ.2 56 (((l2 * l1) + l10).toNatClampNeg))))), none], [], (σ.1, sy_upL σ.2 56 (((l7 * l1) + l10).toNatClampNeg) ((((σ.2 56 (((l7 * l1) + l10).toNatClampNeg)) * l5) - (l8 * (σ.2 56 (((l2 * l1) + l10).toNatClampNeg)))) / l3))) [sy_okA shX 2 56 ((l7 * l1) + l10), sy_okA shX 2 56 ((l2 * l1) + l10), ¬ l3 = 0, sy_okA shX 2 56 ((l7 * l1) + l10)] (by decide +kernel) rfl ⟨⟨256, _, rfl, (b1 c1)⟩, ⟨256, _, rfl, (b2 c1)⟩, (b3 c1), ⟨256, _, rfl, (b1 c1)⟩, trivial⟩ ?_
    refine sy_drop [some (.ref 55), some (.int l1), some (.int l2), some (.long l3), none, some (.long l5), none, some (.int l7), some (.long l8), none, some (.int (l10 + 1)), none, none] ⟨rfl, rfl, rfl, rfl, rfl, rfl, rfl, rfl, trivial⟩ ?_
    exact k2 c1
