/-! walks of the Grid (by program: wip/whole/gen/p10.py) -/
set_option maxRecDepth 20000 in
theorem w_x_join {Q : Option Value → sy_S → Prop} {σ : sy_S} {cell : Int32} {oth : Int32}  (b1 : vp_in oth 16) (b2 : ¬ (¬ (σ.1 1 oth.toNatClampNeg) = 0) → vp_in cell 16) (b3 : ¬ (¬ (σ.1 1 oth.toNatClampNeg) = 0) → vp_in ((cell * 4) + (σ.1 5 cell.toNatClampNeg)) 64) (k1 : ¬ (σ.1 1 oth.toNatClampNeg) = 0 → Q none σ) (k2 : ¬ (¬ (σ.1 1 oth.toNatClampNeg) = 0) → Q none (sy_up (sy_up σ.1 4 (((cell * 4) + (σ.1 5 cell.toNatClampNeg)).toNatClampNeg) oth) 5 cell.toNatClampNeg ((σ.1 5 cell.toNatClampNeg) + 1), σ.2)) : sy_E shX mX3_join (0, sy_ent [.ref 0, .int cell, .int oth] 3, [], σ) Q := by
  show sy_E shX mX3_join (0, [some (.ref 0), some (.int cell), some (.int oth)], [], σ) _
  refine sy_bk [(.aload_n 0, 0, 0, 0, 0), (.getfield 9, 3, 0, 0, 0), (.iload_n 2, 0, 0, 0, 0), (.iaload, 0, 0, 0, 0)] (6, [some (.ref 0), some (.int cell), some (.int oth)], [.int (σ.1 1 oth.toNatClampNeg)], σ) [sy_okA shX 0 1 oth] (by decide +kernel) rfl ⟨⟨16, _, rfl, b1⟩, trivial⟩ ?_
  by_cases c1 : ¬ (σ.1 1 oth.toNatClampNeg) = 0
  · refine sy_bk [(.ifCond .ne 29, 1, 35, 0, 0)] (35, [some (.ref 0), some (.int cell), some (.int oth)], [], σ) [sy_cc .ne (σ.1 1 oth.toNatClampNeg) 0] (by decide +kernel) rfl ⟨c1, trivial⟩ ?_
    exact sy_retv rfl (by decide +kernel) (k1 c1)
  · refine sy_bk [(.ifCond .ne 29, 0, 35, 0, 0)] (9, [some (.ref 0), some (.int cell), some (.int oth)], [], σ) [¬ sy_cc .ne (σ.1 1 oth.toNatClampNeg) 0] (by decide +kernel) rfl ⟨c1, trivial⟩ ?_
    refine sy_bk [(.aload_n 0, 0, 0, 0, 0), (.getfield 21, 3, 3, 0, 0), (.iload_n 1, 0, 0, 0, 0), (.iconst 4, 0, 0, 4, 0), (.imul, 0, 0, 0, 0), (.aload_n 0, 0, 0, 0, 0), (.getfield 24, 3, 4, 0, 0), (.iload_n 1, 0, 0, 0, 0), (.iaload, 0, 0, 0, 0), (.iadd, 0, 0, 0, 0), (.iload_n 2, 0, 0, 0, 0), (.iastore, 0, 0, 0, 0), (.aload_n 0, 0, 0, 0, 0), (.getfield 24, 3, 4, 0, 0), (.iload_n 1, 0, 0, 0, 0), (.dup2, 0, 0, 0, 0), (.iaload, 0, 0, 0, 0), (.iconst 1, 0, 0, 1, 0), (.iadd, 0, 0, 0, 0), (.iastore, 0, 0, 0, 0)] (35, [some (.ref 0), some (.int cell), some (.int oth)], [], (sy_up (sy_up σ.1 4 (((cell * 4) + (σ.1 5 cell.toNatClampNeg)).toNatClampNeg) oth) 5 cell.toNatClampNeg ((σ.1 5 cell.toNatClampNeg) + 1), σ.2)) [sy_okA shX 0 5 cell, sy_okA shX 0 4 ((cell * 4) + (σ.1 5 cell.toNatClampNeg)), sy_okA shX 0 5 cell, sy_okA shX 0 5 cell] (by decide +kernel) rfl ⟨⟨16, _, rfl, (b2 c1)⟩, ⟨64, _, rfl, (b3 c1)⟩, ⟨16, _, rfl, (b2 c1)⟩, ⟨16, _, rfl, (b2 c1)⟩, trivial⟩ ?_
    exact sy_retv rfl (by decide +kernel) (k2 c1)

set_option maxRecDepth 20000 in
theorem w_x_linkCell_0 {Q : Option Value → sy_S → Prop} {σ : sy_S} {cell : Int32} {r : Int32} {c : Int32}  (b1 : vp_in cell 16) (k1 : r ≤ 0 → sy_E shX mX3_linkCell (22, [some (.ref 0), some (.int cell), some (.int r), some (.int c)], [], (sy_up σ.1 5 cell.toNatClampNeg 0, σ.2)) Q) (k2 : ¬ (r ≤ 0) → sy_E shX mX3_join (0, sy_ent [.ref 0, .int cell, .int (cell - (σ.1 0 6))] 3, [], (sy_up σ.1 5 cell.toNatClampNeg 0, σ.2)) (fun r9 σ9 => sy_E shX mX3_linkCell (22, [some (.ref 0), some (.int cell), some (.int r), some (.int c)], r9.toList ++ [], σ9) Q)) : sy_E shX mX3_linkCell (0, sy_ent [.ref 0, .int cell, .int r, .int c] 4, [], σ) Q := by
  show sy_E shX mX3_linkCell (0, [some (.ref 0), some (.int cell), some (.int r), some (.int c)], [], σ) _
  refine sy_bk [(.aload_n 0, 0, 0, 0, 0), (.getfield 24, 3, 4, 0, 0), (.iload_n 1, 0, 0, 0, 0), (.iconst 0, 0, 0, 0, 0), (.iastore, 0, 0, 0, 0), (.iload_n 2, 0, 0, 0, 0)] (8, [some (.ref 0), some (.int cell), some (.int r), some (.int c)], [.int r], (sy_up σ.1 5 cell.toNatClampNeg 0, σ.2)) [sy_okA shX 0 5 cell] (by decide +kernel) rfl ⟨⟨16, _, rfl, b1⟩, trivial⟩ ?_
  by_cases c1 : r ≤ 0
  · refine sy_bk [(.ifCond .le 14, 1, 22, 0, 0)] (22, [some (.ref 0), some (.int cell), some (.int r), some (.int c)], [], (sy_up σ.1 5 cell.toNatClampNeg 0, σ.2)) [sy_cc .le r 0] (by decide +kernel) rfl ⟨c1, trivial⟩ ?_
    exact k1 c1
  · refine sy_bk [(.ifCond .le 14, 0, 22, 0, 0)] (11, [some (.ref 0), some (.int cell), some (.int r), some (.int c)], [], (sy_up σ.1 5 cell.toNatClampNeg 0, σ.2)) [¬ sy_cc .le r 0] (by decide +kernel) rfl ⟨c1, trivial⟩ ?_
    refine sy_bk [(.aload_n 0, 0, 0, 0, 0), (.iload_n 1, 0, 0, 0, 0), (.iload_n 1, 0, 0, 0, 0), (.aload_n 0, 0, 0, 0, 0), (.getfield 35, 3, 6, 0, 0), (.isub, 0, 0, 0, 0)] (19, [some (.ref 0), some (.int cell), some (.int r), some (.int c)], [.int (cell - (σ.1 0 6)), .int cell, .ref 0], (sy_up σ.1 5 cell.toNatClampNeg 0, σ.2)) [] (by decide +kernel) rfl trivial ?_
    refine sy_callV mX3_join 0 [.int cell, .int (cell - (σ.1 0 6))] [] kX3_join jX3_54 (by decide +kernel) rfl rfl (Nat.le_of_ble_eq_true rfl) (Nat.le_of_ble_eq_true rfl) (by decide) rfl ?_
    exact k2 c1

set_option maxRecDepth 20000 in
theorem w_x_linkCell_22 {Q : Option Value → sy_S → Prop} {σ : sy_S} {cell : Int32} {r : Int32} {c : Int32}   (k1 : c ≤ 0 → sy_E shX mX3_linkCell (34, [some (.ref 0), some (.int cell), some (.int r), some (.int c)], [], σ) Q) (k2 : ¬ (c ≤ 0) → sy_E shX mX3_join (0, sy_ent [.ref 0, .int cell, .int (cell - 1)] 3, [], σ) (fun r9 σ9 => sy_E shX mX3_linkCell (34, [some (.ref 0), some (.int cell), some (.int r), some (.int c)], r9.toList ++ [], σ9) Q)) : sy_E shX mX3_linkCell (22, [some (.ref 0), some (.int cell), some (.int r), some (.int c)], [], σ) Q := by
  refine sy_bk [(.iload_n 3, 0, 0, 0, 0)] (23, [some (.ref 0), some (.int cell), some (.int r), some (.int c)], [.int c], σ) [] (by decide +kernel) rfl trivial ?_
  by_cases c1 : c ≤ 0
  · refine sy_bk [(.ifCond .le 11, 1, 34, 0, 0)] (34, [some (.ref 0), some (.int cell), some (.int r), some (.int c)], [], σ) [sy_cc .le c 0] (by decide +kernel) rfl ⟨c1, trivial⟩ ?_
    exact k1 c1
  · refine sy_bk [(.ifCond .le 11, 0, 34, 0, 0)] (26, [some (.ref 0), some (.int cell), some (.int r), some (.int c)], [], σ) [¬ sy_cc .le c 0] (by decide +kernel) rfl ⟨c1, trivial⟩ ?_
    refine sy_bk [(.aload_n 0, 0, 0, 0, 0), (.iload_n 1, 0, 0, 0, 0), (.iload_n 1, 0, 0, 0, 0), (.iconst 1, 0, 0, 1, 0), (.isub, 0, 0, 0, 0)] (31, [some (.ref 0), some (.int cell), some (.int r), some (.int c)], [.int (cell - 1), .int cell, .ref 0], σ) [] (by decide +kernel) rfl trivial ?_
    refine sy_callV mX3_join 0 [.int cell, .int (cell - 1)] [] kX3_join jX3_54 (by decide +kernel) rfl rfl (Nat.le_of_ble_eq_true rfl) (Nat.le_of_ble_eq_true rfl) (by decide) rfl ?_
    exact k2 c1

set_option maxRecDepth 20000 in
theorem w_x_linkCell_34 {Q : Option Value → sy_S → Prop} {σ : sy_S} {cell : Int32} {r : Int32} {c : Int32}   (k1 : (σ.1 0 6) ≤ (c + 1) → sy_E shX mX3_linkCell (52, [some (.ref 0), some (.int cell), some (.int r), none], [], σ) Q) (k2 : ¬ ((σ.1 0 6) ≤ (c + 1)) → sy_E shX mX3_join (0, sy_ent [.ref 0, .int cell, .int (cell + 1)] 3, [], σ) (fun r9 σ9 => sy_E shX mX3_linkCell (52, [some (.ref 0), some (.int cell), some (.int r), none], r9.toList ++ [], σ9) Q)) : sy_E shX mX3_linkCell (34, [some (.ref 0), some (.int cell), some (.int r), some (.int c)], [], σ) Q := by
  refine sy_bk [(.iload_n 3, 0, 0, 0, 0), (.iconst 1, 0, 0, 1, 0), (.iadd, 0, 0, 0, 0), (.aload_n 0, 0, 0, 0, 0), (.getfield 35, 3, 6, 0, 0)] (41, [some (.ref 0), some (.int cell), some (.int r), some (.int c)], [.int (σ.1 0 6), .int (c + 1)], σ) [] (by decide +kernel) rfl trivial ?_
  by_cases c1 : (σ.1 0 6) ≤ (c + 1)
  · refine sy_bk [(.if_icmp .ge 11, 1, 52, 0, 0)] (52, [some (.ref 0), some (.int cell), some (.int r), some (.int c)], [], σ) [sy_cc .ge (c + 1) (σ.1 0 6)] (by decide +kernel) rfl ⟨c1, trivial⟩ ?_
    refine sy_drop [some (.ref 0), some (.int cell), some (.int r), none] ⟨rfl, rfl, rfl, trivial⟩ ?_
    exact k1 c1
  · refine sy_bk [(.if_icmp .ge 11, 0, 52, 0, 0)] (44, [some (.ref 0), some (.int cell), some (.int r), some (.int c)], [], σ) [¬ sy_cc .ge (c + 1) (σ.1 0 6)] (by decide +kernel) rfl ⟨c1, trivial⟩ ?_
    refine sy_bk [(.aload_n 0, 0, 0, 0, 0), (.iload_n 1, 0, 0, 0, 0), (.iload_n 1, 0, 0, 0, 0), (.iconst 1, 0, 0, 1, 0), (.iadd, 0, 0, 0, 0)] (49, [some (.ref 0), some (.int cell), some (.int r), some (.int c)], [.int (cell + 1), .int cell, .ref 0], σ) [] (by decide +kernel) rfl trivial ?_
    refine sy_drop [some (.ref 0), some (.int cell), some (.int r), none] ⟨rfl, rfl, rfl, trivial⟩ ?_
    refine sy_callV mX3_join 0 [.int cell, .int (cell + 1)] [] kX3_join jX3_54 (by decide +kernel) rfl rfl (Nat.le_of_ble_eq_true rfl) (Nat.le_of_ble_eq_true rfl) (by decide) rfl ?_
    exact k2 c1

set_option maxRecDepth 20000 in
theorem w_x_linkCell_52 {Q : Option Value → sy_S → Prop} {σ : sy_S} {cell : Int32} {r : Int32}   (k1 : (σ.1 0 5) ≤ (r + 1) → Q none σ) (k2 : ¬ ((σ.1 0 5) ≤ (r + 1)) → sy_E shX mX3_join (0, sy_ent [.ref 0, .int cell, .int (cell + (σ.1 0 6))] 3, [], σ) (fun r9 σ9 => sy_E shX mX3_linkCell (73, [none, none, none, none], r9.toList ++ [], σ9) Q)) : sy_E shX mX3_linkCell (52, [some (.ref 0), some (.int cell), some (.int r), none], [], σ) Q := by
  refine sy_bk [(.iload_n 2, 0, 0, 0, 0), (.iconst 1, 0, 0, 1, 0), (.iadd, 0, 0, 0, 0), (.aload_n 0, 0, 0, 0, 0), (.getfield 31, 3, 5, 0, 0)] (59, [some (.ref 0), some (.int cell), some (.int r), none], [.int (σ.1 0 5), .int (r + 1)], σ) [] (by decide +kernel) rfl trivial ?_
  by_cases c1 : (σ.1 0 5) ≤ (r + 1)
  · refine sy_bk [(.if_icmp .ge 14, 1, 73, 0, 0)] (73, [some (.ref 0), some (.int cell), some (.int r), none], [], σ) [sy_cc .ge (r + 1) (σ.1 0 5)] (by decide +kernel) rfl ⟨c1, trivial⟩ ?_
    exact sy_retv rfl (by decide +kernel) (k1 c1)
  · refine sy_bk [(.if_icmp .ge 14, 0, 73, 0, 0)] (62, [some (.ref 0), some (.int cell), some (.int r), none], [], σ) [¬ sy_cc .ge (r + 1) (σ.1 0 5)] (by decide +kernel) rfl ⟨c1, trivial⟩ ?_
    refine sy_bk [(.aload_n 0, 0, 0, 0, 0), (.iload_n 1, 0, 0, 0, 0), (.iload_n 1, 0, 0, 0, 0), (.aload_n 0, 0, 0, 0, 0), (.getfield 35, 3, 6, 0, 0), (.iadd, 0, 0, 0, 0)] (70, [some (.ref 0), some (.int cell), some (.int r), none], [.int (cell + (σ.1 0 6)), .int cell, .ref 0], σ) [] (by decide +kernel) rfl trivial ?_
    refine sy_drop [none, none, none, none] trivial ?_
    refine sy_callV mX3_join 0 [.int cell, .int (cell + (σ.1 0 6))] [] kX3_join jX3_54 (by decide +kernel) rfl rfl (Nat.le_of_ble_eq_true rfl) (Nat.le_of_ble_eq_true rfl) (by decide) rfl ?_
    exact k2 c1

set_option maxRecDepth 20000 in
theorem w_x_linkCell_73 {Q : Option Value → sy_S → Prop} {σ : sy_S}    (k1 : Q none σ) : sy_E shX mX3_linkCell (73, [none, none, none, none], [], σ) Q := by
  exact sy_retv rfl (by decide +kernel) (k1)

set_option maxRecDepth 20000 in
theorem w_x_link_0 {Q : Option Value → sy_S → Prop} {σ : sy_S}    (k1 : sy_E shX mX3_link (7, [some (.ref 0), some (.int 0), none, none], [], (sy_up σ.1 0 7 0, σ.2)) Q) : sy_E shX mX3_link (0, sy_ent [.ref 0] 4, [], σ) Q := by
  show sy_E shX mX3_link (0, [some (.ref 0), none, none, none], [], σ) _
  refine sy_bk [(.aload_n 0, 0, 0, 0, 0), (.iconst 0, 0, 0, 0, 0), (.putfield 47, 3, 7, 0, 0), (.iconst 0, 0, 0, 0, 0), (.istore_n 1, 0, 0, 0, 0)] (7, [some (.ref 0), some (.int 0), none, none], [], (sy_up σ.1 0 7 0, σ.2)) [] (by decide +kernel) rfl trivial ?_
  exact k1

set_option maxRecDepth 20000 in
theorem w_x_link_7 {Q : Option Value → sy_S → Prop} {σ : sy_S} {r : Int32}   (k1 : (σ.1 0 5) ≤ r → Q none σ) (k2 : ¬ ((σ.1 0 5) ≤ r) → sy_E shX mX3_link (17, [some (.ref 0), some (.int r), some (.int 0), none], [], σ) Q) : sy_E shX mX3_link (7, [some (.ref 0), some (.int r), none, none], [], σ) Q := by
  refine sy_bk [(.iload_n 1, 0, 0, 0, 0), (.aload_n 0, 0, 0, 0, 0), (.getfield 31, 3, 5, 0, 0)] (12, [some (.ref 0), some (.int r), none, none], [.int (σ.1 0 5), .int r], σ) [] (by decide +kernel) rfl trivial ?_
  by_cases c1 : (σ.1 0 5) ≤ r
  · refine sy_bk [(.if_icmp .ge 80, 1, 92, 0, 0)] (92, [some (.ref 0), some (.int r), none, none], [], σ) [sy_cc .ge r (σ.1 0 5)] (by decide +kernel) rfl ⟨c1, trivial⟩ ?_
    exact sy_retv rfl (by decide +kernel) (k1 c1)
  · refine sy_bk [(.if_icmp .ge 80, 0, 92, 0, 0)] (15, [some (.ref 0), some (.int r), none, none], [], σ) [¬ sy_cc .ge r (σ.1 0 5)] (by decide +kernel) rfl ⟨c1, trivial⟩ ?_
    refine sy_bk [(.iconst 0, 0, 0, 0, 0), (.istore_n 2, 0, 0, 0, 0)] (17, [some (.ref 0), some (.int r), some (.int 0), none], [], σ) [] (by decide +kernel) rfl trivial ?_
    exact k2 c1

set_option maxRecDepth 20000 in
theorem w_x_link_17 {Q : Option Value → sy_S → Prop} {σ : sy_S} {r : Int32} {c : Int32}  (b1 : ¬ ((σ.1 0 6) ≤ c) → vp_in ((r * (σ.1 0 6)) + c) 16) (b2 : ¬ ((σ.1 0 6) ≤ c) → ¬ (¬ (σ.1 1 (((r * (σ.1 0 6)) + c).toNatClampNeg)) = 0) → vp_in (σ.1 0 7) 16) (k1 : (σ.1 0 6) ≤ c → sy_E shX mX3_link (7, [some (.ref 0), some (.int (r + 1)), none, none], [], σ) Q) (k2 : ¬ ((σ.1 0 6) ≤ c) → ¬ (σ.1 1 (((r * (σ.1 0 6)) + c).toNatClampNeg)) = 0 → sy_E shX mX3_linkCell (0, sy_ent [.ref 0, .int ((r * (σ.1 0 6)) + c), .int r, .int c] 4, [], (sy_up σ.1 3 (((r * (σ.1 0 6)) + c).toNatClampNeg) (σ.1 0 7), σ.2)) (fun r9 σ9 => sy_E shX mX3_link (80, [some (.ref 0), some (.int r), some (.int c), none], r9.toList ++ [], σ9) Q)) (k3 : ¬ ((σ.1 0 6) ≤ c) → ¬ (¬ (σ.1 1 (((r * (σ.1 0 6)) + c).toNatClampNeg)) = 0) → sy_E shX mX3_linkCell (0, sy_ent [.ref 0, .int ((r * (σ.1 0 6)) + c), .int r, .int c] 4, [], (sy_up (sy_up (sy_up σ.1 3 (((r * (σ.1 0 6)) + c).toNatClampNeg) (σ.1 0 7)) 2 ((σ.1 0 7).toNatClampNeg) ((r * (σ.1 0 6)) + c)) 0 7 ((σ.1 0 7) + 1), σ.2)) (fun r9 σ9 => sy_E shX mX3_link (80, [some (.ref 0), some (.int r), some (.int c), none], r9.toList ++ [], σ9) Q)) : sy_E shX mX3_link (17, [some (.ref 0), some (.int r), some (.int c), none], [], σ) Q := by
  refine sy_bk [(.iload_n 2, 0, 0, 0, 0), (.aload_n 0, 0, 0, 0, 0), (.getfield 35, 3, 6, 0, 0)] (22, [some (.ref 0), some (.int r), some (.int c), none], [.int (σ.1 0 6), .int c], σ) [] (by decide +kernel) rfl trivial ?_
  by_cases c1 : (σ.1 0 6) ≤ c
  · refine sy_bk [(.if_icmp .ge 64, 1, 86, 0, 0)] (86, [some (.ref 0), some (.int r), some (.int c), none], [], σ) [sy_cc .ge c (σ.1 0 6)] (by decide +kernel) rfl ⟨c1, trivial⟩ ?_
    refine sy_bk [(.iinc 1 1, 0, 0, 1, 0), (.goto (-82), 0, 7, 0, 0)] (7, [some (.ref 0), some (.int (r + 1)), some (.int c), none], [], σ) [] (by decide +kernel) rfl trivial ?_
    refine sy_drop [some (.ref 0), some (.int (r + 1)), none, none] ⟨rfl, rfl, trivial⟩ ?_
    exact k1 c1
  · refine sy_bk [(.if_icmp .ge 64, 0, 86, 0, 0)] (25, [some (.ref 0), some (.int r), some (.int c), none], [], σ) [¬ sy_cc .ge c (σ.1 0 6)] (by decide +kernel) rfl ⟨c1, trivial⟩ ?_
    refine sy_bk [(.iload_n 1, 0, 0, 0, 0), (.aload_n 0, 0, 0, 0, 0), (.getfield 35, 3, 6, 0, 0), (.imul, 0, 0, 0, 0), (.iload_n 2, 0, 0, 0, 0), (.iadd, 0, 0, 0, 0), (.istore_n 3, 0, 0, 0, 0), (.aload_n 0, 0, 0, 0, 0), (.getfield 18, 3, 2, 0, 0), (.iload_n 3, 0, 0, 0, 0), (.aload_n 0, 0, 0, 0, 0), (.getfield 47, 3, 7, 0, 0), (.iastore, 0, 0, 0, 0), (.aload_n 0, 0, 0, 0, 0), (.getfield 9, 3, 0, 0, 0), (.iload_n 3, 0, 0, 0, 0), (.iaload, 0, 0, 0, 0)] (50, [some (.ref 0), some (.int r), some (.int c), some (.int ((r * (σ.1 0 6)) + c))], [.int (σ.1 1 (((r * (σ.1 0 6)) + c).toNatClampNeg))], (sy_up σ.1 3 (((r * (σ.1 0 6)) + c).toNatClampNeg) (σ.1 0 7), σ.2)) [sy_okA shX 0 3 ((r * (σ.1 0 6)) + c), sy_okA shX 0 1 ((r * (σ.1 0 6)) + c)] (by decide +kernel) rfl ⟨⟨16, _, rfl, (b1 c1)⟩, ⟨16, _, rfl, (b1 c1)⟩, trivial⟩ ?_
    by_cases c2 : ¬ (σ.1 1 (((r * (σ.1 0 6)) + c).toNatClampNeg)) = 0
    · refine sy_bk [(.ifCond .ne 23, 1, 73, 0, 0)] (73, [some (.ref 0), some (.int r), some (.int c), some (.int ((r * (σ.1 0 6)) + c))], [], (sy_up σ.1 3 (((r * (σ.1 0 6)) + c).toNatClampNeg) (σ.1 0 7), σ.2)) [sy_cc .ne (σ.1 1 (((r * (σ.1 0 6)) + c).toNatClampNeg)) 0] (by decide +kernel) rfl ⟨c2, trivial⟩ ?_
      refine sy_bk [(.aload_n 0, 0, 0, 0, 0), (.iload_n 3, 0, 0, 0, 0), (.iload_n 1, 0, 0, 0, 0), (.iload_n 2, 0, 0, 0, 0)] (77, [some (.ref 0), some (.int r), some (.int c), some (.int ((r * (σ.1 0 6)) + c))], [.int c, .int r, .int ((r * (σ.1 0 6)) + c), .ref 0], (sy_up σ.1 3 (((r * (σ.1 0 6)) + c).toNatClampNeg) (σ.1 0 7), σ.2)) [] (by decide +kernel) rfl trivial ?_
      refine sy_drop [some (.ref 0), some (.int r), some (.int c), none] ⟨rfl, rfl, rfl, trivial⟩ ?_
      refine sy_callV mX3_linkCell 0 [.int ((r * (σ.1 0 6)) + c), .int r, .int c] [] kX3_linkCell jX3_50 (by decide +kernel) rfl rfl (Nat.le_of_ble_eq_true rfl) (Nat.le_of_ble_eq_true rfl) (by decide) rfl ?_
      exact k2 c1 c2
    · refine sy_bk [(.ifCond .ne 23, 0, 73, 0, 0)] (53, [some (.ref 0), some (.int r), some (.int c), some (.int ((r * (σ.1 0 6)) + c))], [], (sy_up σ.1 3 (((r * (σ.1 0 6)) + c).toNatClampNeg) (σ.1 0 7), σ.2)) [¬ sy_cc .ne (σ.1 1 (((r * (σ.1 0 6)) + c).toNatClampNeg)) 0] (by decide +kernel) rfl ⟨c2, trivial⟩ ?_
      refine sy_bk [(.aload_n 0, 0, 0, 0, 0), (.getfield 15, 3, 1, 0, 0), (.aload_n 0, 0, 0, 0, 0), (.getfield 47, 3, 7, 0, 0), (.iload_n 3, 0, 0, 0, 0), (.iastore, 0, 0, 0, 0), (.aload_n 0, 0, 0, 0, 0), (.dup, 0, 0, 0, 0), (.getfield 47, 3, 7, 0, 0), (.iconst 1, 0, 0, 1, 0), (.iadd, 0, 0, 0, 0), (.putfield 47, 3, 7, 0, 0), (.aload_n 0, 0, 0, 0, 0), (.iload_n 3, 0, 0, 0, 0), (.iload_n 1, 0, 0, 0, 0), (.iload_n 2, 0, 0, 0, 0)] (77, [some (.ref 0), some (.int r), some (.int c), some (.int ((r * (σ.1 0 6)) + c))], [.int c, .int r, .int ((r * (σ.1 0 6)) + c), .ref 0], (sy_up (sy_up (sy_up σ.1 3 (((r * (σ.1 0 6)) + c).toNatClampNeg) (σ.1 0 7)) 2 ((σ.1 0 7).toNatClampNeg) ((r * (σ.1 0 6)) + c)) 0 7 ((σ.1 0 7) + 1), σ.2)) [sy_okA shX 0 2 (σ.1 0 7)] (by decide +kernel) rfl ⟨⟨16, _, rfl, (b2 c1 c2)⟩, trivial⟩ ?_
      refine sy_drop [some (.ref 0), some (.int r), some (.int c), none] ⟨rfl, rfl, rfl, trivial⟩ ?_
      refine sy_callV mX3_linkCell 0 [.int ((r * (σ.1 0 6)) + c), .int r, .int c] [] kX3_linkCell jX3_50 (by decide +kernel) rfl rfl (Nat.le_of_ble_eq_true rfl) (Nat.le_of_ble_eq_true rfl) (by decide) rfl ?_
      exact k3 c1 c2

set_option maxRecDepth 20000 in
theorem w_x_link_80 {Q : Option Value → sy_S → Prop} {σ : sy_S} {r : Int32} {c : Int32}   (k1 : sy_E shX mX3_link (17, [some (.ref 0), some (.int r), some (.int (c + 1)), none], [], σ) Q) : sy_E shX mX3_link (80, [some (.ref 0), some (.int r), some (.int c), none], [], σ) Q := by
  refine sy_bk [(.iinc 2 1, 0, 0, 1, 0), (.goto (-66), 0, 17, 0, 0)] (17, [some (.ref 0), some (.int r), some (.int (c + 1)), none], [], σ) [] (by decide +kernel) rfl trivial ?_
  exact k1

set_option maxRecDepth 20000 in
theorem w_x_shape_0 {Q : Option Value → sy_S → Prop} {σ : sy_S} {r : Int32} {c : Int32}   (k1 : sy_E shX mJ7_fill_53178 (0, sy_ent [.ref 1, .int 0] 4, [], (sy_up (sy_up σ.1 0 5 r) 0 6 c, σ.2)) (fun r9 σ9 => sy_E shX mX3_shape (18, [some (.ref 0), none, none], r9.toList ++ [], σ9) Q)) : sy_E shX mX3_shape (0, sy_ent [.ref 0, .int r, .int c] 3, [], σ) Q := by
  show sy_E shX mX3_shape (0, [some (.ref 0), some (.int r), some (.int c)], [], σ) _
  refine sy_bk [(.aload_n 0, 0, 0, 0, 0), (.iload_n 1, 0, 0, 0, 0), (.putfield 31, 3, 5, 0, 0), (.aload_n 0, 0, 0, 0, 0), (.iload_n 2, 0, 0, 0, 0), (.putfield 35, 3, 6, 0, 0), (.aload_n 0, 0, 0, 0, 0), (.getfield 9, 3, 0, 0, 0), (.iconst 0, 0, 0, 0, 0)] (15, [some (.ref 0), some (.int r), some (.int c)], [.int 0, .ref 1], (sy_up (sy_up σ.1 0 5 r) 0 6 c, σ.2)) [] (by decide +kernel) rfl trivial ?_
  refine sy_drop [some (.ref 0), none, none] ⟨rfl, trivial⟩ ?_
  refine sy_callS mJ7_fill_53178 [.ref 1, .int 0] [] kJ7_fill_53178 jX3_38 (by decide +kernel) rfl rfl (Nat.le_of_ble_eq_true rfl) (Nat.le_of_ble_eq_true rfl) (by decide) ?_
  exact k1

set_option maxRecDepth 20000 in
theorem w_x_shape_18 {Q : Option Value → sy_S → Prop} {σ : sy_S}    (k1 : sy_E shX mX3_link (0, sy_ent [.ref 0] 4, [], σ) (fun r9 σ9 => sy_E shX mX3_shape (22, [none, none, none], r9.toList ++ [], σ9) Q)) : sy_E shX mX3_shape (18, [some (.ref 0), none, none], [], σ) Q := by
  refine sy_bk [(.aload_n 0, 0, 0, 0, 0)] (19, [some (.ref 0), none, none], [.ref 0], σ) [] (by decide +kernel) rfl trivial ?_
  refine sy_drop [none, none, none] trivial ?_
  refine sy_callV mX3_link 0 [] [] kX3_link jX3_44 (by decide +kernel) rfl rfl (Nat.le_of_ble_eq_true rfl) (Nat.le_of_ble_eq_true rfl) (by decide) rfl ?_
  exact k1

set_option maxRecDepth 20000 in
theorem w_x_shape_22 {Q : Option Value → sy_S → Prop} {σ : sy_S}    (k1 : Q none σ) : sy_E shX mX3_shape (22, [none, none, none], [], σ) Q := by
  exact sy_retv rfl (by decide +kernel) (k1)

set_option maxRecDepth 20000 in
theorem w_x_fill_0 {Q : Option Value → sy_S → Prop} {σ : sy_S} {k : Nat} {n : Nat} {v : Int32} (hk : shX[k]? = some (0, n, []))  (k1 : sy_E shX mJ7_fill_53178 (5, [some (.ref k), some (.int v), some (.int 0), some (.int (sy_len shX k))], [], σ) Q) : sy_E shX mJ7_fill_53178 (0, sy_ent [.ref k, .int v] 4, [], σ) Q := by
  show sy_E shX mJ7_fill_53178 (0, [some (.ref k), some (.int v), none, none], [], σ) _
  refine sy_bk [(.iconst 0, 0, 0, 0, 0), (.istore_n 2, 0, 0, 0, 0), (.aload_n 0, 0, 0, 0, 0), (.arraylength, 0, 0, 0, 0), (.istore_n 3, 0, 0, 0, 0)] (5, [some (.ref k), some (.int v), some (.int 0), some (.int (sy_len shX k))], [], σ) [sy_okL shX k] (by decide +kernel) rfl ⟨⟨0, _, _, hk, by decide⟩, trivial⟩ ?_
  exact k1

set_option maxRecDepth 20000 in
theorem w_x_fill_5 {Q : Option Value → sy_S → Prop} {σ : sy_S} {k : Nat} {n : Nat} {v : Int32} {i : Int32} {len : Int32} (hk : shX[k]? = some (0, n, [])) (b1 : ¬ (len ≤ i) → vp_in i n) (k1 : len ≤ i → Q none σ) (k2 : ¬ (len ≤ i) → sy_E shX mJ7_fill_53178 (5, [some (.ref k), some (.int v), some (.int (i + 1)), some (.int len)], [], (sy_up σ.1 k i.toNatClampNeg v, σ.2)) Q) : sy_E shX mJ7_fill_53178 (5, [some (.ref k), some (.int v), some (.int i), some (.int len)], [], σ) Q := by
  refine sy_bk [(.iload_n 2, 0, 0, 0, 0), (.iload_n 3, 0, 0, 0, 0)] (7, [some (.ref k), some (.int v), some (.int i), some (.int len)], [.int len, .int i], σ) [] (by decide +kernel) rfl trivial ?_
  by_cases c1 : len ≤ i
  · refine sy_bk [(.if_icmp .ge 13, 1, 20, 0, 0)] (20, [some (.ref k), some (.int v), some (.int i), some (.int len)], [], σ) [sy_cc .ge i len] (by decide +kernel) rfl ⟨c1, trivial⟩ ?_
    exact sy_retv rfl (by decide +kernel) (k1 c1)
  · refine sy_bk [(.if_icmp .ge 13, 0, 20, 0, 0)] (10, [some (.ref k), some (.int v), some (.int i), some (.int len)], [], σ) [¬ sy_cc .ge i len] (by decide +kernel) rfl ⟨c1, trivial⟩ ?_
    refine sy_bk [(.aload_n 0, 0, 0, 0, 0), (.iload_n 2, 0, 0, 0, 0), (.iload_n 1, 0, 0, 0, 0), (.iastore, 0, 0, 0, 0), (.iinc 2 1, 0, 0, 1, 0), (.goto (-12), 0, 5, 0, 0)] (5, [some (.ref k), some (.int v), some (.int (i + 1)), some (.int len)], [], (sy_up σ.1 k i.toNatClampNeg v, σ.2)) [sy_okA shX 0 k i] (by decide +kernel) rfl ⟨⟨n, _, hk, (b1 c1)⟩, trivial⟩ ?_
    exact k2 c1

set_option maxRecDepth 20000 in
theorem w_g_join {Q : Option Value → sy_S → Prop} {σ : sy_S} {cell : Int32} {oth : Int32}  (b1 : vp_in oth 16) (b2 : ¬ (¬ (σ.1 1 oth.toNatClampNeg) = 0) → vp_in cell 16) (b3 : ¬ (¬ (σ.1 1 oth.toNatClampNeg) = 0) → vp_in ((cell * 4) + (σ.1 5 cell.toNatClampNeg)) 64) (k1 : ¬ (σ.1 1 oth.toNatClampNeg) = 0 → Q none σ) (k2 : ¬ (¬ (σ.1 1 oth.toNatClampNeg) = 0) → Q none (sy_up (sy_up σ.1 4 (((cell * 4) + (σ.1 5 cell.toNatClampNeg)).toNatClampNeg) oth) 5 cell.toNatClampNeg ((σ.1 5 cell.toNatClampNeg) + 1), σ.2)) : sy_E shG mX3_join (0, sy_ent [.ref 0, .int cell, .int oth] 3, [], σ) Q := by
  show sy_E shG mX3_join (0, [some (.ref 0), some (.int cell), some (.int oth)], [], σ) _
  refine sy_bk [(.aload_n 0, 0, 0, 0, 0), (.getfield 9, 3, 0, 0, 0), (.iload_n 2, 0, 0, 0, 0), (.iaload, 0, 0, 0, 0)] (6, [some (.ref 0), some (.int cell), some (.int oth)], [.int (σ.1 1 oth.toNatClampNeg)], σ) [sy_okA shG 0 1 oth] (by decide +kernel) rfl ⟨⟨16, _, rfl, b1⟩, trivial⟩ ?_
  by_cases c1 : ¬ (σ.1 1 oth.toNatClampNeg) = 0
  · refine sy_bk [(.ifCond .ne 29, 1, 35, 0, 0)] (35, [some (.ref 0), some (.int cell), some (.int oth)], [], σ) [sy_cc .ne (σ.1 1 oth.toNatClampNeg) 0] (by decide +kernel) rfl ⟨c1, trivial⟩ ?_
    exact sy_retv rfl (by decide +kernel) (k1 c1)
  · refine sy_bk [(.ifCond .ne 29, 0, 35, 0, 0)] (9, [some (.ref 0), some (.int cell), some (.int oth)], [], σ) [¬ sy_cc .ne (σ.1 1 oth.toNatClampNeg) 0] (by decide +kernel) rfl ⟨c1, trivial⟩ ?_
    refine sy_bk [(.aload_n 0, 0, 0, 0, 0), (.getfield 21, 3, 3, 0, 0), (.iload_n 1, 0, 0, 0, 0), (.iconst 4, 0, 0, 4, 0), (.imul, 0, 0, 0, 0), (.aload_n 0, 0, 0, 0, 0), (.getfield 24, 3, 4, 0, 0), (.iload_n 1, 0, 0, 0, 0), (.iaload, 0, 0, 0, 0), (.iadd, 0, 0, 0, 0), (.iload_n 2, 0, 0, 0, 0), (.iastore, 0, 0, 0, 0), (.aload_n 0, 0, 0, 0, 0), (.getfield 24, 3, 4, 0, 0), (.iload_n 1, 0, 0, 0, 0), (.dup2, 0, 0, 0, 0), (.iaload, 0, 0, 0, 0), (.iconst 1, 0, 0, 1, 0), (.iadd, 0, 0, 0, 0), (.iastore, 0, 0, 0, 0)] (35, [some (.ref 0), some (.int cell), some (.int oth)], [], (sy_up (sy_up σ.1 4 (((cell * 4) + (σ.1 5 cell.toNatClampNeg)).toNatClampNeg) oth) 5 cell.toNatClampNeg ((σ.1 5 cell.toNatClampNeg) + 1), σ.2)) [sy_okA shG 0 5 cell, sy_okA shG 0 4 ((cell * 4) + (σ.1 5 cell.toNatClampNeg)), sy_okA shG 0 5 cell, sy_okA shG 0 5 cell] (by decide +kernel) rfl ⟨⟨16, _, rfl, (b2 c1)⟩, ⟨64, _, rfl, (b3 c1)⟩, ⟨16, _, rfl, (b2 c1)⟩, ⟨16, _, rfl, (b2 c1)⟩, trivial⟩ ?_
    exact sy_retv rfl (by decide +kernel) (k2 c1)

set_option maxRecDepth 20000 in
theorem w_g_linkCell_0 {Q : Option Value → sy_S → Prop} {σ : sy_S} {cell : Int32} {r : Int32} {c : Int32}  (b1 : vp_in cell 16) (k1 : r ≤ 0 → sy_E shG mX3_linkCell (22, [some (.ref 0), some (.int cell), some (.int r), some (.int c)], [], (sy_up σ.1 5 cell.toNatClampNeg 0, σ.2)) Q) (k2 : ¬ (r ≤ 0) → sy_E shG mX3_join (0, sy_ent [.ref 0, .int cell, .int (cell - (σ.1 0 6))] 3, [], (sy_up σ.1 5 cell.toNatClampNeg 0, σ.2)) (fun r9 σ9 => sy_E shG mX3_linkCell (22, [some (.ref 0), some (.int cell), some (.int r), some (.int c)], r9.toList ++ [], σ9) Q)) : sy_E shG mX3_linkCell (0, sy_ent [.ref 0, .int cell, .int r, .int c] 4, [], σ) Q := by
  show sy_E shG mX3_linkCell (0, [some (.ref 0), some (.int cell), some (.int r), some (.int c)], [], σ) _
  refine sy_bk [(.aload_n 0, 0, 0, 0, 0), (.getfield 24, 3, 4, 0, 0), (.iload_n 1, 0, 0, 0, 0), (.iconst 0, 0, 0, 0, 0), (.iastore, 0, 0, 0, 0), (.iload_n 2, 0, 0, 0, 0)] (8, [some (.ref 0), some (.int cell), some (.int r), some (.int c)], [.int r], (sy_up σ.1 5 cell.toNatClampNeg 0, σ.2)) [sy_okA shG 0 5 cell] (by decide +kernel) rfl ⟨⟨16, _, rfl, b1⟩, trivial⟩ ?_
  by_cases c1 : r ≤ 0
  · refine sy_bk [(.ifCond .le 14, 1, 22, 0, 0)] (22, [some (.ref 0), some (.int cell), some (.int r), some (.int c)], [], (sy_up σ.1 5 cell.toNatClampNeg 0, σ.2)) [sy_cc .le r 0] (by decide +kernel) rfl ⟨c1, trivial⟩ ?_
    exact k1 c1
  · refine sy_bk [(.ifCond .le 14, 0, 22, 0, 0)] (11, [some (.ref 0), some (.int cell), some (.int r), some (.int c)], [], (sy_up σ.1 5 cell.toNatClampNeg 0, σ.2)) [¬ sy_cc .le r 0] (by decide +kernel) rfl ⟨c1, trivial⟩ ?_
    refine sy_bk [(.aload_n 0, 0, 0, 0, 0), (.iload_n 1, 0, 0, 0, 0), (.iload_n 1, 0, 0, 0, 0), (.aload_n 0, 0, 0, 0, 0), (.getfield 35, 3, 6, 0, 0), (.isub, 0, 0, 0, 0)] (19, [some (.ref 0), some (.int cell), some (.int r), some (.int c)], [.int (cell - (σ.1 0 6)), .int cell, .ref 0], (sy_up σ.1 5 cell.toNatClampNeg 0, σ.2)) [] (by decide +kernel) rfl trivial ?_
    refine sy_callV mX3_join 0 [.int cell, .int (cell - (σ.1 0 6))] [] kX3_join jX3_54 (by decide +kernel) rfl rfl (Nat.le_of_ble_eq_true rfl) (Nat.le_of_ble_eq_true rfl) (by decide) rfl ?_
    exact k2 c1

set_option maxRecDepth 20000 in
theorem w_g_linkCell_22 {Q : Option Value → sy_S → Prop} {σ : sy_S} {cell : Int32} {r : Int32} {c : Int32}   (k1 : c ≤ 0 → sy_E shG mX3_linkCell (34, [some (.ref 0), some (.int cell), some (.int r), some (.int c)], [], σ) Q) (k2 : ¬ (c ≤ 0) → sy_E shG mX3_join (0, sy_ent [.ref 0, .int cell, .int (cell - 1)] 3, [], σ) (fun r9 σ9 => sy_E shG mX3_linkCell (34, [some (.ref 0), some (.int cell), some (.int r), some (.int c)], r9.toList ++ [], σ9) Q)) : sy_E shG mX3_linkCell (22, [some (.ref 0), some (.int cell), some (.int r), some (.int c)], [], σ) Q := by
  refine sy_bk [(.iload_n 3, 0, 0, 0, 0)] (23, [some (.ref 0), some (.int cell), some (.int r), some (.int c)], [.int c], σ) [] (by decide +kernel) rfl trivial ?_
  by_cases c1 : c ≤ 0
  · refine sy_bk [(.ifCond .le 11, 1, 34, 0, 0)] (34, [some (.ref 0), some (.int cell), some (.int r), some (.int c)], [], σ) [sy_cc .le c 0] (by decide +kernel) rfl ⟨c1, trivial⟩ ?_
    exact k1 c1
  · refine sy_bk [(.ifCond .le 11, 0, 34, 0, 0)] (26, [some (.ref 0), some (.int cell), some (.int r), some (.int c)], [], σ) [¬ sy_cc .le c 0] (by decide +kernel) rfl ⟨c1, trivial⟩ ?_
    refine sy_bk [(.aload_n 0, 0, 0, 0, 0), (.iload_n 1, 0, 0, 0, 0), (.iload_n 1, 0, 0, 0, 0), (.iconst 1, 0, 0, 1, 0), (.isub, 0, 0, 0, 0)] (31, [some (.ref 0), some (.int cell), some (.int r), some (.int c)], [.int (cell - 1), .int cell, .ref 0], σ) [] (by decide +kernel) rfl trivial ?_
    refine sy_callV mX3_join 0 [.int cell, .int (cell - 1)] [] kX3_join jX3_54 (by decide +kernel) rfl rfl (Nat.le_of_ble_eq_true rfl) (Nat.le_of_ble_eq_true rfl) (by decide) rfl ?_
    exact k2 c1

set_option maxRecDepth 20000 in
theorem w_g_linkCell_34 {Q : Option Value → sy_S → Prop} {σ : sy_S} {cell : Int32} {r : Int32} {c : Int32}   (k1 : (σ.1 0 6) ≤ (c + 1) → sy_E shG mX3_linkCell (52, [some (.ref 0), some (.int cell), some (.int r), none], [], σ) Q) (k2 : ¬ ((σ.1 0 6) ≤ (c + 1)) → sy_E shG mX3_join (0, sy_ent [.ref 0, .int cell, .int (cell + 1)] 3, [], σ) (fun r9 σ9 => sy_E shG mX3_linkCell (52, [some (.ref 0), some (.int cell), some (.int r), none], r9.toList ++ [], σ9) Q)) : sy_E shG mX3_linkCell (34, [some (.ref 0), some (.int cell), some (.int r), some (.int c)], [], σ) Q := by
  refine sy_bk [(.iload_n 3, 0, 0, 0, 0), (.iconst 1, 0, 0, 1, 0), (.iadd, 0, 0, 0, 0), (.aload_n 0, 0, 0, 0, 0), (.getfield 35, 3, 6, 0, 0)] (41, [some (.ref 0), some (.int cell), some (.int r), some (.int c)], [.int (σ.1 0 6), .int (c + 1)], σ) [] (by decide +kernel) rfl trivial ?_
  by_cases c1 : (σ.1 0 6) ≤ (c + 1)
  · refine sy_bk [(.if_icmp .ge 11, 1, 52, 0, 0)] (52, [some (.ref 0), some (.int cell), some (.int r), some (.int c)], [], σ) [sy_cc .ge (c + 1) (σ.1 0 6)] (by decide +kernel) rfl ⟨c1, trivial⟩ ?_
    refine sy_drop [some (.ref 0), some (.int cell), some (.int r), none] ⟨rfl, rfl, rfl, trivial⟩ ?_
    exact k1 c1
  · refine sy_bk [(.if_icmp .ge 11, 0, 52, 0, 0)] (44, [some (.ref 0), some (.int cell), some (.int r), some (.int c)], [], σ) [¬ sy_cc .ge (c + 1) (σ.1 0 6)] (by decide +kernel) rfl ⟨c1, trivial⟩ ?_
    refine sy_bk [(.aload_n 0, 0, 0, 0, 0), (.iload_n 1, 0, 0, 0, 0), (.iload_n 1, 0, 0, 0, 0), (.iconst 1, 0, 0, 1, 0), (.iadd, 0, 0, 0, 0)] (49, [some (.ref 0), some (.int cell), some (.int r), some (.int c)], [.int (cell + 1), .int cell, .ref 0], σ) [] (by decide +kernel) rfl trivial ?_
    refine sy_drop [some (.ref 0), some (.int cell), some (.int r), none] ⟨rfl, rfl, rfl, trivial⟩ ?_
    refine sy_callV mX3_join 0 [.int cell, .int (cell + 1)] [] kX3_join jX3_54 (by decide +kernel) rfl rfl (Nat.le_of_ble_eq_true rfl) (Nat.le_of_ble_eq_true rfl) (by decide) rfl ?_
    exact k2 c1

set_option maxRecDepth 20000 in
theorem w_g_linkCell_52 {Q : Option Value → sy_S → Prop} {σ : sy_S} {cell : Int32} {r : Int32}   (k1 : (σ.1 0 5) ≤ (r + 1) → Q none σ) (k2 : ¬ ((σ.1 0 5) ≤ (r + 1)) → sy_E shG mX3_join (0, sy_ent [.ref 0, .int cell, .int (cell + (σ.1 0 6))] 3, [], σ) (fun r9 σ9 => sy_E shG mX3_linkCell (73, [none, none, none, none], r9.toList ++ [], σ9) Q)) : sy_E shG mX3_linkCell (52, [some (.ref 0), some (.int cell), some (.int r), none], [], σ) Q := by
  refine sy_bk [(.iload_n 2, 0, 0, 0, 0), (.iconst 1, 0, 0, 1, 0), (.iadd, 0, 0, 0, 0), (.aload_n 0, 0, 0, 0, 0), (.getfield 31, 3, 5, 0, 0)] (59, [some (.ref 0), some (.int cell), some (.int r), none], [.int (σ.1 0 5), .int (r + 1)], σ) [] (by decide +kernel) rfl trivial ?_
  by_cases c1 : (σ.1 0 5) ≤ (r + 1)
  · refine sy_bk [(.if_icmp .ge 14, 1, 73, 0, 0)] (73, [some (.ref 0), some (.int cell), some (.int r), none], [], σ) [sy_cc .ge (r + 1) (σ.1 0 5)] (by decide +kernel) rfl ⟨c1, trivial⟩ ?_
    exact sy_retv rfl (by decide +kernel) (k1 c1)
  · refine sy_bk [(.if_icmp .ge 14, 0, 73, 0, 0)] (62, [some (.ref 0), some (.int cell), some (.int r), none], [], σ) [¬ sy_cc .ge (r + 1) (σ.1 0 5)] (by decide +kernel) rfl ⟨c1, trivial⟩ ?_
    refine sy_bk [(.aload_n 0, 0, 0, 0, 0), (.iload_n 1, 0, 0, 0, 0), (.iload_n 1, 0, 0, 0, 0), (.aload_n 0, 0, 0, 0, 0), (.getfield 35, 3, 6, 0, 0), (.iadd, 0, 0, 0, 0)] (70, [some (.ref 0), some (.int cell), some (.int r), none], [.int (cell + (σ.1 0 6)), .int cell, .ref 0], σ) [] (by decide +kernel) rfl trivial ?_
    refine sy_drop [none, none, none, none] trivial ?_
    refine sy_callV mX3_join 0 [.int cell, .int (cell + (σ.1 0 6))] [] kX3_join jX3_54 (by decide +kernel) rfl rfl (Nat.le_of_ble_eq_true rfl) (Nat.le_of_ble_eq_true rfl) (by decide) rfl ?_
    exact k2 c1

set_option maxRecDepth 20000 in
theorem w_g_linkCell_73 {Q : Option Value → sy_S → Prop} {σ : sy_S}    (k1 : Q none σ) : sy_E shG mX3_linkCell (73, [none, none, none, none], [], σ) Q := by
  exact sy_retv rfl (by decide +kernel) (k1)

set_option maxRecDepth 20000 in
theorem w_g_link_0 {Q : Option Value → sy_S → Prop} {σ : sy_S}    (k1 : sy_E shG mX3_link (7, [some (.ref 0), some (.int 0), none, none], [], (sy_up σ.1 0 7 0, σ.2)) Q) : sy_E shG mX3_link (0, sy_ent [.ref 0] 4, [], σ) Q := by
  show sy_E shG mX3_link (0, [some (.ref 0), none, none, none], [], σ) _
  refine sy_bk [(.aload_n 0, 0, 0, 0, 0), (.iconst 0, 0, 0, 0, 0), (.putfield 47, 3, 7, 0, 0), (.iconst 0, 0, 0, 0, 0), (.istore_n 1, 0, 0, 0, 0)] (7, [some (.ref 0), some (.int 0), none, none], [], (sy_up σ.1 0 7 0, σ.2)) [] (by decide +kernel) rfl trivial ?_
  exact k1

set_option maxRecDepth 20000 in
theorem w_g_link_7 {Q : Option Value → sy_S → Prop} {σ : sy_S} {r : Int32}   (k1 : (σ.1 0 5) ≤ r → Q none σ) (k2 : ¬ ((σ.1 0 5) ≤ r) → sy_E shG mX3_link (17, [some (.ref 0), some (.int r), some (.int 0), none], [], σ) Q) : sy_E shG mX3_link (7, [some (.ref 0), some (.int r), none, none], [], σ) Q := by
  refine sy_bk [(.iload_n 1, 0, 0, 0, 0), (.aload_n 0, 0, 0, 0, 0), (.getfield 31, 3, 5, 0, 0)] (12, [some (.ref 0), some (.int r), none, none], [.int (σ.1 0 5), .int r], σ) [] (by decide +kernel) rfl trivial ?_
  by_cases c1 : (σ.1 0 5) ≤ r
  · refine sy_bk [(.if_icmp .ge 80, 1, 92, 0, 0)] (92, [some (.ref 0), some (.int r), none, none], [], σ) [sy_cc .ge r (σ.1 0 5)] (by decide +kernel) rfl ⟨c1, trivial⟩ ?_
    exact sy_retv rfl (by decide +kernel) (k1 c1)
  · refine sy_bk [(.if_icmp .ge 80, 0, 92, 0, 0)] (15, [some (.ref 0), some (.int r), none, none], [], σ) [¬ sy_cc .ge r (σ.1 0 5)] (by decide +kernel) rfl ⟨c1, trivial⟩ ?_
    refine sy_bk [(.iconst 0, 0, 0, 0, 0), (.istore_n 2, 0, 0, 0, 0)] (17, [some (.ref 0), some (.int r), some (.int 0), none], [], σ) [] (by decide +kernel) rfl trivial ?_
    exact k2 c1

set_option maxRecDepth 20000 in
theorem w_g_link_17 {Q : Option Value → sy_S → Prop} {σ : sy_S} {r : Int32} {c : Int32}  (b1 : ¬ ((σ.1 0 6) ≤ c) → vp_in ((r * (σ.1 0 6)) + c) 16) (b2 : ¬ ((σ.1 0 6) ≤ c) → ¬ (¬ (σ.1 1 (((r * (σ.1 0 6)) + c).toNatClampNeg)) = 0) → vp_in (σ.1 0 7) 16) (k1 : (σ.1 0 6) ≤ c → sy_E shG mX3_link (7, [some (.ref 0), some (.int (r + 1)), none, none], [], σ) Q) (k2 : ¬ ((σ.1 0 6) ≤ c) → ¬ (σ.1 1 (((r * (σ.1 0 6)) + c).toNatClampNeg)) = 0 → sy_E shG mX3_linkCell (0, sy_ent [.ref 0, .int ((r * (σ.1 0 6)) + c), .int r, .int c] 4, [], (sy_up σ.1 3 (((r * (σ.1 0 6)) + c).toNatClampNeg) (σ.1 0 7), σ.2)) (fun r9 σ9 => sy_E shG mX3_link (80, [some (.ref 0), some (.int r), some (.int c), none], r9.toList ++ [], σ9) Q)) (k3 : ¬ ((σ.1 0 6) ≤ c) → ¬ (¬ (σ.1 1 (((r * (σ.1 0 6)) + c).toNatClampNeg)) = 0) → sy_E shG mX3_linkCell (0, sy_ent [.ref 0, .int ((r * (σ.1 0 6)) + c), .int r, .int c] 4, [], (sy_up (sy_up (sy_up σ.1 3 (((r * (σ.1 0 6)) + c).toNatClampNeg) (σ.1 0 7)) 2 ((σ.1 0 7).toNatClampNeg) ((r * (σ.1 0 6)) + c)) 0 7 ((σ.1 0 7) + 1), σ.2)) (fun r9 σ9 => sy_E shG mX3_link (80, [some (.ref 0), some (.int r), some (.int c), none], r9.toList ++ [], σ9) Q)) : sy_E shG mX3_link (17, [some (.ref 0), some (.int r), some (.int c), none], [], σ) Q := by
  refine sy_bk [(.iload_n 2, 0, 0, 0, 0), (.aload_n 0, 0, 0, 0, 0), (.getfield 35, 3, 6, 0, 0)] (22, [some (.ref 0), some (.int r), some (.int c), none], [.int (σ.1 0 6), .int c], σ) [] (by decide +kernel) rfl trivial ?_
  by_cases c1 : (σ.1 0 6) ≤ c
  · refine sy_bk [(.if_icmp .ge 64, 1, 86, 0, 0)] (86, [some (.ref 0), some (.int r), some (.int c), none], [], σ) [sy_cc .ge c (σ.1 0 6)] (by decide +kernel) rfl ⟨c1, trivial⟩ ?_
    refine sy_bk [(.iinc 1 1, 0, 0, 1, 0), (.goto (-82), 0, 7, 0, 0)] (7, [some (.ref 0), some (.int (r + 1)), some (.int c), none], [], σ) [] (by decide +kernel) rfl trivial ?_
    refine sy_drop [some (.ref 0), some (.int (r + 1)), none, none] ⟨rfl, rfl, trivial⟩ ?_
    exact k1 c1
  · refine sy_bk [(.if_icmp .ge 64, 0, 86, 0, 0)] (25, [some (.ref 0), some (.int r), some (.int c), none], [], σ) [¬ sy_cc .ge c (σ.1 0 6)] (by decide +kernel) rfl ⟨c1, trivial⟩ ?_
    refine sy_bk [(.iload_n 1, 0, 0, 0, 0), (.aload_n 0, 0, 0, 0, 0), (.getfield 35, 3, 6, 0, 0), (.imul, 0, 0, 0, 0), (.iload_n 2, 0, 0, 0, 0), (.iadd, 0, 0, 0, 0), (.istore_n 3, 0, 0, 0, 0), (.aload_n 0, 0, 0, 0, 0), (.getfield 18, 3, 2, 0, 0), (.iload_n 3, 0, 0, 0, 0), (.aload_n 0, 0, 0, 0, 0), (.getfield 47, 3, 7, 0, 0), (.iastore, 0, 0, 0, 0), (.aload_n 0, 0, 0, 0, 0), (.getfield 9, 3, 0, 0, 0), (.iload_n 3, 0, 0, 0, 0), (.iaload, 0, 0, 0, 0)] (50, [some (.ref 0), some (.int r), some (.int c), some (.int ((r * (σ.1 0 6)) + c))], [.int (σ.1 1 (((r * (σ.1 0 6)) + c).toNatClampNeg))], (sy_up σ.1 3 (((r * (σ.1 0 6)) + c).toNatClampNeg) (σ.1 0 7), σ.2)) [sy_okA shG 0 3 ((r * (σ.1 0 6)) + c), sy_okA shG 0 1 ((r * (σ.1 0 6)) + c)] (by decide +kernel) rfl ⟨⟨16, _, rfl, (b1 c1)⟩, ⟨16, _, rfl, (b1 c1)⟩, trivial⟩ ?_
    by_cases c2 : ¬ (σ.1 1 (((r * (σ.1 0 6)) + c).toNatClampNeg)) = 0
    · refine sy_bk [(.ifCond .ne 23, 1, 73, 0, 0)] (73, [some (.ref 0), some (.int r), some (.int c), some (.int ((r * (σ.1 0 6)) + c))], [], (sy_up σ.1 3 (((r * (σ.1 0 6)) + c).toNatClampNeg) (σ.1 0 7), σ.2)) [sy_cc .ne (σ.1 1 (((r * (σ.1 0 6)) + c).toNatClampNeg)) 0] (by decide +kernel) rfl ⟨c2, trivial⟩ ?_
      refine sy_bk [(.aload_n 0, 0, 0, 0, 0), (.iload_n 3, 0, 0, 0, 0), (.iload_n 1, 0, 0, 0, 0), (.iload_n 2, 0, 0, 0, 0)] (77, [some (.ref 0), some (.int r), some (.int c), some (.int ((r * (σ.1 0 6)) + c))], [.int c, .int r, .int ((r * (σ.1 0 6)) + c), .ref 0], (sy_up σ.1 3 (((r * (σ.1 0 6)) + c).toNatClampNeg) (σ.1 0 7), σ.2)) [] (by decide +kernel) rfl trivial ?_
      refine sy_drop [some (.ref 0), some (.int r), some (.int c), none] ⟨rfl, rfl, rfl, trivial⟩ ?_
      refine sy_callV mX3_linkCell 0 [.int ((r * (σ.1 0 6)) + c), .int r, .int c] [] kX3_linkCell jX3_50 (by decide +kernel) rfl rfl (Nat.le_of_ble_eq_true rfl) (Nat.le_of_ble_eq_true rfl) (by decide) rfl ?_
      exact k2 c1 c2
    · refine sy_bk [(.ifCond .ne 23, 0, 73, 0, 0)] (53, [some (.ref 0), some (.int r), some (.int c), some (.int ((r * (σ.1 0 6)) + c))], [], (sy_up σ.1 3 (((r * (σ.1 0 6)) + c).toNatClampNeg) (σ.1 0 7), σ.2)) [¬ sy_cc .ne (σ.1 1 (((r * (σ.1 0 6)) + c).toNatClampNeg)) 0] (by decide +kernel) rfl ⟨c2, trivial⟩ ?_
      refine sy_bk [(.aload_n 0, 0, 0, 0, 0), (.getfield 15, 3, 1, 0, 0), (.aload_n 0, 0, 0, 0, 0), (.getfield 47, 3, 7, 0, 0), (.iload_n 3, 0, 0, 0, 0), (.iastore, 0, 0, 0, 0), (.aload_n 0, 0, 0, 0, 0), (.dup, 0, 0, 0, 0), (.getfield 47, 3, 7, 0, 0), (.iconst 1, 0, 0, 1, 0), (.iadd, 0, 0, 0, 0), (.putfield 47, 3, 7, 0, 0), (.aload_n 0, 0, 0, 0, 0), (.iload_n 3, 0, 0, 0, 0), (.iload_n 1, 0, 0, 0, 0), (.iload_n 2, 0, 0, 0, 0)] (77, [some (.ref 0), some (.int r), some (.int c), some (.int ((r * (σ.1 0 6)) + c))], [.int c, .int r, .int ((r * (σ.1 0 6)) + c), .ref 0], (sy_up (sy_up (sy_up σ.1 3 (((r * (σ.1 0 6)) + c).toNatClampNeg) (σ.1 0 7)) 2 ((σ.1 0 7).toNatClampNeg) ((r * (σ.1 0 6)) + c)) 0 7 ((σ.1 0 7) + 1), σ.2)) [sy_okA shG 0 2 (σ.1 0 7)] (by decide +kernel) rfl ⟨⟨16, _, rfl, (b2 c1 c2)⟩, trivial⟩ ?_
      refine sy_drop [some (.ref 0), some (.int r), some (.int c), none] ⟨rfl, rfl, rfl, trivial⟩ ?_
      refine sy_callV mX3_linkCell 0 [.int ((r * (σ.1 0 6)) + c), .int r, .int c] [] kX3_linkCell jX3_50 (by decide +kernel) rfl rfl (Nat.le_of_ble_eq_true rfl) (Nat.le_of_ble_eq_true rfl) (by decide) rfl ?_
      exact k3 c1 c2

set_option maxRecDepth 20000 in
theorem w_g_link_80 {Q : Option Value → sy_S → Prop} {σ : sy_S} {r : Int32} {c : Int32}   (k1 : sy_E shG mX3_link (17, [some (.ref 0), some (.int r), some (.int (c + 1)), none], [], σ) Q) : sy_E shG mX3_link (80, [some (.ref 0), some (.int r), some (.int c), none], [], σ) Q := by
  refine sy_bk [(.iinc 2 1, 0, 0, 1, 0), (.goto (-66), 0, 17, 0, 0)] (17, [some (.ref 0), some (.int r), some (.int (c + 1)), none], [], σ) [] (by decide +kernel) rfl trivial ?_
  exact k1

set_option maxRecDepth 20000 in
theorem w_g_shape_0 {Q : Option Value → sy_S → Prop} {σ : sy_S} {r : Int32} {c : Int32}   (k1 : sy_E shG mJ7_fill_53178 (0, sy_ent [.ref 1, .int 0] 4, [], (sy_up (sy_up σ.1 0 5 r) 0 6 c, σ.2)) (fun r9 σ9 => sy_E shG mX3_shape (18, [some (.ref 0), none, none], r9.toList ++ [], σ9) Q)) : sy_E shG mX3_shape (0, sy_ent [.ref 0, .int r, .int c] 3, [], σ) Q := by
  show sy_E shG mX3_shape (0, [some (.ref 0), some (.int r), some (.int c)], [], σ) _
  refine sy_bk [(.aload_n 0, 0, 0, 0, 0), (.iload_n 1, 0, 0, 0, 0), (.putfield 31, 3, 5, 0, 0), (.aload_n 0, 0, 0, 0, 0), (.iload_n 2, 0, 0, 0, 0), (.putfield 35, 3, 6, 0, 0), (.aload_n 0, 0, 0, 0, 0), (.getfield 9, 3, 0, 0, 0), (.iconst 0, 0, 0, 0, 0)] (15, [some (.ref 0), some (.int r), some (.int c)], [.int 0, .ref 1], (sy_up (sy_up σ.1 0 5 r) 0 6 c, σ.2)) [] (by decide +kernel) rfl trivial ?_
  refine sy_drop [some (.ref 0), none, none] ⟨rfl, trivial⟩ ?_
  refine sy_callS mJ7_fill_53178 [.ref 1, .int 0] [] kJ7_fill_53178 jX3_38 (by decide +kernel) rfl rfl (Nat.le_of_ble_eq_true rfl) (Nat.le_of_ble_eq_true rfl) (by decide) ?_
  exact k1

set_option maxRecDepth 20000 in
theorem w_g_shape_18 {Q : Option Value → sy_S → Prop} {σ : sy_S}    (k1 : sy_E shG mX3_link (0, sy_ent [.ref 0] 4, [], σ) (fun r9 σ9 => sy_E shG mX3_shape (22, [none, none, none], r9.toList ++ [], σ9) Q)) : sy_E shG mX3_shape (18, [some (.ref 0), none, none], [], σ) Q := by
  refine sy_bk [(.aload_n 0, 0, 0, 0, 0)] (19, [some (.ref 0), none, none], [.ref 0], σ) [] (by decide +kernel) rfl trivial ?_
  refine sy_drop [none, none, none] trivial ?_
  refine sy_callV mX3_link 0 [] [] kX3_link jX3_44 (by decide +kernel) rfl rfl (Nat.le_of_ble_eq_true rfl) (Nat.le_of_ble_eq_true rfl) (by decide) rfl ?_
  exact k1

set_option maxRecDepth 20000 in
theorem w_g_shape_22 {Q : Option Value → sy_S → Prop} {σ : sy_S}    (k1 : Q none σ) : sy_E shG mX3_shape (22, [none, none, none], [], σ) Q := by
  exact sy_retv rfl (by decide +kernel) (k1)

set_option maxRecDepth 20000 in
theorem w_g_fill_0 {Q : Option Value → sy_S → Prop} {σ : sy_S} {k : Nat} {n : Nat} {v : Int32} (hk : shG[k]? = some (0, n, []))  (k1 : sy_E shG mJ7_fill_53178 (5, [some (.ref k), some (.int v), some (.int 0), some (.int (sy_len shG k))], [], σ) Q) : sy_E shG mJ7_fill_53178 (0, sy_ent [.ref k, .int v] 4, [], σ) Q := by
  show sy_E shG mJ7_fill_53178 (0, [some (.ref k), some (.int v), none, none], [], σ) _
  refine sy_bk [(.iconst 0, 0, 0, 0, 0), (.istore_n 2, 0, 0, 0, 0), (.aload_n 0, 0, 0, 0, 0), (.arraylength, 0, 0, 0, 0), (.istore_n 3, 0, 0, 0, 0)] (5, [some (.ref k), some (.int v), some (.int 0), some (.int (sy_len shG k))], [], σ) [sy_okL shG k] (by decide +kernel) rfl ⟨⟨0, _, _, hk, by decide⟩, trivial⟩ ?_
  exact k1

set_option maxRecDepth 20000 in
theorem w_g_fill_5 {Q : Option Value → sy_S → Prop} {σ : sy_S} {k : Nat} {n : Nat} {v : Int32} {i : Int32} {len : Int32} (hk : shG[k]? = some (0, n, [])) (b1 : ¬ (len ≤ i) → vp_in i n) (k1 : len ≤ i → Q none σ) (k2 : ¬ (len ≤ i) → sy_E shG mJ7_fill_53178 (5, [some (.ref k), some (.int v), some (.int (i + 1)), some (.int len)], [], (sy_up σ.1 k i.toNatClampNeg v, σ.2)) Q) : sy_E shG mJ7_fill_53178 (5, [some (.ref k), some (.int v), some (.int i), some (.int len)], [], σ) Q := by
  refine sy_bk [(.iload_n 2, 0, 0, 0, 0), (.iload_n 3, 0, 0, 0, 0)] (7, [some (.ref k), some (.int v), some (.int i), some (.int len)], [.int len, .int i], σ) [] (by decide +kernel) rfl trivial ?_
  by_cases c1 : len ≤ i
  · refine sy_bk [(.if_icmp .ge 13, 1, 20, 0, 0)] (20, [some (.ref k), some (.int v), some (.int i), some (.int len)], [], σ) [sy_cc .ge i len] (by decide +kernel) rfl ⟨c1, trivial⟩ ?_
    exact sy_retv rfl (by decide +kernel) (k1 c1)
  · refine sy_bk [(.if_icmp .ge 13, 0, 20, 0, 0)] (10, [some (.ref k), some (.int v), some (.int i), some (.int len)], [], σ) [¬ sy_cc .ge i len] (by decide +kernel) rfl ⟨c1, trivial⟩ ?_
    refine sy_bk [(.aload_n 0, 0, 0, 0, 0), (.iload_n 2, 0, 0, 0, 0), (.iload_n 1, 0, 0, 0, 0), (.iastore, 0, 0, 0, 0), (.iinc 2 1, 0, 0, 1, 0), (.goto (-12), 0, 5, 0, 0)] (5, [some (.ref k), some (.int v), some (.int (i + 1)), some (.int len)], [], (sy_up σ.1 k i.toNatClampNeg v, σ.2)) [sy_okA shG 0 k i] (by decide +kernel) rfl ⟨⟨n, _, hk, (b1 c1)⟩, trivial⟩ ?_
    exact k2 c1

set_option maxRecDepth 20000 in
theorem w_x_build_0 {Q : Option Value → sy_S → Prop} {σ : sy_S} {cell : Int32} {is : Int32}  (b1 : is = 0 → vp_in cell 16) (b2 : ¬ (is = 0) → vp_in cell 16) (k1 : is = 0 → sy_E shX mX3_link (0, sy_ent [.ref 0] 4, [], (sy_up σ.1 1 cell.toNatClampNeg 0, σ.2)) (fun r9 σ9 => sy_E shX mX3_build (19, [none, none, none], r9.toList ++ [], σ9) Q)) (k2 : ¬ (is = 0) → sy_E shX mX3_link (0, sy_ent [.ref 0] 4, [], (sy_up σ.1 1 cell.toNatClampNeg 1, σ.2)) (fun r9 σ9 => sy_E shX mX3_build (19, [none, none, none], r9.toList ++ [], σ9) Q)) : sy_E shX mX3_build (0, sy_ent [.ref 0, .int cell, .int is] 3, [], σ) Q := by
  show sy_E shX mX3_build (0, [some (.ref 0), some (.int cell), some (.int is)], [], σ) _
  refine sy_bk [(.aload_n 0, 0, 0, 0, 0), (.getfield 9, 3, 0, 0, 0), (.iload_n 1, 0, 0, 0, 0), (.iload_n 2, 0, 0, 0, 0)] (6, [some (.ref 0), some (.int cell), some (.int is)], [.int is, .int cell, .ref 1], σ) [] (by decide +kernel) rfl trivial ?_
  by_cases c1 : is = 0
  · refine sy_bk [(.ifCond .eq 7, 1, 13, 0, 0)] (13, [some (.ref 0), some (.int cell), some (.int is)], [.int cell, .ref 1], σ) [sy_cc .eq is 0] (by decide +kernel) rfl ⟨c1, trivial⟩ ?_
    refine sy_bk [(.iconst 0, 0, 0, 0, 0), (.iastore, 0, 0, 0, 0), (.aload_n 0, 0, 0, 0, 0)] (16, [some (.ref 0), some (.int cell), some (.int is)], [.ref 0], (sy_up σ.1 1 cell.toNatClampNeg 0, σ.2)) [sy_okA shX 0 1 cell] (by decide +kernel) rfl ⟨⟨16, _, rfl, (b1 c1)⟩, trivial⟩ ?_
    refine sy_drop [none, none, none] trivial ?_
    refine sy_callV mX3_link 0 [] [] kX3_link jX3_44 (by decide +kernel) rfl rfl (Nat.le_of_ble_eq_true rfl) (Nat.le_of_ble_eq_true rfl) (by decide) rfl ?_
    exact k1 c1
  · refine sy_bk [(.ifCond .eq 7, 0, 13, 0, 0)] (9, [some (.ref 0), some (.int cell), some (.int is)], [.int cell, .ref 1], σ) [¬ sy_cc .eq is 0] (by decide +kernel) rfl ⟨c1, trivial⟩ ?_
    refine sy_bk [(.iconst 1, 0, 0, 1, 0), (.goto 4, 0, 14, 0, 0), (.iastore, 0, 0, 0, 0), (.aload_n 0, 0, 0, 0, 0)] (16, [some (.ref 0), some (.int cell), some (.int is)], [.ref 0], (sy_up σ.1 1 cell.toNatClampNeg 1, σ.2)) [sy_okA shX 0 1 cell] (by decide +kernel) rfl ⟨⟨16, _, rfl, (b2 c1)⟩, trivial⟩ ?_
    refine sy_drop [none, none, none] trivial ?_
    refine sy_callV mX3_link 0 [] [] kX3_link jX3_44 (by decide +kernel) rfl rfl (Nat.le_of_ble_eq_true rfl) (Nat.le_of_ble_eq_true rfl) (by decide) rfl ?_
    exact k2 c1

set_option maxRecDepth 20000 in
theorem w_x_build_19 {Q : Option Value → sy_S → Prop} {σ : sy_S}    (k1 : Q none σ) : sy_E shX mX3_build (19, [none, none, none], [], σ) Q := by
  exact sy_retv rfl (by decide +kernel) (k1)
