/-! walks of the model's methods (by program: wip/whole/gen/p71.py) -/
set_option maxRecDepth 20000 in
theorem w_M_laysNought_0 {Q : Option Value → sy_S → Prop} {σ : sy_S}    (k1 : sy_E shM mX12_laysNought (2, [some (.ref 0), some (.int 0), none], [], σ) Q) : sy_E shM mX12_laysNought (0, sy_ent [.ref 0] 3, [], σ) Q := by
  show sy_E shM mX12_laysNought (0, [some (.ref 0), none, none], [], σ) _
  refine sy_bk [(.iconst 0, 0, 0, 0, 0), (.istore_n 1, 0, 0, 0, 0)] (2, [some (.ref 0), some (.int 0), none], [], σ) [] (by decide +kernel) rfl trivial ?_
  exact k1

set_option maxRecDepth 20000 in
theorem w_M_laysNought_2 {Q : Option Value → sy_S → Prop} {σ : sy_S} {l1 : Int32}  (b1 : ¬ (16 ≤ l1) → ((σ.1 0 0) * (σ.1 0 1)) ≤ l1 → vp_in l1 16) (b2 : ¬ (16 ≤ l1) → ¬ (((σ.1 0 0) * (σ.1 0 1)) ≤ l1) → vp_in l1 16) (k1 : 16 ≤ l1 → sy_E shM mX12_settles (0, sy_ent [.ref 0, .ref 17] 3, [], σ) (fun r9 σ9 => sy_E shM mX12_laysNought (51, [some (.ref 0), none, none], r9.toList ++ [], σ9) Q)) (k2 : ¬ (16 ≤ l1) → ((σ.1 0 0) * (σ.1 0 1)) ≤ l1 → sy_E shM mX12_laysNought (2, [some (.ref 0), some (.int (l1 + 1)), none], [], (sy_up σ.1 17 l1.toNatClampNeg 0, σ.2)) Q) (k3 : ¬ (16 ≤ l1) → ¬ (((σ.1 0 0) * (σ.1 0 1)) ≤ l1) → ¬ (σ.1 1 l1.toNatClampNeg) = 0 → sy_E shM mX12_laysNought (2, [some (.ref 0), some (.int (l1 + 1)), none], [], (sy_up σ.1 17 l1.toNatClampNeg 0, σ.2)) Q) (k4 : ¬ (16 ≤ l1) → ¬ (((σ.1 0 0) * (σ.1 0 1)) ≤ l1) → ¬ (¬ (σ.1 1 l1.toNatClampNeg) = 0) → sy_E shM mX12_laysNought (2, [some (.ref 0), some (.int (l1 + 1)), none], [], (sy_up σ.1 17 l1.toNatClampNeg 6, σ.2)) Q) : sy_E shM mX12_laysNought (2, [some (.ref 0), some (.int l1), none], [], σ) Q := by
  refine sy_bk [(.iload_n 1, 0, 0, 0, 0), (.bipush 16, 0, 0, 16, 0)] (5, [some (.ref 0), some (.int l1), none], [.int 16, .int l1], σ) [] (by decide +kernel) rfl trivial ?_
  by_cases c1 : 16 ≤ l1
  · refine sy_bk [(.if_icmp .ge 38, 1, 43, 0, 0)] (43, [some (.ref 0), some (.int l1), none], [], σ) [sy_cc .ge l1 16] (by decide +kernel) rfl ⟨c1, trivial⟩ ?_
    refine sy_bk [(.aload_n 0, 0, 0, 0, 0), (.aload_n 0, 0, 0, 0, 0), (.getfield 68, 12, 28, 0, 0)] (48, [some (.ref 0), some (.int l1), none], [.ref 17, .ref 0], σ) [] (by decide +kernel) rfl trivial ?_
    refine sy_drop [some (.ref 0), none, none] ⟨rfl, trivial⟩ ?_
    refine sy_callV mX12_settles 0 [.ref 17] [] kX12_settles jX12_163 (by decide +kernel) rfl rfl (Nat.le_of_ble_eq_true rfl) (Nat.le_of_ble_eq_true rfl) (by decide) rfl ?_
    exact k1 c1
  · refine sy_bk [(.if_icmp .ge 38, 0, 43, 0, 0)] (8, [some (.ref 0), some (.int l1), none], [], σ) [¬ sy_cc .ge l1 16] (by decide +kernel) rfl ⟨c1, trivial⟩ ?_
    refine sy_bk [(.aload_n 0, 0, 0, 0, 0), (.getfield 68, 12, 28, 0, 0), (.iload_n 1, 0, 0, 0, 0), (.iload_n 1, 0, 0, 0, 0), (.aload_n 0, 0, 0, 0, 0)] (15, [some (.ref 0), some (.int l1), none], [.ref 0, .int l1, .int l1, .ref 17], σ) [] (by decide +kernel) rfl trivial ?_
    refine sy_callV mX12_cells 0 [] [.int l1, .int l1, .ref 17] kX12_cells jX12_105 (by decide +kernel) rfl rfl (Nat.le_of_ble_eq_true rfl) (Nat.le_of_ble_eq_true rfl) (by decide) rfl ?_
    refine w_m_cells (σ := σ) ?_
    show sy_E shM mX12_laysNought (18, [some (.ref 0), some (.int l1), none], [.int ((σ.1 0 0) * (σ.1 0 1)), .int l1, .int l1, .ref 17], σ) _
    by_cases c2 : ((σ.1 0 0) * (σ.1 0 1)) ≤ l1
    · refine sy_bk [(.if_icmp .ge 17, 1, 35, 0, 0)] (35, [some (.ref 0), some (.int l1), none], [.int l1, .ref 17], σ) [sy_cc .ge l1 ((σ.1 0 0) * (σ.1 0 1))] (by decide +kernel) rfl ⟨c2, trivial⟩ ?_
      refine sy_bk [(.iconst 0, 0, 0, 0, 0), (.iastore, 0, 0, 0, 0), (.iinc 1 1, 0, 0, 1, 0), (.goto (-38), 0, 2, 0, 0)] (2, [some (.ref 0), some (.int (l1 + 1)), none], [], (sy_up σ.1 17 l1.toNatClampNeg 0, σ.2)) [sy_okA shM 0 17 l1] (by decide +kernel) rfl ⟨⟨16, _, rfl, (b1 c1 c2)⟩, trivial⟩ ?_
      exact k2 c1 c2
    · refine sy_bk [(.if_icmp .ge 17, 0, 35, 0, 0)] (21, [some (.ref 0), some (.int l1), none], [.int l1, .ref 17], σ) [¬ sy_cc .ge l1 ((σ.1 0 0) * (σ.1 0 1))] (by decide +kernel) rfl ⟨c2, trivial⟩ ?_
      refine sy_bk [(.aload_n 0, 0, 0, 0, 0), (.getfield 18, 12, 2, 0, 0), (.iload_n 1, 0, 0, 0, 0), (.baload, 0, 0, 0, 0)] (27, [some (.ref 0), some (.int l1), none], [.int (σ.1 1 l1.toNatClampNeg), .int l1, .ref 17], σ) [sy_okA shM 1 1 l1] (by decide +kernel) rfl ⟨⟨16, _, rfl, (b2 c1 c2)⟩, trivial⟩ ?_
      by_cases c3 : ¬ (σ.1 1 l1.toNatClampNeg) = 0
      · refine sy_bk [(.ifCond .ne 8, 1, 35, 0, 0)] (35, [some (.ref 0), some (.int l1), none], [.int l1, .ref 17], σ) [sy_cc .ne (σ.1 1 l1.toNatClampNeg) 0] (by decide +kernel) rfl ⟨c3, trivial⟩ ?_
        refine sy_bk [(.iconst 0, 0, 0, 0, 0), (.iastore, 0, 0, 0, 0), (.iinc 1 1, 0, 0, 1, 0), (.goto (-38), 0, 2, 0, 0)] (2, [some (.ref 0), some (.int (l1 + 1)), none], [], (sy_up σ.1 17 l1.toNatClampNeg 0, σ.2)) [sy_okA shM 0 17 l1] (by decide +kernel) rfl ⟨⟨16, _, rfl, (b2 c1 c2)⟩, trivial⟩ ?_
        exact k3 c1 c2 c3
      · refine sy_bk [(.ifCond .ne 8, 0, 35, 0, 0)] (30, [some (.ref 0), some (.int l1), none], [.int l1, .ref 17], σ) [¬ sy_cc .ne (σ.1 1 l1.toNatClampNeg) 0] (by decide +kernel) rfl ⟨c3, trivial⟩ ?_
        refine sy_bk [(.bipush 6, 0, 0, 6, 0), (.goto 4, 0, 36, 0, 0), (.iastore, 0, 0, 0, 0), (.iinc 1 1, 0, 0, 1, 0), (.goto (-38), 0, 2, 0, 0)] (2, [some (.ref 0), some (.int (l1 + 1)), none], [], (sy_up σ.1 17 l1.toNatClampNeg 6, σ.2)) [sy_okA shM 0 17 l1] (by decide +kernel) rfl ⟨⟨16, _, rfl, (b2 c1 c2)⟩, trivial⟩ ?_
        exact k4 c1 c2 c3

set_option maxRecDepth 20000 in
theorem w_M_laysNought_51 {Q : Option Value → sy_S → Prop} {σ : sy_S} {v : Int32}   (k1 : sy_E shM mX12_laysNought (54, [some (.ref 0), none, some (.int 0)], [], σ) Q) : sy_E shM mX12_laysNought (51, [some (.ref 0), none, none], [.int v], σ) Q := by
  refine sy_bk [(.istore_n 1, 0, 0, 0, 0), (.iconst 0, 0, 0, 0, 0), (.istore_n 2, 0, 0, 0, 0)] (54, [some (.ref 0), some (.int v), some (.int 0)], [], σ) [] (by decide +kernel) rfl trivial ?_
  refine sy_drop [some (.ref 0), none, some (.int 0)] ⟨rfl, rfl, trivial⟩ ?_
  exact k1

set_option maxRecDepth 20000 in
theorem w_M_laysNought_54 {Q : Option Value → sy_S → Prop} {σ : sy_S} {l2 : Int32}  (b1 : ¬ (16 ≤ l2) → ((σ.1 0 0) * (σ.1 0 1)) ≤ l2 → vp_in l2 16) (b2 : ¬ (16 ≤ l2) → ¬ (((σ.1 0 0) * (σ.1 0 1)) ≤ l2) → vp_in l2 16) (k1 : 16 ≤ l2 → sy_E shM mX12_settles (0, sy_ent [.ref 0, .ref 18] 3, [], σ) (fun r9 σ9 => sy_E shM mX12_laysNought (122, [none, none, none], r9.toList ++ [], σ9) Q)) (k2 : ¬ (16 ≤ l2) → ((σ.1 0 0) * (σ.1 0 1)) ≤ l2 → sy_E shM mX12_laysNought (54, [some (.ref 0), none, some (.int (l2 + 1))], [], (sy_up (sy_up σ.1 17 l2.toNatClampNeg (0 - (σ.1 17 l2.toNatClampNeg))) 18 l2.toNatClampNeg ((sy_up σ.1 17 l2.toNatClampNeg (0 - (σ.1 17 l2.toNatClampNeg))) 17 l2.toNatClampNeg), σ.2)) Q) (k3 : ¬ (16 ≤ l2) → ¬ (((σ.1 0 0) * (σ.1 0 1)) ≤ l2) → ¬ (σ.1 1 l2.toNatClampNeg) = 0 → sy_E shM mX12_laysNought (54, [some (.ref 0), none, some (.int (l2 + 1))], [], (sy_up (sy_up σ.1 17 l2.toNatClampNeg (0 - (σ.1 17 l2.toNatClampNeg))) 18 l2.toNatClampNeg ((sy_up σ.1 17 l2.toNatClampNeg (0 - (σ.1 17 l2.toNatClampNeg))) 17 l2.toNatClampNeg), σ.2)) Q) (k4 : ¬ (16 ≤ l2) → ¬ (((σ.1 0 0) * (σ.1 0 1)) ≤ l2) → ¬ (¬ (σ.1 1 l2.toNatClampNeg) = 0) → sy_E shM mX12_laysNought (54, [some (.ref 0), none, some (.int (l2 + 1))], [], (sy_up (sy_up σ.1 17 l2.toNatClampNeg (6 - (σ.1 17 l2.toNatClampNeg))) 18 l2.toNatClampNeg ((sy_up σ.1 17 l2.toNatClampNeg (6 - (σ.1 17 l2.toNatClampNeg))) 17 l2.toNatClampNeg), σ.2)) Q) : sy_E shM mX12_laysNought (54, [some (.ref 0), none, some (.int l2)], [], σ) Q := by
  refine sy_bk [(.iload_n 2, 0, 0, 0, 0), (.bipush 16, 0, 0, 16, 0)] (57, [some (.ref 0), none, some (.int l2)], [.int 16, .int l2], σ) [] (by decide +kernel) rfl trivial ?_
  by_cases c1 : 16 ≤ l2
  · refine sy_bk [(.if_icmp .ge 57, 1, 114, 0, 0)] (114, [some (.ref 0), none, some (.int l2)], [], σ) [sy_cc .ge l2 16] (by decide +kernel) rfl ⟨c1, trivial⟩ ?_
    refine sy_bk [(.aload_n 0, 0, 0, 0, 0), (.aload_n 0, 0, 0, 0, 0), (.getfield 71, 12, 29, 0, 0)] (119, [some (.ref 0), none, some (.int l2)], [.ref 18, .ref 0], σ) [] (by decide +kernel) rfl trivial ?_
    refine sy_drop [none, none, none] trivial ?_
    refine sy_callV mX12_settles 0 [.ref 18] [] kX12_settles jX12_163 (by decide +kernel) rfl rfl (Nat.le_of_ble_eq_true rfl) (Nat.le_of_ble_eq_true rfl) (by decide) rfl ?_
    exact k1 c1
  · refine sy_bk [(.if_icmp .ge 57, 0, 114, 0, 0)] (60, [some (.ref 0), none, some (.int l2)], [], σ) [¬ sy_cc .ge l2 16] (by decide +kernel) rfl ⟨c1, trivial⟩ ?_
    refine sy_bk [(.aload_n 0, 0, 0, 0, 0), (.getfield 68, 12, 28, 0, 0), (.iload_n 2, 0, 0, 0, 0), (.iload_n 2, 0, 0, 0, 0), (.aload_n 0, 0, 0, 0, 0)] (67, [some (.ref 0), none, some (.int l2)], [.ref 0, .int l2, .int l2, .ref 17], σ) [] (by decide +kernel) rfl trivial ?_
    refine sy_callV mX12_cells 0 [] [.int l2, .int l2, .ref 17] kX12_cells jX12_105 (by decide +kernel) rfl rfl (Nat.le_of_ble_eq_true rfl) (Nat.le_of_ble_eq_true rfl) (by decide) rfl ?_
    refine w_m_cells (σ := σ) ?_
    show sy_E shM mX12_laysNought (70, [some (.ref 0), none, some (.int l2)], [.int ((σ.1 0 0) * (σ.1 0 1)), .int l2, .int l2, .ref 17], σ) _
    by_cases c2 : ((σ.1 0 0) * (σ.1 0 1)) ≤ l2
    · refine sy_bk [(.if_icmp .ge 17, 1, 87, 0, 0)] (87, [some (.ref 0), none, some (.int l2)], [.int l2, .ref 17], σ) [sy_cc .ge l2 ((σ.1 0 0) * (σ.1 0 1))] (by decide +kernel) rfl ⟨c2, trivial⟩ ?_
      refine sy_bk [(.iconst 0, 0, 0, 0, 0), (.aload_n 0, 0, 0, 0, 0), (.getfield 68, 12, 28, 0, 0), (.iload_n 2, 0, 0, 0, 0), (.iaload, 0, 0, 0, 0), (.isub, 0, 0, 0, 0), (.iastore, 0, 0, 0, 0), (.aload_n 0, 0, 0, 0, 0), (.getfield 71, 12, 29, 0, 0), (.iload_n 2, 0, 0, 0, 0), (.aload_n 0, 0, 0, 0, 0), (.getfield 68, 12, 28, 0, 0), (.iload_n 2, 0, 0, 0, 0), (.iaload, 0, 0, 0, 0), (.iastore, 0, 0, 0, 0), (.iinc 2 1, 0, 0, 1, 0), (.goto (-57), 0, 54, 0, 0)] (54, [some (.ref 0), none, some (.int (l2 + 1))], [], (sy_up (sy_up σ.1 17 l2.toNatClampNeg (0 - (σ.1 17 l2.toNatClampNeg))) 18 l2.toNatClampNeg ((sy_up σ.1 17 l2.toNatClampNeg (0 - (σ.1 17 l2.toNatClampNeg))) 17 l2.toNatClampNeg), σ.2)) [sy_okA shM 0 17 l2, sy_okA shM 0 17 l2, sy_okA shM 0 17 l2, sy_okA shM 0 18 l2] (by decide +kernel) rfl ⟨⟨16, _, rfl, (b1 c1 c2)⟩, ⟨16, _, rfl, (b1 c1 c2)⟩, ⟨16, _, rfl, (b1 c1 c2)⟩, ⟨16, _, rfl, (b1 c1 c2)⟩, trivial⟩ ?_
      exact k2 c1 c2
    · refine sy_bk [(.if_icmp .ge 17, 0, 87, 0, 0)] (73, [some (.ref 0), none, some (.int l2)], [.int l2, .ref 17], σ) [¬ sy_cc .ge l2 ((σ.1 0 0) * (σ.1 0 1))] (by decide +kernel) rfl ⟨c2, trivial⟩ ?_
      refine sy_bk [(.aload_n 0, 0, 0, 0, 0), (.getfield 18, 12, 2, 0, 0), (.iload_n 2, 0, 0, 0, 0), (.baload, 0, 0, 0, 0)] (79, [some (.ref 0), none, some (.int l2)], [.int (σ.1 1 l2.toNatClampNeg), .int l2, .ref 17], σ) [sy_okA shM 1 1 l2] (by decide +kernel) rfl ⟨⟨16, _, rfl, (b2 c1 c2)⟩, trivial⟩ ?_
      by_cases c3 : ¬ (σ.1 1 l2.toNatClampNeg) = 0
      · refine sy_bk [(.ifCond .ne 8, 1, 87, 0, 0)] (87, [some (.ref 0), none, some (.int l2)], [.int l2, .ref 17], σ) [sy_cc .ne (σ.1 1 l2.toNatClampNeg) 0] (by decide +kernel) rfl ⟨c3, trivial⟩ ?_
        refine sy_bk [(.iconst 0, 0, 0, 0, 0), (.aload_n 0, 0, 0, 0, 0), (.getfield 68, 12, 28, 0, 0), (.iload_n 2, 0, 0, 0, 0), (.iaload, 0, 0, 0, 0), (.isub, 0, 0, 0, 0), (.iastore, 0, 0, 0, 0), (.aload_n 0, 0, 0, 0, 0), (.getfield 71, 12, 29, 0, 0), (.iload_n 2, 0, 0, 0, 0), (.aload_n 0, 0, 0, 0, 0), (.getfield 68, 12, 28, 0, 0), (.iload_n 2, 0, 0, 0, 0), (.iaload, 0, 0, 0, 0), (.iastore, 0, 0, 0, 0), (.iinc 2 1, 0, 0, 1, 0), (.goto (-57), 0, 54, 0, 0)] (54, [some (.ref 0), none, some (.int (l2 + 1))], [], (sy_up (sy_up σ.1 17 l2.toNatClampNeg (0 - (σ.1 17 l2.toNatClampNeg))) 18 l2.toNatClampNeg ((sy_up σ.1 17 l2.toNatClampNeg (0 - (σ.1 17 l2.toNatClampNeg))) 17 l2.toNatClampNeg), σ.2)) [sy_okA shM 0 17 l2, sy_okA shM 0 17 l2, sy_okA shM 0 17 l2, sy_okA shM 0 18 l2] (by decide +kernel) rfl ⟨⟨16, _, rfl, (b2 c1 c2)⟩, ⟨16, _, rfl, (b2 c1 c2)⟩, ⟨16, _, rfl, (b2 c1 c2)⟩, ⟨16, _, rfl, (b2 c1 c2)⟩, trivial⟩ ?_
        exact k3 c1 c2 c3
      · refine sy_bk [(.ifCond .ne 8, 0, 87, 0, 0)] (82, [some (.ref 0), none, some (.int l2)], [.int l2, .ref 17], σ) [¬ sy_cc .ne (σ.1 1 l2.toNatClampNeg) 0] (by decide +kernel) rfl ⟨c3, trivial⟩ ?_
        refine sy_bk [(.bipush 6, 0, 0, 6, 0), (.goto 4, 0, 88, 0, 0), (.aload_n 0, 0, 0, 0, 0), (.getfield 68, 12, 28, 0, 0), (.iload_n 2, 0, 0, 0, 0), (.iaload, 0, 0, 0, 0), (.isub, 0, 0, 0, 0), (.iastore, 0, 0, 0, 0), (.aload_n 0, 0, 0, 0, 0), (.getfield 71, 12, 29, 0, 0), (.iload_n 2, 0, 0, 0, 0), (.aload_n 0, 0, 0, 0, 0), (.getfield 68, 12, 28, 0, 0), (.iload_n 2, 0, 0, 0, 0), (.iaload, 0, 0, 0, 0), (.iastore, 0, 0, 0, 0), (.iinc 2 1, 0, 0, 1, 0), (.goto (-57), 0, 54, 0, 0)] (54, [some (.ref 0), none, some (.int (l2 + 1))], [], (sy_up (sy_up σ.1 17 l2.toNatClampNeg (6 - (σ.1 17 l2.toNatClampNeg))) 18 l2.toNatClampNeg ((sy_up σ.1 17 l2.toNatClampNeg (6 - (σ.1 17 l2.toNatClampNeg))) 17 l2.toNatClampNeg), σ.2)) [sy_okA shM 0 17 l2, sy_okA shM 0 17 l2, sy_okA shM 0 17 l2, sy_okA shM 0 18 l2] (by decide +kernel) rfl ⟨⟨16, _, rfl, (b2 c1 c2)⟩, ⟨16, _, rfl, (b2 c1 c2)⟩, ⟨16, _, rfl, (b2 c1 c2)⟩, ⟨16, _, rfl, (b2 c1 c2)⟩, trivial⟩ ?_
        exact k4 c1 c2 c3

set_option maxRecDepth 20000 in
theorem w_M_laysNought_122 {Q : Option Value → sy_S → Prop} {σ : sy_S} {v : Int32}   (k1 : Q none σ) : sy_E shM mX12_laysNought (122, [none, none, none], [.int v], σ) Q := by
  refine sy_bk [(.istore_n 1, 0, 0, 0, 0)] (123, [none, some (.int v), none], [], σ) [] (by decide +kernel) rfl trivial ?_
  exact sy_retv rfl (by decide +kernel) (k1)

set_option maxRecDepth 20000 in
theorem w_M_nought_0 {Q : Option Value → sy_S → Prop} {σ : sy_S} {p : Int32}   (k1 : ∀ (m_1 : Nat), px p6 p = some m_1 → sy_E shM mX12_laysNought (0, sy_ent [.ref 0] 3, [], σ) (fun r9 σ9 => sy_E shM mX12_nought (13, [some (.ref 0), some (.int p)], r9.toList ++ [], σ9) Q)) (k2 : px p6 p = none → Q (some (.int (-1))) σ) : sy_E shM mX12_nought (0, sy_ent [.ref 0, .int p] 2, [], σ) Q := by
  show sy_E shM mX12_nought (0, [some (.ref 0), some (.int p)], [], σ) _
  refine sy_bk [(.iload_n 1, 0, 0, 0, 0)] (1, [some (.ref 0), some (.int p)], [.int p], σ) [] (by decide +kernel) rfl trivial ?_
  refine sy_callS mX12_isPile [.int p] [] kX12_isPile jX12_254 (by decide +kernel) rfl rfl (Nat.le_of_ble_eq_true rfl) (Nat.le_of_ble_eq_true rfl) (by decide) ?_
  refine e_m_isPile (σ := σ) (i := p) ?_ ?_
  · intro m_1 c2
    show sy_E shM mX12_nought (4, [some (.ref 0), some (.int p)], [.int 1], σ) _
    refine sy_bk [(.ifCond .ne 5, 1, 9, 0, 0), (.aload_n 0, 0, 0, 0, 0)] (10, [some (.ref 0), some (.int p)], [.ref 0], σ) [sy_cc .ne 1 0] (by decide +kernel) rfl ⟨(by decide : (¬ (1 : Int32) = 0)), trivial⟩ ?_
    refine sy_callV mX12_laysNought 0 [] [] kX12_laysNought jX12_269 (by decide +kernel) rfl rfl (Nat.le_of_ble_eq_true rfl) (Nat.le_of_ble_eq_true rfl) (by decide) rfl ?_
    exact k1 m_1 c2
  · intro c3
    show sy_E shM mX12_nought (4, [some (.ref 0), some (.int p)], [.int 0], σ) _
    refine sy_bk [(.ifCond .ne 5, 0, 9, 0, 0), (.iconst (-1), 0, 0, (-1), 0)] (8, [some (.ref 0), some (.int p)], [.int (-1)], σ) [¬ sy_cc .ne 0 0] (by decide +kernel) rfl ⟨(by decide : ¬ (¬ (0 : Int32) = 0)), trivial⟩ ?_
    exact sy_reti rfl (by decide +kernel) (k2 c3)

set_option maxRecDepth 20000 in
theorem w_M_nought_13 {Q : Option Value → sy_S → Prop} {σ : sy_S} {l1 : Int32}   (k1 : sy_E shM mX12_lays (0, sy_ent [.ref 0, .int l1, .ref 18] 4, [], σ) (fun r9 σ9 => sy_E shM mX12_nought (22, [none, none], r9.toList ++ [], σ9) Q)) : sy_E shM mX12_nought (13, [some (.ref 0), some (.int l1)], [], σ) Q := by
  refine sy_bk [(.aload_n 0, 0, 0, 0, 0), (.iload_n 1, 0, 0, 0, 0), (.aload_n 0, 0, 0, 0, 0), (.getfield 71, 12, 29, 0, 0)] (19, [some (.ref 0), some (.int l1)], [.ref 18, .int l1, .ref 0], σ) [] (by decide +kernel) rfl trivial ?_
  refine sy_drop [none, none] trivial ?_
  refine sy_callV mX12_lays 0 [.int l1, .ref 18] [] kX12_lays jX12_257 (by decide +kernel) rfl rfl (Nat.le_of_ble_eq_true rfl) (Nat.le_of_ble_eq_true rfl) (by decide) rfl ?_
  exact k1

set_option maxRecDepth 20000 in
theorem w_M_nought_22 {Q : Option Value → sy_S → Prop} {σ : sy_S} {v : Int32}   (k1 : Q (some (.int v)) σ) : sy_E shM mX12_nought (22, [none, none], [.int v], σ) Q := by
  exact sy_reti rfl (by decide +kernel) (k1)

set_option maxRecDepth 20000 in
theorem w_M_isLike_0 {Q : Option Value → sy_S → Prop} {σ : sy_S} {a : Nat} {b : Nat}   (k1 : sy_E shM mX12_isLike (5, [some (.ref 0), some (.ref a), some (.ref b), some (.int 1), some (.int 0)], [], σ) Q) : sy_E shM mX12_isLike (0, sy_ent [.ref 0, .ref a, .ref b] 5, [], σ) Q := by
  show sy_E shM mX12_isLike (0, [some (.ref 0), some (.ref a), some (.ref b), none, none], [], σ) _
  refine sy_bk [(.iconst 1, 0, 0, 1, 0), (.istore_n 3, 0, 0, 0, 0), (.iconst 0, 0, 0, 0, 0), (.istore 4, 0, 0, 0, 0)] (5, [some (.ref 0), some (.ref a), some (.ref b), some (.int 1), some (.int 0)], [], σ) [] (by decide +kernel) rfl trivial ?_
  exact k1

set_option maxRecDepth 20000 in
theorem w_M_isLike_5 {Q : Option Value → sy_S → Prop} {σ : sy_S} {a : Nat} {b : Nat} {l3 : Int32} {l4 : Int32} (ha : shM[a]? = some (0, 16, [])) (hb : shM[b]? = some (0, 16, [])) (b1 : ((σ.1 0 0) * (σ.1 0 1)) ≤ l4 → l3 = 0 ∨ l3 = 1) (b2 : ¬ (((σ.1 0 0) * (σ.1 0 1)) ≤ l4) → vp_in l4 16) (k1 : ((σ.1 0 0) * (σ.1 0 1)) ≤ l4 → Q (some (.int l3)) σ) (k2 : ¬ (((σ.1 0 0) * (σ.1 0 1)) ≤ l4) → ¬ (σ.1 1 l4.toNatClampNeg) = 0 → sy_E shM mX12_isLike (5, [some (.ref 0), some (.ref a), some (.ref b), some (.int (l3 &&& 1)), some (.int (l4 + 1))], [], σ) Q) (k3 : ¬ (((σ.1 0 0) * (σ.1 0 1)) ≤ l4) → ¬ (¬ (σ.1 1 l4.toNatClampNeg) = 0) → ¬ (σ.1 a l4.toNatClampNeg) = (σ.1 b l4.toNatClampNeg) → sy_E shM mX12_isLike (5, [some (.ref 0), some (.ref a), some (.ref b), some (.int (l3 &&& 0)), some (.int (l4 + 1))], [], σ) Q) (k4 : ¬ (((σ.1 0 0) * (σ.1 0 1)) ≤ l4) → ¬ (¬ (σ.1 1 l4.toNatClampNeg) = 0) → ¬ (¬ (σ.1 a l4.toNatClampNeg) = (σ.1 b l4.toNatClampNeg)) → sy_E shM mX12_isLike (5, [some (.ref 0), some (.ref a), some (.ref b), some (.int (l3 &&& 1)), some (.int (l4 + 1))], [], σ) Q) : sy_E shM mX12_isLike (5, [some (.ref 0), some (.ref a), some (.ref b), some (.int l3), some (.int l4)], [], σ) Q := by
  refine sy_bk [(.iload 4, 0, 0, 0, 0), (.aload_n 0, 0, 0, 0, 0)] (8, [some (.ref 0), some (.ref a), some (.ref b), some (.int l3), some (.int l4)], [.ref 0, .int l4], σ) [] (by decide +kernel) rfl trivial ?_
  refine sy_callV mX12_cells 0 [] [.int l4] kX12_cells jX12_105 (by decide +kernel) rfl rfl (Nat.le_of_ble_eq_true rfl) (Nat.le_of_ble_eq_true rfl) (by decide) rfl ?_
  refine w_m_cells (σ := σ) ?_
  show sy_E shM mX12_isLike (11, [some (.ref 0), some (.ref a), some (.ref b), some (.int l3), some (.int l4)], [.int ((σ.1 0 0) * (σ.1 0 1)), .int l4], σ) _
  by_cases c1 : ((σ.1 0 0) * (σ.1 0 1)) ≤ l4
  · refine sy_bk [(.if_icmp .ge 38, 1, 49, 0, 0)] (49, [some (.ref 0), some (.ref a), some (.ref b), some (.int l3), some (.int l4)], [], σ) [sy_cc .ge l4 ((σ.1 0 0) * (σ.1 0 1))] (by decide +kernel) rfl ⟨c1, trivial⟩ ?_
    refine sy_bk [(.iload_n 3, 0, 0, 0, 0)] (50, [some (.ref 0), some (.ref a), some (.ref b), some (.int l3), some (.int l4)], [.int l3], σ) [] (by decide +kernel) rfl trivial ?_
    exact sy_retz rfl (by decide +kernel) (b1 c1) (k1 c1)
  · refine sy_bk [(.if_icmp .ge 38, 0, 49, 0, 0)] (14, [some (.ref 0), some (.ref a), some (.ref b), some (.int l3), some (.int l4)], [], σ) [¬ sy_cc .ge l4 ((σ.1 0 0) * (σ.1 0 1))] (by decide +kernel) rfl ⟨c1, trivial⟩ ?_
    refine sy_bk [(.iload_n 3, 0, 0, 0, 0), (.aload_n 0, 0, 0, 0, 0), (.getfield 18, 12, 2, 0, 0), (.iload 4, 0, 0, 0, 0), (.baload, 0, 0, 0, 0)] (22, [some (.ref 0), some (.ref a), some (.ref b), some (.int l3), some (.int l4)], [.int (σ.1 1 l4.toNatClampNeg), .int l3], σ) [sy_okA shM 1 1 l4] (by decide +kernel) rfl ⟨⟨16, _, rfl, (b2 c1)⟩, trivial⟩ ?_
    by_cases c2 : ¬ (σ.1 1 l4.toNatClampNeg) = 0
    · refine sy_bk [(.ifCond .ne 14, 1, 36, 0, 0)] (36, [some (.ref 0), some (.ref a), some (.ref b), some (.int l3), some (.int l4)], [.int l3], σ) [sy_cc .ne (σ.1 1 l4.toNatClampNeg) 0] (by decide +kernel) rfl ⟨c2, trivial⟩ ?_
      refine sy_bk [(.iconst 1, 0, 0, 1, 0), (.goto 4, 0, 41, 0, 0), (.iand, 0, 0, 0, 0), (.istore_n 3, 0, 0, 0, 0), (.iinc 4 1, 0, 0, 1, 0), (.goto (-41), 0, 5, 0, 0)] (5, [some (.ref 0), some (.ref a), some (.ref b), some (.int (l3 &&& 1)), some (.int (l4 + 1))], [], σ) [] (by decide +kernel) rfl trivial ?_
      exact k2 c1 c2
    · refine sy_bk [(.ifCond .ne 14, 0, 36, 0, 0)] (25, [some (.ref 0), some (.ref a), some (.ref b), some (.int l3), some (.int l4)], [.int l3], σ) [¬ sy_cc .ne (σ.1 1 l4.toNatClampNeg) 0] (by decide +kernel) rfl ⟨c2, trivial⟩ ?_
      refine sy_bk [(.aload_n 1, 0, 0, 0, 0), (.iload 4, 0, 0, 0, 0), (.iaload, 0, 0, 0, 0), (.aload_n 2, 0, 0, 0, 0), (.iload 4, 0, 0, 0, 0), (.iaload, 0, 0, 0, 0)] (33, [some (.ref 0), some (.ref a), some (.ref b), some (.int l3), some (.int l4)], [.int (σ.1 b l4.toNatClampNeg), .int (σ.1 a l4.toNatClampNeg), .int l3], σ) [sy_okA shM 0 a l4, sy_okA shM 0 b l4] (by decide +kernel) rfl ⟨⟨16, _, ha, (b2 c1)⟩, ⟨16, _, hb, (b2 c1)⟩, trivial⟩ ?_
      by_cases c3 : ¬ (σ.1 a l4.toNatClampNeg) = (σ.1 b l4.toNatClampNeg)
      · refine sy_bk [(.if_icmp .ne 7, 1, 40, 0, 0)] (40, [some (.ref 0), some (.ref a), some (.ref b), some (.int l3), some (.int l4)], [.int l3], σ) [sy_cc .ne (σ.1 a l4.toNatClampNeg) (σ.1 b l4.toNatClampNeg)] (by decide +kernel) rfl ⟨c3, trivial⟩ ?_
        refine sy_bk [(.iconst 0, 0, 0, 0, 0), (.iand, 0, 0, 0, 0), (.istore_n 3, 0, 0, 0, 0), (.iinc 4 1, 0, 0, 1, 0), (.goto (-41), 0, 5, 0, 0)] (5, [some (.ref 0), some (.ref a), some (.ref b), some (.int (l3 &&& 0)), some (.int (l4 + 1))], [], σ) [] (by decide +kernel) rfl trivial ?_
        exact k3 c1 c2 c3
      · refine sy_bk [(.if_icmp .ne 7, 0, 40, 0, 0)] (36, [some (.ref 0), some (.ref a), some (.ref b), some (.int l3), some (.int l4)], [.int l3], σ) [¬ sy_cc .ne (σ.1 a l4.toNatClampNeg) (σ.1 b l4.toNatClampNeg)] (by decide +kernel) rfl ⟨c3, trivial⟩ ?_
        refine sy_bk [(.iconst 1, 0, 0, 1, 0), (.goto 4, 0, 41, 0, 0), (.iand, 0, 0, 0, 0), (.istore_n 3, 0, 0, 0, 0), (.iinc 4 1, 0, 0, 1, 0), (.goto (-41), 0, 5, 0, 0)] (5, [some (.ref 0), some (.ref a), some (.ref b), some (.int (l3 &&& 1)), some (.int (l4 + 1))], [], σ) [] (by decide +kernel) rfl trivial ?_
        exact k4 c1 c2 c3

set_option maxRecDepth 20000 in
theorem w_M_times_0 {Q : Option Value → sy_S → Prop} {σ : sy_S} {p : Int32} {a : Int32} {k : Int32}  (b1 : ∀ (m_1 : Nat), px p6 p = some m_1 → ∀ (m_3 : Nat), px p6 a = some m_3 → (0 ≤ k.toInt64 ∧ k.toInt64 ≤ 1000000000) → vp_in a 6) (k1 : ∀ (m_1 : Nat), px p6 p = some m_1 → ∀ (m_3 : Nat), px p6 a = some m_3 → (0 ≤ k.toInt64 ∧ k.toInt64 ≤ 1000000000) → ¬ (σ.1 8 a.toNatClampNeg) = 0 → sy_E shM mX12_laysNought (0, sy_ent [.ref 0] 3, [], σ) (fun r9 σ9 => sy_E shM mX12_times (47, [some (.ref 0), some (.int p), some (.int a), some (.int k), none, none], r9.toList ++ [], σ9) Q)) (k2 : ∀ (m_1 : Nat), px p6 p = some m_1 → ∀ (m_3 : Nat), px p6 a = some m_3 → (0 ≤ k.toInt64 ∧ k.toInt64 ≤ 1000000000) → ¬ (¬ (σ.1 8 a.toNatClampNeg) = 0) → Q (some (.int (-6))) σ) (k3 : ∀ (m_1 : Nat), px p6 p = some m_1 → ∀ (m_3 : Nat), px p6 a = some m_3 → (¬ (0 ≤ k.toInt64 ∧ k.toInt64 ≤ 1000000000)) → Q (some (.int (-2))) σ) (k4 : ∀ (m_1 : Nat), px p6 p = some m_1 → px p6 a = none → Q (some (.int (-1))) σ) (k5 : px p6 p = none → Q (some (.int (-1))) σ) : sy_E shM mX12_times (0, sy_ent [.ref 0, .int p, .int a, .int k] 6, [], σ) Q := by
  show sy_E shM mX12_times (0, [some (.ref 0), some (.int p), some (.int a), some (.int k), none, none], [], σ) _
  refine sy_bk [(.iload_n 1, 0, 0, 0, 0)] (1, [some (.ref 0), some (.int p), some (.int a), some (.int k), none, none], [.int p], σ) [] (by decide +kernel) rfl trivial ?_
  refine sy_callS mX12_isPile [.int p] [] kX12_isPile jX12_254 (by decide +kernel) rfl rfl (Nat.le_of_ble_eq_true rfl) (Nat.le_of_ble_eq_true rfl) (by decide) ?_
  refine e_m_isPile (σ := σ) (i := p) ?_ ?_
  · intro m_1 c2
    show sy_E shM mX12_times (4, [some (.ref 0), some (.int p), some (.int a), some (.int k), none, none], [.int 1], σ) _
    refine sy_bk [(.ifCond .eq 10, 0, 14, 0, 0), (.iload_n 2, 0, 0, 0, 0)] (8, [some (.ref 0), some (.int p), some (.int a), some (.int k), none, none], [.int a], σ) [¬ sy_cc .eq 1 0] (by decide +kernel) rfl ⟨(by decide : ¬ ((1 : Int32) = 0)), trivial⟩ ?_
    refine sy_callS mX12_isPile [.int a] [] kX12_isPile jX12_254 (by decide +kernel) rfl rfl (Nat.le_of_ble_eq_true rfl) (Nat.le_of_ble_eq_true rfl) (by decide) ?_
    refine e_m_isPile (σ := σ) (i := a) ?_ ?_
    · intro m_3 c4
      show sy_E shM mX12_times (11, [some (.ref 0), some (.int p), some (.int a), some (.int k), none, none], [.int 1], σ) _
      refine sy_bk [(.ifCond .ne 5, 1, 16, 0, 0), (.iload_n 3, 0, 0, 0, 0), (.i2l, 0, 0, 0, 0), (.lconst 0, 0, 0, 0, 0), (.ldc2_w 272, 0, 0, 0, 1000000000)] (22, [some (.ref 0), some (.int p), some (.int a), some (.int k), none, none], [.long 1000000000, .long 0, .long k.toInt64], σ) [sy_cc .ne 1 0] (by decide +kernel) rfl ⟨(by decide : (¬ (1 : Int32) = 0)), trivial⟩ ?_
      refine sy_callS mX12_in [.long k.toInt64, .long 0, .long 1000000000] [] kX12_in jX12_109 (by decide +kernel) rfl rfl (Nat.le_of_ble_eq_true rfl) (Nat.le_of_ble_eq_true rfl) (by decide) ?_
      refine e_m_in (σ := σ) (v := k.toInt64) (lo := 0) (hi := 1000000000) ?_ ?_
      · intro c5
        show sy_E shM mX12_times (25, [some (.ref 0), some (.int p), some (.int a), some (.int k), none, none], [.int 1], σ) _
        refine sy_bk [(.ifCond .ne 6, 1, 31, 0, 0), (.aload_n 0, 0, 0, 0, 0), (.getfield 41, 12, 10, 0, 0), (.iload_n 2, 0, 0, 0, 0), (.baload, 0, 0, 0, 0)] (37, [some (.ref 0), some (.int p), some (.int a), some (.int k), none, none], [.int (σ.1 8 a.toNatClampNeg)], σ) [sy_cc .ne 1 0, sy_okA shM 1 8 a] (by decide +kernel) rfl ⟨(by decide : (¬ (1 : Int32) = 0)), ⟨6, _, rfl, (b1 m_1 c2 m_3 c4 c5)⟩, trivial⟩ ?_
        by_cases c6 : ¬ (σ.1 8 a.toNatClampNeg) = 0
        · refine sy_bk [(.ifCond .ne 6, 1, 43, 0, 0)] (43, [some (.ref 0), some (.int p), some (.int a), some (.int k), none, none], [], σ) [sy_cc .ne (σ.1 8 a.toNatClampNeg) 0] (by decide +kernel) rfl ⟨c6, trivial⟩ ?_
          refine sy_bk [(.aload_n 0, 0, 0, 0, 0)] (44, [some (.ref 0), some (.int p), some (.int a), some (.int k), none, none], [.ref 0], σ) [] (by decide +kernel) rfl trivial ?_
          refine sy_callV mX12_laysNought 0 [] [] kX12_laysNought jX12_269 (by decide +kernel) rfl rfl (Nat.le_of_ble_eq_true rfl) (Nat.le_of_ble_eq_true rfl) (by decide) rfl ?_
          exact k1 m_1 c2 m_3 c4 c5 c6
        · refine sy_bk [(.ifCond .ne 6, 0, 43, 0, 0)] (40, [some (.ref 0), some (.int p), some (.int a), some (.int k), none, none], [], σ) [¬ sy_cc .ne (σ.1 8 a.toNatClampNeg) 0] (by decide +kernel) rfl ⟨c6, trivial⟩ ?_
          refine sy_bk [(.bipush (-6), 0, 0, (-6), 0)] (42, [some (.ref 0), some (.int p), some (.int a), some (.int k), none, none], [.int (-6)], σ) [] (by decide +kernel) rfl trivial ?_
          exact sy_reti rfl (by decide +kernel) (k2 m_1 c2 m_3 c4 c5 c6)
      · intro c7
        show sy_E shM mX12_times (25, [some (.ref 0), some (.int p), some (.int a), some (.int k), none, none], [.int 0], σ) _
        refine sy_bk [(.ifCond .ne 6, 0, 31, 0, 0), (.bipush (-2), 0, 0, (-2), 0)] (30, [some (.ref 0), some (.int p), some (.int a), some (.int k), none, none], [.int (-2)], σ) [¬ sy_cc .ne 0 0] (by decide +kernel) rfl ⟨(by decide : ¬ (¬ (0 : Int32) = 0)), trivial⟩ ?_
        exact sy_reti rfl (by decide +kernel) (k3 m_1 c2 m_3 c4 c7)
    · intro c8
      show sy_E shM mX12_times (11, [some (.ref 0), some (.int p), some (.int a), some (.int k), none, none], [.int 0], σ) _
      refine sy_bk [(.ifCond .ne 5, 0, 16, 0, 0), (.iconst (-1), 0, 0, (-1), 0)] (15, [some (.ref 0), some (.int p), some (.int a), some (.int k), none, none], [.int (-1)], σ) [¬ sy_cc .ne 0 0] (by decide +kernel) rfl ⟨(by decide : ¬ (¬ (0 : Int32) = 0)), trivial⟩ ?_
      exact sy_reti rfl (by decide +kernel) (k4 m_1 c2 c8)
  · intro c9
    show sy_E shM mX12_times (4, [some (.ref 0), some (.int p), some (.int a), some (.int k), none, none], [.int 0], σ) _
    refine sy_bk [(.ifCond .eq 10, 1, 14, 0, 0), (.iconst (-1), 0, 0, (-1), 0)] (15, [some (.ref 0), some (.int p), some (.int a), some (.int k), none, none], [.int (-1)], σ) [sy_cc .eq 0 0] (by decide +kernel) rfl ⟨(by decide : ((0 : Int32) = 0)), trivial⟩ ?_
    exact sy_reti rfl (by decide +kernel) (k5 c9)

set_option maxRecDepth 20000 in
theorem w_M_times_47 {Q : Option Value → sy_S → Prop} {σ : sy_S} {l1 : Int32} {l2 : Int32} {l3 : Int32}   (k1 : sy_E shM mX12_copies (0, sy_ent [.ref 18, .ref 12] 3, [], σ) (fun r9 σ9 => sy_E shM mX12_times (58, [some (.ref 0), some (.int l1), some (.int l2), some (.int l3), none, none], r9.toList ++ [], σ9) Q)) : sy_E shM mX12_times (47, [some (.ref 0), some (.int l1), some (.int l2), some (.int l3), none, none], [], σ) Q := by
  refine sy_bk [(.aload_n 0, 0, 0, 0, 0), (.getfield 71, 12, 29, 0, 0), (.aload_n 0, 0, 0, 0, 0), (.getfield 53, 12, 22, 0, 0)] (55, [some (.ref 0), some (.int l1), some (.int l2), some (.int l3), none, none], [.ref 12, .ref 18], σ) [] (by decide +kernel) rfl trivial ?_
  refine sy_callS mX12_copies [.ref 18, .ref 12] [] kX12_copies jX12_209 (by decide +kernel) rfl rfl (Nat.le_of_ble_eq_true rfl) (Nat.le_of_ble_eq_true rfl) (by decide) ?_
  exact k1

set_option maxRecDepth 20000 in
theorem w_M_times_58 {Q : Option Value → sy_S → Prop} {σ : sy_S} {l1 : Int32} {l2 : Int32} {l3 : Int32}   (k1 : sy_E shM mX12_takes (0, sy_ent [.ref 0, .int l2, .ref 16] 4, [], σ) (fun r9 σ9 => sy_E shM mX12_times (67, [some (.ref 0), some (.int l1), none, some (.int l3), none, none], r9.toList ++ [], σ9) Q)) : sy_E shM mX12_times (58, [some (.ref 0), some (.int l1), some (.int l2), some (.int l3), none, none], [], σ) Q := by
  refine sy_bk [(.aload_n 0, 0, 0, 0, 0), (.iload_n 2, 0, 0, 0, 0), (.aload_n 0, 0, 0, 0, 0), (.getfield 65, 12, 27, 0, 0)] (64, [some (.ref 0), some (.int l1), some (.int l2), some (.int l3), none, none], [.ref 16, .int l2, .ref 0], σ) [] (by decide +kernel) rfl trivial ?_
  refine sy_drop [some (.ref 0), some (.int l1), none, some (.int l3), none, none] ⟨rfl, rfl, rfl, trivial⟩ ?_
  refine sy_callV mX12_takes 0 [.int l2, .ref 16] [] kX12_takes jX12_261 (by decide +kernel) rfl rfl (Nat.le_of_ble_eq_true rfl) (Nat.le_of_ble_eq_true rfl) (by decide) rfl ?_
  exact k1

set_option maxRecDepth 20000 in
theorem w_M_times_67 {Q : Option Value → sy_S → Prop} {σ : sy_S} {l1 : Int32} {l3 : Int32}   (k1 : sy_E shM mX12_times (70, [some (.ref 0), some (.int l1), none, none, some (.int l3), none], [], σ) Q) : sy_E shM mX12_times (67, [some (.ref 0), some (.int l1), none, some (.int l3), none, none], [], σ) Q := by
  refine sy_bk [(.iload_n 3, 0, 0, 0, 0), (.istore 4, 0, 0, 0, 0)] (70, [some (.ref 0), some (.int l1), none, some (.int l3), some (.int l3), none], [], σ) [] (by decide +kernel) rfl trivial ?_
  refine sy_drop [some (.ref 0), some (.int l1), none, none, some (.int l3), none] ⟨rfl, rfl, rfl, trivial⟩ ?_
  exact k1

set_option maxRecDepth 20000 in
theorem w_M_times_70 {Q : Option Value → sy_S → Prop} {σ : sy_S} {l1 : Int32} {l4 : Int32}   (k1 : l4 ≤ 0 → sy_E shM mX12_lays (0, sy_ent [.ref 0, .int l1, .ref 12] 4, [], σ) (fun r9 σ9 => sy_E shM mX12_times (133, [none, none, none, none, none, none], r9.toList ++ [], σ9) Q)) (k2 : ¬ (l4 ≤ 0) → ¬ (l4 - l4 / 2 * 2) = 1 → sy_E shM mX12_addsTo (0, sy_ent [.ref 0, .ref 16, .ref 16] 4, [], σ) (fun r9 σ9 => sy_E shM mX12_times (113, [some (.ref 0), some (.int l1), none, none, some (.int l4), none], r9.toList ++ [], σ9) Q)) (k3 : ¬ (l4 ≤ 0) → ¬ (¬ (l4 - l4 / 2 * 2) = 1) → sy_E shM mX12_addsTo (0, sy_ent [.ref 0, .ref 12, .ref 16] 4, [], σ) (fun r9 σ9 => sy_E shM mX12_times (95, [some (.ref 0), some (.int l1), none, none, some (.int l4), none], r9.toList ++ [], σ9) Q)) : sy_E shM mX12_times (70, [some (.ref 0), some (.int l1), none, none, some (.int l4), none], [], σ) Q := by
  refine sy_bk [(.iload 4, 0, 0, 0, 0)] (72, [some (.ref 0), some (.int l1), none, none, some (.int l4), none], [.int l4], σ) [] (by decide +kernel) rfl trivial ?_
  by_cases c1 : l4 ≤ 0
  · refine sy_bk [(.ifCond .le 52, 1, 124, 0, 0)] (124, [some (.ref 0), some (.int l1), none, none, some (.int l4), none], [], σ) [sy_cc .le l4 0] (by decide +kernel) rfl ⟨c1, trivial⟩ ?_
    refine sy_bk [(.aload_n 0, 0, 0, 0, 0), (.iload_n 1, 0, 0, 0, 0), (.aload_n 0, 0, 0, 0, 0), (.getfield 53, 12, 22, 0, 0)] (130, [some (.ref 0), some (.int l1), none, none, some (.int l4), none], [.ref 12, .int l1, .ref 0], σ) [] (by decide +kernel) rfl trivial ?_
    refine sy_drop [none, none, none, none, none, none] trivial ?_
    refine sy_callV mX12_lays 0 [.int l1, .ref 12] [] kX12_lays jX12_257 (by decide +kernel) rfl rfl (Nat.le_of_ble_eq_true rfl) (Nat.le_of_ble_eq_true rfl) (by decide) rfl ?_
    exact k1 c1
  · refine sy_bk [(.ifCond .le 52, 0, 124, 0, 0)] (75, [some (.ref 0), some (.int l1), none, none, some (.int l4), none], [], σ) [¬ sy_cc .le l4 0] (by decide +kernel) rfl ⟨c1, trivial⟩ ?_
    refine sy_bk [(.iload 4, 0, 0, 0, 0), (.iconst 2, 0, 0, 2, 0), (.irem, 0, 0, 0, 0), (.iconst 1, 0, 0, 1, 0)] (80, [some (.ref 0), some (.int l1), none, none, some (.int l4), none], [.int 1, .int (l4 - l4 / 2 * 2)], σ) [¬ (2 : Int32) = 0] (by decide +kernel) rfl ⟨(by decide), trivial⟩ ?_
    by_cases c2 : ¬ (l4 - l4 / 2 * 2) = 1
    · refine sy_bk [(.if_icmp .ne 18, 1, 98, 0, 0)] (98, [some (.ref 0), some (.int l1), none, none, some (.int l4), none], [], σ) [sy_cc .ne (l4 - l4 / 2 * 2) 1] (by decide +kernel) rfl ⟨c2, trivial⟩ ?_
      refine sy_bk [(.iconst 0, 0, 0, 0, 0), (.istore 5, 0, 0, 0, 0), (.aload_n 0, 0, 0, 0, 0), (.aload_n 0, 0, 0, 0, 0), (.getfield 65, 12, 27, 0, 0), (.aload_n 0, 0, 0, 0, 0), (.getfield 65, 12, 27, 0, 0)] (110, [some (.ref 0), some (.int l1), none, none, some (.int l4), some (.int 0)], [.ref 16, .ref 16, .ref 0], σ) [] (by decide +kernel) rfl trivial ?_
      refine sy_drop [some (.ref 0), some (.int l1), none, none, some (.int l4), none] ⟨rfl, rfl, rfl, trivial⟩ ?_
      refine sy_callV mX12_addsTo 0 [.ref 16, .ref 16] [] kX12_addsTo jX12_265 (by decide +kernel) rfl rfl (Nat.le_of_ble_eq_true rfl) (Nat.le_of_ble_eq_true rfl) (by decide) rfl ?_
      exact k2 c1 c2
    · refine sy_bk [(.if_icmp .ne 18, 0, 98, 0, 0)] (83, [some (.ref 0), some (.int l1), none, none, some (.int l4), none], [], σ) [¬ sy_cc .ne (l4 - l4 / 2 * 2) 1] (by decide +kernel) rfl ⟨c2, trivial⟩ ?_
      refine sy_bk [(.aload_n 0, 0, 0, 0, 0), (.aload_n 0, 0, 0, 0, 0), (.getfield 53, 12, 22, 0, 0), (.aload_n 0, 0, 0, 0, 0), (.getfield 65, 12, 27, 0, 0)] (92, [some (.ref 0), some (.int l1), none, none, some (.int l4), none], [.ref 16, .ref 12, .ref 0], σ) [] (by decide +kernel) rfl trivial ?_
      refine sy_callV mX12_addsTo 0 [.ref 12, .ref 16] [] kX12_addsTo jX12_265 (by decide +kernel) rfl rfl (Nat.le_of_ble_eq_true rfl) (Nat.le_of_ble_eq_true rfl) (by decide) rfl ?_
      exact k3 c1 c2

set_option maxRecDepth 20000 in
theorem w_M_times_133 {Q : Option Value → sy_S → Prop} {σ : sy_S} {v : Int32}   (k1 : Q (some (.int v)) σ) : sy_E shM mX12_times (133, [none, none, none, none, none, none], [.int v], σ) Q := by
  exact sy_reti rfl (by decide +kernel) (k1)

set_option maxRecDepth 20000 in
theorem w_M_times_113 {Q : Option Value → sy_S → Prop} {σ : sy_S} {l1 : Int32} {l4 : Int32} {v : Int32}   (k1 : sy_E shM mX12_times (70, [some (.ref 0), some (.int l1), none, none, some (.int (l4 / 2)), none], [], σ) Q) : sy_E shM mX12_times (113, [some (.ref 0), some (.int l1), none, none, some (.int l4), none], [.int v], σ) Q := by
  refine sy_bk [(.istore 5, 0, 0, 0, 0), (.iload 4, 0, 0, 0, 0), (.iconst 2, 0, 0, 2, 0), (.idiv, 0, 0, 0, 0), (.istore 4, 0, 0, 0, 0), (.goto (-51), 0, 70, 0, 0)] (70, [some (.ref 0), some (.int l1), none, none, some (.int (l4 / 2)), some (.int v)], [], σ) [¬ (2 : Int32) = 0] (by decide +kernel) rfl ⟨(by decide), trivial⟩ ?_
  refine sy_drop [some (.ref 0), some (.int l1), none, none, some (.int (l4 / 2)), none] ⟨rfl, rfl, rfl, trivial⟩ ?_
  exact k1

set_option maxRecDepth 20000 in
theorem w_M_times_95 {Q : Option Value → sy_S → Prop} {σ : sy_S} {l1 : Int32} {l4 : Int32} {v : Int32}   (k1 : sy_E shM mX12_addsTo (0, sy_ent [.ref 0, .ref 16, .ref 16] 4, [], σ) (fun r9 σ9 => sy_E shM mX12_times (113, [some (.ref 0), some (.int l1), none, none, some (.int l4), none], r9.toList ++ [], σ9) Q)) : sy_E shM mX12_times (95, [some (.ref 0), some (.int l1), none, none, some (.int l4), none], [.int v], σ) Q := by
  refine sy_bk [(.goto 4, 0, 99, 0, 0), (.istore 5, 0, 0, 0, 0), (.aload_n 0, 0, 0, 0, 0), (.aload_n 0, 0, 0, 0, 0), (.getfield 65, 12, 27, 0, 0), (.aload_n 0, 0, 0, 0, 0), (.getfield 65, 12, 27, 0, 0)] (110, [some (.ref 0), some (.int l1), none, none, some (.int l4), some (.int v)], [.ref 16, .ref 16, .ref 0], σ) [] (by decide +kernel) rfl trivial ?_
  refine sy_drop [some (.ref 0), some (.int l1), none, none, some (.int l4), none] ⟨rfl, rfl, rfl, trivial⟩ ?_
  refine sy_callV mX12_addsTo 0 [.ref 16, .ref 16] [] kX12_addsTo jX12_265 (by decide +kernel) rfl rfl (Nat.le_of_ble_eq_true rfl) (Nat.le_of_ble_eq_true rfl) (by decide) rfl ?_
  exact k1

set_option maxRecDepth 20000 in
theorem w_M_opposite_0 {Q : Option Value → sy_S → Prop} {σ : sy_S} {p : Int32} {a : Int32}  (b1 : ∀ (m_1 : Nat), px p6 p = some m_1 → ∀ (m_3 : Nat), px p6 a = some m_3 → vp_in a 6) (k1 : ∀ (m_1 : Nat), px p6 p = some m_1 → ∀ (m_3 : Nat), px p6 a = some m_3 → ¬ (σ.1 8 a.toNatClampNeg) = 0 → sy_E shM mX12_laysNought (0, sy_ent [.ref 0] 3, [], σ) (fun r9 σ9 => sy_E shM mX12_opposite (32, [some (.ref 0), some (.int p), some (.int a), none], r9.toList ++ [], σ9) Q)) (k2 : ∀ (m_1 : Nat), px p6 p = some m_1 → ∀ (m_3 : Nat), px p6 a = some m_3 → ¬ (¬ (σ.1 8 a.toNatClampNeg) = 0) → Q (some (.int (-6))) σ) (k3 : ∀ (m_1 : Nat), px p6 p = some m_1 → px p6 a = none → Q (some (.int (-1))) σ) (k4 : px p6 p = none → Q (some (.int (-1))) σ) : sy_E shM mX12_opposite (0, sy_ent [.ref 0, .int p, .int a] 4, [], σ) Q := by
  show sy_E shM mX12_opposite (0, [some (.ref 0), some (.int p), some (.int a), none], [], σ) _
  refine sy_bk [(.iload_n 1, 0, 0, 0, 0)] (1, [some (.ref 0), some (.int p), some (.int a), none], [.int p], σ) [] (by decide +kernel) rfl trivial ?_
  refine sy_callS mX12_isPile [.int p] [] kX12_isPile jX12_254 (by decide +kernel) rfl rfl (Nat.le_of_ble_eq_true rfl) (Nat.le_of_ble_eq_true rfl) (by decide) ?_
  refine e_m_isPile (σ := σ) (i := p) ?_ ?_
  · intro m_1 c2
    show sy_E shM mX12_opposite (4, [some (.ref 0), some (.int p), some (.int a), none], [.int 1], σ) _
    refine sy_bk [(.ifCond .eq 10, 0, 14, 0, 0), (.iload_n 2, 0, 0, 0, 0)] (8, [some (.ref 0), some (.int p), some (.int a), none], [.int a], σ) [¬ sy_cc .eq 1 0] (by decide +kernel) rfl ⟨(by decide : ¬ ((1 : Int32) = 0)), trivial⟩ ?_
    refine sy_callS mX12_isPile [.int a] [] kX12_isPile jX12_254 (by decide +kernel) rfl rfl (Nat.le_of_ble_eq_true rfl) (Nat.le_of_ble_eq_true rfl) (by decide) ?_
    refine e_m_isPile (σ := σ) (i := a) ?_ ?_
    · intro m_3 c4
      show sy_E shM mX12_opposite (11, [some (.ref 0), some (.int p), some (.int a), none], [.int 1], σ) _
      refine sy_bk [(.ifCond .ne 5, 1, 16, 0, 0), (.aload_n 0, 0, 0, 0, 0), (.getfield 41, 12, 10, 0, 0), (.iload_n 2, 0, 0, 0, 0), (.baload, 0, 0, 0, 0)] (22, [some (.ref 0), some (.int p), some (.int a), none], [.int (σ.1 8 a.toNatClampNeg)], σ) [sy_cc .ne 1 0, sy_okA shM 1 8 a] (by decide +kernel) rfl ⟨(by decide : (¬ (1 : Int32) = 0)), ⟨6, _, rfl, (b1 m_1 c2 m_3 c4)⟩, trivial⟩ ?_
      by_cases c5 : ¬ (σ.1 8 a.toNatClampNeg) = 0
      · refine sy_bk [(.ifCond .ne 6, 1, 28, 0, 0)] (28, [some (.ref 0), some (.int p), some (.int a), none], [], σ) [sy_cc .ne (σ.1 8 a.toNatClampNeg) 0] (by decide +kernel) rfl ⟨c5, trivial⟩ ?_
        refine sy_bk [(.aload_n 0, 0, 0, 0, 0)] (29, [some (.ref 0), some (.int p), some (.int a), none], [.ref 0], σ) [] (by decide +kernel) rfl trivial ?_
        refine sy_callV mX12_laysNought 0 [] [] kX12_laysNought jX12_269 (by decide +kernel) rfl rfl (Nat.le_of_ble_eq_true rfl) (Nat.le_of_ble_eq_true rfl) (by decide) rfl ?_
        exact k1 m_1 c2 m_3 c4 c5
      · refine sy_bk [(.ifCond .ne 6, 0, 28, 0, 0)] (25, [some (.ref 0), some (.int p), some (.int a), none], [], σ) [¬ sy_cc .ne (σ.1 8 a.toNatClampNeg) 0] (by decide +kernel) rfl ⟨c5, trivial⟩ ?_
        refine sy_bk [(.bipush (-6), 0, 0, (-6), 0)] (27, [some (.ref 0), some (.int p), some (.int a), none], [.int (-6)], σ) [] (by decide +kernel) rfl trivial ?_
        exact sy_reti rfl (by decide +kernel) (k2 m_1 c2 m_3 c4 c5)
    · intro c6
      show sy_E shM mX12_opposite (11, [some (.ref 0), some (.int p), some (.int a), none], [.int 0], σ) _
      refine sy_bk [(.ifCond .ne 5, 0, 16, 0, 0), (.iconst (-1), 0, 0, (-1), 0)] (15, [some (.ref 0), some (.int p), some (.int a), none], [.int (-1)], σ) [¬ sy_cc .ne 0 0] (by decide +kernel) rfl ⟨(by decide : ¬ (¬ (0 : Int32) = 0)), trivial⟩ ?_
      exact sy_reti rfl (by decide +kernel) (k3 m_1 c2 c6)
  · intro c7
    show sy_E shM mX12_opposite (4, [some (.ref 0), some (.int p), some (.int a), none], [.int 0], σ) _
    refine sy_bk [(.ifCond .eq 10, 1, 14, 0, 0), (.iconst (-1), 0, 0, (-1), 0)] (15, [some (.ref 0), some (.int p), some (.int a), none], [.int (-1)], σ) [sy_cc .eq 0 0] (by decide +kernel) rfl ⟨(by decide : ((0 : Int32) = 0)), trivial⟩ ?_
    exact sy_reti rfl (by decide +kernel) (k4 c7)

set_option maxRecDepth 20000 in
theorem w_M_opposite_32 {Q : Option Value → sy_S → Prop} {σ : sy_S} {l1 : Int32} {l2 : Int32}   (k1 : sy_E shM mX12_takes (0, sy_ent [.ref 0, .int l2, .ref 16] 4, [], σ) (fun r9 σ9 => sy_E shM mX12_opposite (41, [some (.ref 0), some (.int l1), none, none], r9.toList ++ [], σ9) Q)) : sy_E shM mX12_opposite (32, [some (.ref 0), some (.int l1), some (.int l2), none], [], σ) Q := by
  refine sy_bk [(.aload_n 0, 0, 0, 0, 0), (.iload_n 2, 0, 0, 0, 0), (.aload_n 0, 0, 0, 0, 0), (.getfield 65, 12, 27, 0, 0)] (38, [some (.ref 0), some (.int l1), some (.int l2), none], [.ref 16, .int l2, .ref 0], σ) [] (by decide +kernel) rfl trivial ?_
  refine sy_drop [some (.ref 0), some (.int l1), none, none] ⟨rfl, rfl, trivial⟩ ?_
  refine sy_callV mX12_takes 0 [.int l2, .ref 16] [] kX12_takes jX12_261 (by decide +kernel) rfl rfl (Nat.le_of_ble_eq_true rfl) (Nat.le_of_ble_eq_true rfl) (by decide) rfl ?_
  exact k1

set_option maxRecDepth 20000 in
theorem w_M_opposite_41 {Q : Option Value → sy_S → Prop} {σ : sy_S} {l1 : Int32}   (k1 : sy_E shM mX12_opposite (43, [some (.ref 0), some (.int l1), none, some (.int 0)], [], σ) Q) : sy_E shM mX12_opposite (41, [some (.ref 0), some (.int l1), none, none], [], σ) Q := by
  refine sy_bk [(.iconst 0, 0, 0, 0, 0), (.istore_n 3, 0, 0, 0, 0)] (43, [some (.ref 0), some (.int l1), none, some (.int 0)], [], σ) [] (by decide +kernel) rfl trivial ?_
  exact k1

set_option maxRecDepth 20000 in
theorem w_M_opposite_43 {Q : Option Value → sy_S → Prop} {σ : sy_S} {l1 : Int32} {l3 : Int32}  (b1 : ¬ (16 ≤ l3) → vp_in l3 16) (k1 : 16 ≤ l3 → sy_E shM mX12_settles (0, sy_ent [.ref 0, .ref 12] 3, [], σ) (fun r9 σ9 => sy_E shM mX12_opposite (89, [some (.ref 0), some (.int l1), none, none], r9.toList ++ [], σ9) Q)) (k2 : ¬ (16 ≤ l3) → sy_E shM mX12_opposite (43, [some (.ref 0), some (.int l1), none, some (.int (l3 + 1))], [], (sy_up σ.1 12 l3.toNatClampNeg (((σ.1 18 l3.toNatClampNeg) + (σ.1 17 l3.toNatClampNeg)) - (σ.1 16 l3.toNatClampNeg)), σ.2)) Q) : sy_E shM mX12_opposite (43, [some (.ref 0), some (.int l1), none, some (.int l3)], [], σ) Q := by
  refine sy_bk [(.iload_n 3, 0, 0, 0, 0), (.bipush 16, 0, 0, 16, 0)] (46, [some (.ref 0), some (.int l1), none, some (.int l3)], [.int 16, .int l3], σ) [] (by decide +kernel) rfl trivial ?_
  by_cases c1 : 16 ≤ l3
  · refine sy_bk [(.if_icmp .ge 35, 1, 81, 0, 0)] (81, [some (.ref 0), some (.int l1), none, some (.int l3)], [], σ) [sy_cc .ge l3 16] (by decide +kernel) rfl ⟨c1, trivial⟩ ?_
    refine sy_bk [(.aload_n 0, 0, 0, 0, 0), (.aload_n 0, 0, 0, 0, 0), (.getfield 53, 12, 22, 0, 0)] (86, [some (.ref 0), some (.int l1), none, some (.int l3)], [.ref 12, .ref 0], σ) [] (by decide +kernel) rfl trivial ?_
    refine sy_drop [some (.ref 0), some (.int l1), none, none] ⟨rfl, rfl, trivial⟩ ?_
    refine sy_callV mX12_settles 0 [.ref 12] [] kX12_settles jX12_163 (by decide +kernel) rfl rfl (Nat.le_of_ble_eq_true rfl) (Nat.le_of_ble_eq_true rfl) (by decide) rfl ?_
    exact k1 c1
  · refine sy_bk [(.if_icmp .ge 35, 0, 81, 0, 0)] (49, [some (.ref 0), some (.int l1), none, some (.int l3)], [], σ) [¬ sy_cc .ge l3 16] (by decide +kernel) rfl ⟨c1, trivial⟩ ?_
    refine sy_bk [(.aload_n 0, 0, 0, 0, 0), (.getfield 53, 12, 22, 0, 0), (.iload_n 3, 0, 0, 0, 0), (.aload_n 0, 0, 0, 0, 0), (.getfield 71, 12, 29, 0, 0), (.iload_n 3, 0, 0, 0, 0), (.iaload, 0, 0, 0, 0), (.aload_n 0, 0, 0, 0, 0), (.getfield 68, 12, 28, 0, 0), (.iload_n 3, 0, 0, 0, 0), (.iaload, 0, 0, 0, 0), (.iadd, 0, 0, 0, 0), (.aload_n 0, 0, 0, 0, 0), (.getfield 65, 12, 27, 0, 0), (.iload_n 3, 0, 0, 0, 0), (.iaload, 0, 0, 0, 0), (.isub, 0, 0, 0, 0), (.iastore, 0, 0, 0, 0), (.iinc 3 1, 0, 0, 1, 0), (.goto (-35), 0, 43, 0, 0)] (43, [some (.ref 0), some (.int l1), none, some (.int (l3 + 1))], [], (sy_up σ.1 12 l3.toNatClampNeg (((σ.1 18 l3.toNatClampNeg) + (σ.1 17 l3.toNatClampNeg)) - (σ.1 16 l3.toNatClampNeg)), σ.2)) [sy_okA shM 0 18 l3, sy_okA shM 0 17 l3, sy_okA shM 0 16 l3, sy_okA shM 0 12 l3] (by decide +kernel) rfl ⟨⟨16, _, rfl, (b1 c1)⟩, ⟨16, _, rfl, (b1 c1)⟩, ⟨16, _, rfl, (b1 c1)⟩, ⟨16, _, rfl, (b1 c1)⟩, trivial⟩ ?_
    exact k2 c1

set_option maxRecDepth 20000 in
theorem w_M_opposite_89 {Q : Option Value → sy_S → Prop} {σ : sy_S} {l1 : Int32} {v : Int32}   (k1 : sy_E shM mX12_lays (0, sy_ent [.ref 0, .int l1, .ref 12] 4, [], σ) (fun r9 σ9 => sy_E shM mX12_opposite (99, [none, none, none, none], r9.toList ++ [], σ9) Q)) : sy_E shM mX12_opposite (89, [some (.ref 0), some (.int l1), none, none], [.int v], σ) Q := by
  refine sy_bk [(.istore_n 3, 0, 0, 0, 0), (.aload_n 0, 0, 0, 0, 0), (.iload_n 1, 0, 0, 0, 0), (.aload_n 0, 0, 0, 0, 0), (.getfield 53, 12, 22, 0, 0)] (96, [some (.ref 0), some (.int l1), none, some (.int v)], [.ref 12, .int l1, .ref 0], σ) [] (by decide +kernel) rfl trivial ?_
  refine sy_drop [none, none, none, none] trivial ?_
  refine sy_callV mX12_lays 0 [.int l1, .ref 12] [] kX12_lays jX12_257 (by decide +kernel) rfl rfl (Nat.le_of_ble_eq_true rfl) (Nat.le_of_ble_eq_true rfl) (by decide) rfl ?_
  exact k1

set_option maxRecDepth 20000 in
theorem w_M_opposite_99 {Q : Option Value → sy_S → Prop} {σ : sy_S} {v : Int32}   (k1 : Q (some (.int v)) σ) : sy_E shM mX12_opposite (99, [none, none, none, none], [.int v], σ) Q := by
  exact sy_reti rfl (by decide +kernel) (k1)

set_option maxRecDepth 20000 in
theorem w_M_order_0 {Q : Option Value → sy_S → Prop} {σ : sy_S} {p : Int32}  (b1 : ∀ (m_1 : Nat), px p6 p = some m_1 → vp_in p 6) (k1 : ∀ (m_1 : Nat), px p6 p = some m_1 → ¬ (σ.1 8 p.toNatClampNeg) = 0 → sy_E shM mX12_laysNought (0, sy_ent [.ref 0] 3, [], σ) (fun r9 σ9 => sy_E shM mX12_order (25, [some (.ref 0), some (.int p), none, none], r9.toList ++ [], σ9) Q)) (k2 : ∀ (m_1 : Nat), px p6 p = some m_1 → ¬ (¬ (σ.1 8 p.toNatClampNeg) = 0) → Q (some (.int (-6))) σ) (k3 : px p6 p = none → Q (some (.int (-1))) σ) : sy_E shM mX12_order (0, sy_ent [.ref 0, .int p] 4, [], σ) Q := by
  show sy_E shM mX12_order (0, [some (.ref 0), some (.int p), none, none], [], σ) _
  refine sy_bk [(.iload_n 1, 0, 0, 0, 0)] (1, [some (.ref 0), some (.int p), none, none], [.int p], σ) [] (by decide +kernel) rfl trivial ?_
  refine sy_callS mX12_isPile [.int p] [] kX12_isPile jX12_254 (by decide +kernel) rfl rfl (Nat.le_of_ble_eq_true rfl) (Nat.le_of_ble_eq_true rfl) (by decide) ?_
  refine e_m_isPile (σ := σ) (i := p) ?_ ?_
  · intro m_1 c2
    show sy_E shM mX12_order (4, [some (.ref 0), some (.int p), none, none], [.int 1], σ) _
    refine sy_bk [(.ifCond .ne 5, 1, 9, 0, 0), (.aload_n 0, 0, 0, 0, 0), (.getfield 41, 12, 10, 0, 0), (.iload_n 1, 0, 0, 0, 0), (.baload, 0, 0, 0, 0)] (15, [some (.ref 0), some (.int p), none, none], [.int (σ.1 8 p.toNatClampNeg)], σ) [sy_cc .ne 1 0, sy_okA shM 1 8 p] (by decide +kernel) rfl ⟨(by decide : (¬ (1 : Int32) = 0)), ⟨6, _, rfl, (b1 m_1 c2)⟩, trivial⟩ ?_
    by_cases c3 : ¬ (σ.1 8 p.toNatClampNeg) = 0
    · refine sy_bk [(.ifCond .ne 6, 1, 21, 0, 0)] (21, [some (.ref 0), some (.int p), none, none], [], σ) [sy_cc .ne (σ.1 8 p.toNatClampNeg) 0] (by decide +kernel) rfl ⟨c3, trivial⟩ ?_
      refine sy_bk [(.aload_n 0, 0, 0, 0, 0)] (22, [some (.ref 0), some (.int p), none, none], [.ref 0], σ) [] (by decide +kernel) rfl trivial ?_
      refine sy_callV mX12_laysNought 0 [] [] kX12_laysNought jX12_269 (by decide +kernel) rfl rfl (Nat.le_of_ble_eq_true rfl) (Nat.le_of_ble_eq_true rfl) (by decide) rfl ?_
      exact k1 m_1 c2 c3
    · refine sy_bk [(.ifCond .ne 6, 0, 21, 0, 0)] (18, [some (.ref 0), some (.int p), none, none], [], σ) [¬ sy_cc .ne (σ.1 8 p.toNatClampNeg) 0] (by decide +kernel) rfl ⟨c3, trivial⟩ ?_
      refine sy_bk [(.bipush (-6), 0, 0, (-6), 0)] (20, [some (.ref 0), some (.int p), none, none], [.int (-6)], σ) [] (by decide +kernel) rfl trivial ?_
      exact sy_reti rfl (by decide +kernel) (k2 m_1 c2 c3)
  · intro c4
    show sy_E shM mX12_order (4, [some (.ref 0), some (.int p), none, none], [.int 0], σ) _
    refine sy_bk [(.ifCond .ne 5, 0, 9, 0, 0), (.iconst (-1), 0, 0, (-1), 0)] (8, [some (.ref 0), some (.int p), none, none], [.int (-1)], σ) [¬ sy_cc .ne 0 0] (by decide +kernel) rfl ⟨(by decide : ¬ (¬ (0 : Int32) = 0)), trivial⟩ ?_
    exact sy_reti rfl (by decide +kernel) (k3 c4)

set_option maxRecDepth 20000 in
theorem w_M_order_25 {Q : Option Value → sy_S → Prop} {σ : sy_S} {l1 : Int32}   (k1 : sy_E shM mX12_copies (0, sy_ent [.ref 18, .ref 12] 3, [], σ) (fun r9 σ9 => sy_E shM mX12_order (36, [some (.ref 0), some (.int l1), none, none], r9.toList ++ [], σ9) Q)) : sy_E shM mX12_order (25, [some (.ref 0), some (.int l1), none, none], [], σ) Q := by
  refine sy_bk [(.aload_n 0, 0, 0, 0, 0), (.getfield 71, 12, 29, 0, 0), (.aload_n 0, 0, 0, 0, 0), (.getfield 53, 12, 22, 0, 0)] (33, [some (.ref 0), some (.int l1), none, none], [.ref 12, .ref 18], σ) [] (by decide +kernel) rfl trivial ?_
  refine sy_callS mX12_copies [.ref 18, .ref 12] [] kX12_copies jX12_209 (by decide +kernel) rfl rfl (Nat.le_of_ble_eq_true rfl) (Nat.le_of_ble_eq_true rfl) (by decide) ?_
  exact k1

set_option maxRecDepth 20000 in
theorem w_M_order_36 {Q : Option Value → sy_S → Prop} {σ : sy_S} {l1 : Int32}   (k1 : sy_E shM mX12_takes (0, sy_ent [.ref 0, .int l1, .ref 16] 4, [], σ) (fun r9 σ9 => sy_E shM mX12_order (45, [some (.ref 0), none, none, none], r9.toList ++ [], σ9) Q)) : sy_E shM mX12_order (36, [some (.ref 0), some (.int l1), none, none], [], σ) Q := by
  refine sy_bk [(.aload_n 0, 0, 0, 0, 0), (.iload_n 1, 0, 0, 0, 0), (.aload_n 0, 0, 0, 0, 0), (.getfield 65, 12, 27, 0, 0)] (42, [some (.ref 0), some (.int l1), none, none], [.ref 16, .int l1, .ref 0], σ) [] (by decide +kernel) rfl trivial ?_
  refine sy_drop [some (.ref 0), none, none, none] ⟨rfl, trivial⟩ ?_
  refine sy_callV mX12_takes 0 [.int l1, .ref 16] [] kX12_takes jX12_261 (by decide +kernel) rfl rfl (Nat.le_of_ble_eq_true rfl) (Nat.le_of_ble_eq_true rfl) (by decide) rfl ?_
  exact k1

set_option maxRecDepth 20000 in
theorem w_M_order_45 {Q : Option Value → sy_S → Prop} {σ : sy_S}    (k1 : sy_E shM mX12_order (47, [some (.ref 0), none, some (.int 1), none], [], σ) Q) : sy_E shM mX12_order (45, [some (.ref 0), none, none, none], [], σ) Q := by
  refine sy_bk [(.iconst 1, 0, 0, 1, 0), (.istore_n 2, 0, 0, 0, 0)] (47, [some (.ref 0), none, some (.int 1), none], [], σ) [] (by decide +kernel) rfl trivial ?_
  exact k1

set_option maxRecDepth 20000 in
theorem w_M_order_47 {Q : Option Value → sy_S → Prop} {σ : sy_S} {l2 : Int32}   (k1 : 2000 < l2 → Q (some (.int (-5))) σ) (k2 : ¬ (2000 < l2) → sy_E shM mX12_addsTo (0, sy_ent [.ref 0, .ref 12, .ref 16] 4, [], σ) (fun r9 σ9 => sy_E shM mX12_order (66, [some (.ref 0), none, some (.int l2), none], r9.toList ++ [], σ9) Q)) : sy_E shM mX12_order (47, [some (.ref 0), none, some (.int l2), none], [], σ) Q := by
  refine sy_bk [(.iload_n 2, 0, 0, 0, 0), (.sipush 2000, 0, 0, 2000, 0)] (51, [some (.ref 0), none, some (.int l2), none], [.int 2000, .int l2], σ) [] (by decide +kernel) rfl trivial ?_
  by_cases c1 : 2000 < l2
  · refine sy_bk [(.if_icmp .gt 39, 1, 90, 0, 0)] (90, [some (.ref 0), none, some (.int l2), none], [], σ) [sy_cc .gt l2 2000] (by decide +kernel) rfl ⟨c1, trivial⟩ ?_
    refine sy_bk [(.bipush (-5), 0, 0, (-5), 0)] (92, [some (.ref 0), none, some (.int l2), none], [.int (-5)], σ) [] (by decide +kernel) rfl trivial ?_
    exact sy_reti rfl (by decide +kernel) (k1 c1)
  · refine sy_bk [(.if_icmp .gt 39, 0, 90, 0, 0)] (54, [some (.ref 0), none, some (.int l2), none], [], σ) [¬ sy_cc .gt l2 2000] (by decide +kernel) rfl ⟨c1, trivial⟩ ?_
    refine sy_bk [(.aload_n 0, 0, 0, 0, 0), (.aload_n 0, 0, 0, 0, 0), (.getfield 53, 12, 22, 0, 0), (.aload_n 0, 0, 0, 0, 0), (.getfield 65, 12, 27, 0, 0)] (63, [some (.ref 0), none, some (.int l2), none], [.ref 16, .ref 12, .ref 0], σ) [] (by decide +kernel) rfl trivial ?_
    refine sy_callV mX12_addsTo 0 [.ref 12, .ref 16] [] kX12_addsTo jX12_265 (by decide +kernel) rfl rfl (Nat.le_of_ble_eq_true rfl) (Nat.le_of_ble_eq_true rfl) (by decide) rfl ?_
    exact k2 c1

set_option maxRecDepth 20000 in
theorem w_M_order_66 {Q : Option Value → sy_S → Prop} {σ : sy_S} {l2 : Int32} {v : Int32}   (k1 : sy_E shM mX12_isLike (0, sy_ent [.ref 0, .ref 12, .ref 18] 5, [], σ) (fun r9 σ9 => sy_E shM mX12_order (79, [some (.ref 0), none, some (.int l2), none], r9.toList ++ [], σ9) Q)) : sy_E shM mX12_order (66, [some (.ref 0), none, some (.int l2), none], [.int v], σ) Q := by
  refine sy_bk [(.istore_n 3, 0, 0, 0, 0), (.aload_n 0, 0, 0, 0, 0), (.aload_n 0, 0, 0, 0, 0), (.getfield 53, 12, 22, 0, 0), (.aload_n 0, 0, 0, 0, 0), (.getfield 71, 12, 29, 0, 0)] (76, [some (.ref 0), none, some (.int l2), some (.int v)], [.ref 18, .ref 12, .ref 0], σ) [] (by decide +kernel) rfl trivial ?_
  refine sy_drop [some (.ref 0), none, some (.int l2), none] ⟨rfl, rfl, trivial⟩ ?_
  refine sy_callV mX12_isLike 0 [.ref 12, .ref 18] [] kX12_isLike jX12_274 (by decide +kernel) rfl rfl (Nat.le_of_ble_eq_true rfl) (Nat.le_of_ble_eq_true rfl) (by decide) rfl ?_
  exact k1

set_option maxRecDepth 20000 in
theorem w_M_order_79 {Q : Option Value → sy_S → Prop} {σ : sy_S} {l2 : Int32} {v : Int32}   (k1 : v = 0 → sy_E shM mX12_order (47, [some (.ref 0), none, some (.int (l2 + 1)), none], [], σ) Q) (k2 : ¬ (v = 0) → Q (some (.int l2)) σ) : sy_E shM mX12_order (79, [some (.ref 0), none, some (.int l2), none], [.int v], σ) Q := by
  by_cases c1 : v = 0
  · refine sy_bk [(.ifCond .eq 5, 1, 84, 0, 0)] (84, [some (.ref 0), none, some (.int l2), none], [], σ) [sy_cc .eq v 0] (by decide +kernel) rfl ⟨c1, trivial⟩ ?_
    refine sy_bk [(.iinc 2 1, 0, 0, 1, 0), (.goto (-40), 0, 47, 0, 0)] (47, [some (.ref 0), none, some (.int (l2 + 1)), none], [], σ) [] (by decide +kernel) rfl trivial ?_
    exact k1 c1
  · refine sy_bk [(.ifCond .eq 5, 0, 84, 0, 0)] (82, [some (.ref 0), none, some (.int l2), none], [], σ) [¬ sy_cc .eq v 0] (by decide +kernel) rfl ⟨c1, trivial⟩ ?_
    refine sy_bk [(.iload_n 2, 0, 0, 0, 0)] (83, [some (.ref 0), none, some (.int l2), none], [.int l2], σ) [] (by decide +kernel) rfl trivial ?_
    exact sy_reti rfl (by decide +kernel) (k2 c1)

set_option maxRecDepth 20000 in
theorem w_M_one_0 {Q : Option Value → sy_S → Prop} {σ : sy_S} {a : Int32} {b : Int32}  (b1 : ∀ (m_1 : Nat), px p6 a = some m_1 → ∀ (m_3 : Nat), px p6 b = some m_3 → vp_in a 6) (b2 : ∀ (m_1 : Nat), px p6 a = some m_1 → ∀ (m_3 : Nat), px p6 b = some m_3 → ¬ ((σ.1 8 a.toNatClampNeg) = 0) → vp_in b 6) (k1 : ∀ (m_1 : Nat), px p6 a = some m_1 → ∀ (m_3 : Nat), px p6 b = some m_3 → (σ.1 8 a.toNatClampNeg) = 0 → Q (some (.int (-6))) σ) (k2 : ∀ (m_1 : Nat), px p6 a = some m_1 → ∀ (m_3 : Nat), px p6 b = some m_3 → ¬ ((σ.1 8 a.toNatClampNeg) = 0) → ¬ (σ.1 8 b.toNatClampNeg) = 0 → sy_E shM mX12_laysNought (0, sy_ent [.ref 0] 3, [], σ) (fun r9 σ9 => sy_E shM mX12_one (41, [some (.ref 0), some (.int a), some (.int b), none], r9.toList ++ [], σ9) Q)) (k3 : ∀ (m_1 : Nat), px p6 a = some m_1 → ∀ (m_3 : Nat), px p6 b = some m_3 → ¬ ((σ.1 8 a.toNatClampNeg) = 0) → ¬ (¬ (σ.1 8 b.toNatClampNeg) = 0) → Q (some (.int (-6))) σ) (k4 : ∀ (m_1 : Nat), px p6 a = some m_1 → px p6 b = none → Q (some (.int (-1))) σ) (k5 : px p6 a = none → Q (some (.int (-1))) σ) : sy_E shM mX12_one (0, sy_ent [.ref 0, .int a, .int b] 4, [], σ) Q := by
  show sy_E shM mX12_one (0, [some (.ref 0), some (.int a), some (.int b), none], [], σ) _
  refine sy_bk [(.iload_n 1, 0, 0, 0, 0)] (1, [some (.ref 0), some (.int a), some (.int b), none], [.int a], σ) [] (by decide +kernel) rfl trivial ?_
  refine sy_callS mX12_isPile [.int a] [] kX12_isPile jX12_254 (by decide +kernel) rfl rfl (Nat.le_of_ble_eq_true rfl) (Nat.le_of_ble_eq_true rfl) (by decide) ?_
  refine e_m_isPile (σ := σ) (i := a) ?_ ?_
  · intro m_1 c2
    show sy_E shM mX12_one (4, [some (.ref 0), some (.int a), some (.int b), none], [.int 1], σ) _
    refine sy_bk [(.ifCond .eq 10, 0, 14, 0, 0), (.iload_n 2, 0, 0, 0, 0)] (8, [some (.ref 0), some (.int a), some (.int b), none], [.int b], σ) [¬ sy_cc .eq 1 0] (by decide +kernel) rfl ⟨(by decide : ¬ ((1 : Int32) = 0)), trivial⟩ ?_
    refine sy_callS mX12_isPile [.int b] [] kX12_isPile jX12_254 (by decide +kernel) rfl rfl (Nat.le_of_ble_eq_true rfl) (Nat.le_of_ble_eq_true rfl) (by decide) ?_
    refine e_m_isPile (σ := σ) (i := b) ?_ ?_
    · intro m_3 c4
      show sy_E shM mX12_one (11, [some (.ref 0), some (.int a), some (.int b), none], [.int 1], σ) _
      refine sy_bk [(.ifCond .ne 5, 1, 16, 0, 0), (.aload_n 0, 0, 0, 0, 0), (.getfield 41, 12, 10, 0, 0), (.iload_n 1, 0, 0, 0, 0), (.baload, 0, 0, 0, 0)] (22, [some (.ref 0), some (.int a), some (.int b), none], [.int (σ.1 8 a.toNatClampNeg)], σ) [sy_cc .ne 1 0, sy_okA shM 1 8 a] (by decide +kernel) rfl ⟨(by decide : (¬ (1 : Int32) = 0)), ⟨6, _, rfl, (b1 m_1 c2 m_3 c4)⟩, trivial⟩ ?_
      by_cases c5 : (σ.1 8 a.toNatClampNeg) = 0
      · refine sy_bk [(.ifCond .eq 12, 1, 34, 0, 0)] (34, [some (.ref 0), some (.int a), some (.int b), none], [], σ) [sy_cc .eq (σ.1 8 a.toNatClampNeg) 0] (by decide +kernel) rfl ⟨c5, trivial⟩ ?_
        refine sy_bk [(.bipush (-6), 0, 0, (-6), 0)] (36, [some (.ref 0), some (.int a), some (.int b), none], [.int (-6)], σ) [] (by decide +kernel) rfl trivial ?_
        exact sy_reti rfl (by decide +kernel) (k1 m_1 c2 m_3 c4 c5)
      · refine sy_bk [(.ifCond .eq 12, 0, 34, 0, 0)] (25, [some (.ref 0), some (.int a), some (.int b), none], [], σ) [¬ sy_cc .eq (σ.1 8 a.toNatClampNeg) 0] (by decide +kernel) rfl ⟨c5, trivial⟩ ?_
        refine sy_bk [(.aload_n 0, 0, 0, 0, 0), (.getfield 41, 12, 10, 0, 0), (.iload_n 2, 0, 0, 0, 0), (.baload, 0, 0, 0, 0)] (31, [some (.ref 0), some (.int a), some (.int b), none], [.int (σ.1 8 b.toNatClampNeg)], σ) [sy_okA shM 1 8 b] (by decide +kernel) rfl ⟨⟨6, _, rfl, (b2 m_1 c2 m_3 c4 c5)⟩, trivial⟩ ?_
        by_cases c6 : ¬ (σ.1 8 b.toNatClampNeg) = 0
        · refine sy_bk [(.ifCond .ne 6, 1, 37, 0, 0)] (37, [some (.ref 0), some (.int a), some (.int b), none], [], σ) [sy_cc .ne (σ.1 8 b.toNatClampNeg) 0] (by decide +kernel) rfl ⟨c6, trivial⟩ ?_
          refine sy_bk [(.aload_n 0, 0, 0, 0, 0)] (38, [some (.ref 0), some (.int a), some (.int b), none], [.ref 0], σ) [] (by decide +kernel) rfl trivial ?_
          refine sy_callV mX12_laysNought 0 [] [] kX12_laysNought jX12_269 (by decide +kernel) rfl rfl (Nat.le_of_ble_eq_true rfl) (Nat.le_of_ble_eq_true rfl) (by decide) rfl ?_
          exact k2 m_1 c2 m_3 c4 c5 c6
        · refine sy_bk [(.ifCond .ne 6, 0, 37, 0, 0)] (34, [some (.ref 0), some (.int a), some (.int b), none], [], σ) [¬ sy_cc .ne (σ.1 8 b.toNatClampNeg) 0] (by decide +kernel) rfl ⟨c6, trivial⟩ ?_
          refine sy_bk [(.bipush (-6), 0, 0, (-6), 0)] (36, [some (.ref 0), some (.int a), some (.int b), none], [.int (-6)], σ) [] (by decide +kernel) rfl trivial ?_
          exact sy_reti rfl (by decide +kernel) (k3 m_1 c2 m_3 c4 c5 c6)
    · intro c7
      show sy_E shM mX12_one (11, [some (.ref 0), some (.int a), some (.int b), none], [.int 0], σ) _
      refine sy_bk [(.ifCond .ne 5, 0, 16, 0, 0), (.iconst (-1), 0, 0, (-1), 0)] (15, [some (.ref 0), some (.int a), some (.int b), none], [.int (-1)], σ) [¬ sy_cc .ne 0 0] (by decide +kernel) rfl ⟨(by decide : ¬ (¬ (0 : Int32) = 0)), trivial⟩ ?_
      exact sy_reti rfl (by decide +kernel) (k4 m_1 c2 c7)
  · intro c8
    show sy_E shM mX12_one (4, [some (.ref 0), some (.int a), some (.int b), none], [.int 0], σ) _
    refine sy_bk [(.ifCond .eq 10, 1, 14, 0, 0), (.iconst (-1), 0, 0, (-1), 0)] (15, [some (.ref 0), some (.int a), some (.int b), none], [.int (-1)], σ) [sy_cc .eq 0 0] (by decide +kernel) rfl ⟨(by decide : ((0 : Int32) = 0)), trivial⟩ ?_
    exact sy_reti rfl (by decide +kernel) (k5 c8)

set_option maxRecDepth 20000 in
theorem w_M_one_41 {Q : Option Value → sy_S → Prop} {σ : sy_S} {l1 : Int32} {l2 : Int32}   (k1 : sy_E shM mX12_takes (0, sy_ent [.ref 0, .int l1, .ref 12] 4, [], σ) (fun r9 σ9 => sy_E shM mX12_one (50, [some (.ref 0), none, some (.int l2), none], r9.toList ++ [], σ9) Q)) : sy_E shM mX12_one (41, [some (.ref 0), some (.int l1), some (.int l2), none], [], σ) Q := by
  refine sy_bk [(.aload_n 0, 0, 0, 0, 0), (.iload_n 1, 0, 0, 0, 0), (.aload_n 0, 0, 0, 0, 0), (.getfield 53, 12, 22, 0, 0)] (47, [some (.ref 0), some (.int l1), some (.int l2), none], [.ref 12, .int l1, .ref 0], σ) [] (by decide +kernel) rfl trivial ?_
  refine sy_drop [some (.ref 0), none, some (.int l2), none] ⟨rfl, rfl, trivial⟩ ?_
  refine sy_callV mX12_takes 0 [.int l1, .ref 12] [] kX12_takes jX12_261 (by decide +kernel) rfl rfl (Nat.le_of_ble_eq_true rfl) (Nat.le_of_ble_eq_true rfl) (by decide) rfl ?_
  exact k1

set_option maxRecDepth 20000 in
theorem w_M_one_50 {Q : Option Value → sy_S → Prop} {σ : sy_S} {l2 : Int32}   (k1 : sy_E shM mX12_takes (0, sy_ent [.ref 0, .int l2, .ref 19] 4, [], σ) (fun r9 σ9 => sy_E shM mX12_one (59, [some (.ref 0), none, none, none], r9.toList ++ [], σ9) Q)) : sy_E shM mX12_one (50, [some (.ref 0), none, some (.int l2), none], [], σ) Q := by
  refine sy_bk [(.aload_n 0, 0, 0, 0, 0), (.iload_n 2, 0, 0, 0, 0), (.aload_n 0, 0, 0, 0, 0), (.getfield 74, 12, 30, 0, 0)] (56, [some (.ref 0), none, some (.int l2), none], [.ref 19, .int l2, .ref 0], σ) [] (by decide +kernel) rfl trivial ?_
  refine sy_drop [some (.ref 0), none, none, none] ⟨rfl, trivial⟩ ?_
  refine sy_callV mX12_takes 0 [.int l2, .ref 19] [] kX12_takes jX12_261 (by decide +kernel) rfl rfl (Nat.le_of_ble_eq_true rfl) (Nat.le_of_ble_eq_true rfl) (by decide) rfl ?_
  exact k1

set_option maxRecDepth 20000 in
theorem w_M_one_59 {Q : Option Value → sy_S → Prop} {σ : sy_S}    (k1 : sy_E shM mX12_isLike (0, sy_ent [.ref 0, .ref 12, .ref 19] 5, [], σ) (fun r9 σ9 => sy_E shM mX12_one (71, [some (.ref 0), none, none, none], r9.toList ++ [], σ9) Q)) : sy_E shM mX12_one (59, [some (.ref 0), none, none, none], [], σ) Q := by
  refine sy_bk [(.aload_n 0, 0, 0, 0, 0), (.aload_n 0, 0, 0, 0, 0), (.getfield 53, 12, 22, 0, 0), (.aload_n 0, 0, 0, 0, 0), (.getfield 74, 12, 30, 0, 0)] (68, [some (.ref 0), none, none, none], [.ref 19, .ref 12, .ref 0], σ) [] (by decide +kernel) rfl trivial ?_
  refine sy_callV mX12_isLike 0 [.ref 12, .ref 19] [] kX12_isLike jX12_274 (by decide +kernel) rfl rfl (Nat.le_of_ble_eq_true rfl) (Nat.le_of_ble_eq_true rfl) (by decide) rfl ?_
  exact k1

set_option maxRecDepth 20000 in
theorem w_M_one_71 {Q : Option Value → sy_S → Prop} {σ : sy_S} {v : Int32}   (k1 : v = 0 → sy_E shM mX12_addsTo (0, sy_ent [.ref 0, .ref 12, .ref 18] 4, [], σ) (fun r9 σ9 => sy_E shM mX12_one (88, [some (.ref 0), none, none, none], r9.toList ++ [], σ9) Q)) (k2 : ¬ (v = 0) → Q (some (.int 2)) σ) : sy_E shM mX12_one (71, [some (.ref 0), none, none, none], [.int v], σ) Q := by
  by_cases c1 : v = 0
  · refine sy_bk [(.ifCond .eq 5, 1, 76, 0, 0)] (76, [some (.ref 0), none, none, none], [], σ) [sy_cc .eq v 0] (by decide +kernel) rfl ⟨c1, trivial⟩ ?_
    refine sy_bk [(.aload_n 0, 0, 0, 0, 0), (.aload_n 0, 0, 0, 0, 0), (.getfield 53, 12, 22, 0, 0), (.aload_n 0, 0, 0, 0, 0), (.getfield 71, 12, 29, 0, 0)] (85, [some (.ref 0), none, none, none], [.ref 18, .ref 12, .ref 0], σ) [] (by decide +kernel) rfl trivial ?_
    refine sy_callV mX12_addsTo 0 [.ref 12, .ref 18] [] kX12_addsTo jX12_265 (by decide +kernel) rfl rfl (Nat.le_of_ble_eq_true rfl) (Nat.le_of_ble_eq_true rfl) (by decide) rfl ?_
    exact k1 c1
  · refine sy_bk [(.ifCond .eq 5, 0, 76, 0, 0)] (74, [some (.ref 0), none, none, none], [], σ) [¬ sy_cc .eq v 0] (by decide +kernel) rfl ⟨c1, trivial⟩ ?_
    refine sy_bk [(.iconst 2, 0, 0, 2, 0)] (75, [some (.ref 0), none, none, none], [.int 2], σ) [] (by decide +kernel) rfl trivial ?_
    exact sy_reti rfl (by decide +kernel) (k2 c1)

set_option maxRecDepth 20000 in
theorem w_M_one_88 {Q : Option Value → sy_S → Prop} {σ : sy_S} {v : Int32}   (k1 : sy_E shM mX12_addsTo (0, sy_ent [.ref 0, .ref 19, .ref 18] 4, [], σ) (fun r9 σ9 => sy_E shM mX12_one (101, [some (.ref 0), none, none, none], r9.toList ++ [], σ9) Q)) : sy_E shM mX12_one (88, [some (.ref 0), none, none, none], [.int v], σ) Q := by
  refine sy_bk [(.istore_n 3, 0, 0, 0, 0), (.aload_n 0, 0, 0, 0, 0), (.aload_n 0, 0, 0, 0, 0), (.getfield 74, 12, 30, 0, 0), (.aload_n 0, 0, 0, 0, 0), (.getfield 71, 12, 29, 0, 0)] (98, [some (.ref 0), none, none, some (.int v)], [.ref 18, .ref 19, .ref 0], σ) [] (by decide +kernel) rfl trivial ?_
  refine sy_drop [some (.ref 0), none, none, none] ⟨rfl, trivial⟩ ?_
  refine sy_callV mX12_addsTo 0 [.ref 19, .ref 18] [] kX12_addsTo jX12_265 (by decide +kernel) rfl rfl (Nat.le_of_ble_eq_true rfl) (Nat.le_of_ble_eq_true rfl) (by decide) rfl ?_
  exact k1

set_option maxRecDepth 20000 in
theorem w_M_one_101 {Q : Option Value → sy_S → Prop} {σ : sy_S} {v : Int32}   (k1 : sy_E shM mX12_isLike (0, sy_ent [.ref 0, .ref 12, .ref 19] 5, [], σ) (fun r9 σ9 => sy_E shM mX12_one (114, [none, none, none, none], r9.toList ++ [], σ9) Q)) : sy_E shM mX12_one (101, [some (.ref 0), none, none, none], [.int v], σ) Q := by
  refine sy_bk [(.istore_n 3, 0, 0, 0, 0), (.aload_n 0, 0, 0, 0, 0), (.aload_n 0, 0, 0, 0, 0), (.getfield 53, 12, 22, 0, 0), (.aload_n 0, 0, 0, 0, 0), (.getfield 74, 12, 30, 0, 0)] (111, [some (.ref 0), none, none, some (.int v)], [.ref 19, .ref 12, .ref 0], σ) [] (by decide +kernel) rfl trivial ?_
  refine sy_drop [none, none, none, none] trivial ?_
  refine sy_callV mX12_isLike 0 [.ref 12, .ref 19] [] kX12_isLike jX12_274 (by decide +kernel) rfl rfl (Nat.le_of_ble_eq_true rfl) (Nat.le_of_ble_eq_true rfl) (by decide) rfl ?_
  exact k1

set_option maxRecDepth 20000 in
theorem w_M_one_114 {Q : Option Value → sy_S → Prop} {σ : sy_S} {v : Int32}   (k1 : v = 0 → Q (some (.int 0)) σ) (k2 : ¬ (v = 0) → Q (some (.int 1)) σ) : sy_E shM mX12_one (114, [none, none, none, none], [.int v], σ) Q := by
  by_cases c1 : v = 0
  · refine sy_bk [(.ifCond .eq 7, 1, 121, 0, 0)] (121, [none, none, none, none], [], σ) [sy_cc .eq v 0] (by decide +kernel) rfl ⟨c1, trivial⟩ ?_
    refine sy_bk [(.iconst 0, 0, 0, 0, 0)] (122, [none, none, none, none], [.int 0], σ) [] (by decide +kernel) rfl trivial ?_
    exact sy_reti rfl (by decide +kernel) (k1 c1)
  · refine sy_bk [(.ifCond .eq 7, 0, 121, 0, 0)] (117, [none, none, none, none], [], σ) [¬ sy_cc .eq v 0] (by decide +kernel) rfl ⟨c1, trivial⟩ ?_
    refine sy_bk [(.iconst 1, 0, 0, 1, 0), (.goto 4, 0, 122, 0, 0)] (122, [none, none, none, none], [.int 1], σ) [] (by decide +kernel) rfl trivial ?_
    exact sy_reti rfl (by decide +kernel) (k2 c1)

set_option maxRecDepth 20000 in
theorem w_M_laysMatrix_0 {Q : Option Value → sy_S → Prop} {σ : sy_S}    (k1 : sy_E shM mX12_laysMatrix (2, [some (.ref 0), some (.int 0), none, none], [], σ) Q) : sy_E shM mX12_laysMatrix (0, sy_ent [.ref 0] 4, [], σ) Q := by
  show sy_E shM mX12_laysMatrix (0, [some (.ref 0), none, none, none], [], σ) _
  refine sy_bk [(.iconst 0, 0, 0, 0, 0), (.istore_n 1, 0, 0, 0, 0)] (2, [some (.ref 0), some (.int 0), none, none], [], σ) [] (by decide +kernel) rfl trivial ?_
  exact k1

set_option maxRecDepth 20000 in
theorem w_M_laysMatrix_2 {Q : Option Value → sy_S → Prop} {σ : sy_S} {l1 : Int32}   (k1 : 16 ≤ l1 → Q none σ) (k2 : ¬ (16 ≤ l1) → sy_E shM mX12_laysMatrix (10, [some (.ref 0), some (.int l1), some (.int 0), none], [], σ) Q) : sy_E shM mX12_laysMatrix (2, [some (.ref 0), some (.int l1), none, none], [], σ) Q := by
  refine sy_bk [(.iload_n 1, 0, 0, 0, 0), (.bipush 16, 0, 0, 16, 0)] (5, [some (.ref 0), some (.int l1), none, none], [.int 16, .int l1], σ) [] (by decide +kernel) rfl trivial ?_
  by_cases c1 : 16 ≤ l1
  · refine sy_bk [(.if_icmp .ge 135, 1, 140, 0, 0)] (140, [some (.ref 0), some (.int l1), none, none], [], σ) [sy_cc .ge l1 16] (by decide +kernel) rfl ⟨c1, trivial⟩ ?_
    exact sy_retv rfl (by decide +kernel) (k1 c1)
  · refine sy_bk [(.if_icmp .ge 135, 0, 140, 0, 0)] (8, [some (.ref 0), some (.int l1), none, none], [], σ) [¬ sy_cc .ge l1 16] (by decide +kernel) rfl ⟨c1, trivial⟩ ?_
    refine sy_bk [(.iconst 0, 0, 0, 0, 0), (.istore_n 2, 0, 0, 0, 0)] (10, [some (.ref 0), some (.int l1), some (.int 0), none], [], σ) [] (by decide +kernel) rfl trivial ?_
    exact k2 c1

set_option maxRecDepth 20000 in
theorem w_M_laysMatrix_10 {Q : Option Value → sy_S → Prop} {σ : sy_S} {l1 : Int32} {l2 : Int32}  (b1 : ¬ (16 ≤ l2) → ((σ.1 0 0) * (σ.1 0 1)) ≤ l1 → ¬ l1 = l2 → vp_in ((16 * l1) + l2) 256) (b2 : ¬ (16 ≤ l2) → ((σ.1 0 0) * (σ.1 0 1)) ≤ l1 → ¬ (¬ l1 = l2) → vp_in ((16 * l1) + l2) 256) (b3 : ¬ (16 ≤ l2) → ¬ (((σ.1 0 0) * (σ.1 0 1)) ≤ l1) → vp_in l1 16) (b4 : ¬ (16 ≤ l2) → ¬ (((σ.1 0 0) * (σ.1 0 1)) ≤ l1) → ¬ (σ.1 1 l1.toNatClampNeg) = 0 → ¬ l1 = l2 → vp_in ((16 * l1) + l2) 256) (b5 : ¬ (16 ≤ l2) → ¬ (((σ.1 0 0) * (σ.1 0 1)) ≤ l1) → ¬ (σ.1 1 l1.toNatClampNeg) = 0 → ¬ (¬ l1 = l2) → vp_in ((16 * l1) + l2) 256) (b6 : ¬ (16 ≤ l2) → ¬ (((σ.1 0 0) * (σ.1 0 1)) ≤ l1) → ¬ (¬ (σ.1 1 l1.toNatClampNeg) = 0) → ¬ l1 = l2 → vp_in ((16 * l1) + l2) 256) (b7 : ¬ (16 ≤ l2) → ¬ (((σ.1 0 0) * (σ.1 0 1)) ≤ l1) → ¬ (¬ (σ.1 1 l1.toNatClampNeg) = 0) → ¬ (¬ l1 = l2) → vp_in ((16 * l1) + l2) 256) (k1 : 16 ≤ l2 → sy_E shM mX12_laysMatrix (78, [some (.ref 0), some (.int l1), some (.int 0), none], [], σ) Q) (k2 : ¬ (16 ≤ l2) → ((σ.1 0 0) * (σ.1 0 1)) ≤ l1 → ¬ l1 = l2 → sy_E shM mX12_laysMatrix (10, [some (.ref 0), some (.int l1), some (.int (l2 + 1)), none], [], (σ.1, sy_upL σ.2 20 (((16 * l1) + l2).toNatClampNeg) 0)) Q) (k3 : ¬ (16 ≤ l2) → ((σ.1 0 0) * (σ.1 0 1)) ≤ l1 → ¬ (¬ l1 = l2) → sy_E shM mX12_laysMatrix (10, [some (.ref 0), some (.int l1), some (.int (l2 + 1)), none], [], (σ.1, sy_upL σ.2 20 (((16 * l1) + l2).toNatClampNeg) 1)) Q) (k4 : ¬ (16 ≤ l2) → ¬ (((σ.1 0 0) * (σ.1 0 1)) ≤ l1) → ¬ (σ.1 1 l1.toNatClampNeg) = 0 → ¬ l1 = l2 → sy_E shM mX12_laysMatrix (10, [some (.ref 0), some (.int l1), some (.int (l2 + 1)), none], [], (σ.1, sy_upL σ.2 20 (((16 * l1) + l2).toNatClampNeg) 0)) Q) (k5 : ¬ (16 ≤ l2) → ¬ (((σ.1 0 0) * (σ.1 0 1)) ≤ l1) → ¬ (σ.1 1 l1.toNatClampNeg) = 0 → ¬ (¬ l1 = l2) → sy_E shM mX12_laysMatrix (10, [some (.ref 0), some (.int l1), some (.int (l2 + 1)), none], [], (σ.1, sy_upL σ.2 20 (((16 * l1) + l2).toNatClampNeg) 1)) Q) (k6 : ¬ (16 ≤ l2) → ¬ (((σ.1 0 0) * (σ.1 0 1)) ≤ l1) → ¬ (¬ (σ.1 1 l1.toNatClampNeg) = 0) → ¬ l1 = l2 → sy_E shM mX12_laysMatrix (10, [some (.ref 0), some (.int l1), some (.int (l2 + 1)), none], [], (σ.1, sy_upL σ.2 20 (((16 * l1) + l2).toNatClampNeg) 0)) Q) (k7 : ¬ (16 ≤ l2) → ¬ (((σ.1 0 0) * (σ.1 0 1)) ≤ l1) → ¬ (¬ (σ.1 1 l1.toNatClampNeg) = 0) → ¬ (¬ l1 = l2) → sy_E shM mX12_laysMatrix (10, [some (.ref 0), some (.int l1), some (.int (l2 + 1)), none], [], (σ.1, sy_upL σ.2 20 (((16 * l1) + l2).toNatClampNeg) 4)) Q) : sy_E shM mX12_laysMatrix (10, [some (.ref 0), some (.int l1), some (.int l2), none], [], σ) Q := by
  refine sy_bk [(.iload_n 2, 0, 0, 0, 0), (.bipush 16, 0, 0, 16, 0)] (13, [some (.ref 0), some (.int l1), some (.int l2), none], [.int 16, .int l2], σ) [] (by decide +kernel) rfl trivial ?_
  by_cases c1 : 16 ≤ l2
  · refine sy_bk [(.if_icmp .ge 63, 1, 76, 0, 0)] (76, [some (.ref 0), some (.int l1), some (.int l2), none], [], σ) [sy_cc .ge l2 16] (by decide +kernel) rfl ⟨c1, trivial⟩ ?_
    refine sy_bk [(.iconst 0, 0, 0, 0, 0), (.istore_n 2, 0, 0, 0, 0)] (78, [some (.ref 0), some (.int l1), some (.int 0), none], [], σ) [] (by decide +kernel) rfl trivial ?_
    exact k1 c1
  · refine sy_bk [(.if_icmp .ge 63, 0, 76, 0, 0)] (16, [some (.ref 0), some (.int l1), some (.int l2), none], [], σ) [¬ sy_cc .ge l2 16] (by decide +kernel) rfl ⟨c1, trivial⟩ ?_
    refine sy_bk [(.iload_n 1, 0, 0, 0, 0), (.aload_n 0, 0, 0, 0, 0)] (18, [some (.ref 0), some (.int l1), some (.int l2), none], [.ref 0, .int l1], σ) [] (by decide +kernel) rfl trivial ?_
    refine sy_callV mX12_cells 0 [] [.int l1] kX12_cells jX12_105 (by decide +kernel) rfl rfl (Nat.le_of_ble_eq_true rfl) (Nat.le_of_ble_eq_true rfl) (by decide) rfl ?_
    refine w_m_cells (σ := σ) ?_
    show sy_E shM mX12_laysMatrix (21, [some (.ref 0), some (.int l1), some (.int l2), none], [.int ((σ.1 0 0) * (σ.1 0 1)), .int l1], σ) _
    by_cases c2 : ((σ.1 0 0) * (σ.1 0 1)) ≤ l1
    · refine sy_bk [(.if_icmp .ge 16, 1, 37, 0, 0)] (37, [some (.ref 0), some (.int l1), some (.int l2), none], [], σ) [sy_cc .ge l1 ((σ.1 0 0) * (σ.1 0 1))] (by decide +kernel) rfl ⟨c2, trivial⟩ ?_
      refine sy_bk [(.iconst 0, 0, 0, 0, 0), (.istore_n 3, 0, 0, 0, 0), (.aload_n 0, 0, 0, 0, 0), (.getfield 77, 12, 31, 0, 0), (.bipush 16, 0, 0, 16, 0), (.iload_n 1, 0, 0, 0, 0), (.imul, 0, 0, 0, 0), (.iload_n 2, 0, 0, 0, 0), (.iadd, 0, 0, 0, 0), (.iload_n 1, 0, 0, 0, 0), (.iload_n 2, 0, 0, 0, 0)] (51, [some (.ref 0), some (.int l1), some (.int l2), some (.int 0)], [.int l2, .int l1, .int ((16 * l1) + l2), .ref 20], σ) [] (by decide +kernel) rfl trivial ?_
      by_cases c3 : ¬ l1 = l2
      · refine sy_bk [(.if_icmp .ne 17, 1, 68, 0, 0)] (68, [some (.ref 0), some (.int l1), some (.int l2), some (.int 0)], [.int ((16 * l1) + l2), .ref 20], σ) [sy_cc .ne l1 l2] (by decide +kernel) rfl ⟨c3, trivial⟩ ?_
        refine sy_bk [(.lconst 0, 0, 0, 0, 0), (.lastore, 0, 0, 0, 0), (.iinc 2 1, 0, 0, 1, 0), (.goto (-63), 0, 10, 0, 0)] (10, [some (.ref 0), some (.int l1), some (.int (l2 + 1)), some (.int 0)], [], (σ.1, sy_upL σ.2 20 (((16 * l1) + l2).toNatClampNeg) 0)) [sy_okA shM 2 20 ((16 * l1) + l2)] (by decide +kernel) rfl ⟨⟨256, _, rfl, (b1 c1 c2 c3)⟩, trivial⟩ ?_
        refine sy_drop [some (.ref 0), some (.int l1), some (.int (l2 + 1)), none] ⟨rfl, rfl, rfl, trivial⟩ ?_
        exact k2 c1 c2 c3
      · refine sy_bk [(.if_icmp .ne 17, 0, 68, 0, 0)] (54, [some (.ref 0), some (.int l1), some (.int l2), some (.int 0)], [.int ((16 * l1) + l2), .ref 20], σ) [¬ sy_cc .ne l1 l2] (by decide +kernel) rfl ⟨c3, trivial⟩ ?_
        refine sy_bk [(.iload_n 3, 0, 0, 0, 0), (.ifCond .eq 9, 1, 64, 0, 0), (.lconst 1, 0, 0, 0, 1), (.goto 4, 0, 69, 0, 0), (.lastore, 0, 0, 0, 0), (.iinc 2 1, 0, 0, 1, 0), (.goto (-63), 0, 10, 0, 0)] (10, [some (.ref 0), some (.int l1), some (.int (l2 + 1)), some (.int 0)], [], (σ.1, sy_upL σ.2 20 (((16 * l1) + l2).toNatClampNeg) 1)) [sy_cc .eq 0 0, sy_okA shM 2 20 ((16 * l1) + l2)] (by decide +kernel) rfl ⟨(by decide : ((0 : Int32) = 0)), ⟨256, _, rfl, (b2 c1 c2 c3)⟩, trivial⟩ ?_
        refine sy_drop [some (.ref 0), some (.int l1), some (.int (l2 + 1)), none] ⟨rfl, rfl, rfl, trivial⟩ ?_
        exact k3 c1 c2 c3
    · refine sy_bk [(.if_icmp .ge 16, 0, 37, 0, 0)] (24, [some (.ref 0), some (.int l1), some (.int l2), none], [], σ) [¬ sy_cc .ge l1 ((σ.1 0 0) * (σ.1 0 1))] (by decide +kernel) rfl ⟨c2, trivial⟩ ?_
      refine sy_bk [(.aload_n 0, 0, 0, 0, 0), (.getfield 18, 12, 2, 0, 0), (.iload_n 1, 0, 0, 0, 0), (.baload, 0, 0, 0, 0)] (30, [some (.ref 0), some (.int l1), some (.int l2), none], [.int (σ.1 1 l1.toNatClampNeg)], σ) [sy_okA shM 1 1 l1] (by decide +kernel) rfl ⟨⟨16, _, rfl, (b3 c1 c2)⟩, trivial⟩ ?_
      by_cases c4 : ¬ (σ.1 1 l1.toNatClampNeg) = 0
      · refine sy_bk [(.ifCond .ne 7, 1, 37, 0, 0)] (37, [some (.ref 0), some (.int l1), some (.int l2), none], [], σ) [sy_cc .ne (σ.1 1 l1.toNatClampNeg) 0] (by decide +kernel) rfl ⟨c4, trivial⟩ ?_
        refine sy_bk [(.iconst 0, 0, 0, 0, 0), (.istore_n 3, 0, 0, 0, 0), (.aload_n 0, 0, 0, 0, 0), (.getfield 77, 12, 31, 0, 0), (.bipush 16, 0, 0, 16, 0), (.iload_n 1, 0, 0, 0, 0), (.imul, 0, 0, 0, 0), (.iload_n 2, 0, 0, 0, 0), (.iadd, 0, 0, 0, 0), (.iload_n 1, 0, 0, 0, 0), (.iload_n 2, 0, 0, 0, 0)] (51, [some (.ref 0), some (.int l1), some (.int l2), some (.int 0)], [.int l2, .int l1, .int ((16 * l1) + l2), .ref 20], σ) [] (by decide +kernel) rfl trivial ?_
        by_cases c5 : ¬ l1 = l2
        · refine sy_bk [(.if_icmp .ne 17, 1, 68, 0, 0)] (68, [some (.ref 0), some (.int l1), some (.int l2), some (.int 0)], [.int ((16 * l1) + l2), .ref 20], σ) [sy_cc .ne l1 l2] (by decide +kernel) rfl ⟨c5, trivial⟩ ?_
          refine sy_bk [(.lconst 0, 0, 0, 0, 0), (.lastore, 0, 0, 0, 0), (.iinc 2 1, 0, 0, 1, 0), (.goto (-63), 0, 10, 0, 0)] (10, [some (.ref 0), some (.int l1), some (.int (l2 + 1)), some (.int 0)], [], (σ.1, sy_upL σ.2 20 (((16 * l1) + l2).toNatClampNeg) 0)) [sy_okA shM 2 20 ((16 * l1) + l2)] (by decide +kernel) rfl ⟨⟨256, _, rfl, (b4 c1 c2 c4 c5)⟩, trivial⟩ ?_
          refine sy_drop [some (.ref 0), some (.int l1), some (.int (l2 + 1)), none] ⟨rfl, rfl, rfl, trivial⟩ ?_
          exact k4 c1 c2 c4 c5
        · refine sy_bk [(.if_icmp .ne 17, 0, 68, 0, 0)] (54, [some (.ref 0), some (.int l1), some (.int l2), some (.int 0)], [.int ((16 * l1) + l2), .ref 20], σ) [¬ sy_cc .ne l1 l2] (by decide +kernel) rfl ⟨c5, trivial⟩ ?_
          refine sy_bk [(.iload_n 3, 0, 0, 0, 0), (.ifCond .eq 9, 1, 64, 0, 0), (.lconst 1, 0, 0, 0, 1), (.goto 4, 0, 69, 0, 0), (.lastore, 0, 0, 0, 0), (.iinc 2 1, 0, 0, 1, 0), (.goto (-63), 0, 10, 0, 0)] (10, [some (.ref 0), some (.int l1), some (.int (l2 + 1)), some (.int 0)], [], (σ.1, sy_upL σ.2 20 (((16 * l1) + l2).toNatClampNeg) 1)) [sy_cc .eq 0 0, sy_okA shM 2 20 ((16 * l1) + l2)] (by decide +kernel) rfl ⟨(by decide : ((0 : Int32) = 0)), ⟨256, _, rfl, (b5 c1 c2 c4 c5)⟩, trivial⟩ ?_
          refine sy_drop [some (.ref 0), some (.int l1), some (.int (l2 + 1)), none] ⟨rfl, rfl, rfl, trivial⟩ ?_
          exact k5 c1 c2 c4 c5
      · refine sy_bk [(.ifCond .ne 7, 0, 37, 0, 0)] (33, [some (.ref 0), some (.int l1), some (.int l2), none], [], σ) [¬ sy_cc .ne (σ.1 1 l1.toNatClampNeg) 0] (by decide +kernel) rfl ⟨c4, trivial⟩ ?_
        refine sy_bk [(.iconst 1, 0, 0, 1, 0), (.goto 4, 0, 38, 0, 0), (.istore_n 3, 0, 0, 0, 0), (.aload_n 0, 0, 0, 0, 0), (.getfield 77, 12, 31, 0, 0), (.bipush 16, 0, 0, 16, 0), (.iload_n 1, 0, 0, 0, 0), (.imul, 0, 0, 0, 0), (.iload_n 2, 0, 0, 0, 0), (.iadd, 0, 0, 0, 0), (.iload_n 1, 0, 0, 0, 0), (.iload_n 2, 0, 0, 0, 0)] (51, [some (.ref 0), some (.int l1), some (.int l2), some (.int 1)], [.int l2, .int l1, .int ((16 * l1) + l2), .ref 20], σ) [] (by decide +kernel) rfl trivial ?_
        by_cases c6 : ¬ l1 = l2
        · refine sy_bk [(.if_icmp .ne 17, 1, 68, 0, 0)] (68, [some (.ref 0), some (.int l1), some (.int l2), some (.int 1)], [.int ((16 * l1) + l2), .ref 20], σ) [sy_cc .ne l1 l2] (by decide +kernel) rfl ⟨c6, trivial⟩ ?_
          refine sy_bk [(.lconst 0, 0, 0, 0, 0), (.lastore, 0, 0, 0, 0), (.iinc 2 1, 0, 0, 1, 0), (.goto (-63), 0, 10, 0, 0)] (10, [some (.ref 0), some (.int l1), some (.int (l2 + 1)), some (.int 1)], [], (σ.1, sy_upL σ.2 20 (((16 * l1) + l2).toNatClampNeg) 0)) [sy_okA shM 2 20 ((16 * l1) + l2)] (by decide +kernel) rfl ⟨⟨256, _, rfl, (b6 c1 c2 c4 c6)⟩, trivial⟩ ?_
          refine sy_drop [some (.ref 0), some (.int l1), some (.int (l2 + 1)), none] ⟨rfl, rfl, rfl, trivial⟩ ?_
          exact k6 c1 c2 c4 c6
        · refine sy_bk [(.if_icmp .ne 17, 0, 68, 0, 0)] (54, [some (.ref 0), some (.int l1), some (.int l2), some (.int 1)], [.int ((16 * l1) + l2), .ref 20], σ) [¬ sy_cc .ne l1 l2] (by decide +kernel) rfl ⟨c6, trivial⟩ ?_
          refine sy_bk [(.iload_n 3, 0, 0, 0, 0), (.ifCond .eq 9, 0, 64, 0, 0), (.ldc2_w 147, 0, 0, 0, 4), (.goto 8, 0, 69, 0, 0), (.lastore, 0, 0, 0, 0), (.iinc 2 1, 0, 0, 1, 0), (.goto (-63), 0, 10, 0, 0)] (10, [some (.ref 0), some (.int l1), some (.int (l2 + 1)), some (.int 1)], [], (σ.1, sy_upL σ.2 20 (((16 * l1) + l2).toNatClampNeg) 4)) [¬ sy_cc .eq 1 0, sy_okA shM 2 20 ((16 * l1) + l2)] (by decide +kernel) rfl ⟨(by decide : ¬ ((1 : Int32) = 0)), ⟨256, _, rfl, (b7 c1 c2 c4 c6)⟩, trivial⟩ ?_
          refine sy_drop [some (.ref 0), some (.int l1), some (.int (l2 + 1)), none] ⟨rfl, rfl, rfl, trivial⟩ ?_
          exact k7 c1 c2 c4 c6

set_option maxRecDepth 20000 in
theorem w_M_laysMatrix_78 {Q : Option Value → sy_S → Prop} {σ : sy_S} {l1 : Int32} {l2 : Int32}  (b1 : ¬ (((σ.1 0 0) * (σ.1 0 1)) ≤ l1) → vp_in l1 16) (b2 : ¬ (((σ.1 0 0) * (σ.1 0 1)) ≤ l1) → ¬ (¬ (σ.1 1 l1.toNatClampNeg) = 0) → ¬ ((σ.1 4 l1.toNatClampNeg) ≤ l2) → vp_in ((4 * l1) + l2) 64) (b3 : ¬ (((σ.1 0 0) * (σ.1 0 1)) ≤ l1) → ¬ (¬ (σ.1 1 l1.toNatClampNeg) = 0) → ¬ ((σ.1 4 l1.toNatClampNeg) ≤ l2) → vp_in ((16 * l1) + (σ.1 3 (((4 * l1) + l2).toNatClampNeg))) 256) (k1 : ((σ.1 0 0) * (σ.1 0 1)) ≤ l1 → sy_E shM mX12_laysMatrix (2, [some (.ref 0), some (.int (l1 + 1)), none, none], [], σ) Q) (k2 : ¬ (((σ.1 0 0) * (σ.1 0 1)) ≤ l1) → ¬ (σ.1 1 l1.toNatClampNeg) = 0 → sy_E shM mX12_laysMatrix (2, [some (.ref 0), some (.int (l1 + 1)), none, none], [], σ) Q) (k3 : ¬ (((σ.1 0 0) * (σ.1 0 1)) ≤ l1) → ¬ (¬ (σ.1 1 l1.toNatClampNeg) = 0) → (σ.1 4 l1.toNatClampNeg) ≤ l2 → sy_E shM mX12_laysMatrix (2, [some (.ref 0), some (.int (l1 + 1)), none, none], [], σ) Q) (k4 : ¬ (((σ.1 0 0) * (σ.1 0 1)) ≤ l1) → ¬ (¬ (σ.1 1 l1.toNatClampNeg) = 0) → ¬ ((σ.1 4 l1.toNatClampNeg) ≤ l2) → sy_E shM mX12_laysMatrix (78, [some (.ref 0), some (.int l1), some (.int (l2 + 1)), none], [], (σ.1, sy_upL σ.2 20 (((16 * l1) + (σ.1 3 (((4 * l1) + l2).toNatClampNeg))).toNatClampNeg) (-1))) Q) : sy_E shM mX12_laysMatrix (78, [some (.ref 0), some (.int l1), some (.int l2), none], [], σ) Q := by
  refine sy_bk [(.iload_n 1, 0, 0, 0, 0), (.aload_n 0, 0, 0, 0, 0)] (80, [some (.ref 0), some (.int l1), some (.int l2), none], [.ref 0, .int l1], σ) [] (by decide +kernel) rfl trivial ?_
  refine sy_callV mX12_cells 0 [] [.int l1] kX12_cells jX12_105 (by decide +kernel) rfl rfl (Nat.le_of_ble_eq_true rfl) (Nat.le_of_ble_eq_true rfl) (by decide) rfl ?_
  refine w_m_cells (σ := σ) ?_
  show sy_E shM mX12_laysMatrix (83, [some (.ref 0), some (.int l1), some (.int l2), none], [.int ((σ.1 0 0) * (σ.1 0 1)), .int l1], σ) _
  by_cases c1 : ((σ.1 0 0) * (σ.1 0 1)) ≤ l1
  · refine sy_bk [(.if_icmp .ge 51, 1, 134, 0, 0)] (134, [some (.ref 0), some (.int l1), some (.int l2), none], [], σ) [sy_cc .ge l1 ((σ.1 0 0) * (σ.1 0 1))] (by decide +kernel) rfl ⟨c1, trivial⟩ ?_
    refine sy_bk [(.iinc 1 1, 0, 0, 1, 0), (.goto (-135), 0, 2, 0, 0)] (2, [some (.ref 0), some (.int (l1 + 1)), some (.int l2), none], [], σ) [] (by decide +kernel) rfl trivial ?_
    refine sy_drop [some (.ref 0), some (.int (l1 + 1)), none, none] ⟨rfl, rfl, trivial⟩ ?_
    exact k1 c1
  · refine sy_bk [(.if_icmp .ge 51, 0, 134, 0, 0)] (86, [some (.ref 0), some (.int l1), some (.int l2), none], [], σ) [¬ sy_cc .ge l1 ((σ.1 0 0) * (σ.1 0 1))] (by decide +kernel) rfl ⟨c1, trivial⟩ ?_
    refine sy_bk [(.aload_n 0, 0, 0, 0, 0), (.getfield 18, 12, 2, 0, 0), (.iload_n 1, 0, 0, 0, 0), (.baload, 0, 0, 0, 0)] (92, [some (.ref 0), some (.int l1), some (.int l2), none], [.int (σ.1 1 l1.toNatClampNeg)], σ) [sy_okA shM 1 1 l1] (by decide +kernel) rfl ⟨⟨16, _, rfl, (b1 c1)⟩, trivial⟩ ?_
    by_cases c2 : ¬ (σ.1 1 l1.toNatClampNeg) = 0
    · refine sy_bk [(.ifCond .ne 42, 1, 134, 0, 0)] (134, [some (.ref 0), some (.int l1), some (.int l2), none], [], σ) [sy_cc .ne (σ.1 1 l1.toNatClampNeg) 0] (by decide +kernel) rfl ⟨c2, trivial⟩ ?_
      refine sy_bk [(.iinc 1 1, 0, 0, 1, 0), (.goto (-135), 0, 2, 0, 0)] (2, [some (.ref 0), some (.int (l1 + 1)), some (.int l2), none], [], σ) [] (by decide +kernel) rfl trivial ?_
      refine sy_drop [some (.ref 0), some (.int (l1 + 1)), none, none] ⟨rfl, rfl, trivial⟩ ?_
      exact k2 c1 c2
    · refine sy_bk [(.ifCond .ne 42, 0, 134, 0, 0)] (95, [some (.ref 0), some (.int l1), some (.int l2), none], [], σ) [¬ sy_cc .ne (σ.1 1 l1.toNatClampNeg) 0] (by decide +kernel) rfl ⟨c2, trivial⟩ ?_
      refine sy_bk [(.iload_n 2, 0, 0, 0, 0), (.aload_n 0, 0, 0, 0, 0), (.getfield 29, 12, 5, 0, 0), (.iload_n 1, 0, 0, 0, 0), (.iaload, 0, 0, 0, 0)] (102, [some (.ref 0), some (.int l1), some (.int l2), none], [.int (σ.1 4 l1.toNatClampNeg), .int l2], σ) [sy_okA shM 0 4 l1] (by decide +kernel) rfl ⟨⟨16, _, rfl, (b1 c1)⟩, trivial⟩ ?_
      by_cases c3 : (σ.1 4 l1.toNatClampNeg) ≤ l2
      · refine sy_bk [(.if_icmp .ge 32, 1, 134, 0, 0)] (134, [some (.ref 0), some (.int l1), some (.int l2), none], [], σ) [sy_cc .ge l2 (σ.1 4 l1.toNatClampNeg)] (by decide +kernel) rfl ⟨c3, trivial⟩ ?_
        refine sy_bk [(.iinc 1 1, 0, 0, 1, 0), (.goto (-135), 0, 2, 0, 0)] (2, [some (.ref 0), some (.int (l1 + 1)), some (.int l2), none], [], σ) [] (by decide +kernel) rfl trivial ?_
        refine sy_drop [some (.ref 0), some (.int (l1 + 1)), none, none] ⟨rfl, rfl, trivial⟩ ?_
        exact k3 c1 c2 c3
      · refine sy_bk [(.if_icmp .ge 32, 0, 134, 0, 0)] (105, [some (.ref 0), some (.int l1), some (.int l2), none], [], σ) [¬ sy_cc .ge l2 (σ.1 4 l1.toNatClampNeg)] (by decide +kernel) rfl ⟨c3, trivial⟩ ?_
        refine sy_bk [(.aload_n 0, 0, 0, 0, 0), (.getfield 77, 12, 31, 0, 0), (.bipush 16, 0, 0, 16, 0), (.iload_n 1, 0, 0, 0, 0), (.imul, 0, 0, 0, 0), (.aload_n 0, 0, 0, 0, 0), (.getfield 26, 12, 4, 0, 0), (.iconst 4, 0, 0, 4, 0), (.iload_n 1, 0, 0, 0, 0), (.imul, 0, 0, 0, 0), (.iload_n 2, 0, 0, 0, 0), (.iadd, 0, 0, 0, 0), (.iaload, 0, 0, 0, 0), (.iadd, 0, 0, 0, 0), (.ldc2_w 278, 0, 0, 0, (-1)), (.lastore, 0, 0, 0, 0), (.iinc 2 1, 0, 0, 1, 0), (.goto (-53), 0, 78, 0, 0)] (78, [some (.ref 0), some (.int l1), some (.int (l2 + 1)), none], [], (σ.1, sy_upL σ.2 20 (((16 * l1) + (σ.1 3 (((4 * l1) + l2).toNatClampNeg))).toNatClampNeg) (-1))) [sy_okA shM 0 3 ((4 * l1) + l2), sy_okA shM 2 20 ((16 * l1) + (σ.1 3 (((4 * l1) + l2).toNatClampNeg)))] (by decide +kernel) rfl ⟨⟨64, _, rfl, (b2 c1 c2 c3)⟩, ⟨256, _, rfl, (b3 c1 c2 c3)⟩, trivial⟩ ?_
        exact k4 c1 c2 c3

set_option maxRecDepth 20000 in
theorem w_M_group_0 {Q : Option Value → sy_S → Prop} {σ : sy_S}    (k1 : sy_E shM mX12_laysMatrix (0, sy_ent [.ref 0] 4, [], σ) (fun r9 σ9 => sy_E shM mX12_group (4, [some (.ref 0), none, none, none, none, none, none, none], r9.toList ++ [], σ9) Q)) : sy_E shM mX12_group (0, sy_ent [.ref 0] 8, [], σ) Q := by
  show sy_E shM mX12_group (0, [some (.ref 0), none, none, none, none, none, none, none], [], σ) _
  refine sy_bk [(.aload_n 0, 0, 0, 0, 0)] (1, [some (.ref 0), none, none, none, none, none, none, none], [.ref 0], σ) [] (by decide +kernel) rfl trivial ?_
  refine sy_callV mX12_laysMatrix 0 [] [] kX12_laysMatrix jX12_280 (by decide +kernel) rfl rfl (Nat.le_of_ble_eq_true rfl) (Nat.le_of_ble_eq_true rfl) (by decide) rfl ?_
  exact k1

set_option maxRecDepth 20000 in
theorem w_M_group_4 {Q : Option Value → sy_S → Prop} {σ : sy_S}    (k1 : sy_E shM mX12_group (8, [some (.ref 0), some (.long 1), none, some (.int 0), none, none, none, none], [], σ) Q) : sy_E shM mX12_group (4, [some (.ref 0), none, none, none, none, none, none, none], [], σ) Q := by
  refine sy_bk [(.lconst 1, 0, 0, 0, 1), (.lstore_n 1, 0, 0, 0, 0), (.iconst 0, 0, 0, 0, 0), (.istore_n 3, 0, 0, 0, 0)] (8, [some (.ref 0), some (.long 1), none, some (.int 0), none, none, none, none], [], σ) [] (by decide +kernel) rfl trivial ?_
  exact k1

set_option maxRecDepth 20000 in
theorem w_M_group_8 {Q : Option Value → sy_S → Prop} {σ : sy_S} {l1 : Int64} {l3 : Int32}  (b1 : ¬ (15 ≤ l3) → vp_in ((16 * l3) + l3) 256) (k1 : 15 ≤ l3 → Q (some (.long (σ.2 20 255))) σ) (k2 : ¬ (15 ≤ l3) → sy_E shM mX12_group (32, [some (.ref 0), some (.long l1), none, some (.int l3), some (.long (σ.2 20 (((16 * l3) + l3).toNatClampNeg))), none, some (.int (l3 + 1)), none], [], σ) Q) : sy_E shM mX12_group (8, [some (.ref 0), some (.long l1), none, some (.int l3), none, none, none, none], [], σ) Q := by
  refine sy_bk [(.iload_n 3, 0, 0, 0, 0), (.bipush 15, 0, 0, 15, 0)] (11, [some (.ref 0), some (.long l1), none, some (.int l3), none, none, none, none], [.int 15, .int l3], σ) [] (by decide +kernel) rfl trivial ?_
  by_cases c1 : 15 ≤ l3
  · refine sy_bk [(.if_icmp .ge 118, 1, 129, 0, 0)] (129, [some (.ref 0), some (.long l1), none, some (.int l3), none, none, none, none], [], σ) [sy_cc .ge l3 15] (by decide +kernel) rfl ⟨c1, trivial⟩ ?_
    refine sy_bk [(.aload_n 0, 0, 0, 0, 0), (.getfield 77, 12, 31, 0, 0), (.sipush 255, 0, 0, 255, 0), (.laload, 0, 0, 0, 0)] (137, [some (.ref 0), some (.long l1), none, some (.int l3), none, none, none, none], [.long (σ.2 20 255)], σ) [sy_okA shM 2 20 255] (by decide +kernel) rfl ⟨⟨256, _, rfl, vp_in_nI (n := 255) (by decide) (by decide)⟩, trivial⟩ ?_
    exact sy_retl rfl (by decide +kernel) (k1 c1)
  · refine sy_bk [(.if_icmp .ge 118, 0, 129, 0, 0)] (14, [some (.ref 0), some (.long l1), none, some (.int l3), none, none, none, none], [], σ) [¬ sy_cc .ge l3 15] (by decide +kernel) rfl ⟨c1, trivial⟩ ?_
    refine sy_bk [(.aload_n 0, 0, 0, 0, 0), (.getfield 77, 12, 31, 0, 0), (.bipush 16, 0, 0, 16, 0), (.iload_n 3, 0, 0, 0, 0), (.imul, 0, 0, 0, 0), (.iload_n 3, 0, 0, 0, 0), (.iadd, 0, 0, 0, 0), (.laload, 0, 0, 0, 0), (.lstore 4, 0, 0, 0, 0), (.iload_n 3, 0, 0, 0, 0), (.iconst 1, 0, 0, 1, 0), (.iadd, 0, 0, 0, 0), (.istore 6, 0, 0, 0, 0)] (32, [some (.ref 0), some (.long l1), none, some (.int l3), some (.long (σ.2 20 (((16 * l3) + l3).toNatClampNeg))), none, some (.int (l3 + 1)), none], [], σ) [sy_okA shM 2 20 ((16 * l3) + l3)] (by decide +kernel) rfl ⟨⟨256, _, rfl, (b1 c1)⟩, trivial⟩ ?_
    exact k2 c1

set_option maxRecDepth 20000 in
theorem w_M_group_32 {Q : Option Value → sy_S → Prop} {σ : sy_S} {l1 : Int64} {l3 : Int32} {l4 : Int64} {l6 : Int32}   (k1 : 16 ≤ l6 → sy_E shM mX12_group (8, [some (.ref 0), some (.long l4), none, some (.int (l3 + 1)), none, none, none, none], [], σ) Q) (k2 : ¬ (16 ≤ l6) → sy_E shM mX12_group (44, [some (.ref 0), some (.long l1), none, some (.int l3), some (.long l4), none, some (.int l6), some (.int (l3 + 1))], [], σ) Q) : sy_E shM mX12_group (32, [some (.ref 0), some (.long l1), none, some (.int l3), some (.long l4), none, some (.int l6), none], [], σ) Q := by
  refine sy_bk [(.iload 6, 0, 0, 0, 0), (.bipush 16, 0, 0, 16, 0)] (36, [some (.ref 0), some (.long l1), none, some (.int l3), some (.long l4), none, some (.int l6), none], [.int 16, .int l6], σ) [] (by decide +kernel) rfl trivial ?_
  by_cases c1 : 16 ≤ l6
  · refine sy_bk [(.if_icmp .ge 84, 1, 120, 0, 0)] (120, [some (.ref 0), some (.long l1), none, some (.int l3), some (.long l4), none, some (.int l6), none], [], σ) [sy_cc .ge l6 16] (by decide +kernel) rfl ⟨c1, trivial⟩ ?_
    refine sy_bk [(.lload 4, 0, 0, 0, 0), (.lstore_n 1, 0, 0, 0, 0), (.iinc 3 1, 0, 0, 1, 0), (.goto (-118), 0, 8, 0, 0)] (8, [some (.ref 0), some (.long l4), none, some (.int (l3 + 1)), some (.long l4), none, some (.int l6), none], [], σ) [] (by decide +kernel) rfl trivial ?_
    refine sy_drop [some (.ref 0), some (.long l4), none, some (.int (l3 + 1)), none, none, none, none] ⟨rfl, rfl, rfl, trivial⟩ ?_
    exact k1 c1
  · refine sy_bk [(.if_icmp .ge 84, 0, 120, 0, 0)] (39, [some (.ref 0), some (.long l1), none, some (.int l3), some (.long l4), none, some (.int l6), none], [], σ) [¬ sy_cc .ge l6 16] (by decide +kernel) rfl ⟨c1, trivial⟩ ?_
    refine sy_bk [(.iload_n 3, 0, 0, 0, 0), (.iconst 1, 0, 0, 1, 0), (.iadd, 0, 0, 0, 0), (.istore 7, 0, 0, 0, 0)] (44, [some (.ref 0), some (.long l1), none, some (.int l3), some (.long l4), none, some (.int l6), some (.int (l3 + 1))], [], σ) [] (by decide +kernel) rfl trivial ?_
    exact k2 c1

set_option maxRecDepth 20000 in
theorem w_M_group_44 {Q : Option Value → sy_S → Prop} {σ : sy_S} {l1 : Int64} {l3 : Int32} {l4 : Int64} {l6 : Int32} {l7 : Int32}  (b1 : ¬ (16 ≤ l7) → vp_in ((16 * l6) + l7) 256) (b2 : ¬ (16 ≤ l7) → vp_in ((16 * l6) + l3) 256) (b3 : ¬ (16 ≤ l7) → vp_in ((16 * l3) + l7) 256) (b4 : ¬ (16 ≤ l7) → ¬ l1 = 0) (k1 : 16 ≤ l7 → sy_E shM mX12_group (32, [some (.ref 0), some (.long l1), none, some (.int l3), some (.long l4), none, some (.int (l6 + 1)), none], [], σ) Q) (k2 : ¬ (16 ≤ l7) → sy_E shM mX12_group (44, [some (.ref 0), some (.long l1), none, some (.int l3), some (.long l4), none, some (.int l6), some (.int (l7 + 1))], [], (σ.1, sy_upL σ.2 20 (((16 * l6) + l7).toNatClampNeg) ((((σ.2 20 (((16 * l6) + l7).toNatClampNeg)) * l4) - ((σ.2 20 (((16 * l6) + l3).toNatClampNeg)) * (σ.2 20 (((16 * l3) + l7).toNatClampNeg)))) / l1))) Q) : sy_E shM mX12_group (44, [some (.ref 0), some (.long l1), none, some (.int l3), some (.long l4), none, some (.int l6), some (.int l7)], [], σ) Q := by
  refine sy_bk [(.iload 7, 0, 0, 0, 0), (.bipush 16, 0, 0, 16, 0)] (48, [some (.ref 0), some (.long l1), none, some (.int l3), some (.long l4), none, some (.int l6), some (.int l7)], [.int 16, .int l7], σ) [] (by decide +kernel) rfl trivial ?_
  by_cases c1 : 16 ≤ l7
  · refine sy_bk [(.if_icmp .ge 66, 1, 114, 0, 0)] (114, [some (.ref 0), some (.long l1), none, some (.int l3), some (.long l4), none, some (.int l6), some (.int l7)], [], σ) [sy_cc .ge l7 16] (by decide +kernel) rfl ⟨c1, trivial⟩ ?_
    refine sy_bk [(.iinc 6 1, 0, 0, 1, 0), (.goto (-85), 0, 32, 0, 0)] (32, [some (.ref 0), some (.long l1), none, some (.int l3), some (.long l4), none, some (.int (l6 + 1)), some (.int l7)], [], σ) [] (by decide +kernel) rfl trivial ?_
    refine sy_drop [some (.ref 0), some (.long l1), none, some (.int l3), some (.long l4), none, some (.int (l6 + 1)), none] ⟨rfl, rfl, rfl, rfl, rfl, trivial⟩ ?_
    exact k1 c1
  · refine sy_bk [(.if_icmp .ge 66, 0, 114, 0, 0)] (51, [some (.ref 0), some (.long l1), none, some (.int l3), some (.long l4), none, some (.int l6), some (.int l7)], [], σ) [¬ sy_cc .ge l7 16] (by decide +kernel) rfl ⟨c1, trivial⟩ ?_
    refine sy_bk [(.aload_n 0, 0, 0, 0, 0), (.getfield 77, 12, 31, 0, 0), (.bipush 16, 0, 0, 16, 0), (.iload 6, 0, 0, 0, 0), (.imul, 0, 0, 0, 0), (.iload 7, 0, 0, 0, 0), (.iadd, 0, 0, 0, 0), (.aload_n 0, 0, 0, 0, 0), (.getfield 77, 12, 31, 0, 0), (.bipush 16, 0, 0, 16, 0), (.iload 6, 0, 0, 0, 0), (.imul, 0, 0, 0, 0), (.iload 7, 0, 0, 0, 0), (.iadd, 0, 0, 0, 0), (.laload, 0, 0, 0, 0), (.lload 4, 0, 0, 0, 0), (.lmul, 0, 0, 0, 0), (.aload_n 0, 0, 0, 0, 0), (.getfield 77, 12, 31, 0, 0), (.bipush 16, 0, 0, 16, 0), (.iload 6, 0, 0, 0, 0), (.imul, 0, 0, 0, 0), (.iload_n 3, 0, 0, 0, 0), (.iadd, 0, 0, 0, 0), (.laload, 0, 0, 0, 0), (.aload_n 0, 0, 0, 0, 0), (.getfield 77, 12, 31, 0, 0), (.bipush 16, 0, 0, 16, 0), (.iload_n 3, 0, 0, 0, 0), (.imul, 0, 0, 0, 0), (.iload 7, 0, 0, 0, 0), (.iadd, 0, 0, 0, 0), (.laload, 0, 0, 0, 0), (.lmul, 0, 0, 0, 0), (.lsub, 0, 0, 0, 0), (.lload_n 1, 0, 0, 0, 0), (.ldiv, 0, 0, 0, 0), (.lastore, 0, 0, 0, 0), (.iinc 7 1, 0, 0, 1, 0), (.goto (-67), 0, 44, 0, 0)] (44, [some (.ref 0), some (.long l1), none, some (.int l3), some (.long l4), none, some (.int l6), some (.int (l7 + 1))], [], (σ.1, sy_upL σ.2 20 (((16 * l6) + l7).toNatClampNeg) ((((σ.2 20 (((16 * l6) + l7).toNatClampNeg)) * l4) - ((σ.2 20 (((16 * l6) + l3).toNatClampNeg)) * (σ.2 20 (((16 * l3) + l7).toNatClampNeg)))) / l1))) [sy_okA shM 2 20 ((16 * l6) + l7), sy_okA shM 2 20 ((16 * l6) + l3), sy_okA shM 2 20 ((16 * l3) + l7), ¬ l1 = 0, sy_okA shM 2 20 ((16 * l6) + l7)] (by decide +kernel) rfl ⟨⟨256, _, rfl, (b1 c1)⟩, ⟨256, _, rfl, (b2 c1)⟩, ⟨256, _, rfl, (b3 c1)⟩, (b4 c1), ⟨256, _, rfl, (b1 c1)⟩, trivial⟩ ?_
    exact k2 c1

set_option maxRecDepth 20000 in
theorem w_M_unburnt_0 {Q : Option Value → sy_S → Prop} {σ : sy_S} {c : Int32}   (k1 : sy_E shM mX12_unburnt (4, [some (.ref 0), some (.int c), some (.int 0), some (.int 0)], [], σ) Q) : sy_E shM mX12_unburnt (0, sy_ent [.ref 0, .int c] 4, [], σ) Q := by
  show sy_E shM mX12_unburnt (0, [some (.ref 0), some (.int c), none, none], [], σ) _
  refine sy_bk [(.iconst 0, 0, 0, 0, 0), (.istore_n 2, 0, 0, 0, 0), (.iconst 0, 0, 0, 0, 0), (.istore_n 3, 0, 0, 0, 0)] (4, [some (.ref 0), some (.int c), some (.int 0), some (.int 0)], [], σ) [] (by decide +kernel) rfl trivial ?_
  exact k1

set_option maxRecDepth 20000 in
theorem w_M_unburnt_4 {Q : Option Value → sy_S → Prop} {σ : sy_S} {l1 : Int32} {l2 : Int32} {l3 : Int32}  (b1 : vp_in l1 16) (b2 : ¬ ((σ.1 4 l1.toNatClampNeg) ≤ l3) → vp_in ((4 * l1) + l3) 64) (b3 : ¬ ((σ.1 4 l1.toNatClampNeg) ≤ l3) → vp_in (σ.1 3 (((4 * l1) + l3).toNatClampNeg)) 16) (k1 : (σ.1 4 l1.toNatClampNeg) ≤ l3 → Q (some (.int l2)) σ) (k2 : ¬ ((σ.1 4 l1.toNatClampNeg) ≤ l3) → ¬ (σ.1 21 ((σ.1 3 (((4 * l1) + l3).toNatClampNeg)).toNatClampNeg)) = 0 → sy_E shM mX12_unburnt (4, [some (.ref 0), some (.int l1), some (.int (l2 + 0)), some (.int (l3 + 1))], [], σ) Q) (k3 : ¬ ((σ.1 4 l1.toNatClampNeg) ≤ l3) → ¬ (¬ (σ.1 21 ((σ.1 3 (((4 * l1) + l3).toNatClampNeg)).toNatClampNeg)) = 0) → sy_E shM mX12_unburnt (4, [some (.ref 0), some (.int l1), some (.int (l2 + 1)), some (.int (l3 + 1))], [], σ) Q) : sy_E shM mX12_unburnt (4, [some (.ref 0), some (.int l1), some (.int l2), some (.int l3)], [], σ) Q := by
  refine sy_bk [(.iload_n 3, 0, 0, 0, 0), (.aload_n 0, 0, 0, 0, 0), (.getfield 29, 12, 5, 0, 0), (.iload_n 1, 0, 0, 0, 0), (.iaload, 0, 0, 0, 0)] (11, [some (.ref 0), some (.int l1), some (.int l2), some (.int l3)], [.int (σ.1 4 l1.toNatClampNeg), .int l3], σ) [sy_okA shM 0 4 l1] (by decide +kernel) rfl ⟨⟨16, _, rfl, b1⟩, trivial⟩ ?_
  by_cases c1 : (σ.1 4 l1.toNatClampNeg) ≤ l3
  · refine sy_bk [(.if_icmp .ge 35, 1, 46, 0, 0)] (46, [some (.ref 0), some (.int l1), some (.int l2), some (.int l3)], [], σ) [sy_cc .ge l3 (σ.1 4 l1.toNatClampNeg)] (by decide +kernel) rfl ⟨c1, trivial⟩ ?_
    refine sy_bk [(.iload_n 2, 0, 0, 0, 0)] (47, [some (.ref 0), some (.int l1), some (.int l2), some (.int l3)], [.int l2], σ) [] (by decide +kernel) rfl trivial ?_
    exact sy_reti rfl (by decide +kernel) (k1 c1)
  · refine sy_bk [(.if_icmp .ge 35, 0, 46, 0, 0)] (14, [some (.ref 0), some (.int l1), some (.int l2), some (.int l3)], [], σ) [¬ sy_cc .ge l3 (σ.1 4 l1.toNatClampNeg)] (by decide +kernel) rfl ⟨c1, trivial⟩ ?_
    refine sy_bk [(.iload_n 2, 0, 0, 0, 0), (.aload_n 0, 0, 0, 0, 0), (.getfield 81, 12, 32, 0, 0), (.aload_n 0, 0, 0, 0, 0), (.getfield 26, 12, 4, 0, 0), (.iconst 4, 0, 0, 4, 0), (.iload_n 1, 0, 0, 0, 0), (.imul, 0, 0, 0, 0), (.iload_n 3, 0, 0, 0, 0), (.iadd, 0, 0, 0, 0), (.iaload, 0, 0, 0, 0), (.iaload, 0, 0, 0, 0)] (30, [some (.ref 0), some (.int l1), some (.int l2), some (.int l3)], [.int (σ.1 21 ((σ.1 3 (((4 * l1) + l3).toNatClampNeg)).toNatClampNeg)), .int l2], σ) [sy_okA shM 0 3 ((4 * l1) + l3), sy_okA shM 0 21 (σ.1 3 (((4 * l1) + l3).toNatClampNeg))] (by decide +kernel) rfl ⟨⟨64, _, rfl, (b2 c1)⟩, ⟨16, _, rfl, (b3 c1)⟩, trivial⟩ ?_
    by_cases c2 : ¬ (σ.1 21 ((σ.1 3 (((4 * l1) + l3).toNatClampNeg)).toNatClampNeg)) = 0
    · refine sy_bk [(.ifCond .ne 7, 1, 37, 0, 0)] (37, [some (.ref 0), some (.int l1), some (.int l2), some (.int l3)], [.int l2], σ) [sy_cc .ne (σ.1 21 ((σ.1 3 (((4 * l1) + l3).toNatClampNeg)).toNatClampNeg)) 0] (by decide +kernel) rfl ⟨c2, trivial⟩ ?_
      refine sy_bk [(.iconst 0, 0, 0, 0, 0), (.iadd, 0, 0, 0, 0), (.istore_n 2, 0, 0, 0, 0), (.iinc 3 1, 0, 0, 1, 0), (.goto (-39), 0, 4, 0, 0)] (4, [some (.ref 0), some (.int l1), some (.int (l2 + 0)), some (.int (l3 + 1))], [], σ) [] (by decide +kernel) rfl trivial ?_
      exact k2 c1 c2
    · refine sy_bk [(.ifCond .ne 7, 0, 37, 0, 0)] (33, [some (.ref 0), some (.int l1), some (.int l2), some (.int l3)], [.int l2], σ) [¬ sy_cc .ne (σ.1 21 ((σ.1 3 (((4 * l1) + l3).toNatClampNeg)).toNatClampNeg)) 0] (by decide +kernel) rfl ⟨c2, trivial⟩ ?_
      refine sy_bk [(.iconst 1, 0, 0, 1, 0), (.goto 4, 0, 38, 0, 0), (.iadd, 0, 0, 0, 0), (.istore_n 2, 0, 0, 0, 0), (.iinc 3 1, 0, 0, 1, 0), (.goto (-39), 0, 4, 0, 0)] (4, [some (.ref 0), some (.int l1), some (.int (l2 + 1)), some (.int (l3 + 1))], [], σ) [] (by decide +kernel) rfl trivial ?_
      exact k3 c1 c2

set_option maxRecDepth 20000 in
theorem w_M_burns_0 {Q : Option Value → sy_S → Prop} {σ : sy_S}    (k1 : sy_E shM mX12_burns (7, [some (.ref 0), some (.ref 12), some (.int 0), some (.int 1), some (.int 0)], [], σ) Q) : sy_E shM mX12_burns (0, sy_ent [.ref 0, .ref 12] 5, [], σ) Q := by
  show sy_E shM mX12_burns (0, [some (.ref 0), some (.ref 12), none, none, none], [], σ) _
  refine sy_bk [(.iconst 0, 0, 0, 0, 0), (.istore_n 2, 0, 0, 0, 0), (.iconst 1, 0, 0, 1, 0), (.istore_n 3, 0, 0, 0, 0), (.iconst 0, 0, 0, 0, 0), (.istore 4, 0, 0, 0, 0)] (7, [some (.ref 0), some (.ref 12), some (.int 0), some (.int 1), some (.int 0)], [], σ) [] (by decide +kernel) rfl trivial ?_
  exact k1

set_option maxRecDepth 20000 in
theorem w_M_burns_7 {Q : Option Value → sy_S → Prop} {σ : sy_S} {l2 : Int32} {l3 : Int32} {l4 : Int32}  (b1 : ¬ (16 ≤ l4) → vp_in l4 16) (k1 : 16 ≤ l4 → sy_E shM mX12_burns (28, [some (.ref 0), some (.ref 12), some (.int l2), some (.int l3), none], [], σ) Q) (k2 : ¬ (16 ≤ l4) → sy_E shM mX12_burns (7, [some (.ref 0), some (.ref 12), some (.int l2), some (.int l3), some (.int (l4 + 1))], [], (sy_up σ.1 21 l4.toNatClampNeg 0, σ.2)) Q) : sy_E shM mX12_burns (7, [some (.ref 0), some (.ref 12), some (.int l2), some (.int l3), some (.int l4)], [], σ) Q := by
  refine sy_bk [(.iload 4, 0, 0, 0, 0), (.bipush 16, 0, 0, 16, 0)] (11, [some (.ref 0), some (.ref 12), some (.int l2), some (.int l3), some (.int l4)], [.int 16, .int l4], σ) [] (by decide +kernel) rfl trivial ?_
  by_cases c1 : 16 ≤ l4
  · refine sy_bk [(.if_icmp .ge 17, 1, 28, 0, 0)] (28, [some (.ref 0), some (.ref 12), some (.int l2), some (.int l3), some (.int l4)], [], σ) [sy_cc .ge l4 16] (by decide +kernel) rfl ⟨c1, trivial⟩ ?_
    refine sy_drop [some (.ref 0), some (.ref 12), some (.int l2), some (.int l3), none] ⟨rfl, rfl, rfl, rfl, trivial⟩ ?_
    exact k1 c1
  · refine sy_bk [(.if_icmp .ge 17, 0, 28, 0, 0)] (14, [some (.ref 0), some (.ref 12), some (.int l2), some (.int l3), some (.int l4)], [], σ) [¬ sy_cc .ge l4 16] (by decide +kernel) rfl ⟨c1, trivial⟩ ?_
    refine sy_bk [(.aload_n 0, 0, 0, 0, 0), (.getfield 81, 12, 32, 0, 0), (.iload 4, 0, 0, 0, 0), (.iconst 0, 0, 0, 0, 0), (.iastore, 0, 0, 0, 0), (.iinc 4 1, 0, 0, 1, 0), (.goto (-18), 0, 7, 0, 0)] (7, [some (.ref 0), some (.ref 12), some (.int l2), some (.int l3), some (.int (l4 + 1))], [], (sy_up σ.1 21 l4.toNatClampNeg 0, σ.2)) [sy_okA shM 0 21 l4] (by decide +kernel) rfl ⟨⟨16, _, rfl, (b1 c1)⟩, trivial⟩ ?_
    exact k2 c1

set_option maxRecDepth 20000 in
theorem w_M_burns_28 {Q : Option Value → sy_S → Prop} {σ : sy_S} {l2 : Int32} {l3 : Int32}   (k1 : l3 = 0 → Q (some (.int l2)) σ) (k2 : ¬ (l3 = 0) → sy_E shM mX12_burns (37, [some (.ref 0), some (.ref 12), some (.int l2), some (.int 0), some (.int 0)], [], σ) Q) : sy_E shM mX12_burns (28, [some (.ref 0), some (.ref 12), some (.int l2), some (.int l3), none], [], σ) Q := by
  refine sy_bk [(.iload_n 3, 0, 0, 0, 0)] (29, [some (.ref 0), some (.ref 12), some (.int l2), some (.int l3), none], [.int l3], σ) [] (by decide +kernel) rfl trivial ?_
  by_cases c1 : l3 = 0
  · refine sy_bk [(.ifCond .eq 141, 1, 170, 0, 0)] (170, [some (.ref 0), some (.ref 12), some (.int l2), some (.int l3), none], [], σ) [sy_cc .eq l3 0] (by decide +kernel) rfl ⟨c1, trivial⟩ ?_
    refine sy_bk [(.iload_n 2, 0, 0, 0, 0)] (171, [some (.ref 0), some (.ref 12), some (.int l2), some (.int l3), none], [.int l2], σ) [] (by decide +kernel) rfl trivial ?_
    exact sy_reti rfl (by decide +kernel) (k1 c1)
  · refine sy_bk [(.ifCond .eq 141, 0, 170, 0, 0)] (32, [some (.ref 0), some (.ref 12), some (.int l2), some (.int l3), none], [], σ) [¬ sy_cc .eq l3 0] (by decide +kernel) rfl ⟨c1, trivial⟩ ?_
    refine sy_bk [(.iconst 0, 0, 0, 0, 0), (.istore_n 3, 0, 0, 0, 0), (.iconst 0, 0, 0, 0, 0), (.istore 4, 0, 0, 0, 0)] (37, [some (.ref 0), some (.ref 12), some (.int l2), some (.int 0), some (.int 0)], [], σ) [] (by decide +kernel) rfl trivial ?_
    exact k2 c1

set_option maxRecDepth 20000 in
theorem w_M_burns_37 {Q : Option Value → sy_S → Prop} {σ : sy_S} {l2 : Int32} {l3 : Int32} {l4 : Int32}  (b1 : ¬ (((σ.1 0 0) * (σ.1 0 1)) ≤ l4) → vp_in l4 16) (k1 : ((σ.1 0 0) * (σ.1 0 1)) ≤ l4 → sy_E shM mX12_burns (100, [some (.ref 0), some (.ref 12), some (.int l2), some (.int l3), some (.int 0)], [], σ) Q) (k2 : ¬ (((σ.1 0 0) * (σ.1 0 1)) ≤ l4) → ¬ (σ.1 1 l4.toNatClampNeg) = 0 → sy_E shM mX12_burns (37, [some (.ref 0), some (.ref 12), some (.int l2), some (.int l3), some (.int (l4 + 1))], [], (sy_up σ.1 6 l4.toNatClampNeg (vp_nar .boolean 0), σ.2)) Q) (k3 : ¬ (((σ.1 0 0) * (σ.1 0 1)) ≤ l4) → ¬ (¬ (σ.1 1 l4.toNatClampNeg) = 0) → ¬ (σ.1 21 l4.toNatClampNeg) = 0 → sy_E shM mX12_burns (37, [some (.ref 0), some (.ref 12), some (.int l2), some (.int l3), some (.int (l4 + 1))], [], (sy_up σ.1 6 l4.toNatClampNeg (vp_nar .boolean 0), σ.2)) Q) (k4 : ¬ (((σ.1 0 0) * (σ.1 0 1)) ≤ l4) → ¬ (¬ (σ.1 1 l4.toNatClampNeg) = 0) → ¬ (¬ (σ.1 21 l4.toNatClampNeg) = 0) → sy_E shM mX12_unburnt (0, sy_ent [.ref 0, .int l4] 4, [], σ) (fun r9 σ9 => sy_E shM mX12_burns (82, [some (.ref 0), some (.ref 12), some (.int l2), some (.int l3), some (.int l4)], r9.toList ++ [.int (σ.1 12 l4.toNatClampNeg), .int l4, .ref 6], σ9) Q)) : sy_E shM mX12_burns (37, [some (.ref 0), some (.ref 12), some (.int l2), some (.int l3), some (.int l4)], [], σ) Q := by
  refine sy_bk [(.iload 4, 0, 0, 0, 0), (.aload_n 0, 0, 0, 0, 0)] (40, [some (.ref 0), some (.ref 12), some (.int l2), some (.int l3), some (.int l4)], [.ref 0, .int l4], σ) [] (by decide +kernel) rfl trivial ?_
  refine sy_callV mX12_cells 0 [] [.int l4] kX12_cells jX12_105 (by decide +kernel) rfl rfl (Nat.le_of_ble_eq_true rfl) (Nat.le_of_ble_eq_true rfl) (by decide) rfl ?_
  refine w_m_cells (σ := σ) ?_
  show sy_E shM mX12_burns (43, [some (.ref 0), some (.ref 12), some (.int l2), some (.int l3), some (.int l4)], [.int ((σ.1 0 0) * (σ.1 0 1)), .int l4], σ) _
  by_cases c1 : ((σ.1 0 0) * (σ.1 0 1)) ≤ l4
  · refine sy_bk [(.if_icmp .ge 54, 1, 97, 0, 0)] (97, [some (.ref 0), some (.ref 12), some (.int l2), some (.int l3), some (.int l4)], [], σ) [sy_cc .ge l4 ((σ.1 0 0) * (σ.1 0 1))] (by decide +kernel) rfl ⟨c1, trivial⟩ ?_
    refine sy_bk [(.iconst 0, 0, 0, 0, 0), (.istore 4, 0, 0, 0, 0)] (100, [some (.ref 0), some (.ref 12), some (.int l2), some (.int l3), some (.int 0)], [], σ) [] (by decide +kernel) rfl trivial ?_
    exact k1 c1
  · refine sy_bk [(.if_icmp .ge 54, 0, 97, 0, 0)] (46, [some (.ref 0), some (.ref 12), some (.int l2), some (.int l3), some (.int l4)], [], σ) [¬ sy_cc .ge l4 ((σ.1 0 0) * (σ.1 0 1))] (by decide +kernel) rfl ⟨c1, trivial⟩ ?_
    refine sy_bk [(.aload_n 0, 0, 0, 0, 0), (.getfield 35, 12, 8, 0, 0), (.iload 4, 0, 0, 0, 0), (.aload_n 0, 0, 0, 0, 0), (.getfield 18, 12, 2, 0, 0), (.iload 4, 0, 0, 0, 0), (.baload, 0, 0, 0, 0)] (59, [some (.ref 0), some (.ref 12), some (.int l2), some (.int l3), some (.int l4)], [.int (σ.1 1 l4.toNatClampNeg), .int l4, .ref 6], σ) [sy_okA shM 1 1 l4] (by decide +kernel) rfl ⟨⟨16, _, rfl, (b1 c1)⟩, trivial⟩ ?_
    by_cases c2 : ¬ (σ.1 1 l4.toNatClampNeg) = 0
    · refine sy_bk [(.ifCond .ne 30, 1, 89, 0, 0)] (89, [some (.ref 0), some (.ref 12), some (.int l2), some (.int l3), some (.int l4)], [.int l4, .ref 6], σ) [sy_cc .ne (σ.1 1 l4.toNatClampNeg) 0] (by decide +kernel) rfl ⟨c2, trivial⟩ ?_
      refine sy_bk [(.iconst 0, 0, 0, 0, 0), (.bastore, 0, 0, 0, 0), (.iinc 4 1, 0, 0, 1, 0), (.goto (-57), 0, 37, 0, 0)] (37, [some (.ref 0), some (.ref 12), some (.int l2), some (.int l3), some (.int (l4 + 1))], [], (sy_up σ.1 6 l4.toNatClampNeg (vp_nar .boolean 0), σ.2)) [sy_okA shM 1 6 l4] (by decide +kernel) rfl ⟨⟨16, _, rfl, (b1 c1)⟩, trivial⟩ ?_
      exact k2 c1 c2
    · refine sy_bk [(.ifCond .ne 30, 0, 89, 0, 0)] (62, [some (.ref 0), some (.ref 12), some (.int l2), some (.int l3), some (.int l4)], [.int l4, .ref 6], σ) [¬ sy_cc .ne (σ.1 1 l4.toNatClampNeg) 0] (by decide +kernel) rfl ⟨c2, trivial⟩ ?_
      refine sy_bk [(.aload_n 0, 0, 0, 0, 0), (.getfield 81, 12, 32, 0, 0), (.iload 4, 0, 0, 0, 0), (.iaload, 0, 0, 0, 0)] (69, [some (.ref 0), some (.ref 12), some (.int l2), some (.int l3), some (.int l4)], [.int (σ.1 21 l4.toNatClampNeg), .int l4, .ref 6], σ) [sy_okA shM 0 21 l4] (by decide +kernel) rfl ⟨⟨16, _, rfl, (b1 c1)⟩, trivial⟩ ?_
      by_cases c3 : ¬ (σ.1 21 l4.toNatClampNeg) = 0
      · refine sy_bk [(.ifCond .ne 20, 1, 89, 0, 0)] (89, [some (.ref 0), some (.ref 12), some (.int l2), some (.int l3), some (.int l4)], [.int l4, .ref 6], σ) [sy_cc .ne (σ.1 21 l4.toNatClampNeg) 0] (by decide +kernel) rfl ⟨c3, trivial⟩ ?_
        refine sy_bk [(.iconst 0, 0, 0, 0, 0), (.bastore, 0, 0, 0, 0), (.iinc 4 1, 0, 0, 1, 0), (.goto (-57), 0, 37, 0, 0)] (37, [some (.ref 0), some (.ref 12), some (.int l2), some (.int l3), some (.int (l4 + 1))], [], (sy_up σ.1 6 l4.toNatClampNeg (vp_nar .boolean 0), σ.2)) [sy_okA shM 1 6 l4] (by decide +kernel) rfl ⟨⟨16, _, rfl, (b1 c1)⟩, trivial⟩ ?_
        exact k3 c1 c2 c3
      · refine sy_bk [(.ifCond .ne 20, 0, 89, 0, 0)] (72, [some (.ref 0), some (.ref 12), some (.int l2), some (.int l3), some (.int l4)], [.int l4, .ref 6], σ) [¬ sy_cc .ne (σ.1 21 l4.toNatClampNeg) 0] (by decide +kernel) rfl ⟨c3, trivial⟩ ?_
        refine sy_bk [(.aload_n 1, 0, 0, 0, 0), (.iload 4, 0, 0, 0, 0), (.iaload, 0, 0, 0, 0), (.aload_n 0, 0, 0, 0, 0), (.iload 4, 0, 0, 0, 0)] (79, [some (.ref 0), some (.ref 12), some (.int l2), some (.int l3), some (.int l4)], [.int l4, .ref 0, .int (σ.1 12 l4.toNatClampNeg), .int l4, .ref 6], σ) [sy_okA shM 0 12 l4] (by decide +kernel) rfl ⟨⟨16, _, rfl, (b1 c1)⟩, trivial⟩ ?_
        refine sy_callV mX12_unburnt 0 [.int l4] [.int (σ.1 12 l4.toNatClampNeg), .int l4, .ref 6] kX12_unburnt jX12_283 (by decide +kernel) rfl rfl (Nat.le_of_ble_eq_true rfl) (Nat.le_of_ble_eq_true rfl) (by decide) rfl ?_
        exact k4 c1 c2 c3

set_option maxRecDepth 20000 in
theorem w_M_burns_100 {Q : Option Value → sy_S → Prop} {σ : sy_S} {l2 : Int32} {l3 : Int32} {l4 : Int32}  (b1 : ¬ (((σ.1 0 0) * (σ.1 0 1)) ≤ l4) → vp_in l4 16) (k1 : ((σ.1 0 0) * (σ.1 0 1)) ≤ l4 → l3 = 0 → sy_E shM mX12_burns (28, [some (.ref 0), some (.ref 12), some (.int (l2 + 0)), some (.int l3), none], [], σ) Q) (k2 : ((σ.1 0 0) * (σ.1 0 1)) ≤ l4 → ¬ (l3 = 0) → sy_E shM mX12_burns (28, [some (.ref 0), some (.ref 12), some (.int (l2 + 1)), some (.int l3), none], [], σ) Q) (k3 : ¬ (((σ.1 0 0) * (σ.1 0 1)) ≤ l4) → (σ.1 6 l4.toNatClampNeg) = 0 → sy_E shM mX12_burns (100, [some (.ref 0), some (.ref 12), some (.int l2), some (.int (l3 ||| (σ.1 6 l4.toNatClampNeg))), some (.int (l4 + 1))], [], (sy_up σ.1 21 l4.toNatClampNeg (σ.1 21 l4.toNatClampNeg), σ.2)) Q) (k4 : ¬ (((σ.1 0 0) * (σ.1 0 1)) ≤ l4) → ¬ ((σ.1 6 l4.toNatClampNeg) = 0) → sy_E shM mX12_burns (100, [some (.ref 0), some (.ref 12), some (.int l2), some (.int (l3 ||| (σ.1 6 l4.toNatClampNeg))), some (.int (l4 + 1))], [], (sy_up σ.1 21 l4.toNatClampNeg (l2 + 1), σ.2)) Q) : sy_E shM mX12_burns (100, [some (.ref 0), some (.ref 12), some (.int l2), some (.int l3), some (.int l4)], [], σ) Q := by
  refine sy_bk [(.iload 4, 0, 0, 0, 0), (.aload_n 0, 0, 0, 0, 0)] (103, [some (.ref 0), some (.ref 12), some (.int l2), some (.int l3), some (.int l4)], [.ref 0, .int l4], σ) [] (by decide +kernel) rfl trivial ?_
  refine sy_callV mX12_cells 0 [] [.int l4] kX12_cells jX12_105 (by decide +kernel) rfl rfl (Nat.le_of_ble_eq_true rfl) (Nat.le_of_ble_eq_true rfl) (by decide) rfl ?_
  refine w_m_cells (σ := σ) ?_
  show sy_E shM mX12_burns (106, [some (.ref 0), some (.ref 12), some (.int l2), some (.int l3), some (.int l4)], [.int ((σ.1 0 0) * (σ.1 0 1)), .int l4], σ) _
  by_cases c1 : ((σ.1 0 0) * (σ.1 0 1)) ≤ l4
  · refine sy_bk [(.if_icmp .ge 49, 1, 155, 0, 0)] (155, [some (.ref 0), some (.ref 12), some (.int l2), some (.int l3), some (.int l4)], [], σ) [sy_cc .ge l4 ((σ.1 0 0) * (σ.1 0 1))] (by decide +kernel) rfl ⟨c1, trivial⟩ ?_
    refine sy_bk [(.iload_n 2, 0, 0, 0, 0), (.iload_n 3, 0, 0, 0, 0)] (157, [some (.ref 0), some (.ref 12), some (.int l2), some (.int l3), some (.int l4)], [.int l3, .int l2], σ) [] (by decide +kernel) rfl trivial ?_
    by_cases c2 : l3 = 0
    · refine sy_bk [(.ifCond .eq 7, 1, 164, 0, 0)] (164, [some (.ref 0), some (.ref 12), some (.int l2), some (.int l3), some (.int l4)], [.int l2], σ) [sy_cc .eq l3 0] (by decide +kernel) rfl ⟨c2, trivial⟩ ?_
      refine sy_bk [(.iconst 0, 0, 0, 0, 0), (.iadd, 0, 0, 0, 0), (.istore_n 2, 0, 0, 0, 0), (.goto (-139), 0, 28, 0, 0)] (28, [some (.ref 0), some (.ref 12), some (.int (l2 + 0)), some (.int l3), some (.int l4)], [], σ) [] (by decide +kernel) rfl trivial ?_
      refine sy_drop [some (.ref 0), some (.ref 12), some (.int (l2 + 0)), some (.int l3), none] ⟨rfl, rfl, rfl, rfl, trivial⟩ ?_
      exact k1 c1 c2
    · refine sy_bk [(.ifCond .eq 7, 0, 164, 0, 0)] (160, [some (.ref 0), some (.ref 12), some (.int l2), some (.int l3), some (.int l4)], [.int l2], σ) [¬ sy_cc .eq l3 0] (by decide +kernel) rfl ⟨c2, trivial⟩ ?_
      refine sy_bk [(.iconst 1, 0, 0, 1, 0), (.goto 4, 0, 165, 0, 0), (.iadd, 0, 0, 0, 0), (.istore_n 2, 0, 0, 0, 0), (.goto (-139), 0, 28, 0, 0)] (28, [some (.ref 0), some (.ref 12), some (.int (l2 + 1)), some (.int l3), some (.int l4)], [], σ) [] (by decide +kernel) rfl trivial ?_
      refine sy_drop [some (.ref 0), some (.ref 12), some (.int (l2 + 1)), some (.int l3), none] ⟨rfl, rfl, rfl, rfl, trivial⟩ ?_
      exact k2 c1 c2
  · refine sy_bk [(.if_icmp .ge 49, 0, 155, 0, 0)] (109, [some (.ref 0), some (.ref 12), some (.int l2), some (.int l3), some (.int l4)], [], σ) [¬ sy_cc .ge l4 ((σ.1 0 0) * (σ.1 0 1))] (by decide +kernel) rfl ⟨c1, trivial⟩ ?_
    refine sy_bk [(.aload_n 0, 0, 0, 0, 0), (.getfield 81, 12, 32, 0, 0), (.iload 4, 0, 0, 0, 0), (.aload_n 0, 0, 0, 0, 0), (.getfield 35, 12, 8, 0, 0), (.iload 4, 0, 0, 0, 0), (.baload, 0, 0, 0, 0)] (122, [some (.ref 0), some (.ref 12), some (.int l2), some (.int l3), some (.int l4)], [.int (σ.1 6 l4.toNatClampNeg), .int l4, .ref 21], σ) [sy_okA shM 1 6 l4] (by decide +kernel) rfl ⟨⟨16, _, rfl, (b1 c1)⟩, trivial⟩ ?_
    by_cases c3 : (σ.1 6 l4.toNatClampNeg) = 0
    · refine sy_bk [(.ifCond .eq 9, 1, 131, 0, 0)] (131, [some (.ref 0), some (.ref 12), some (.int l2), some (.int l3), some (.int l4)], [.int l4, .ref 21], σ) [sy_cc .eq (σ.1 6 l4.toNatClampNeg) 0] (by decide +kernel) rfl ⟨c3, trivial⟩ ?_
      refine sy_bk [(.aload_n 0, 0, 0, 0, 0), (.getfield 81, 12, 32, 0, 0), (.iload 4, 0, 0, 0, 0), (.iaload, 0, 0, 0, 0), (.iastore, 0, 0, 0, 0), (.iload_n 3, 0, 0, 0, 0), (.aload_n 0, 0, 0, 0, 0), (.getfield 35, 12, 8, 0, 0), (.iload 4, 0, 0, 0, 0), (.baload, 0, 0, 0, 0), (.ior, 0, 0, 0, 0), (.istore_n 3, 0, 0, 0, 0), (.iinc 4 1, 0, 0, 1, 0), (.goto (-52), 0, 100, 0, 0)] (100, [some (.ref 0), some (.ref 12), some (.int l2), some (.int (l3 ||| (σ.1 6 l4.toNatClampNeg))), some (.int (l4 + 1))], [], (sy_up σ.1 21 l4.toNatClampNeg (σ.1 21 l4.toNatClampNeg), σ.2)) [sy_okA shM 0 21 l4, sy_okA shM 0 21 l4, sy_okA shM 1 6 l4] (by decide +kernel) rfl ⟨⟨16, _, rfl, (b1 c1)⟩, ⟨16, _, rfl, (b1 c1)⟩, ⟨16, _, rfl, (b1 c1)⟩, trivial⟩ ?_
      exact k3 c1 c3
    · refine sy_bk [(.ifCond .eq 9, 0, 131, 0, 0)] (125, [some (.ref 0), some (.ref 12), some (.int l2), some (.int l3), some (.int l4)], [.int l4, .ref 21], σ) [¬ sy_cc .eq (σ.1 6 l4.toNatClampNeg) 0] (by decide +kernel) rfl ⟨c3, trivial⟩ ?_
      refine sy_bk [(.iload_n 2, 0, 0, 0, 0), (.iconst 1, 0, 0, 1, 0), (.iadd, 0, 0, 0, 0), (.goto 10, 0, 138, 0, 0), (.iastore, 0, 0, 0, 0), (.iload_n 3, 0, 0, 0, 0), (.aload_n 0, 0, 0, 0, 0), (.getfield 35, 12, 8, 0, 0), (.iload 4, 0, 0, 0, 0), (.baload, 0, 0, 0, 0), (.ior, 0, 0, 0, 0), (.istore_n 3, 0, 0, 0, 0), (.iinc 4 1, 0, 0, 1, 0), (.goto (-52), 0, 100, 0, 0)] (100, [some (.ref 0), some (.ref 12), some (.int l2), some (.int (l3 ||| (σ.1 6 l4.toNatClampNeg))), some (.int (l4 + 1))], [], (sy_up σ.1 21 l4.toNatClampNeg (l2 + 1), σ.2)) [sy_okA shM 0 21 l4, sy_okA shM 1 6 l4] (by decide +kernel) rfl ⟨⟨16, _, rfl, (b1 c1)⟩, ⟨16, _, rfl, (b1 c1)⟩, trivial⟩ ?_
      exact k4 c1 c3

set_option maxRecDepth 20000 in
theorem w_M_burns_82 {Q : Option Value → sy_S → Prop} {σ : sy_S} {l2 : Int32} {l3 : Int32} {l4 : Int32} {s0 : Int32} {s1 : Int32} {v : Int32}  (b1 : s0 < v → vp_in s1 16) (b2 : ¬ (s0 < v) → vp_in s1 16) (k1 : s0 < v → sy_E shM mX12_burns (37, [some (.ref 0), some (.ref 12), some (.int l2), some (.int l3), some (.int (l4 + 1))], [], (sy_up σ.1 6 s1.toNatClampNeg (vp_nar .boolean 0), σ.2)) Q) (k2 : ¬ (s0 < v) → sy_E shM mX12_burns (37, [some (.ref 0), some (.ref 12), some (.int l2), some (.int l3), some (.int (l4 + 1))], [], (sy_up σ.1 6 s1.toNatClampNeg (vp_nar .boolean 1), σ.2)) Q) : sy_E shM mX12_burns (82, [some (.ref 0), some (.ref 12), some (.int l2), some (.int l3), some (.int l4)], [.int v, .int s0, .int s1, .ref 6], σ) Q := by
  by_cases c1 : s0 < v
  · refine sy_bk [(.if_icmp .lt 7, 1, 89, 0, 0)] (89, [some (.ref 0), some (.ref 12), some (.int l2), some (.int l3), some (.int l4)], [.int s1, .ref 6], σ) [sy_cc .lt s0 v] (by decide +kernel) rfl ⟨c1, trivial⟩ ?_
    refine sy_bk [(.iconst 0, 0, 0, 0, 0), (.bastore, 0, 0, 0, 0), (.iinc 4 1, 0, 0, 1, 0), (.goto (-57), 0, 37, 0, 0)] (37, [some (.ref 0), some (.ref 12), some (.int l2), some (.int l3), some (.int (l4 + 1))], [], (sy_up σ.1 6 s1.toNatClampNeg (vp_nar .boolean 0), σ.2)) [sy_okA shM 1 6 s1] (by decide +kernel) rfl ⟨⟨16, _, rfl, (b1 c1)⟩, trivial⟩ ?_
    exact k1 c1
  · refine sy_bk [(.if_icmp .lt 7, 0, 89, 0, 0)] (85, [some (.ref 0), some (.ref 12), some (.int l2), some (.int l3), some (.int l4)], [.int s1, .ref 6], σ) [¬ sy_cc .lt s0 v] (by decide +kernel) rfl ⟨c1, trivial⟩ ?_
    refine sy_bk [(.iconst 1, 0, 0, 1, 0), (.goto 4, 0, 90, 0, 0), (.bastore, 0, 0, 0, 0), (.iinc 4 1, 0, 0, 1, 0), (.goto (-57), 0, 37, 0, 0)] (37, [some (.ref 0), some (.ref 12), some (.int l2), some (.int l3), some (.int (l4 + 1))], [], (sy_up σ.1 6 s1.toNatClampNeg (vp_nar .boolean 1), σ.2)) [sy_okA shM 1 6 s1] (by decide +kernel) rfl ⟨⟨16, _, rfl, (b2 c1)⟩, trivial⟩ ?_
    exact k2 c1

set_option maxRecDepth 20000 in
theorem w_M_notBurnt_0 {Q : Option Value → sy_S → Prop} {σ : sy_S}    (k1 : sy_E shM mX12_notBurnt (4, [some (.ref 0), some (.int 0), some (.int 0)], [], σ) Q) : sy_E shM mX12_notBurnt (0, sy_ent [.ref 0] 3, [], σ) Q := by
  show sy_E shM mX12_notBurnt (0, [some (.ref 0), none, none], [], σ) _
  refine sy_bk [(.iconst 0, 0, 0, 0, 0), (.istore_n 1, 0, 0, 0, 0), (.iconst 0, 0, 0, 0, 0), (.istore_n 2, 0, 0, 0, 0)] (4, [some (.ref 0), some (.int 0), some (.int 0)], [], σ) [] (by decide +kernel) rfl trivial ?_
  exact k1

set_option maxRecDepth 20000 in
theorem w_M_notBurnt_4 {Q : Option Value → sy_S → Prop} {σ : sy_S} {l1 : Int32} {l2 : Int32}  (b1 : ¬ (((σ.1 0 0) * (σ.1 0 1)) ≤ l2) → vp_in l2 16) (k1 : ((σ.1 0 0) * (σ.1 0 1)) ≤ l2 → Q (some (.int l1)) σ) (k2 : ¬ (((σ.1 0 0) * (σ.1 0 1)) ≤ l2) → ¬ (σ.1 1 l2.toNatClampNeg) = 0 → sy_E shM mX12_notBurnt (4, [some (.ref 0), some (.int (l1 ||| 0)), some (.int (l2 + 1))], [], σ) Q) (k3 : ¬ (((σ.1 0 0) * (σ.1 0 1)) ≤ l2) → ¬ (¬ (σ.1 1 l2.toNatClampNeg) = 0) → ¬ (σ.1 21 l2.toNatClampNeg) = 0 → sy_E shM mX12_notBurnt (4, [some (.ref 0), some (.int (l1 ||| 0)), some (.int (l2 + 1))], [], σ) Q) (k4 : ¬ (((σ.1 0 0) * (σ.1 0 1)) ≤ l2) → ¬ (¬ (σ.1 1 l2.toNatClampNeg) = 0) → ¬ (¬ (σ.1 21 l2.toNatClampNeg) = 0) → sy_E shM mX12_notBurnt (4, [some (.ref 0), some (.int (l1 ||| (1 <<< (l2 &&& 31)))), some (.int (l2 + 1))], [], σ) Q) : sy_E shM mX12_notBurnt (4, [some (.ref 0), some (.int l1), some (.int l2)], [], σ) Q := by
  refine sy_bk [(.iload_n 2, 0, 0, 0, 0), (.aload_n 0, 0, 0, 0, 0)] (6, [some (.ref 0), some (.int l1), some (.int l2)], [.ref 0, .int l2], σ) [] (by decide +kernel) rfl trivial ?_
  refine sy_callV mX12_cells 0 [] [.int l2] kX12_cells jX12_105 (by decide +kernel) rfl rfl (Nat.le_of_ble_eq_true rfl) (Nat.le_of_ble_eq_true rfl) (by decide) rfl ?_
  refine w_m_cells (σ := σ) ?_
  show sy_E shM mX12_notBurnt (9, [some (.ref 0), some (.int l1), some (.int l2)], [.int ((σ.1 0 0) * (σ.1 0 1)), .int l2], σ) _
  by_cases c1 : ((σ.1 0 0) * (σ.1 0 1)) ≤ l2
  · refine sy_bk [(.if_icmp .ge 37, 1, 46, 0, 0)] (46, [some (.ref 0), some (.int l1), some (.int l2)], [], σ) [sy_cc .ge l2 ((σ.1 0 0) * (σ.1 0 1))] (by decide +kernel) rfl ⟨c1, trivial⟩ ?_
    refine sy_bk [(.iload_n 1, 0, 0, 0, 0)] (47, [some (.ref 0), some (.int l1), some (.int l2)], [.int l1], σ) [] (by decide +kernel) rfl trivial ?_
    exact sy_reti rfl (by decide +kernel) (k1 c1)
  · refine sy_bk [(.if_icmp .ge 37, 0, 46, 0, 0)] (12, [some (.ref 0), some (.int l1), some (.int l2)], [], σ) [¬ sy_cc .ge l2 ((σ.1 0 0) * (σ.1 0 1))] (by decide +kernel) rfl ⟨c1, trivial⟩ ?_
    refine sy_bk [(.iload_n 1, 0, 0, 0, 0), (.aload_n 0, 0, 0, 0, 0), (.getfield 18, 12, 2, 0, 0), (.iload_n 2, 0, 0, 0, 0), (.baload, 0, 0, 0, 0)] (19, [some (.ref 0), some (.int l1), some (.int l2)], [.int (σ.1 1 l2.toNatClampNeg), .int l1], σ) [sy_okA shM 1 1 l2] (by decide +kernel) rfl ⟨⟨16, _, rfl, (b1 c1)⟩, trivial⟩ ?_
    by_cases c2 : ¬ (σ.1 1 l2.toNatClampNeg) = 0
    · refine sy_bk [(.ifCond .ne 18, 1, 37, 0, 0)] (37, [some (.ref 0), some (.int l1), some (.int l2)], [.int l1], σ) [sy_cc .ne (σ.1 1 l2.toNatClampNeg) 0] (by decide +kernel) rfl ⟨c2, trivial⟩ ?_
      refine sy_bk [(.iconst 0, 0, 0, 0, 0), (.ior, 0, 0, 0, 0), (.istore_n 1, 0, 0, 0, 0), (.iinc 2 1, 0, 0, 1, 0), (.goto (-39), 0, 4, 0, 0)] (4, [some (.ref 0), some (.int (l1 ||| 0)), some (.int (l2 + 1))], [], σ) [] (by decide +kernel) rfl trivial ?_
      exact k2 c1 c2
    · refine sy_bk [(.ifCond .ne 18, 0, 37, 0, 0)] (22, [some (.ref 0), some (.int l1), some (.int l2)], [.int l1], σ) [¬ sy_cc .ne (σ.1 1 l2.toNatClampNeg) 0] (by decide +kernel) rfl ⟨c2, trivial⟩ ?_
      refine sy_bk [(.aload_n 0, 0, 0, 0, 0), (.getfield 81, 12, 32, 0, 0), (.iload_n 2, 0, 0, 0, 0), (.iaload, 0, 0, 0, 0)] (28, [some (.ref 0), some (.int l1), some (.int l2)], [.int (σ.1 21 l2.toNatClampNeg), .int l1], σ) [sy_okA shM 0 21 l2] (by decide +kernel) rfl ⟨⟨16, _, rfl, (b1 c1)⟩, trivial⟩ ?_
      by_cases c3 : ¬ (σ.1 21 l2.toNatClampNeg) = 0
      · refine sy_bk [(.ifCond .ne 9, 1, 37, 0, 0)] (37, [some (.ref 0), some (.int l1), some (.int l2)], [.int l1], σ) [sy_cc .ne (σ.1 21 l2.toNatClampNeg) 0] (by decide +kernel) rfl ⟨c3, trivial⟩ ?_
        refine sy_bk [(.iconst 0, 0, 0, 0, 0), (.ior, 0, 0, 0, 0), (.istore_n 1, 0, 0, 0, 0), (.iinc 2 1, 0, 0, 1, 0), (.goto (-39), 0, 4, 0, 0)] (4, [some (.ref 0), some (.int (l1 ||| 0)), some (.int (l2 + 1))], [], σ) [] (by decide +kernel) rfl trivial ?_
        exact k3 c1 c2 c3
      · refine sy_bk [(.ifCond .ne 9, 0, 37, 0, 0)] (31, [some (.ref 0), some (.int l1), some (.int l2)], [.int l1], σ) [¬ sy_cc .ne (σ.1 21 l2.toNatClampNeg) 0] (by decide +kernel) rfl ⟨c3, trivial⟩ ?_
        refine sy_bk [(.iconst 1, 0, 0, 1, 0), (.iload_n 2, 0, 0, 0, 0), (.ishl, 0, 0, 0, 0), (.goto 4, 0, 38, 0, 0), (.ior, 0, 0, 0, 0), (.istore_n 1, 0, 0, 0, 0), (.iinc 2 1, 0, 0, 1, 0), (.goto (-39), 0, 4, 0, 0)] (4, [some (.ref 0), some (.int (l1 ||| (1 <<< (l2 &&& 31)))), some (.int (l2 + 1))], [], σ) [] (by decide +kernel) rfl trivial ?_
        exact k4 c1 c2 c3

set_option maxRecDepth 20000 in
theorem w_M_burn_0 {Q : Option Value → sy_S → Prop} {σ : sy_S} {p : Int32} {w : Int32} {G : sg_G}  (b1 : ∀ (m_1 : Nat), px p6 p = some m_1 → (0 ≤ w.toInt64 ∧ w.toInt64 ≤ 2) → vp_in p 6) (b2 : ∀ (m_1 : Nat), px p6 p = some m_1 → (¬ (0 ≤ w.toInt64 ∧ w.toInt64 ≤ 2)) → gm G σ.1) (b3 : ∀ (m_1 : Nat), px p6 p = some m_1 → (¬ (0 ≤ w.toInt64 ∧ w.toInt64 ≤ 2)) → ∀ (m_6 : Nat), px (sg_p G) (w - 100) = some m_6 → vp_in p 6) (k1 : ∀ (m_1 : Nat), px p6 p = some m_1 → (0 ≤ w.toInt64 ∧ w.toInt64 ≤ 2) → ¬ (σ.1 8 p.toNatClampNeg) = 0 → sy_E shM mX12_takes (0, sy_ent [.ref 0, .int p, .ref 12] 4, [], σ) (fun r9 σ9 => sy_E shM mX12_burn (53, [some (.ref 0), none, some (.int w), none], r9.toList ++ [], σ9) Q)) (k2 : ∀ (m_1 : Nat), px p6 p = some m_1 → (0 ≤ w.toInt64 ∧ w.toInt64 ≤ 2) → ¬ (¬ (σ.1 8 p.toNatClampNeg) = 0) → Q (some (.int (-6))) σ) (k3 : ∀ (m_1 : Nat), px p6 p = some m_1 → (¬ (0 ≤ w.toInt64 ∧ w.toInt64 ≤ 2)) → ∀ (m_6 : Nat), px (sg_p G) (w - 100) = some m_6 → ¬ (σ.1 8 p.toNatClampNeg) = 0 → sy_E shM mX12_takes (0, sy_ent [.ref 0, .int p, .ref 12] 4, [], σ) (fun r9 σ9 => sy_E shM mX12_burn (53, [some (.ref 0), none, some (.int w), none], r9.toList ++ [], σ9) Q)) (k4 : ∀ (m_1 : Nat), px p6 p = some m_1 → (¬ (0 ≤ w.toInt64 ∧ w.toInt64 ≤ 2)) → ∀ (m_6 : Nat), px (sg_p G) (w - 100) = some m_6 → ¬ (¬ (σ.1 8 p.toNatClampNeg) = 0) → Q (some (.int (-6))) σ) (k5 : ∀ (m_1 : Nat), px p6 p = some m_1 → (¬ (0 ≤ w.toInt64 ∧ w.toInt64 ≤ 2)) → px (sg_p G) (w - 100) = none → Q (some (.int (-1))) σ) (k6 : px p6 p = none → Q (some (.int (-1))) σ) : sy_E shM mX12_burn (0, sy_ent [.ref 0, .int p, .int w] 4, [], σ) Q := by
  show sy_E shM mX12_burn (0, [some (.ref 0), some (.int p), some (.int w), none], [], σ) _
  refine sy_bk [(.iload_n 1, 0, 0, 0, 0)] (1, [some (.ref 0), some (.int p), some (.int w), none], [.int p], σ) [] (by decide +kernel) rfl trivial ?_
  refine sy_callS mX12_isPile [.int p] [] kX12_isPile jX12_254 (by decide +kernel) rfl rfl (Nat.le_of_ble_eq_true rfl) (Nat.le_of_ble_eq_true rfl) (by decide) ?_
  refine e_m_isPile (σ := σ) (i := p) ?_ ?_
  · intro m_1 c2
    show sy_E shM mX12_burn (4, [some (.ref 0), some (.int p), some (.int w), none], [.int 1], σ) _
    refine sy_bk [(.ifCond .eq 26, 0, 30, 0, 0), (.iload_n 2, 0, 0, 0, 0), (.i2l, 0, 0, 0, 0), (.lconst 0, 0, 0, 0, 0), (.ldc2_w 201, 0, 0, 0, 2)] (13, [some (.ref 0), some (.int p), some (.int w), none], [.long 2, .long 0, .long w.toInt64], σ) [¬ sy_cc .eq 1 0] (by decide +kernel) rfl ⟨(by decide : ¬ ((1 : Int32) = 0)), trivial⟩ ?_
    refine sy_callS mX12_in [.long w.toInt64, .long 0, .long 2] [] kX12_in jX12_109 (by decide +kernel) rfl rfl (Nat.le_of_ble_eq_true rfl) (Nat.le_of_ble_eq_true rfl) (by decide) ?_
    refine e_m_in (σ := σ) (v := w.toInt64) (lo := 0) (hi := 2) ?_ ?_
    · intro c3
      show sy_E shM mX12_burn (16, [some (.ref 0), some (.int p), some (.int w), none], [.int 1], σ) _
      refine sy_bk [(.ifCond .ne 16, 1, 32, 0, 0), (.aload_n 0, 0, 0, 0, 0), (.getfield 41, 12, 10, 0, 0), (.iload_n 1, 0, 0, 0, 0), (.baload, 0, 0, 0, 0)] (38, [some (.ref 0), some (.int p), some (.int w), none], [.int (σ.1 8 p.toNatClampNeg)], σ) [sy_cc .ne 1 0, sy_okA shM 1 8 p] (by decide +kernel) rfl ⟨(by decide : (¬ (1 : Int32) = 0)), ⟨6, _, rfl, (b1 m_1 c2 c3)⟩, trivial⟩ ?_
      by_cases c4 : ¬ (σ.1 8 p.toNatClampNeg) = 0
      · refine sy_bk [(.ifCond .ne 6, 1, 44, 0, 0)] (44, [some (.ref 0), some (.int p), some (.int w), none], [], σ) [sy_cc .ne (σ.1 8 p.toNatClampNeg) 0] (by decide +kernel) rfl ⟨c4, trivial⟩ ?_
        refine sy_bk [(.aload_n 0, 0, 0, 0, 0), (.iload_n 1, 0, 0, 0, 0), (.aload_n 0, 0, 0, 0, 0), (.getfield 53, 12, 22, 0, 0)] (50, [some (.ref 0), some (.int p), some (.int w), none], [.ref 12, .int p, .ref 0], σ) [] (by decide +kernel) rfl trivial ?_
        refine sy_drop [some (.ref 0), none, some (.int w), none] ⟨rfl, rfl, trivial⟩ ?_
        refine sy_callV mX12_takes 0 [.int p, .ref 12] [] kX12_takes jX12_261 (by decide +kernel) rfl rfl (Nat.le_of_ble_eq_true rfl) (Nat.le_of_ble_eq_true rfl) (by decide) rfl ?_
        exact k1 m_1 c2 c3 c4
      · refine sy_bk [(.ifCond .ne 6, 0, 44, 0, 0)] (41, [some (.ref 0), some (.int p), some (.int w), none], [], σ) [¬ sy_cc .ne (σ.1 8 p.toNatClampNeg) 0] (by decide +kernel) rfl ⟨c4, trivial⟩ ?_
        refine sy_bk [(.bipush (-6), 0, 0, (-6), 0)] (43, [some (.ref 0), some (.int p), some (.int w), none], [.int (-6)], σ) [] (by decide +kernel) rfl trivial ?_
        exact sy_reti rfl (by decide +kernel) (k2 m_1 c2 c3 c4)
    · intro c5
      show sy_E shM mX12_burn (16, [some (.ref 0), some (.int p), some (.int w), none], [.int 0], σ) _
      refine sy_bk [(.ifCond .ne 16, 0, 32, 0, 0), (.aload_n 0, 0, 0, 0, 0), (.iload_n 2, 0, 0, 0, 0), (.bipush 100, 0, 0, 100, 0), (.isub, 0, 0, 0, 0)] (24, [some (.ref 0), some (.int p), some (.int w), none], [.int (w - 100), .ref 0], σ) [¬ sy_cc .ne 0 0] (by decide +kernel) rfl ⟨(by decide : ¬ (¬ (0 : Int32) = 0)), trivial⟩ ?_
      refine sy_callV mX12_isPlace 0 [.int (w - 100)] [] kX12_isPlace jX12_152 (by decide +kernel) rfl rfl (Nat.le_of_ble_eq_true rfl) (Nat.le_of_ble_eq_true rfl) (by decide) rfl ?_
      refine e_m_isPl (σ := σ) (cell := (w - 100)) (b2 m_1 c2 c5) ?_ ?_
      · intro m_6 c7
        show sy_E shM mX12_burn (27, [some (.ref 0), some (.int p), some (.int w), none], [.int 1], σ) _
        refine sy_bk [(.ifCond .ne 5, 1, 32, 0, 0), (.aload_n 0, 0, 0, 0, 0), (.getfield 41, 12, 10, 0, 0), (.iload_n 1, 0, 0, 0, 0), (.baload, 0, 0, 0, 0)] (38, [some (.ref 0), some (.int p), some (.int w), none], [.int (σ.1 8 p.toNatClampNeg)], σ) [sy_cc .ne 1 0, sy_okA shM 1 8 p] (by decide +kernel) rfl ⟨(by decide : (¬ (1 : Int32) = 0)), ⟨6, _, rfl, (b3 m_1 c2 c5 m_6 c7)⟩, trivial⟩ ?_
        by_cases c8 : ¬ (σ.1 8 p.toNatClampNeg) = 0
        · refine sy_bk [(.ifCond .ne 6, 1, 44, 0, 0)] (44, [some (.ref 0), some (.int p), some (.int w), none], [], σ) [sy_cc .ne (σ.1 8 p.toNatClampNeg) 0] (by decide +kernel) rfl ⟨c8, trivial⟩ ?_
          refine sy_bk [(.aload_n 0, 0, 0, 0, 0), (.iload_n 1, 0, 0, 0, 0), (.aload_n 0, 0, 0, 0, 0), (.getfield 53, 12, 22, 0, 0)] (50, [some (.ref 0), some (.int p), some (.int w), none], [.ref 12, .int p, .ref 0], σ) [] (by decide +kernel) rfl trivial ?_
          refine sy_drop [some (.ref 0), none, some (.int w), none] ⟨rfl, rfl, trivial⟩ ?_
          refine sy_callV mX12_takes 0 [.int p, .ref 12] [] kX12_takes jX12_261 (by decide +kernel) rfl rfl (Nat.le_of_ble_eq_true rfl) (Nat.le_of_ble_eq_true rfl) (by decide) rfl ?_
          exact k3 m_1 c2 c5 m_6 c7 c8
        · refine sy_bk [(.ifCond .ne 6, 0, 44, 0, 0)] (41, [some (.ref 0), some (.int p), some (.int w), none], [], σ) [¬ sy_cc .ne (σ.1 8 p.toNatClampNeg) 0] (by decide +kernel) rfl ⟨c8, trivial⟩ ?_
          refine sy_bk [(.bipush (-6), 0, 0, (-6), 0)] (43, [some (.ref 0), some (.int p), some (.int w), none], [.int (-6)], σ) [] (by decide +kernel) rfl trivial ?_
          exact sy_reti rfl (by decide +kernel) (k4 m_1 c2 c5 m_6 c7 c8)
      · intro c9
        show sy_E shM mX12_burn (27, [some (.ref 0), some (.int p), some (.int w), none], [.int 0], σ) _
        refine sy_bk [(.ifCond .ne 5, 0, 32, 0, 0), (.iconst (-1), 0, 0, (-1), 0)] (31, [some (.ref 0), some (.int p), some (.int w), none], [.int (-1)], σ) [¬ sy_cc .ne 0 0] (by decide +kernel) rfl ⟨(by decide : ¬ (¬ (0 : Int32) = 0)), trivial⟩ ?_
        exact sy_reti rfl (by decide +kernel) (k5 m_1 c2 c5 c9)
  · intro c10
    show sy_E shM mX12_burn (4, [some (.ref 0), some (.int p), some (.int w), none], [.int 0], σ) _
    refine sy_bk [(.ifCond .eq 26, 1, 30, 0, 0), (.iconst (-1), 0, 0, (-1), 0)] (31, [some (.ref 0), some (.int p), some (.int w), none], [.int (-1)], σ) [sy_cc .eq 0 0] (by decide +kernel) rfl ⟨(by decide : ((0 : Int32) = 0)), trivial⟩ ?_
    exact sy_reti rfl (by decide +kernel) (k6 c10)

set_option maxRecDepth 20000 in
theorem w_M_burn_53 {Q : Option Value → sy_S → Prop} {σ : sy_S} {l2 : Int32}   (k1 : sy_E shM mX12_burns (0, sy_ent [.ref 0, .ref 12] 5, [], σ) (fun r9 σ9 => sy_E shM mX12_burn (61, [some (.ref 0), none, some (.int l2), none], r9.toList ++ [], σ9) Q)) : sy_E shM mX12_burn (53, [some (.ref 0), none, some (.int l2), none], [], σ) Q := by
  refine sy_bk [(.aload_n 0, 0, 0, 0, 0), (.aload_n 0, 0, 0, 0, 0), (.getfield 53, 12, 22, 0, 0)] (58, [some (.ref 0), none, some (.int l2), none], [.ref 12, .ref 0], σ) [] (by decide +kernel) rfl trivial ?_
  refine sy_callV mX12_burns 0 [.ref 12] [] kX12_burns jX12_286 (by decide +kernel) rfl rfl (Nat.le_of_ble_eq_true rfl) (Nat.le_of_ble_eq_true rfl) (by decide) rfl ?_
  exact k1

set_option maxRecDepth 20000 in
theorem w_M_burn_61 {Q : Option Value → sy_S → Prop} {σ : sy_S} {l2 : Int32} {v : Int32}  (b1 : ¬ (l2 < 100) → vp_in (l2 - 100) 16) (k1 : l2 < 100 → ¬ l2 = 0 → ¬ l2 = 1 → sy_E shM mX12_notBurnt (0, sy_ent [.ref 0] 3, [], σ) (fun r9 σ9 => sy_E shM mX12_burn (127, [none, none, none, none], r9.toList ++ [], σ9) Q)) (k2 : l2 < 100 → ¬ l2 = 0 → ¬ (¬ l2 = 1) → Q (some (.int v)) σ) (k3 : l2 < 100 → ¬ (¬ l2 = 0) → sy_E shM mX12_notBurnt (0, sy_ent [.ref 0] 3, [], σ) (fun r9 σ9 => sy_E shM mX12_burn (103, [none, none, none, none], r9.toList ++ [], σ9) Q)) (k4 : ¬ (l2 < 100) → ¬ (σ.1 21 ((l2 - 100).toNatClampNeg)) = 0 → Q (some (.int (σ.1 21 ((l2 - 100).toNatClampNeg)))) σ) (k5 : ¬ (l2 < 100) → ¬ (¬ (σ.1 21 ((l2 - 100).toNatClampNeg)) = 0) → Q (some (.int (-5))) σ) : sy_E shM mX12_burn (61, [some (.ref 0), none, some (.int l2), none], [.int v], σ) Q := by
  refine sy_bk [(.istore_n 3, 0, 0, 0, 0), (.iload_n 2, 0, 0, 0, 0), (.bipush 100, 0, 0, 100, 0)] (65, [some (.ref 0), none, some (.int l2), some (.int v)], [.int 100, .int l2], σ) [] (by decide +kernel) rfl trivial ?_
  by_cases c1 : l2 < 100
  · refine sy_bk [(.if_icmp .lt 30, 1, 95, 0, 0)] (95, [some (.ref 0), none, some (.int l2), some (.int v)], [], σ) [sy_cc .lt l2 100] (by decide +kernel) rfl ⟨c1, trivial⟩ ?_
    refine sy_bk [(.iload_n 2, 0, 0, 0, 0)] (96, [some (.ref 0), none, some (.int l2), some (.int v)], [.int l2], σ) [] (by decide +kernel) rfl trivial ?_
    by_cases c2 : ¬ l2 = 0
    · refine sy_bk [(.ifCond .ne 18, 1, 114, 0, 0)] (114, [some (.ref 0), none, some (.int l2), some (.int v)], [], σ) [sy_cc .ne l2 0] (by decide +kernel) rfl ⟨c2, trivial⟩ ?_
      refine sy_bk [(.iload_n 2, 0, 0, 0, 0), (.iconst 1, 0, 0, 1, 0)] (116, [some (.ref 0), none, some (.int l2), some (.int v)], [.int 1, .int l2], σ) [] (by decide +kernel) rfl trivial ?_
      by_cases c3 : ¬ l2 = 1
      · refine sy_bk [(.if_icmp .ne 7, 1, 123, 0, 0)] (123, [some (.ref 0), none, some (.int l2), some (.int v)], [], σ) [sy_cc .ne l2 1] (by decide +kernel) rfl ⟨c3, trivial⟩ ?_
        refine sy_bk [(.aload_n 0, 0, 0, 0, 0)] (124, [some (.ref 0), none, some (.int l2), some (.int v)], [.ref 0], σ) [] (by decide +kernel) rfl trivial ?_
        refine sy_drop [none, none, none, none] trivial ?_
        refine sy_callV mX12_notBurnt 0 [] [] kX12_notBurnt jX12_289 (by decide +kernel) rfl rfl (Nat.le_of_ble_eq_true rfl) (Nat.le_of_ble_eq_true rfl) (by decide) rfl ?_
        exact k1 c1 c2 c3
      · refine sy_bk [(.if_icmp .ne 7, 0, 123, 0, 0)] (119, [some (.ref 0), none, some (.int l2), some (.int v)], [], σ) [¬ sy_cc .ne l2 1] (by decide +kernel) rfl ⟨c3, trivial⟩ ?_
        refine sy_bk [(.iload_n 3, 0, 0, 0, 0), (.goto 7, 0, 127, 0, 0)] (127, [some (.ref 0), none, some (.int l2), some (.int v)], [.int v], σ) [] (by decide +kernel) rfl trivial ?_
        exact sy_reti rfl (by decide +kernel) (k2 c1 c2 c3)
    · refine sy_bk [(.ifCond .ne 18, 0, 114, 0, 0)] (99, [some (.ref 0), none, some (.int l2), some (.int v)], [], σ) [¬ sy_cc .ne l2 0] (by decide +kernel) rfl ⟨c2, trivial⟩ ?_
      refine sy_bk [(.aload_n 0, 0, 0, 0, 0)] (100, [some (.ref 0), none, some (.int l2), some (.int v)], [.ref 0], σ) [] (by decide +kernel) rfl trivial ?_
      refine sy_drop [none, none, none, none] trivial ?_
      refine sy_callV mX12_notBurnt 0 [] [] kX12_notBurnt jX12_289 (by decide +kernel) rfl rfl (Nat.le_of_ble_eq_true rfl) (Nat.le_of_ble_eq_true rfl) (by decide) rfl ?_
      exact k3 c1 c2
  · refine sy_bk [(.if_icmp .lt 30, 0, 95, 0, 0)] (68, [some (.ref 0), none, some (.int l2), some (.int v)], [], σ) [¬ sy_cc .lt l2 100] (by decide +kernel) rfl ⟨c1, trivial⟩ ?_
    refine sy_bk [(.aload_n 0, 0, 0, 0, 0), (.getfield 81, 12, 32, 0, 0), (.iload_n 2, 0, 0, 0, 0), (.bipush 100, 0, 0, 100, 0), (.isub, 0, 0, 0, 0), (.iaload, 0, 0, 0, 0)] (77, [some (.ref 0), none, some (.int l2), some (.int v)], [.int (σ.1 21 ((l2 - 100).toNatClampNeg))], σ) [sy_okA shM 0 21 (l2 - 100)] (by decide +kernel) rfl ⟨⟨16, _, rfl, (b1 c1)⟩, trivial⟩ ?_
    by_cases c4 : ¬ (σ.1 21 ((l2 - 100).toNatClampNeg)) = 0
    · refine sy_bk [(.ifCond .ne 8, 1, 85, 0, 0)] (85, [some (.ref 0), none, some (.int l2), some (.int v)], [], σ) [sy_cc .ne (σ.1 21 ((l2 - 100).toNatClampNeg)) 0] (by decide +kernel) rfl ⟨c4, trivial⟩ ?_
      refine sy_bk [(.aload_n 0, 0, 0, 0, 0), (.getfield 81, 12, 32, 0, 0), (.iload_n 2, 0, 0, 0, 0), (.bipush 100, 0, 0, 100, 0), (.isub, 0, 0, 0, 0), (.iaload, 0, 0, 0, 0)] (94, [some (.ref 0), none, some (.int l2), some (.int v)], [.int (σ.1 21 ((l2 - 100).toNatClampNeg))], σ) [sy_okA shM 0 21 (l2 - 100)] (by decide +kernel) rfl ⟨⟨16, _, rfl, (b1 c1)⟩, trivial⟩ ?_
      exact sy_reti rfl (by decide +kernel) (k4 c1 c4)
    · refine sy_bk [(.ifCond .ne 8, 0, 85, 0, 0)] (80, [some (.ref 0), none, some (.int l2), some (.int v)], [], σ) [¬ sy_cc .ne (σ.1 21 ((l2 - 100).toNatClampNeg)) 0] (by decide +kernel) rfl ⟨c4, trivial⟩ ?_
      refine sy_bk [(.bipush (-5), 0, 0, (-5), 0), (.goto 12, 0, 94, 0, 0)] (94, [some (.ref 0), none, some (.int l2), some (.int v)], [.int (-5)], σ) [] (by decide +kernel) rfl trivial ?_
      exact sy_reti rfl (by decide +kernel) (k5 c1 c4)

set_option maxRecDepth 20000 in
theorem w_M_burn_127 {Q : Option Value → sy_S → Prop} {σ : sy_S} {v : Int32}   (k1 : Q (some (.int v)) σ) : sy_E shM mX12_burn (127, [none, none, none, none], [.int v], σ) Q := by
  exact sy_reti rfl (by decide +kernel) (k1)

set_option maxRecDepth 20000 in
theorem w_M_burn_103 {Q : Option Value → sy_S → Prop} {σ : sy_S} {v : Int32}   (k1 : ¬ v = 0 → Q (some (.int 0)) σ) (k2 : ¬ (¬ v = 0) → Q (some (.int 1)) σ) : sy_E shM mX12_burn (103, [none, none, none, none], [.int v], σ) Q := by
  by_cases c1 : ¬ v = 0
  · refine sy_bk [(.ifCond .ne 7, 1, 110, 0, 0)] (110, [none, none, none, none], [], σ) [sy_cc .ne v 0] (by decide +kernel) rfl ⟨c1, trivial⟩ ?_
    refine sy_bk [(.iconst 0, 0, 0, 0, 0), (.goto 16, 0, 127, 0, 0)] (127, [none, none, none, none], [.int 0], σ) [] (by decide +kernel) rfl trivial ?_
    exact sy_reti rfl (by decide +kernel) (k1 c1)
  · refine sy_bk [(.ifCond .ne 7, 0, 110, 0, 0)] (106, [none, none, none, none], [], σ) [¬ sy_cc .ne v 0] (by decide +kernel) rfl ⟨c1, trivial⟩ ?_
    refine sy_bk [(.iconst 1, 0, 0, 1, 0), (.goto 20, 0, 127, 0, 0)] (127, [none, none, none, none], [.int 1], σ) [] (by decide +kernel) rfl trivial ?_
    exact sy_reti rfl (by decide +kernel) (k2 c1)

set_option maxRecDepth 20000 in
theorem w_M_through_0 {Q : Option Value → sy_S → Prop} {σ : sy_S}    (k1 : sy_E shM mX12_places (0, sy_ent [.ref 0] 3, [], σ) (fun r9 σ9 => sy_E shM mX12_through (4, [some (.ref 0), none, none, none, none, none], r9.toList ++ [], σ9) Q)) : sy_E shM mX12_through (0, sy_ent [.ref 0] 6, [], σ) Q := by
  show sy_E shM mX12_through (0, [some (.ref 0), none, none, none, none, none], [], σ) _
  refine sy_bk [(.aload_n 0, 0, 0, 0, 0)] (1, [some (.ref 0), none, none, none, none, none], [.ref 0], σ) [] (by decide +kernel) rfl trivial ?_
  refine sy_callV mX12_places 0 [] [] kX12_places jX12_292 (by decide +kernel) rfl rfl (Nat.le_of_ble_eq_true rfl) (Nat.le_of_ble_eq_true rfl) (by decide) rfl ?_
  exact k1

set_option maxRecDepth 20000 in
theorem w_M_through_4 {Q : Option Value → sy_S → Prop} {σ : sy_S} {v : Int32}   (k1 : v ≤ 6 → sy_E shM mX12_through (18, [some (.ref 0), some (.int v), some (.int 0), some (.int 0), none, none], [], σ) Q) (k2 : ¬ (v ≤ 6) → Q (some (.int (-3))) σ) : sy_E shM mX12_through (4, [some (.ref 0), none, none, none, none, none], [.int v], σ) Q := by
  refine sy_bk [(.istore_n 1, 0, 0, 0, 0), (.iload_n 1, 0, 0, 0, 0), (.bipush 6, 0, 0, 6, 0)] (8, [some (.ref 0), some (.int v), none, none, none, none], [.int 6, .int v], σ) [] (by decide +kernel) rfl trivial ?_
  by_cases c1 : v ≤ 6
  · refine sy_bk [(.if_icmp .le 6, 1, 14, 0, 0)] (14, [some (.ref 0), some (.int v), none, none, none, none], [], σ) [sy_cc .le v 6] (by decide +kernel) rfl ⟨c1, trivial⟩ ?_
    refine sy_bk [(.iconst 0, 0, 0, 0, 0), (.istore_n 2, 0, 0, 0, 0), (.iconst 0, 0, 0, 0, 0), (.istore_n 3, 0, 0, 0, 0)] (18, [some (.ref 0), some (.int v), some (.int 0), some (.int 0), none, none], [], σ) [] (by decide +kernel) rfl trivial ?_
    exact k1 c1
  · refine sy_bk [(.if_icmp .le 6, 0, 14, 0, 0)] (11, [some (.ref 0), some (.int v), none, none, none, none], [], σ) [¬ sy_cc .le v 6] (by decide +kernel) rfl ⟨c1, trivial⟩ ?_
    refine sy_bk [(.bipush (-3), 0, 0, (-3), 0)] (13, [some (.ref 0), some (.int v), none, none, none, none], [.int (-3)], σ) [] (by decide +kernel) rfl trivial ?_
    exact sy_reti rfl (by decide +kernel) (k2 c1)

set_option maxRecDepth 20000 in
theorem w_M_through_18 {Q : Option Value → sy_S → Prop} {σ : sy_S} {l1 : Int32} {l2 : Int32} {l3 : Int32}   (k1 : (1 <<< ((2 * l1) &&& 31)) ≤ l3 → Q (some (.int l2)) σ) (k2 : ¬ ((1 <<< ((2 * l1) &&& 31)) ≤ l3) → sy_E shM mX12_through (33, [some (.ref 0), some (.int l1), some (.int l2), some (.int l3), some (.int l3), some (.int 0)], [], σ) Q) : sy_E shM mX12_through (18, [some (.ref 0), some (.int l1), some (.int l2), some (.int l3), none, none], [], σ) Q := by
  refine sy_bk [(.iload_n 3, 0, 0, 0, 0), (.iconst 1, 0, 0, 1, 0), (.iconst 2, 0, 0, 2, 0), (.iload_n 1, 0, 0, 0, 0), (.imul, 0, 0, 0, 0), (.ishl, 0, 0, 0, 0)] (24, [some (.ref 0), some (.int l1), some (.int l2), some (.int l3), none, none], [.int (1 <<< ((2 * l1) &&& 31)), .int l3], σ) [] (by decide +kernel) rfl trivial ?_
  by_cases c1 : (1 <<< ((2 * l1) &&& 31)) ≤ l3
  · refine sy_bk [(.if_icmp .ge 101, 1, 125, 0, 0)] (125, [some (.ref 0), some (.int l1), some (.int l2), some (.int l3), none, none], [], σ) [sy_cc .ge l3 (1 <<< ((2 * l1) &&& 31))] (by decide +kernel) rfl ⟨c1, trivial⟩ ?_
    refine sy_bk [(.iload_n 2, 0, 0, 0, 0)] (126, [some (.ref 0), some (.int l1), some (.int l2), some (.int l3), none, none], [.int l2], σ) [] (by decide +kernel) rfl trivial ?_
    exact sy_reti rfl (by decide +kernel) (k1 c1)
  · refine sy_bk [(.if_icmp .ge 101, 0, 125, 0, 0)] (27, [some (.ref 0), some (.int l1), some (.int l2), some (.int l3), none, none], [], σ) [¬ sy_cc .ge l3 (1 <<< ((2 * l1) &&& 31))] (by decide +kernel) rfl ⟨c1, trivial⟩ ?_
    refine sy_bk [(.iload_n 3, 0, 0, 0, 0), (.istore 4, 0, 0, 0, 0), (.iconst 0, 0, 0, 0, 0), (.istore 5, 0, 0, 0, 0)] (33, [some (.ref 0), some (.int l1), some (.int l2), some (.int l3), some (.int l3), some (.int 0)], [], σ) [] (by decide +kernel) rfl trivial ?_
    exact k2 c1

set_option maxRecDepth 20000 in
theorem w_M_through_33 {Q : Option Value → sy_S → Prop} {σ : sy_S} {l1 : Int32} {l2 : Int32} {l3 : Int32} {l4 : Int32} {l5 : Int32}  (b1 : ¬ (((σ.1 0 0) * (σ.1 0 1)) ≤ l5) → vp_in l5 16) (k1 : ((σ.1 0 0) * (σ.1 0 1)) ≤ l5 → sy_E shM mX12_burns (0, sy_ent [.ref 0, .ref 12] 5, [], σ) (fun r9 σ9 => sy_E shM mX12_through (102, [some (.ref 0), some (.int l1), some (.int l2), some (.int l3), none, none], r9.toList ++ [], σ9) Q)) (k2 : ¬ (((σ.1 0 0) * (σ.1 0 1)) ≤ l5) → (σ.1 1 l5.toNatClampNeg) = 0 → (σ.1 1 l5.toNatClampNeg) = 0 → sy_E shM mX12_through (33, [some (.ref 0), some (.int l1), some (.int l2), some (.int l3), some (.int (l4 / 4)), some (.int (l5 + 1))], [], (sy_up σ.1 12 l5.toNatClampNeg (l4 - l4 / 4 * 4), σ.2)) Q) (k3 : ¬ (((σ.1 0 0) * (σ.1 0 1)) ≤ l5) → (σ.1 1 l5.toNatClampNeg) = 0 → ¬ ((σ.1 1 l5.toNatClampNeg) = 0) → sy_E shM mX12_through (33, [some (.ref 0), some (.int l1), some (.int l2), some (.int l3), some (.int l4), some (.int (l5 + 1))], [], (sy_up σ.1 12 l5.toNatClampNeg (l4 - l4 / 4 * 4), σ.2)) Q) (k4 : ¬ (((σ.1 0 0) * (σ.1 0 1)) ≤ l5) → ¬ ((σ.1 1 l5.toNatClampNeg) = 0) → (σ.1 1 l5.toNatClampNeg) = 0 → sy_E shM mX12_through (33, [some (.ref 0), some (.int l1), some (.int l2), some (.int l3), some (.int (l4 / 4)), some (.int (l5 + 1))], [], (sy_up σ.1 12 l5.toNatClampNeg 0, σ.2)) Q) (k5 : ¬ (((σ.1 0 0) * (σ.1 0 1)) ≤ l5) → ¬ ((σ.1 1 l5.toNatClampNeg) = 0) → ¬ ((σ.1 1 l5.toNatClampNeg) = 0) → sy_E shM mX12_through (33, [some (.ref 0), some (.int l1), some (.int l2), some (.int l3), some (.int l4), some (.int (l5 + 1))], [], (sy_up σ.1 12 l5.toNatClampNeg 0, σ.2)) Q) : sy_E shM mX12_through (33, [some (.ref 0), some (.int l1), some (.int l2), some (.int l3), some (.int l4), some (.int l5)], [], σ) Q := by
  refine sy_bk [(.iload 5, 0, 0, 0, 0), (.aload_n 0, 0, 0, 0, 0)] (36, [some (.ref 0), some (.int l1), some (.int l2), some (.int l3), some (.int l4), some (.int l5)], [.ref 0, .int l5], σ) [] (by decide +kernel) rfl trivial ?_
  refine sy_callV mX12_cells 0 [] [.int l5] kX12_cells jX12_105 (by decide +kernel) rfl rfl (Nat.le_of_ble_eq_true rfl) (Nat.le_of_ble_eq_true rfl) (by decide) rfl ?_
  refine w_m_cells (σ := σ) ?_
  show sy_E shM mX12_through (39, [some (.ref 0), some (.int l1), some (.int l2), some (.int l3), some (.int l4), some (.int l5)], [.int ((σ.1 0 0) * (σ.1 0 1)), .int l5], σ) _
  by_cases c1 : ((σ.1 0 0) * (σ.1 0 1)) ≤ l5
  · refine sy_bk [(.if_icmp .ge 55, 1, 94, 0, 0)] (94, [some (.ref 0), some (.int l1), some (.int l2), some (.int l3), some (.int l4), some (.int l5)], [], σ) [sy_cc .ge l5 ((σ.1 0 0) * (σ.1 0 1))] (by decide +kernel) rfl ⟨c1, trivial⟩ ?_
    refine sy_bk [(.aload_n 0, 0, 0, 0, 0), (.aload_n 0, 0, 0, 0, 0), (.getfield 53, 12, 22, 0, 0)] (99, [some (.ref 0), some (.int l1), some (.int l2), some (.int l3), some (.int l4), some (.int l5)], [.ref 12, .ref 0], σ) [] (by decide +kernel) rfl trivial ?_
    refine sy_drop [some (.ref 0), some (.int l1), some (.int l2), some (.int l3), none, none] ⟨rfl, rfl, rfl, rfl, trivial⟩ ?_
    refine sy_callV mX12_burns 0 [.ref 12] [] kX12_burns jX12_286 (by decide +kernel) rfl rfl (Nat.le_of_ble_eq_true rfl) (Nat.le_of_ble_eq_true rfl) (by decide) rfl ?_
    exact k1 c1
  · refine sy_bk [(.if_icmp .ge 55, 0, 94, 0, 0)] (42, [some (.ref 0), some (.int l1), some (.int l2), some (.int l3), some (.int l4), some (.int l5)], [], σ) [¬ sy_cc .ge l5 ((σ.1 0 0) * (σ.1 0 1))] (by decide +kernel) rfl ⟨c1, trivial⟩ ?_
    refine sy_bk [(.aload_n 0, 0, 0, 0, 0), (.getfield 53, 12, 22, 0, 0), (.iload 5, 0, 0, 0, 0), (.aload_n 0, 0, 0, 0, 0), (.getfield 18, 12, 2, 0, 0), (.iload 5, 0, 0, 0, 0), (.baload, 0, 0, 0, 0)] (55, [some (.ref 0), some (.int l1), some (.int l2), some (.int l3), some (.int l4), some (.int l5)], [.int (σ.1 1 l5.toNatClampNeg), .int l5, .ref 12], σ) [sy_okA shM 1 1 l5] (by decide +kernel) rfl ⟨⟨16, _, rfl, (b1 c1)⟩, trivial⟩ ?_
    by_cases c2 : (σ.1 1 l5.toNatClampNeg) = 0
    · refine sy_bk [(.ifCond .eq 7, 1, 62, 0, 0)] (62, [some (.ref 0), some (.int l1), some (.int l2), some (.int l3), some (.int l4), some (.int l5)], [.int l5, .ref 12], σ) [sy_cc .eq (σ.1 1 l5.toNatClampNeg) 0] (by decide +kernel) rfl ⟨c2, trivial⟩ ?_
      refine sy_bk [(.iload 4, 0, 0, 0, 0), (.iconst 4, 0, 0, 4, 0), (.irem, 0, 0, 0, 0), (.iastore, 0, 0, 0, 0), (.aload_n 0, 0, 0, 0, 0), (.getfield 18, 12, 2, 0, 0), (.iload 5, 0, 0, 0, 0), (.baload, 0, 0, 0, 0)] (74, [some (.ref 0), some (.int l1), some (.int l2), some (.int l3), some (.int l4), some (.int l5)], [.int (σ.1 1 l5.toNatClampNeg)], (sy_up σ.1 12 l5.toNatClampNeg (l4 - l4 / 4 * 4), σ.2)) [¬ (4 : Int32) = 0, sy_okA shM 0 12 l5, sy_okA shM 1 1 l5] (by decide +kernel) rfl ⟨(by decide), ⟨16, _, rfl, (b1 c1)⟩, ⟨16, _, rfl, (b1 c1)⟩, trivial⟩ ?_
      by_cases c3 : (σ.1 1 l5.toNatClampNeg) = 0
      · refine sy_bk [(.ifCond .eq 8, 1, 82, 0, 0)] (82, [some (.ref 0), some (.int l1), some (.int l2), some (.int l3), some (.int l4), some (.int l5)], [], (sy_up σ.1 12 l5.toNatClampNeg (l4 - l4 / 4 * 4), σ.2)) [sy_cc .eq (σ.1 1 l5.toNatClampNeg) 0] (by decide +kernel) rfl ⟨c3, trivial⟩ ?_
        refine sy_bk [(.iload 4, 0, 0, 0, 0), (.iconst 4, 0, 0, 4, 0), (.idiv, 0, 0, 0, 0), (.istore 4, 0, 0, 0, 0), (.iinc 5 1, 0, 0, 1, 0), (.goto (-58), 0, 33, 0, 0)] (33, [some (.ref 0), some (.int l1), some (.int l2), some (.int l3), some (.int (l4 / 4)), some (.int (l5 + 1))], [], (sy_up σ.1 12 l5.toNatClampNeg (l4 - l4 / 4 * 4), σ.2)) [¬ (4 : Int32) = 0] (by decide +kernel) rfl ⟨(by decide), trivial⟩ ?_
        exact k2 c1 c2 c3
      · refine sy_bk [(.ifCond .eq 8, 0, 82, 0, 0)] (77, [some (.ref 0), some (.int l1), some (.int l2), some (.int l3), some (.int l4), some (.int l5)], [], (sy_up σ.1 12 l5.toNatClampNeg (l4 - l4 / 4 * 4), σ.2)) [¬ sy_cc .eq (σ.1 1 l5.toNatClampNeg) 0] (by decide +kernel) rfl ⟨c3, trivial⟩ ?_
        refine sy_bk [(.iload 4, 0, 0, 0, 0), (.goto 7, 0, 86, 0, 0), (.istore 4, 0, 0, 0, 0), (.iinc 5 1, 0, 0, 1, 0), (.goto (-58), 0, 33, 0, 0)] (33, [some (.ref 0), some (.int l1), some (.int l2), some (.int l3), some (.int l4), some (.int (l5 + 1))], [], (sy_up σ.1 12 l5.toNatClampNeg (l4 - l4 / 4 * 4), σ.2)) [] (by decide +kernel) rfl trivial ?_
        exact k3 c1 c2 c3
    · refine sy_bk [(.ifCond .eq 7, 0, 62, 0, 0)] (58, [some (.ref 0), some (.int l1), some (.int l2), some (.int l3), some (.int l4), some (.int l5)], [.int l5, .ref 12], σ) [¬ sy_cc .eq (σ.1 1 l5.toNatClampNeg) 0] (by decide +kernel) rfl ⟨c2, trivial⟩ ?_
      refine sy_bk [(.iconst 0, 0, 0, 0, 0), (.goto 7, 0, 66, 0, 0), (.iastore, 0, 0, 0, 0), (.aload_n 0, 0, 0, 0, 0), (.getfield 18, 12, 2, 0, 0), (.iload 5, 0, 0, 0, 0), (.baload, 0, 0, 0, 0)] (74, [some (.ref 0), some (.int l1), some (.int l2), some (.int l3), some (.int l4), some (.int l5)], [.int (σ.1 1 l5.toNatClampNeg)], (sy_up σ.1 12 l5.toNatClampNeg 0, σ.2)) [sy_okA shM 0 12 l5, sy_okA shM 1 1 l5] (by decide +kernel) rfl ⟨⟨16, _, rfl, (b1 c1)⟩, ⟨16, _, rfl, (b1 c1)⟩, trivial⟩ ?_
      by_cases c4 : (σ.1 1 l5.toNatClampNeg) = 0
      · refine sy_bk [(.ifCond .eq 8, 1, 82, 0, 0)] (82, [some (.ref 0), some (.int l1), some (.int l2), some (.int l3), some (.int l4), some (.int l5)], [], (sy_up σ.1 12 l5.toNatClampNeg 0, σ.2)) [sy_cc .eq (σ.1 1 l5.toNatClampNeg) 0] (by decide +kernel) rfl ⟨c4, trivial⟩ ?_
        refine sy_bk [(.iload 4, 0, 0, 0, 0), (.iconst 4, 0, 0, 4, 0), (.idiv, 0, 0, 0, 0), (.istore 4, 0, 0, 0, 0), (.iinc 5 1, 0, 0, 1, 0), (.goto (-58), 0, 33, 0, 0)] (33, [some (.ref 0), some (.int l1), some (.int l2), some (.int l3), some (.int (l4 / 4)), some (.int (l5 + 1))], [], (sy_up σ.1 12 l5.toNatClampNeg 0, σ.2)) [¬ (4 : Int32) = 0] (by decide +kernel) rfl ⟨(by decide), trivial⟩ ?_
        exact k4 c1 c2 c4
      · refine sy_bk [(.ifCond .eq 8, 0, 82, 0, 0)] (77, [some (.ref 0), some (.int l1), some (.int l2), some (.int l3), some (.int l4), some (.int l5)], [], (sy_up σ.1 12 l5.toNatClampNeg 0, σ.2)) [¬ sy_cc .eq (σ.1 1 l5.toNatClampNeg) 0] (by decide +kernel) rfl ⟨c4, trivial⟩ ?_
        refine sy_bk [(.iload 4, 0, 0, 0, 0), (.goto 7, 0, 86, 0, 0), (.istore 4, 0, 0, 0, 0), (.iinc 5 1, 0, 0, 1, 0), (.goto (-58), 0, 33, 0, 0)] (33, [some (.ref 0), some (.int l1), some (.int l2), some (.int l3), some (.int l4), some (.int (l5 + 1))], [], (sy_up σ.1 12 l5.toNatClampNeg 0, σ.2)) [] (by decide +kernel) rfl trivial ?_
        exact k5 c1 c2 c4

set_option maxRecDepth 20000 in
theorem w_M_through_102 {Q : Option Value → sy_S → Prop} {σ : sy_S} {l1 : Int32} {l2 : Int32} {l3 : Int32} {v : Int32}   (k1 : sy_E shM mX12_notBurnt (0, sy_ent [.ref 0] 3, [], σ) (fun r9 σ9 => sy_E shM mX12_through (109, [some (.ref 0), some (.int l1), none, some (.int l3), none, none], r9.toList ++ [.int l2], σ9) Q)) : sy_E shM mX12_through (102, [some (.ref 0), some (.int l1), some (.int l2), some (.int l3), none, none], [.int v], σ) Q := by
  refine sy_bk [(.istore 5, 0, 0, 0, 0), (.iload_n 2, 0, 0, 0, 0), (.aload_n 0, 0, 0, 0, 0)] (106, [some (.ref 0), some (.int l1), some (.int l2), some (.int l3), none, some (.int v)], [.ref 0, .int l2], σ) [] (by decide +kernel) rfl trivial ?_
  refine sy_drop [some (.ref 0), some (.int l1), none, some (.int l3), none, none] ⟨rfl, rfl, rfl, trivial⟩ ?_
  refine sy_callV mX12_notBurnt 0 [] [.int l2] kX12_notBurnt jX12_289 (by decide +kernel) rfl rfl (Nat.le_of_ble_eq_true rfl) (Nat.le_of_ble_eq_true rfl) (by decide) rfl ?_
  exact k1

set_option maxRecDepth 20000 in
theorem w_M_through_109 {Q : Option Value → sy_S → Prop} {σ : sy_S} {l1 : Int32} {l3 : Int32} {s0 : Int32} {v : Int32}   (k1 : ¬ v = 0 → sy_E shM mX12_through (18, [some (.ref 0), some (.int l1), some (.int (s0 + 0)), some (.int (l3 + 1)), none, none], [], σ) Q) (k2 : ¬ (¬ v = 0) → sy_E shM mX12_through (18, [some (.ref 0), some (.int l1), some (.int (s0 + 1)), some (.int (l3 + 1)), none, none], [], σ) Q) : sy_E shM mX12_through (109, [some (.ref 0), some (.int l1), none, some (.int l3), none, none], [.int v, .int s0], σ) Q := by
  by_cases c1 : ¬ v = 0
  · refine sy_bk [(.ifCond .ne 7, 1, 116, 0, 0)] (116, [some (.ref 0), some (.int l1), none, some (.int l3), none, none], [.int s0], σ) [sy_cc .ne v 0] (by decide +kernel) rfl ⟨c1, trivial⟩ ?_
    refine sy_bk [(.iconst 0, 0, 0, 0, 0), (.iadd, 0, 0, 0, 0), (.istore_n 2, 0, 0, 0, 0), (.iinc 3 1, 0, 0, 1, 0), (.goto (-104), 0, 18, 0, 0)] (18, [some (.ref 0), some (.int l1), some (.int (s0 + 0)), some (.int (l3 + 1)), none, none], [], σ) [] (by decide +kernel) rfl trivial ?_
    exact k1 c1
  · refine sy_bk [(.ifCond .ne 7, 0, 116, 0, 0)] (112, [some (.ref 0), some (.int l1), none, some (.int l3), none, none], [.int s0], σ) [¬ sy_cc .ne v 0] (by decide +kernel) rfl ⟨c1, trivial⟩ ?_
    refine sy_bk [(.iconst 1, 0, 0, 1, 0), (.goto 4, 0, 117, 0, 0), (.iadd, 0, 0, 0, 0), (.istore_n 2, 0, 0, 0, 0), (.iinc 3 1, 0, 0, 1, 0), (.goto (-104), 0, 18, 0, 0)] (18, [some (.ref 0), some (.int l1), some (.int (s0 + 1)), some (.int (l3 + 1)), none, none], [], σ) [] (by decide +kernel) rfl trivial ?_
    exact k2 c1

set_option maxRecDepth 20000 in
theorem w_M_avalanche_0 {Q : Option Value → sy_S → Prop} {σ : sy_S} {cell : Int32} {w : Int32} {G : sg_G}  (b1 : gm G σ.1) (k1 : ∀ (m_1 : Nat), px (sg_p G) cell = some m_1 → (0 ≤ w.toInt64 ∧ w.toInt64 ≤ 3) → sy_E shM mX12_isStable (0, sy_ent [.ref 0, .ref 2] 4, [], σ) (fun r9 σ9 => sy_E shM mX12_avalanche (30, [some (.ref 0), some (.int cell), some (.int w), none], r9.toList ++ [], σ9) Q)) (k2 : ∀ (m_1 : Nat), px (sg_p G) cell = some m_1 → (¬ (0 ≤ w.toInt64 ∧ w.toInt64 ≤ 3)) → Q (some (.int (-1))) σ) (k3 : px (sg_p G) cell = none → Q (some (.int (-1))) σ) : sy_E shM mX12_avalanche (0, sy_ent [.ref 0, .int cell, .int w] 4, [], σ) Q := by
  show sy_E shM mX12_avalanche (0, [some (.ref 0), some (.int cell), some (.int w), none], [], σ) _
  refine sy_bk [(.aload_n 0, 0, 0, 0, 0), (.iload_n 1, 0, 0, 0, 0)] (2, [some (.ref 0), some (.int cell), some (.int w), none], [.int cell, .ref 0], σ) [] (by decide +kernel) rfl trivial ?_
  refine sy_callV mX12_isPlace 0 [.int cell] [] kX12_isPlace jX12_152 (by decide +kernel) rfl rfl (Nat.le_of_ble_eq_true rfl) (Nat.le_of_ble_eq_true rfl) (by decide) rfl ?_
  refine e_m_isPl (σ := σ) (cell := cell) b1 ?_ ?_
  · intro m_1 c2
    show sy_E shM mX12_avalanche (5, [some (.ref 0), some (.int cell), some (.int w), none], [.int 1], σ) _
    refine sy_bk [(.ifCond .eq 15, 0, 20, 0, 0), (.iload_n 2, 0, 0, 0, 0), (.i2l, 0, 0, 0, 0), (.lconst 0, 0, 0, 0, 0), (.ldc2_w 236, 0, 0, 0, 3)] (14, [some (.ref 0), some (.int cell), some (.int w), none], [.long 3, .long 0, .long w.toInt64], σ) [¬ sy_cc .eq 1 0] (by decide +kernel) rfl ⟨(by decide : ¬ ((1 : Int32) = 0)), trivial⟩ ?_
    refine sy_callS mX12_in [.long w.toInt64, .long 0, .long 3] [] kX12_in jX12_109 (by decide +kernel) rfl rfl (Nat.le_of_ble_eq_true rfl) (Nat.le_of_ble_eq_true rfl) (by decide) ?_
    refine e_m_in (σ := σ) (v := w.toInt64) (lo := 0) (hi := 3) ?_ ?_
    · intro c3
      show sy_E shM mX12_avalanche (17, [some (.ref 0), some (.int cell), some (.int w), none], [.int 1], σ) _
      refine sy_bk [(.ifCond .ne 5, 1, 22, 0, 0), (.aload_n 0, 0, 0, 0, 0), (.aload_n 0, 0, 0, 0, 0), (.getfield 22, 12, 3, 0, 0)] (27, [some (.ref 0), some (.int cell), some (.int w), none], [.ref 2, .ref 0], σ) [sy_cc .ne 1 0] (by decide +kernel) rfl ⟨(by decide : (¬ (1 : Int32) = 0)), trivial⟩ ?_
      refine sy_callV mX12_isStable 0 [.ref 2] [] kX12_isStable jX12_127 (by decide +kernel) rfl rfl (Nat.le_of_ble_eq_true rfl) (Nat.le_of_ble_eq_true rfl) (by decide) rfl ?_
      exact k1 m_1 c2 c3
    · intro c4
      show sy_E shM mX12_avalanche (17, [some (.ref 0), some (.int cell), some (.int w), none], [.int 0], σ) _
      refine sy_bk [(.ifCond .ne 5, 0, 22, 0, 0), (.iconst (-1), 0, 0, (-1), 0)] (21, [some (.ref 0), some (.int cell), some (.int w), none], [.int (-1)], σ) [¬ sy_cc .ne 0 0] (by decide +kernel) rfl ⟨(by decide : ¬ (¬ (0 : Int32) = 0)), trivial⟩ ?_
      exact sy_reti rfl (by decide +kernel) (k2 m_1 c2 c4)
  · intro c5
    show sy_E shM mX12_avalanche (5, [some (.ref 0), some (.int cell), some (.int w), none], [.int 0], σ) _
    refine sy_bk [(.ifCond .eq 15, 1, 20, 0, 0), (.iconst (-1), 0, 0, (-1), 0)] (21, [some (.ref 0), some (.int cell), some (.int w), none], [.int (-1)], σ) [sy_cc .eq 0 0] (by decide +kernel) rfl ⟨(by decide : ((0 : Int32) = 0)), trivial⟩ ?_
    exact sy_reti rfl (by decide +kernel) (k3 c5)

set_option maxRecDepth 20000 in
theorem w_M_avalanche_30 {Q : Option Value → sy_S → Prop} {σ : sy_S} {l1 : Int32} {l2 : Int32} {v : Int32}   (k1 : ¬ v = 0 → sy_E shM mX12_copies (0, sy_ent [.ref 2, .ref 12] 3, [], σ) (fun r9 σ9 => sy_E shM mX12_avalanche (47, [some (.ref 0), some (.int l1), some (.int l2), none], r9.toList ++ [], σ9) Q)) (k2 : ¬ (¬ v = 0) → Q (some (.int (-3))) σ) : sy_E shM mX12_avalanche (30, [some (.ref 0), some (.int l1), some (.int l2), none], [.int v], σ) Q := by
  by_cases c1 : ¬ v = 0
  · refine sy_bk [(.ifCond .ne 6, 1, 36, 0, 0)] (36, [some (.ref 0), some (.int l1), some (.int l2), none], [], σ) [sy_cc .ne v 0] (by decide +kernel) rfl ⟨c1, trivial⟩ ?_
    refine sy_bk [(.aload_n 0, 0, 0, 0, 0), (.getfield 22, 12, 3, 0, 0), (.aload_n 0, 0, 0, 0, 0), (.getfield 53, 12, 22, 0, 0)] (44, [some (.ref 0), some (.int l1), some (.int l2), none], [.ref 12, .ref 2], σ) [] (by decide +kernel) rfl trivial ?_
    refine sy_callS mX12_copies [.ref 2, .ref 12] [] kX12_copies jX12_209 (by decide +kernel) rfl rfl (Nat.le_of_ble_eq_true rfl) (Nat.le_of_ble_eq_true rfl) (by decide) ?_
    exact k1 c1
  · refine sy_bk [(.ifCond .ne 6, 0, 36, 0, 0)] (33, [some (.ref 0), some (.int l1), some (.int l2), none], [], σ) [¬ sy_cc .ne v 0] (by decide +kernel) rfl ⟨c1, trivial⟩ ?_
    refine sy_bk [(.bipush (-3), 0, 0, (-3), 0)] (35, [some (.ref 0), some (.int l1), some (.int l2), none], [.int (-3)], σ) [] (by decide +kernel) rfl trivial ?_
    exact sy_reti rfl (by decide +kernel) (k2 c1)

set_option maxRecDepth 20000 in
theorem w_M_avalanche_47 {Q : Option Value → sy_S → Prop} {σ : sy_S} {l1 : Int32} {l2 : Int32}  (b1 : vp_in l1 16) (k1 : ¬ l2 = 3 → sy_E shM mX12_settles (0, sy_ent [.ref 0, .ref 12] 3, [], (sy_up σ.1 12 l1.toNatClampNeg ((σ.1 12 l1.toNatClampNeg) + 1), σ.2)) (fun r9 σ9 => sy_E shM mX12_avalanche (79, [some (.ref 0), none, some (.int l2), none], r9.toList ++ [], σ9) Q)) (k2 : ¬ (¬ l2 = 3) → sy_E shM mX12_roundsOf (0, sy_ent [.ref 0, .ref 12] 4, [], (sy_up σ.1 12 l1.toNatClampNeg ((σ.1 12 l1.toNatClampNeg) + 1), σ.2)) (fun r9 σ9 => sy_E shM mX12_avalanche (70, [none, none, none, none], r9.toList ++ [], σ9) Q)) : sy_E shM mX12_avalanche (47, [some (.ref 0), some (.int l1), some (.int l2), none], [], σ) Q := by
  refine sy_bk [(.aload_n 0, 0, 0, 0, 0), (.getfield 53, 12, 22, 0, 0), (.iload_n 1, 0, 0, 0, 0), (.dup2, 0, 0, 0, 0), (.iaload, 0, 0, 0, 0), (.iconst 1, 0, 0, 1, 0), (.iadd, 0, 0, 0, 0), (.iastore, 0, 0, 0, 0), (.iload_n 2, 0, 0, 0, 0), (.iconst 3, 0, 0, 3, 0)] (59, [some (.ref 0), some (.int l1), some (.int l2), none], [.int 3, .int l2], (sy_up σ.1 12 l1.toNatClampNeg ((σ.1 12 l1.toNatClampNeg) + 1), σ.2)) [sy_okA shM 0 12 l1, sy_okA shM 0 12 l1] (by decide +kernel) rfl ⟨⟨16, _, rfl, b1⟩, ⟨16, _, rfl, b1⟩, trivial⟩ ?_
  by_cases c1 : ¬ l2 = 3
  · refine sy_bk [(.if_icmp .ne 12, 1, 71, 0, 0)] (71, [some (.ref 0), some (.int l1), some (.int l2), none], [], (sy_up σ.1 12 l1.toNatClampNeg ((σ.1 12 l1.toNatClampNeg) + 1), σ.2)) [sy_cc .ne l2 3] (by decide +kernel) rfl ⟨c1, trivial⟩ ?_
    refine sy_bk [(.aload_n 0, 0, 0, 0, 0), (.aload_n 0, 0, 0, 0, 0), (.getfield 53, 12, 22, 0, 0)] (76, [some (.ref 0), some (.int l1), some (.int l2), none], [.ref 12, .ref 0], (sy_up σ.1 12 l1.toNatClampNeg ((σ.1 12 l1.toNatClampNeg) + 1), σ.2)) [] (by decide +kernel) rfl trivial ?_
    refine sy_drop [some (.ref 0), none, some (.int l2), none] ⟨rfl, rfl, trivial⟩ ?_
    refine sy_callV mX12_settles 0 [.ref 12] [] kX12_settles jX12_163 (by decide +kernel) rfl rfl (Nat.le_of_ble_eq_true rfl) (Nat.le_of_ble_eq_true rfl) (by decide) rfl ?_
    exact k1 c1
  · refine sy_bk [(.if_icmp .ne 12, 0, 71, 0, 0)] (62, [some (.ref 0), some (.int l1), some (.int l2), none], [], (sy_up σ.1 12 l1.toNatClampNeg ((σ.1 12 l1.toNatClampNeg) + 1), σ.2)) [¬ sy_cc .ne l2 3] (by decide +kernel) rfl ⟨c1, trivial⟩ ?_
    refine sy_bk [(.aload_n 0, 0, 0, 0, 0), (.aload_n 0, 0, 0, 0, 0), (.getfield 53, 12, 22, 0, 0)] (67, [some (.ref 0), some (.int l1), some (.int l2), none], [.ref 12, .ref 0], (sy_up σ.1 12 l1.toNatClampNeg ((σ.1 12 l1.toNatClampNeg) + 1), σ.2)) [] (by decide +kernel) rfl trivial ?_
    refine sy_drop [none, none, none, none] trivial ?_
    refine sy_callV mX12_roundsOf 0 [.ref 12] [] kX12_roundsOf jX12_213 (by decide +kernel) rfl rfl (Nat.le_of_ble_eq_true rfl) (Nat.le_of_ble_eq_true rfl) (by decide) rfl ?_
    exact k2 c1

set_option maxRecDepth 20000 in
theorem w_M_avalanche_79 {Q : Option Value → sy_S → Prop} {σ : sy_S} {l2 : Int32} {v : Int32}   (k1 : ¬ l2 = 0 → ¬ l2 = 1 → Q (some (.int (σ.1 0 7))) σ) (k2 : ¬ l2 = 0 → ¬ (¬ l2 = 1) → sy_E shM mX12_toppled (0, sy_ent [.ref 0] 3, [], σ) (fun r9 σ9 => sy_E shM mX12_avalanche (97, [none, none, none, none], r9.toList ++ [], σ9) Q)) (k3 : ¬ (¬ l2 = 0) → Q (some (.int v)) σ) : sy_E shM mX12_avalanche (79, [some (.ref 0), none, some (.int l2), none], [.int v], σ) Q := by
  refine sy_bk [(.istore_n 3, 0, 0, 0, 0), (.iload_n 2, 0, 0, 0, 0)] (81, [some (.ref 0), none, some (.int l2), some (.int v)], [.int l2], σ) [] (by decide +kernel) rfl trivial ?_
  by_cases c1 : ¬ l2 = 0
  · refine sy_bk [(.ifCond .ne 7, 1, 88, 0, 0)] (88, [some (.ref 0), none, some (.int l2), some (.int v)], [], σ) [sy_cc .ne l2 0] (by decide +kernel) rfl ⟨c1, trivial⟩ ?_
    refine sy_bk [(.iload_n 2, 0, 0, 0, 0), (.iconst 1, 0, 0, 1, 0)] (90, [some (.ref 0), none, some (.int l2), some (.int v)], [.int 1, .int l2], σ) [] (by decide +kernel) rfl trivial ?_
    by_cases c2 : ¬ l2 = 1
    · refine sy_bk [(.if_icmp .ne 10, 1, 100, 0, 0)] (100, [some (.ref 0), none, some (.int l2), some (.int v)], [], σ) [sy_cc .ne l2 1] (by decide +kernel) rfl ⟨c2, trivial⟩ ?_
      refine sy_bk [(.aload_n 0, 0, 0, 0, 0), (.getfield 117, 12, 7, 0, 0)] (104, [some (.ref 0), none, some (.int l2), some (.int v)], [.int (σ.1 0 7)], σ) [] (by decide +kernel) rfl trivial ?_
      exact sy_reti rfl (by decide +kernel) (k1 c1 c2)
    · refine sy_bk [(.if_icmp .ne 10, 0, 100, 0, 0)] (93, [some (.ref 0), none, some (.int l2), some (.int v)], [], σ) [¬ sy_cc .ne l2 1] (by decide +kernel) rfl ⟨c2, trivial⟩ ?_
      refine sy_bk [(.aload_n 0, 0, 0, 0, 0)] (94, [some (.ref 0), none, some (.int l2), some (.int v)], [.ref 0], σ) [] (by decide +kernel) rfl trivial ?_
      refine sy_drop [none, none, none, none] trivial ?_
      refine sy_callV mX12_toppled 0 [] [] kX12_toppled jX12_203 (by decide +kernel) rfl rfl (Nat.le_of_ble_eq_true rfl) (Nat.le_of_ble_eq_true rfl) (by decide) rfl ?_
      exact k2 c1 c2
  · refine sy_bk [(.ifCond .ne 7, 0, 88, 0, 0)] (84, [some (.ref 0), none, some (.int l2), some (.int v)], [], σ) [¬ sy_cc .ne l2 0] (by decide +kernel) rfl ⟨c1, trivial⟩ ?_
    refine sy_bk [(.iload_n 3, 0, 0, 0, 0), (.goto 19, 0, 104, 0, 0)] (104, [some (.ref 0), none, some (.int l2), some (.int v)], [.int v], σ) [] (by decide +kernel) rfl trivial ?_
    exact sy_reti rfl (by decide +kernel) (k3 c1)

set_option maxRecDepth 20000 in
theorem w_M_avalanche_70 {Q : Option Value → sy_S → Prop} {σ : sy_S} {v : Int32}   (k1 : Q (some (.int v)) σ) : sy_E shM mX12_avalanche (70, [none, none, none, none], [.int v], σ) Q := by
  exact sy_reti rfl (by decide +kernel) (k1)

set_option maxRecDepth 20000 in
theorem w_M_avalanche_97 {Q : Option Value → sy_S → Prop} {σ : sy_S} {v : Int32}   (k1 : Q (some (.int v)) σ) : sy_E shM mX12_avalanche (97, [none, none, none, none], [.int v], σ) Q := by
  refine sy_bk [(.goto 7, 0, 104, 0, 0)] (104, [none, none, none, none], [.int v], σ) [] (by decide +kernel) rfl trivial ?_
  exact sy_reti rfl (by decide +kernel) (k1)

set_option maxRecDepth 20000 in
theorem w_M_codeOf_0 {Q : Option Value → sy_S → Prop} {σ : sy_S}    (k1 : sy_E shM mX12_codeOf (4, [some (.ref 0), some (.ref 12), some (.int 0), some (.int 0)], [], σ) Q) : sy_E shM mX12_codeOf (0, sy_ent [.ref 0, .ref 12] 4, [], σ) Q := by
  show sy_E shM mX12_codeOf (0, [some (.ref 0), some (.ref 12), none, none], [], σ) _
  refine sy_bk [(.iconst 0, 0, 0, 0, 0), (.istore_n 2, 0, 0, 0, 0), (.iconst 0, 0, 0, 0, 0), (.istore_n 3, 0, 0, 0, 0)] (4, [some (.ref 0), some (.ref 12), some (.int 0), some (.int 0)], [], σ) [] (by decide +kernel) rfl trivial ?_
  exact k1

set_option maxRecDepth 20000 in
theorem w_M_codeOf_4 {Q : Option Value → sy_S → Prop} {σ : sy_S} {l2 : Int32} {l3 : Int32}  (b1 : ¬ (((σ.1 0 0) * (σ.1 0 1)) ≤ l3) → vp_in l3 16) (k1 : ((σ.1 0 0) * (σ.1 0 1)) ≤ l3 → Q (some (.int l2)) σ) (k2 : ¬ (((σ.1 0 0) * (σ.1 0 1)) ≤ l3) → (σ.1 1 l3.toNatClampNeg) = 0 → sy_E shM mX12_codeOf (4, [some (.ref 0), some (.ref 12), some (.int ((4 * l2) + (σ.1 12 l3.toNatClampNeg))), some (.int (l3 + 1))], [], σ) Q) (k3 : ¬ (((σ.1 0 0) * (σ.1 0 1)) ≤ l3) → ¬ ((σ.1 1 l3.toNatClampNeg) = 0) → sy_E shM mX12_codeOf (4, [some (.ref 0), some (.ref 12), some (.int ((4 * l2) + 0)), some (.int (l3 + 1))], [], σ) Q) : sy_E shM mX12_codeOf (4, [some (.ref 0), some (.ref 12), some (.int l2), some (.int l3)], [], σ) Q := by
  refine sy_bk [(.iload_n 3, 0, 0, 0, 0), (.aload_n 0, 0, 0, 0, 0)] (6, [some (.ref 0), some (.ref 12), some (.int l2), some (.int l3)], [.ref 0, .int l3], σ) [] (by decide +kernel) rfl trivial ?_
  refine sy_callV mX12_cells 0 [] [.int l3] kX12_cells jX12_105 (by decide +kernel) rfl rfl (Nat.le_of_ble_eq_true rfl) (Nat.le_of_ble_eq_true rfl) (by decide) rfl ?_
  refine w_m_cells (σ := σ) ?_
  show sy_E shM mX12_codeOf (9, [some (.ref 0), some (.ref 12), some (.int l2), some (.int l3)], [.int ((σ.1 0 0) * (σ.1 0 1)), .int l3], σ) _
  by_cases c1 : ((σ.1 0 0) * (σ.1 0 1)) ≤ l3
  · refine sy_bk [(.if_icmp .ge 30, 1, 39, 0, 0)] (39, [some (.ref 0), some (.ref 12), some (.int l2), some (.int l3)], [], σ) [sy_cc .ge l3 ((σ.1 0 0) * (σ.1 0 1))] (by decide +kernel) rfl ⟨c1, trivial⟩ ?_
    refine sy_bk [(.iload_n 2, 0, 0, 0, 0)] (40, [some (.ref 0), some (.ref 12), some (.int l2), some (.int l3)], [.int l2], σ) [] (by decide +kernel) rfl trivial ?_
    exact sy_reti rfl (by decide +kernel) (k1 c1)
  · refine sy_bk [(.if_icmp .ge 30, 0, 39, 0, 0)] (12, [some (.ref 0), some (.ref 12), some (.int l2), some (.int l3)], [], σ) [¬ sy_cc .ge l3 ((σ.1 0 0) * (σ.1 0 1))] (by decide +kernel) rfl ⟨c1, trivial⟩ ?_
    refine sy_bk [(.iconst 4, 0, 0, 4, 0), (.iload_n 2, 0, 0, 0, 0), (.imul, 0, 0, 0, 0), (.aload_n 0, 0, 0, 0, 0), (.getfield 18, 12, 2, 0, 0), (.iload_n 3, 0, 0, 0, 0), (.baload, 0, 0, 0, 0)] (21, [some (.ref 0), some (.ref 12), some (.int l2), some (.int l3)], [.int (σ.1 1 l3.toNatClampNeg), .int (4 * l2)], σ) [sy_okA shM 1 1 l3] (by decide +kernel) rfl ⟨⟨16, _, rfl, (b1 c1)⟩, trivial⟩ ?_
    by_cases c2 : (σ.1 1 l3.toNatClampNeg) = 0
    · refine sy_bk [(.ifCond .eq 7, 1, 28, 0, 0)] (28, [some (.ref 0), some (.ref 12), some (.int l2), some (.int l3)], [.int (4 * l2)], σ) [sy_cc .eq (σ.1 1 l3.toNatClampNeg) 0] (by decide +kernel) rfl ⟨c2, trivial⟩ ?_
      refine sy_bk [(.aload_n 1, 0, 0, 0, 0), (.iload_n 3, 0, 0, 0, 0), (.iaload, 0, 0, 0, 0), (.iadd, 0, 0, 0, 0), (.istore_n 2, 0, 0, 0, 0), (.iinc 3 1, 0, 0, 1, 0), (.goto (-32), 0, 4, 0, 0)] (4, [some (.ref 0), some (.ref 12), some (.int ((4 * l2) + (σ.1 12 l3.toNatClampNeg))), some (.int (l3 + 1))], [], σ) [sy_okA shM 0 12 l3] (by decide +kernel) rfl ⟨⟨16, _, rfl, (b1 c1)⟩, trivial⟩ ?_
      exact k2 c1 c2
    · refine sy_bk [(.ifCond .eq 7, 0, 28, 0, 0)] (24, [some (.ref 0), some (.ref 12), some (.int l2), some (.int l3)], [.int (4 * l2)], σ) [¬ sy_cc .eq (σ.1 1 l3.toNatClampNeg) 0] (by decide +kernel) rfl ⟨c2, trivial⟩ ?_
      refine sy_bk [(.iconst 0, 0, 0, 0, 0), (.goto 6, 0, 31, 0, 0), (.iadd, 0, 0, 0, 0), (.istore_n 2, 0, 0, 0, 0), (.iinc 3 1, 0, 0, 1, 0), (.goto (-32), 0, 4, 0, 0)] (4, [some (.ref 0), some (.ref 12), some (.int ((4 * l2) + 0)), some (.int (l3 + 1))], [], σ) [] (by decide +kernel) rfl trivial ?_
      exact k3 c1 c2

set_option maxRecDepth 20000 in
theorem w_M_ahead_0 {Q : Option Value → sy_S → Prop} {σ : sy_S} {n : Int32}   (k1 : sy_E shM mX12_ahead (2, [some (.ref 0), some (.int n), some (.int 0)], [], σ) Q) : sy_E shM mX12_ahead (0, sy_ent [.ref 0, .int n] 3, [], σ) Q := by
  show sy_E shM mX12_ahead (0, [some (.ref 0), some (.int n), none], [], σ) _
  refine sy_bk [(.iconst 0, 0, 0, 0, 0), (.istore_n 2, 0, 0, 0, 0)] (2, [some (.ref 0), some (.int n), some (.int 0)], [], σ) [] (by decide +kernel) rfl trivial ?_
  exact k1

set_option maxRecDepth 20000 in
theorem w_M_ahead_2 {Q : Option Value → sy_S → Prop} {σ : sy_S} {l1 : Int32} {l2 : Int32}  (b1 : ¬ (l1 ≤ l2) → vp_in l2 2001) (b2 : ¬ (l1 ≤ l2) → vp_in l1 2001) (k1 : l1 ≤ l2 → Q (some (.int (-1))) σ) (k2 : ¬ (l1 ≤ l2) → ¬ (σ.1 22 l2.toNatClampNeg) = (σ.1 22 l1.toNatClampNeg) → sy_E shM mX12_ahead (2, [some (.ref 0), some (.int l1), some (.int (l2 + 1))], [], σ) Q) (k3 : ¬ (l1 ≤ l2) → ¬ (¬ (σ.1 22 l2.toNatClampNeg) = (σ.1 22 l1.toNatClampNeg)) → Q (some (.int l2)) σ) : sy_E shM mX12_ahead (2, [some (.ref 0), some (.int l1), some (.int l2)], [], σ) Q := by
  refine sy_bk [(.iload_n 2, 0, 0, 0, 0), (.iload_n 1, 0, 0, 0, 0)] (4, [some (.ref 0), some (.int l1), some (.int l2)], [.int l1, .int l2], σ) [] (by decide +kernel) rfl trivial ?_
  by_cases c1 : l1 ≤ l2
  · refine sy_bk [(.if_icmp .ge 26, 1, 30, 0, 0)] (30, [some (.ref 0), some (.int l1), some (.int l2)], [], σ) [sy_cc .ge l2 l1] (by decide +kernel) rfl ⟨c1, trivial⟩ ?_
    refine sy_bk [(.iconst (-1), 0, 0, (-1), 0)] (31, [some (.ref 0), some (.int l1), some (.int l2)], [.int (-1)], σ) [] (by decide +kernel) rfl trivial ?_
    exact sy_reti rfl (by decide +kernel) (k1 c1)
  · refine sy_bk [(.if_icmp .ge 26, 0, 30, 0, 0)] (7, [some (.ref 0), some (.int l1), some (.int l2)], [], σ) [¬ sy_cc .ge l2 l1] (by decide +kernel) rfl ⟨c1, trivial⟩ ?_
    refine sy_bk [(.aload_n 0, 0, 0, 0, 0), (.getfield 84, 12, 33, 0, 0), (.iload_n 2, 0, 0, 0, 0), (.iaload, 0, 0, 0, 0), (.aload_n 0, 0, 0, 0, 0), (.getfield 84, 12, 33, 0, 0), (.iload_n 1, 0, 0, 0, 0), (.iaload, 0, 0, 0, 0)] (19, [some (.ref 0), some (.int l1), some (.int l2)], [.int (σ.1 22 l1.toNatClampNeg), .int (σ.1 22 l2.toNatClampNeg)], σ) [sy_okA shM 0 22 l2, sy_okA shM 0 22 l1] (by decide +kernel) rfl ⟨⟨2001, _, rfl, (b1 c1)⟩, ⟨2001, _, rfl, (b2 c1)⟩, trivial⟩ ?_
    by_cases c2 : ¬ (σ.1 22 l2.toNatClampNeg) = (σ.1 22 l1.toNatClampNeg)
    · refine sy_bk [(.if_icmp .ne 5, 1, 24, 0, 0)] (24, [some (.ref 0), some (.int l1), some (.int l2)], [], σ) [sy_cc .ne (σ.1 22 l2.toNatClampNeg) (σ.1 22 l1.toNatClampNeg)] (by decide +kernel) rfl ⟨c2, trivial⟩ ?_
      refine sy_bk [(.iinc 2 1, 0, 0, 1, 0), (.goto (-25), 0, 2, 0, 0)] (2, [some (.ref 0), some (.int l1), some (.int (l2 + 1))], [], σ) [] (by decide +kernel) rfl trivial ?_
      exact k2 c1 c2
    · refine sy_bk [(.if_icmp .ne 5, 0, 24, 0, 0)] (22, [some (.ref 0), some (.int l1), some (.int l2)], [], σ) [¬ sy_cc .ne (σ.1 22 l2.toNatClampNeg) (σ.1 22 l1.toNatClampNeg)] (by decide +kernel) rfl ⟨c2, trivial⟩ ?_
      refine sy_bk [(.iload_n 2, 0, 0, 0, 0)] (23, [some (.ref 0), some (.int l1), some (.int l2)], [.int l2], σ) [] (by decide +kernel) rfl trivial ?_
      exact sy_reti rfl (by decide +kernel) (k3 c1 c2)

set_option maxRecDepth 20000 in
theorem w_M_again_0 {Q : Option Value → sy_S → Prop} {σ : sy_S} {cell : Int32} {w : Int32} {G : sg_G}  (b1 : gm G σ.1) (k1 : ∀ (m_1 : Nat), px (sg_p G) cell = some m_1 → (0 ≤ w.toInt64 ∧ w.toInt64 ≤ 1) → sy_E shM mX12_copies (0, sy_ent [.ref 2, .ref 12] 3, [], σ) (fun r9 σ9 => sy_E shM mX12_again (31, [some (.ref 0), some (.int cell), some (.int w), none, none, none], r9.toList ++ [], σ9) Q)) (k2 : ∀ (m_1 : Nat), px (sg_p G) cell = some m_1 → (¬ (0 ≤ w.toInt64 ∧ w.toInt64 ≤ 1)) → Q (some (.int (-1))) σ) (k3 : px (sg_p G) cell = none → Q (some (.int (-1))) σ) : sy_E shM mX12_again (0, sy_ent [.ref 0, .int cell, .int w] 6, [], σ) Q := by
  show sy_E shM mX12_again (0, [some (.ref 0), some (.int cell), some (.int w), none, none, none], [], σ) _
  refine sy_bk [(.aload_n 0, 0, 0, 0, 0), (.iload_n 1, 0, 0, 0, 0)] (2, [some (.ref 0), some (.int cell), some (.int w), none, none, none], [.int cell, .ref 0], σ) [] (by decide +kernel) rfl trivial ?_
  refine sy_callV mX12_isPlace 0 [.int cell] [] kX12_isPlace jX12_152 (by decide +kernel) rfl rfl (Nat.le_of_ble_eq_true rfl) (Nat.le_of_ble_eq_true rfl) (by decide) rfl ?_
  refine e_m_isPl (σ := σ) (cell := cell) b1 ?_ ?_
  · intro m_1 c2
    show sy_E shM mX12_again (5, [some (.ref 0), some (.int cell), some (.int w), none, none, none], [.int 1], σ) _
    refine sy_bk [(.ifCond .eq 13, 0, 18, 0, 0), (.iload_n 2, 0, 0, 0, 0), (.i2l, 0, 0, 0, 0), (.lconst 0, 0, 0, 0, 0), (.lconst 1, 0, 0, 0, 1)] (12, [some (.ref 0), some (.int cell), some (.int w), none, none, none], [.long 1, .long 0, .long w.toInt64], σ) [¬ sy_cc .eq 1 0] (by decide +kernel) rfl ⟨(by decide : ¬ ((1 : Int32) = 0)), trivial⟩ ?_
    refine sy_callS mX12_in [.long w.toInt64, .long 0, .long 1] [] kX12_in jX12_109 (by decide +kernel) rfl rfl (Nat.le_of_ble_eq_true rfl) (Nat.le_of_ble_eq_true rfl) (by decide) ?_
    refine e_m_in (σ := σ) (v := w.toInt64) (lo := 0) (hi := 1) ?_ ?_
    · intro c3
      show sy_E shM mX12_again (15, [some (.ref 0), some (.int cell), some (.int w), none, none, none], [.int 1], σ) _
      refine sy_bk [(.ifCond .ne 5, 1, 20, 0, 0), (.aload_n 0, 0, 0, 0, 0), (.getfield 22, 12, 3, 0, 0), (.aload_n 0, 0, 0, 0, 0), (.getfield 53, 12, 22, 0, 0)] (28, [some (.ref 0), some (.int cell), some (.int w), none, none, none], [.ref 12, .ref 2], σ) [sy_cc .ne 1 0] (by decide +kernel) rfl ⟨(by decide : (¬ (1 : Int32) = 0)), trivial⟩ ?_
      refine sy_callS mX12_copies [.ref 2, .ref 12] [] kX12_copies jX12_209 (by decide +kernel) rfl rfl (Nat.le_of_ble_eq_true rfl) (Nat.le_of_ble_eq_true rfl) (by decide) ?_
      exact k1 m_1 c2 c3
    · intro c4
      show sy_E shM mX12_again (15, [some (.ref 0), some (.int cell), some (.int w), none, none, none], [.int 0], σ) _
      refine sy_bk [(.ifCond .ne 5, 0, 20, 0, 0), (.iconst (-1), 0, 0, (-1), 0)] (19, [some (.ref 0), some (.int cell), some (.int w), none, none, none], [.int (-1)], σ) [¬ sy_cc .ne 0 0] (by decide +kernel) rfl ⟨(by decide : ¬ (¬ (0 : Int32) = 0)), trivial⟩ ?_
      exact sy_reti rfl (by decide +kernel) (k2 m_1 c2 c4)
  · intro c5
    show sy_E shM mX12_again (5, [some (.ref 0), some (.int cell), some (.int w), none, none, none], [.int 0], σ) _
    refine sy_bk [(.ifCond .eq 13, 1, 18, 0, 0), (.iconst (-1), 0, 0, (-1), 0)] (19, [some (.ref 0), some (.int cell), some (.int w), none, none, none], [.int (-1)], σ) [sy_cc .eq 0 0] (by decide +kernel) rfl ⟨(by decide : ((0 : Int32) = 0)), trivial⟩ ?_
    exact sy_reti rfl (by decide +kernel) (k3 c5)

set_option maxRecDepth 20000 in
theorem w_M_again_31 {Q : Option Value → sy_S → Prop} {σ : sy_S} {l1 : Int32} {l2 : Int32}   (k1 : sy_E shM mX12_settles (0, sy_ent [.ref 0, .ref 12] 3, [], σ) (fun r9 σ9 => sy_E shM mX12_again (39, [some (.ref 0), some (.int l1), some (.int l2), none, none, none], r9.toList ++ [], σ9) Q)) : sy_E shM mX12_again (31, [some (.ref 0), some (.int l1), some (.int l2), none, none, none], [], σ) Q := by
  refine sy_bk [(.aload_n 0, 0, 0, 0, 0), (.aload_n 0, 0, 0, 0, 0), (.getfield 53, 12, 22, 0, 0)] (36, [some (.ref 0), some (.int l1), some (.int l2), none, none, none], [.ref 12, .ref 0], σ) [] (by decide +kernel) rfl trivial ?_
  refine sy_callV mX12_settles 0 [.ref 12] [] kX12_settles jX12_163 (by decide +kernel) rfl rfl (Nat.le_of_ble_eq_true rfl) (Nat.le_of_ble_eq_true rfl) (by decide) rfl ?_
  exact k1

set_option maxRecDepth 20000 in
theorem w_M_again_39 {Q : Option Value → sy_S → Prop} {σ : sy_S} {l1 : Int32} {l2 : Int32} {v : Int32}   (k1 : sy_E shM mX12_codeOf (0, sy_ent [.ref 0, .ref 12] 4, [], σ) (fun r9 σ9 => sy_E shM mX12_again (53, [some (.ref 0), some (.int l1), some (.int l2), none, none, none], r9.toList ++ [.int 0, .ref 22], σ9) Q)) : sy_E shM mX12_again (39, [some (.ref 0), some (.int l1), some (.int l2), none, none, none], [.int v], σ) Q := by
  refine sy_bk [(.istore_n 3, 0, 0, 0, 0), (.aload_n 0, 0, 0, 0, 0), (.getfield 84, 12, 33, 0, 0), (.iconst 0, 0, 0, 0, 0), (.aload_n 0, 0, 0, 0, 0), (.aload_n 0, 0, 0, 0, 0), (.getfield 53, 12, 22, 0, 0)] (50, [some (.ref 0), some (.int l1), some (.int l2), some (.int v), none, none], [.ref 12, .ref 0, .int 0, .ref 22], σ) [] (by decide +kernel) rfl trivial ?_
  refine sy_drop [some (.ref 0), some (.int l1), some (.int l2), none, none, none] ⟨rfl, rfl, rfl, trivial⟩ ?_
  refine sy_callV mX12_codeOf 0 [.ref 12] [.int 0, .ref 22] kX12_codeOf jX12_295 (by decide +kernel) rfl rfl (Nat.le_of_ble_eq_true rfl) (Nat.le_of_ble_eq_true rfl) (by decide) rfl ?_
  exact k1

set_option maxRecDepth 20000 in
theorem w_M_again_53 {Q : Option Value → sy_S → Prop} {σ : sy_S} {l1 : Int32} {l2 : Int32} {s0 : Int32} {v : Int32}  (b1 : vp_in s0 2001) (k1 : sy_E shM mX12_again (57, [some (.ref 0), some (.int l1), some (.int l2), none, some (.int 1), none], [], (sy_up σ.1 22 s0.toNatClampNeg v, σ.2)) Q) : sy_E shM mX12_again (53, [some (.ref 0), some (.int l1), some (.int l2), none, none, none], [.int v, .int s0, .ref 22], σ) Q := by
  refine sy_bk [(.iastore, 0, 0, 0, 0), (.iconst 1, 0, 0, 1, 0), (.istore 4, 0, 0, 0, 0)] (57, [some (.ref 0), some (.int l1), some (.int l2), none, some (.int 1), none], [], (sy_up σ.1 22 s0.toNatClampNeg v, σ.2)) [sy_okA shM 0 22 s0] (by decide +kernel) rfl ⟨⟨2001, _, rfl, b1⟩, trivial⟩ ?_
  exact k1

set_option maxRecDepth 20000 in
theorem w_M_again_57 {Q : Option Value → sy_S → Prop} {σ : sy_S} {l1 : Int32} {l2 : Int32} {l4 : Int32}  (b1 : ¬ (2000 < l4) → vp_in l1 16) (k1 : 2000 < l4 → Q (some (.int (-5))) σ) (k2 : ¬ (2000 < l4) → sy_E shM mX12_settles (0, sy_ent [.ref 0, .ref 12] 3, [], (sy_up σ.1 12 l1.toNatClampNeg ((σ.1 12 l1.toNatClampNeg) + 1), σ.2)) (fun r9 σ9 => sy_E shM mX12_again (83, [some (.ref 0), some (.int l1), some (.int l2), none, some (.int l4), none], r9.toList ++ [], σ9) Q)) : sy_E shM mX12_again (57, [some (.ref 0), some (.int l1), some (.int l2), none, some (.int l4), none], [], σ) Q := by
  refine sy_bk [(.iload 4, 0, 0, 0, 0), (.sipush 2000, 0, 0, 2000, 0)] (62, [some (.ref 0), some (.int l1), some (.int l2), none, some (.int l4), none], [.int 2000, .int l4], σ) [] (by decide +kernel) rfl trivial ?_
  by_cases c1 : 2000 < l4
  · refine sy_bk [(.if_icmp .gt 71, 1, 133, 0, 0)] (133, [some (.ref 0), some (.int l1), some (.int l2), none, some (.int l4), none], [], σ) [sy_cc .gt l4 2000] (by decide +kernel) rfl ⟨c1, trivial⟩ ?_
    refine sy_bk [(.bipush (-5), 0, 0, (-5), 0)] (135, [some (.ref 0), some (.int l1), some (.int l2), none, some (.int l4), none], [.int (-5)], σ) [] (by decide +kernel) rfl trivial ?_
    exact sy_reti rfl (by decide +kernel) (k1 c1)
  · refine sy_bk [(.if_icmp .gt 71, 0, 133, 0, 0)] (65, [some (.ref 0), some (.int l1), some (.int l2), none, some (.int l4), none], [], σ) [¬ sy_cc .gt l4 2000] (by decide +kernel) rfl ⟨c1, trivial⟩ ?_
    refine sy_bk [(.aload_n 0, 0, 0, 0, 0), (.getfield 53, 12, 22, 0, 0), (.iload_n 1, 0, 0, 0, 0), (.dup2, 0, 0, 0, 0), (.iaload, 0, 0, 0, 0), (.iconst 1, 0, 0, 1, 0), (.iadd, 0, 0, 0, 0), (.iastore, 0, 0, 0, 0), (.aload_n 0, 0, 0, 0, 0), (.aload_n 0, 0, 0, 0, 0), (.getfield 53, 12, 22, 0, 0)] (80, [some (.ref 0), some (.int l1), some (.int l2), none, some (.int l4), none], [.ref 12, .ref 0], (sy_up σ.1 12 l1.toNatClampNeg ((σ.1 12 l1.toNatClampNeg) + 1), σ.2)) [sy_okA shM 0 12 l1, sy_okA shM 0 12 l1] (by decide +kernel) rfl ⟨⟨16, _, rfl, (b1 c1)⟩, ⟨16, _, rfl, (b1 c1)⟩, trivial⟩ ?_
    refine sy_callV mX12_settles 0 [.ref 12] [] kX12_settles jX12_163 (by decide +kernel) rfl rfl (Nat.le_of_ble_eq_true rfl) (Nat.le_of_ble_eq_true rfl) (by decide) rfl ?_
    exact k2 c1

set_option maxRecDepth 20000 in
theorem w_M_again_83 {Q : Option Value → sy_S → Prop} {σ : sy_S} {l1 : Int32} {l2 : Int32} {l4 : Int32} {v : Int32}   (k1 : sy_E shM mX12_codeOf (0, sy_ent [.ref 0, .ref 12] 4, [], σ) (fun r9 σ9 => sy_E shM mX12_again (98, [some (.ref 0), some (.int l1), some (.int l2), none, some (.int l4), none], r9.toList ++ [.int l4, .ref 22], σ9) Q)) : sy_E shM mX12_again (83, [some (.ref 0), some (.int l1), some (.int l2), none, some (.int l4), none], [.int v], σ) Q := by
  refine sy_bk [(.istore_n 3, 0, 0, 0, 0), (.aload_n 0, 0, 0, 0, 0), (.getfield 84, 12, 33, 0, 0), (.iload 4, 0, 0, 0, 0), (.aload_n 0, 0, 0, 0, 0), (.aload_n 0, 0, 0, 0, 0), (.getfield 53, 12, 22, 0, 0)] (95, [some (.ref 0), some (.int l1), some (.int l2), some (.int v), some (.int l4), none], [.ref 12, .ref 0, .int l4, .ref 22], σ) [] (by decide +kernel) rfl trivial ?_
  refine sy_drop [some (.ref 0), some (.int l1), some (.int l2), none, some (.int l4), none] ⟨rfl, rfl, rfl, rfl, trivial⟩ ?_
  refine sy_callV mX12_codeOf 0 [.ref 12] [.int l4, .ref 22] kX12_codeOf jX12_295 (by decide +kernel) rfl rfl (Nat.le_of_ble_eq_true rfl) (Nat.le_of_ble_eq_true rfl) (by decide) rfl ?_
  exact k1

set_option maxRecDepth 20000 in
theorem w_M_again_98 {Q : Option Value → sy_S → Prop} {σ : sy_S} {l1 : Int32} {l2 : Int32} {l4 : Int32} {s0 : Int32} {v : Int32}  (b1 : vp_in s0 2001) (k1 : sy_E shM mX12_ahead (0, sy_ent [.ref 0, .int l4] 3, [], (sy_up σ.1 22 s0.toNatClampNeg v, σ.2)) (fun r9 σ9 => sy_E shM mX12_again (105, [some (.ref 0), some (.int l1), some (.int l2), none, some (.int l4), none], r9.toList ++ [], σ9) Q)) : sy_E shM mX12_again (98, [some (.ref 0), some (.int l1), some (.int l2), none, some (.int l4), none], [.int v, .int s0, .ref 22], σ) Q := by
  refine sy_bk [(.iastore, 0, 0, 0, 0), (.aload_n 0, 0, 0, 0, 0), (.iload 4, 0, 0, 0, 0)] (102, [some (.ref 0), some (.int l1), some (.int l2), none, some (.int l4), none], [.int l4, .ref 0], (sy_up σ.1 22 s0.toNatClampNeg v, σ.2)) [sy_okA shM 0 22 s0] (by decide +kernel) rfl ⟨⟨2001, _, rfl, b1⟩, trivial⟩ ?_
  refine sy_callV mX12_ahead 0 [.int l4] [] kX12_ahead jX12_298 (by decide +kernel) rfl rfl (Nat.le_of_ble_eq_true rfl) (Nat.le_of_ble_eq_true rfl) (by decide) rfl ?_
  exact k1

set_option maxRecDepth 20000 in
theorem w_M_again_105 {Q : Option Value → sy_S → Prop} {σ : sy_S} {l1 : Int32} {l2 : Int32} {l4 : Int32} {v : Int32}   (k1 : v < 0 → sy_E shM mX12_again (57, [some (.ref 0), some (.int l1), some (.int l2), none, some (.int (l4 + 1)), none], [], σ) Q) (k2 : ¬ (v < 0) → ¬ l2 = 0 → Q (some (.int v)) σ) (k3 : ¬ (v < 0) → ¬ (¬ l2 = 0) → Q (some (.int (l4 - v))) σ) : sy_E shM mX12_again (105, [some (.ref 0), some (.int l1), some (.int l2), none, some (.int l4), none], [.int v], σ) Q := by
  refine sy_bk [(.istore 5, 0, 0, 0, 0), (.iload 5, 0, 0, 0, 0)] (109, [some (.ref 0), some (.int l1), some (.int l2), none, some (.int l4), some (.int v)], [.int v], σ) [] (by decide +kernel) rfl trivial ?_
  by_cases c1 : v < 0
  · refine sy_bk [(.ifCond .lt 18, 1, 127, 0, 0)] (127, [some (.ref 0), some (.int l1), some (.int l2), none, some (.int l4), some (.int v)], [], σ) [sy_cc .lt v 0] (by decide +kernel) rfl ⟨c1, trivial⟩ ?_
    refine sy_bk [(.iinc 4 1, 0, 0, 1, 0), (.goto (-73), 0, 57, 0, 0)] (57, [some (.ref 0), some (.int l1), some (.int l2), none, some (.int (l4 + 1)), some (.int v)], [], σ) [] (by decide +kernel) rfl trivial ?_
    refine sy_drop [some (.ref 0), some (.int l1), some (.int l2), none, some (.int (l4 + 1)), none] ⟨rfl, rfl, rfl, rfl, trivial⟩ ?_
    exact k1 c1
  · refine sy_bk [(.ifCond .lt 18, 0, 127, 0, 0)] (112, [some (.ref 0), some (.int l1), some (.int l2), none, some (.int l4), some (.int v)], [], σ) [¬ sy_cc .lt v 0] (by decide +kernel) rfl ⟨c1, trivial⟩ ?_
    refine sy_bk [(.iload_n 2, 0, 0, 0, 0)] (113, [some (.ref 0), some (.int l1), some (.int l2), none, some (.int l4), some (.int v)], [.int l2], σ) [] (by decide +kernel) rfl trivial ?_
    by_cases c2 : ¬ l2 = 0
    · refine sy_bk [(.ifCond .ne 11, 1, 124, 0, 0)] (124, [some (.ref 0), some (.int l1), some (.int l2), none, some (.int l4), some (.int v)], [], σ) [sy_cc .ne l2 0] (by decide +kernel) rfl ⟨c2, trivial⟩ ?_
      refine sy_bk [(.iload 5, 0, 0, 0, 0)] (126, [some (.ref 0), some (.int l1), some (.int l2), none, some (.int l4), some (.int v)], [.int v], σ) [] (by decide +kernel) rfl trivial ?_
      exact sy_reti rfl (by decide +kernel) (k2 c1 c2)
    · refine sy_bk [(.ifCond .ne 11, 0, 124, 0, 0)] (116, [some (.ref 0), some (.int l1), some (.int l2), none, some (.int l4), some (.int v)], [], σ) [¬ sy_cc .ne l2 0] (by decide +kernel) rfl ⟨c2, trivial⟩ ?_
      refine sy_bk [(.iload 4, 0, 0, 0, 0), (.iload 5, 0, 0, 0, 0), (.isub, 0, 0, 0, 0), (.goto 5, 0, 126, 0, 0)] (126, [some (.ref 0), some (.int l1), some (.int l2), none, some (.int l4), some (.int v)], [.int (l4 - v)], σ) [] (by decide +kernel) rfl trivial ?_
      exact sy_reti rfl (by decide +kernel) (k3 c1 c2)

set_option maxRecDepth 20000 in
theorem w_M_countsSize_0 {Q : Option Value → sy_S → Prop} {σ : sy_S} {s : Int32}   (k1 : sy_E shM mX12_countsSize (2, [some (.ref 0), some (.int s), some (.int 0)], [], σ) Q) : sy_E shM mX12_countsSize (0, sy_ent [.ref 0, .int s] 3, [], σ) Q := by
  show sy_E shM mX12_countsSize (0, [some (.ref 0), some (.int s), none], [], σ) _
  refine sy_bk [(.iconst 0, 0, 0, 0, 0), (.istore_n 2, 0, 0, 0, 0)] (2, [some (.ref 0), some (.int s), some (.int 0)], [], σ) [] (by decide +kernel) rfl trivial ?_
  exact k1

set_option maxRecDepth 20000 in
theorem w_M_countsSize_2 {Q : Option Value → sy_S → Prop} {σ : sy_S} {l1 : Int32} {l2 : Int32}  (b1 : (σ.1 0 36) ≤ l2 → ¬ l2 = (σ.1 0 36) → vp_in l2 200) (b2 : (σ.1 0 36) ≤ l2 → ¬ (¬ l2 = (σ.1 0 36)) → vp_in l2 200) (b3 : ¬ ((σ.1 0 36) ≤ l2) → vp_in l2 200) (k1 : (σ.1 0 36) ≤ l2 → ¬ l2 = (σ.1 0 36) → Q none (sy_up σ.1 24 l2.toNatClampNeg ((σ.1 24 l2.toNatClampNeg) + 1), σ.2)) (k2 : (σ.1 0 36) ≤ l2 → ¬ (¬ l2 = (σ.1 0 36)) → Q none (sy_up (sy_up (sy_up (sy_up σ.1 23 l2.toNatClampNeg l1) 24 l2.toNatClampNeg 0) 0 36 ((σ.1 0 36) + 1)) 24 l2.toNatClampNeg (((sy_up (sy_up σ.1 23 l2.toNatClampNeg l1) 24 l2.toNatClampNeg 0) 24 l2.toNatClampNeg) + 1), σ.2)) (k3 : ¬ ((σ.1 0 36) ≤ l2) → (σ.1 23 l2.toNatClampNeg) = l1 → ¬ l2 = (σ.1 0 36) → Q none (sy_up σ.1 24 l2.toNatClampNeg ((σ.1 24 l2.toNatClampNeg) + 1), σ.2)) (k4 : ¬ ((σ.1 0 36) ≤ l2) → (σ.1 23 l2.toNatClampNeg) = l1 → ¬ (¬ l2 = (σ.1 0 36)) → Q none (sy_up (sy_up (sy_up (sy_up σ.1 23 l2.toNatClampNeg l1) 24 l2.toNatClampNeg 0) 0 36 ((σ.1 0 36) + 1)) 24 l2.toNatClampNeg (((sy_up (sy_up σ.1 23 l2.toNatClampNeg l1) 24 l2.toNatClampNeg 0) 24 l2.toNatClampNeg) + 1), σ.2)) (k5 : ¬ ((σ.1 0 36) ≤ l2) → ¬ ((σ.1 23 l2.toNatClampNeg) = l1) → sy_E shM mX12_countsSize (2, [some (.ref 0), some (.int l1), some (.int (l2 + 1))], [], σ) Q) : sy_E shM mX12_countsSize (2, [some (.ref 0), some (.int l1), some (.int l2)], [], σ) Q := by
  refine sy_bk [(.iload_n 2, 0, 0, 0, 0), (.aload_n 0, 0, 0, 0, 0), (.getfield 301, 12, 36, 0, 0)] (7, [some (.ref 0), some (.int l1), some (.int l2)], [.int (σ.1 0 36), .int l2], σ) [] (by decide +kernel) rfl trivial ?_
  by_cases c1 : (σ.1 0 36) ≤ l2
  · refine sy_bk [(.if_icmp .ge 19, 1, 26, 0, 0)] (26, [some (.ref 0), some (.int l1), some (.int l2)], [], σ) [sy_cc .ge l2 (σ.1 0 36)] (by decide +kernel) rfl ⟨c1, trivial⟩ ?_
    refine sy_bk [(.iload_n 2, 0, 0, 0, 0), (.aload_n 0, 0, 0, 0, 0), (.getfield 301, 12, 36, 0, 0)] (31, [some (.ref 0), some (.int l1), some (.int l2)], [.int (σ.1 0 36), .int l2], σ) [] (by decide +kernel) rfl trivial ?_
    by_cases c2 : ¬ l2 = (σ.1 0 36)
    · refine sy_bk [(.if_icmp .ne 27, 1, 58, 0, 0)] (58, [some (.ref 0), some (.int l1), some (.int l2)], [], σ) [sy_cc .ne l2 (σ.1 0 36)] (by decide +kernel) rfl ⟨c2, trivial⟩ ?_
      refine sy_bk [(.aload_n 0, 0, 0, 0, 0), (.getfield 90, 12, 35, 0, 0), (.iload_n 2, 0, 0, 0, 0), (.dup2, 0, 0, 0, 0), (.iaload, 0, 0, 0, 0), (.iconst 1, 0, 0, 1, 0), (.iadd, 0, 0, 0, 0), (.iastore, 0, 0, 0, 0)] (68, [some (.ref 0), some (.int l1), some (.int l2)], [], (sy_up σ.1 24 l2.toNatClampNeg ((σ.1 24 l2.toNatClampNeg) + 1), σ.2)) [sy_okA shM 0 24 l2, sy_okA shM 0 24 l2] (by decide +kernel) rfl ⟨⟨200, _, rfl, (b1 c1 c2)⟩, ⟨200, _, rfl, (b1 c1 c2)⟩, trivial⟩ ?_
      exact sy_retv rfl (by decide +kernel) (k1 c1 c2)
    · refine sy_bk [(.if_icmp .ne 27, 0, 58, 0, 0)] (34, [some (.ref 0), some (.int l1), some (.int l2)], [], σ) [¬ sy_cc .ne l2 (σ.1 0 36)] (by decide +kernel) rfl ⟨c2, trivial⟩ ?_
      refine sy_bk [(.aload_n 0, 0, 0, 0, 0), (.getfield 87, 12, 34, 0, 0), (.iload_n 2, 0, 0, 0, 0), (.iload_n 1, 0, 0, 0, 0), (.iastore, 0, 0, 0, 0), (.aload_n 0, 0, 0, 0, 0), (.getfield 90, 12, 35, 0, 0), (.iload_n 2, 0, 0, 0, 0), (.iconst 0, 0, 0, 0, 0), (.iastore, 0, 0, 0, 0), (.aload_n 0, 0, 0, 0, 0), (.dup, 0, 0, 0, 0), (.getfield 301, 12, 36, 0, 0), (.iconst 1, 0, 0, 1, 0), (.iadd, 0, 0, 0, 0), (.putfield 301, 12, 36, 0, 0), (.aload_n 0, 0, 0, 0, 0), (.getfield 90, 12, 35, 0, 0), (.iload_n 2, 0, 0, 0, 0), (.dup2, 0, 0, 0, 0), (.iaload, 0, 0, 0, 0), (.iconst 1, 0, 0, 1, 0), (.iadd, 0, 0, 0, 0), (.iastore, 0, 0, 0, 0)] (68, [some (.ref 0), some (.int l1), some (.int l2)], [], (sy_up (sy_up (sy_up (sy_up σ.1 23 l2.toNatClampNeg l1) 24 l2.toNatClampNeg 0) 0 36 ((σ.1 0 36) + 1)) 24 l2.toNatClampNeg (((sy_up (sy_up σ.1 23 l2.toNatClampNeg l1) 24 l2.toNatClampNeg 0) 24 l2.toNatClampNeg) + 1), σ.2)) [sy_okA shM 0 23 l2, sy_okA shM 0 24 l2, sy_okA shM 0 24 l2, sy_okA shM 0 24 l2] (by decide +kernel) rfl ⟨⟨200, _, rfl, (b2 c1 c2)⟩, ⟨200, _, rfl, (b2 c1 c2)⟩, ⟨200, _, rfl, (b2 c1 c2)⟩, ⟨200, _, rfl, (b2 c1 c2)⟩, trivial⟩ ?_
      exact sy_retv rfl (by decide +kernel) (k2 c1 c2)
  · refine sy_bk [(.if_icmp .ge 19, 0, 26, 0, 0)] (10, [some (.ref 0), some (.int l1), some (.int l2)], [], σ) [¬ sy_cc .ge l2 (σ.1 0 36)] (by decide +kernel) rfl ⟨c1, trivial⟩ ?_
    refine sy_bk [(.aload_n 0, 0, 0, 0, 0), (.getfield 87, 12, 34, 0, 0), (.iload_n 2, 0, 0, 0, 0), (.iaload, 0, 0, 0, 0), (.iload_n 1, 0, 0, 0, 0)] (17, [some (.ref 0), some (.int l1), some (.int l2)], [.int l1, .int (σ.1 23 l2.toNatClampNeg)], σ) [sy_okA shM 0 23 l2] (by decide +kernel) rfl ⟨⟨200, _, rfl, (b3 c1)⟩, trivial⟩ ?_
    by_cases c3 : (σ.1 23 l2.toNatClampNeg) = l1
    · refine sy_bk [(.if_icmp .eq 9, 1, 26, 0, 0)] (26, [some (.ref 0), some (.int l1), some (.int l2)], [], σ) [sy_cc .eq (σ.1 23 l2.toNatClampNeg) l1] (by decide +kernel) rfl ⟨c3, trivial⟩ ?_
      refine sy_bk [(.iload_n 2, 0, 0, 0, 0), (.aload_n 0, 0, 0, 0, 0), (.getfield 301, 12, 36, 0, 0)] (31, [some (.ref 0), some (.int l1), some (.int l2)], [.int (σ.1 0 36), .int l2], σ) [] (by decide +kernel) rfl trivial ?_
      by_cases c4 : ¬ l2 = (σ.1 0 36)
      · refine sy_bk [(.if_icmp .ne 27, 1, 58, 0, 0)] (58, [some (.ref 0), some (.int l1), some (.int l2)], [], σ) [sy_cc .ne l2 (σ.1 0 36)] (by decide +kernel) rfl ⟨c4, trivial⟩ ?_
        refine sy_bk [(.aload_n 0, 0, 0, 0, 0), (.getfield 90, 12, 35, 0, 0), (.iload_n 2, 0, 0, 0, 0), (.dup2, 0, 0, 0, 0), (.iaload, 0, 0, 0, 0), (.iconst 1, 0, 0, 1, 0), (.iadd, 0, 0, 0, 0), (.iastore, 0, 0, 0, 0)] (68, [some (.ref 0), some (.int l1), some (.int l2)], [], (sy_up σ.1 24 l2.toNatClampNeg ((σ.1 24 l2.toNatClampNeg) + 1), σ.2)) [sy_okA shM 0 24 l2, sy_okA shM 0 24 l2] (by decide +kernel) rfl ⟨⟨200, _, rfl, (b3 c1)⟩, ⟨200, _, rfl, (b3 c1)⟩, trivial⟩ ?_
        exact sy_retv rfl (by decide +kernel) (k3 c1 c3 c4)
      · refine sy_bk [(.if_icmp .ne 27, 0, 58, 0, 0)] (34, [some (.ref 0), some (.int l1), some (.int l2)], [], σ) [¬ sy_cc .ne l2 (σ.1 0 36)] (by decide +kernel) rfl ⟨c4, trivial⟩ ?_
        refine sy_bk [(.aload_n 0, 0, 0, 0, 0), (.getfield 87, 12, 34, 0, 0), (.iload_n 2, 0, 0, 0, 0), (.iload_n 1, 0, 0, 0, 0), (.iastore, 0, 0, 0, 0), (.aload_n 0, 0, 0, 0, 0), (.getfield 90, 12, 35, 0, 0), (.iload_n 2, 0, 0, 0, 0), (.iconst 0, 0, 0, 0, 0), (.iastore, 0, 0, 0, 0), (.aload_n 0, 0, 0, 0, 0), (.dup, 0, 0, 0, 0), (.getfield 301, 12, 36, 0, 0), (.iconst 1, 0, 0, 1, 0), (.iadd, 0, 0, 0, 0), (.putfield 301, 12, 36, 0, 0), (.aload_n 0, 0, 0, 0, 0), (.getfield 90, 12, 35, 0, 0), (.iload_n 2, 0, 0, 0, 0), (.dup2, 0, 0, 0, 0), (.iaload, 0, 0, 0, 0), (.iconst 1, 0, 0, 1, 0), (.iadd, 0, 0, 0, 0), (.iastore, 0, 0, 0, 0)] (68, [some (.ref 0), some (.int l1), some (.int l2)], [], (sy_up (sy_up (sy_up (sy_up σ.1 23 l2.toNatClampNeg l1) 24 l2.toNatClampNeg 0) 0 36 ((σ.1 0 36) + 1)) 24 l2.toNatClampNeg (((sy_up (sy_up σ.1 23 l2.toNatClampNeg l1) 24 l2.toNatClampNeg 0) 24 l2.toNatClampNeg) + 1), σ.2)) [sy_okA shM 0 23 l2, sy_okA shM 0 24 l2, sy_okA shM 0 24 l2, sy_okA shM 0 24 l2] (by decide +kernel) rfl ⟨⟨200, _, rfl, (b3 c1)⟩, ⟨200, _, rfl, (b3 c1)⟩, ⟨200, _, rfl, (b3 c1)⟩, ⟨200, _, rfl, (b3 c1)⟩, trivial⟩ ?_
        exact sy_retv rfl (by decide +kernel) (k4 c1 c3 c4)
    · refine sy_bk [(.if_icmp .eq 9, 0, 26, 0, 0)] (20, [some (.ref 0), some (.int l1), some (.int l2)], [], σ) [¬ sy_cc .eq (σ.1 23 l2.toNatClampNeg) l1] (by decide +kernel) rfl ⟨c3, trivial⟩ ?_
      refine sy_bk [(.iinc 2 1, 0, 0, 1, 0), (.goto (-21), 0, 2, 0, 0)] (2, [some (.ref 0), some (.int l1), some (.int (l2 + 1))], [], σ) [] (by decide +kernel) rfl trivial ?_
      exact k5 c1 c3

set_option maxRecDepth 20000 in
theorem w_M_placeOf_0 {Q : Option Value → sy_S → Prop} {σ : sy_S} {n : Int32}   (k1 : sy_E shM mX12_placeOf (4, [some (.ref 0), none, some (.int n), some (.int 0)], [], σ) Q) : sy_E shM mX12_placeOf (0, sy_ent [.ref 0, .int n] 4, [], σ) Q := by
  show sy_E shM mX12_placeOf (0, [some (.ref 0), some (.int n), none, none], [], σ) _
  refine sy_bk [(.iload_n 1, 0, 0, 0, 0), (.istore_n 2, 0, 0, 0, 0), (.iconst 0, 0, 0, 0, 0), (.istore_n 3, 0, 0, 0, 0)] (4, [some (.ref 0), some (.int n), some (.int n), some (.int 0)], [], σ) [] (by decide +kernel) rfl trivial ?_
  refine sy_drop [some (.ref 0), none, some (.int n), some (.int 0)] ⟨rfl, rfl, rfl, trivial⟩ ?_
  exact k1

set_option maxRecDepth 20000 in
theorem w_M_placeOf_4 {Q : Option Value → sy_S → Prop} {σ : sy_S} {l2 : Int32} {l3 : Int32}  (b1 : ¬ (((σ.1 0 0) * (σ.1 0 1)) ≤ l3) → vp_in l3 16) (k1 : ((σ.1 0 0) * (σ.1 0 1)) ≤ l3 → Q (some (.int (-1))) σ) (k2 : ¬ (((σ.1 0 0) * (σ.1 0 1)) ≤ l3) → ¬ (σ.1 1 l3.toNatClampNeg) = 0 → (σ.1 1 l3.toNatClampNeg) = 0 → sy_E shM mX12_placeOf (4, [some (.ref 0), none, some (.int (l2 - 1)), some (.int (l3 + 1))], [], σ) Q) (k3 : ¬ (((σ.1 0 0) * (σ.1 0 1)) ≤ l3) → ¬ (σ.1 1 l3.toNatClampNeg) = 0 → ¬ ((σ.1 1 l3.toNatClampNeg) = 0) → sy_E shM mX12_placeOf (4, [some (.ref 0), none, some (.int (l2 - 0)), some (.int (l3 + 1))], [], σ) Q) (k4 : ¬ (((σ.1 0 0) * (σ.1 0 1)) ≤ l3) → ¬ (¬ (σ.1 1 l3.toNatClampNeg) = 0) → ¬ l2 = 0 → (σ.1 1 l3.toNatClampNeg) = 0 → sy_E shM mX12_placeOf (4, [some (.ref 0), none, some (.int (l2 - 1)), some (.int (l3 + 1))], [], σ) Q) (k5 : ¬ (((σ.1 0 0) * (σ.1 0 1)) ≤ l3) → ¬ (¬ (σ.1 1 l3.toNatClampNeg) = 0) → ¬ l2 = 0 → ¬ ((σ.1 1 l3.toNatClampNeg) = 0) → sy_E shM mX12_placeOf (4, [some (.ref 0), none, some (.int (l2 - 0)), some (.int (l3 + 1))], [], σ) Q) (k6 : ¬ (((σ.1 0 0) * (σ.1 0 1)) ≤ l3) → ¬ (¬ (σ.1 1 l3.toNatClampNeg) = 0) → ¬ (¬ l2 = 0) → Q (some (.int l3)) σ) : sy_E shM mX12_placeOf (4, [some (.ref 0), none, some (.int l2), some (.int l3)], [], σ) Q := by
  refine sy_bk [(.iload_n 3, 0, 0, 0, 0), (.aload_n 0, 0, 0, 0, 0)] (6, [some (.ref 0), none, some (.int l2), some (.int l3)], [.ref 0, .int l3], σ) [] (by decide +kernel) rfl trivial ?_
  refine sy_callV mX12_cells 0 [] [.int l3] kX12_cells jX12_105 (by decide +kernel) rfl rfl (Nat.le_of_ble_eq_true rfl) (Nat.le_of_ble_eq_true rfl) (by decide) rfl ?_
  refine w_m_cells (σ := σ) ?_
  show sy_E shM mX12_placeOf (9, [some (.ref 0), none, some (.int l2), some (.int l3)], [.int ((σ.1 0 0) * (σ.1 0 1)), .int l3], σ) _
  by_cases c1 : ((σ.1 0 0) * (σ.1 0 1)) ≤ l3
  · refine sy_bk [(.if_icmp .ge 41, 1, 50, 0, 0)] (50, [some (.ref 0), none, some (.int l2), some (.int l3)], [], σ) [sy_cc .ge l3 ((σ.1 0 0) * (σ.1 0 1))] (by decide +kernel) rfl ⟨c1, trivial⟩ ?_
    refine sy_bk [(.iconst (-1), 0, 0, (-1), 0)] (51, [some (.ref 0), none, some (.int l2), some (.int l3)], [.int (-1)], σ) [] (by decide +kernel) rfl trivial ?_
    exact sy_reti rfl (by decide +kernel) (k1 c1)
  · refine sy_bk [(.if_icmp .ge 41, 0, 50, 0, 0)] (12, [some (.ref 0), none, some (.int l2), some (.int l3)], [], σ) [¬ sy_cc .ge l3 ((σ.1 0 0) * (σ.1 0 1))] (by decide +kernel) rfl ⟨c1, trivial⟩ ?_
    refine sy_bk [(.aload_n 0, 0, 0, 0, 0), (.getfield 18, 12, 2, 0, 0), (.iload_n 3, 0, 0, 0, 0), (.baload, 0, 0, 0, 0)] (18, [some (.ref 0), none, some (.int l2), some (.int l3)], [.int (σ.1 1 l3.toNatClampNeg)], σ) [sy_okA shM 1 1 l3] (by decide +kernel) rfl ⟨⟨16, _, rfl, (b1 c1)⟩, trivial⟩ ?_
    by_cases c2 : ¬ (σ.1 1 l3.toNatClampNeg) = 0
    · refine sy_bk [(.ifCond .ne 9, 1, 27, 0, 0)] (27, [some (.ref 0), none, some (.int l2), some (.int l3)], [], σ) [sy_cc .ne (σ.1 1 l3.toNatClampNeg) 0] (by decide +kernel) rfl ⟨c2, trivial⟩ ?_
      refine sy_bk [(.iload_n 2, 0, 0, 0, 0), (.aload_n 0, 0, 0, 0, 0), (.getfield 18, 12, 2, 0, 0), (.iload_n 3, 0, 0, 0, 0), (.baload, 0, 0, 0, 0)] (34, [some (.ref 0), none, some (.int l2), some (.int l3)], [.int (σ.1 1 l3.toNatClampNeg), .int l2], σ) [sy_okA shM 1 1 l3] (by decide +kernel) rfl ⟨⟨16, _, rfl, (b1 c1)⟩, trivial⟩ ?_
      by_cases c3 : (σ.1 1 l3.toNatClampNeg) = 0
      · refine sy_bk [(.ifCond .eq 7, 1, 41, 0, 0)] (41, [some (.ref 0), none, some (.int l2), some (.int l3)], [.int l2], σ) [sy_cc .eq (σ.1 1 l3.toNatClampNeg) 0] (by decide +kernel) rfl ⟨c3, trivial⟩ ?_
        refine sy_bk [(.iconst 1, 0, 0, 1, 0), (.isub, 0, 0, 0, 0), (.istore_n 2, 0, 0, 0, 0), (.iinc 3 1, 0, 0, 1, 0), (.goto (-43), 0, 4, 0, 0)] (4, [some (.ref 0), none, some (.int (l2 - 1)), some (.int (l3 + 1))], [], σ) [] (by decide +kernel) rfl trivial ?_
        exact k2 c1 c2 c3
      · refine sy_bk [(.ifCond .eq 7, 0, 41, 0, 0)] (37, [some (.ref 0), none, some (.int l2), some (.int l3)], [.int l2], σ) [¬ sy_cc .eq (σ.1 1 l3.toNatClampNeg) 0] (by decide +kernel) rfl ⟨c3, trivial⟩ ?_
        refine sy_bk [(.iconst 0, 0, 0, 0, 0), (.goto 4, 0, 42, 0, 0), (.isub, 0, 0, 0, 0), (.istore_n 2, 0, 0, 0, 0), (.iinc 3 1, 0, 0, 1, 0), (.goto (-43), 0, 4, 0, 0)] (4, [some (.ref 0), none, some (.int (l2 - 0)), some (.int (l3 + 1))], [], σ) [] (by decide +kernel) rfl trivial ?_
        exact k3 c1 c2 c3
    · refine sy_bk [(.ifCond .ne 9, 0, 27, 0, 0)] (21, [some (.ref 0), none, some (.int l2), some (.int l3)], [], σ) [¬ sy_cc .ne (σ.1 1 l3.toNatClampNeg) 0] (by decide +kernel) rfl ⟨c2, trivial⟩ ?_
      refine sy_bk [(.iload_n 2, 0, 0, 0, 0)] (22, [some (.ref 0), none, some (.int l2), some (.int l3)], [.int l2], σ) [] (by decide +kernel) rfl trivial ?_
      by_cases c4 : ¬ l2 = 0
      · refine sy_bk [(.ifCond .ne 5, 1, 27, 0, 0)] (27, [some (.ref 0), none, some (.int l2), some (.int l3)], [], σ) [sy_cc .ne l2 0] (by decide +kernel) rfl ⟨c4, trivial⟩ ?_
        refine sy_bk [(.iload_n 2, 0, 0, 0, 0), (.aload_n 0, 0, 0, 0, 0), (.getfield 18, 12, 2, 0, 0), (.iload_n 3, 0, 0, 0, 0), (.baload, 0, 0, 0, 0)] (34, [some (.ref 0), none, some (.int l2), some (.int l3)], [.int (σ.1 1 l3.toNatClampNeg), .int l2], σ) [sy_okA shM 1 1 l3] (by decide +kernel) rfl ⟨⟨16, _, rfl, (b1 c1)⟩, trivial⟩ ?_
        by_cases c5 : (σ.1 1 l3.toNatClampNeg) = 0
        · refine sy_bk [(.ifCond .eq 7, 1, 41, 0, 0)] (41, [some (.ref 0), none, some (.int l2), some (.int l3)], [.int l2], σ) [sy_cc .eq (σ.1 1 l3.toNatClampNeg) 0] (by decide +kernel) rfl ⟨c5, trivial⟩ ?_
          refine sy_bk [(.iconst 1, 0, 0, 1, 0), (.isub, 0, 0, 0, 0), (.istore_n 2, 0, 0, 0, 0), (.iinc 3 1, 0, 0, 1, 0), (.goto (-43), 0, 4, 0, 0)] (4, [some (.ref 0), none, some (.int (l2 - 1)), some (.int (l3 + 1))], [], σ) [] (by decide +kernel) rfl trivial ?_
          exact k4 c1 c2 c4 c5
        · refine sy_bk [(.ifCond .eq 7, 0, 41, 0, 0)] (37, [some (.ref 0), none, some (.int l2), some (.int l3)], [.int l2], σ) [¬ sy_cc .eq (σ.1 1 l3.toNatClampNeg) 0] (by decide +kernel) rfl ⟨c5, trivial⟩ ?_
          refine sy_bk [(.iconst 0, 0, 0, 0, 0), (.goto 4, 0, 42, 0, 0), (.isub, 0, 0, 0, 0), (.istore_n 2, 0, 0, 0, 0), (.iinc 3 1, 0, 0, 1, 0), (.goto (-43), 0, 4, 0, 0)] (4, [some (.ref 0), none, some (.int (l2 - 0)), some (.int (l3 + 1))], [], σ) [] (by decide +kernel) rfl trivial ?_
          exact k5 c1 c2 c4 c5
      · refine sy_bk [(.ifCond .ne 5, 0, 27, 0, 0)] (25, [some (.ref 0), none, some (.int l2), some (.int l3)], [], σ) [¬ sy_cc .ne l2 0] (by decide +kernel) rfl ⟨c4, trivial⟩ ?_
        refine sy_bk [(.iload_n 3, 0, 0, 0, 0)] (26, [some (.ref 0), none, some (.int l2), some (.int l3)], [.int l3], σ) [] (by decide +kernel) rfl trivial ?_
        exact sy_reti rfl (by decide +kernel) (k6 c1 c2 c4)

set_option maxRecDepth 20000 in
theorem w_M_lotsThen_0 {Q : Option Value → sy_S → Prop} {σ : sy_S} {w : Int32} {lo : Int32} {tg : Int32} {gr : Int32}  (b1 : w < 400 → ¬ (w < 100) → ¬ ((σ.1 0 36) ≤ (w - 100)) → vp_in (w - 100) 200) (b2 : ¬ (w < 400) → ¬ ((σ.1 0 36) ≤ (w - 400)) → vp_in (w - 400) 200) (k1 : w < 400 → w < 100 → ¬ w = 0 → ¬ w = 1 → ¬ w = 2 → Q (some (.int (σ.1 0 36))) σ) (k2 : w < 400 → w < 100 → ¬ w = 0 → ¬ w = 1 → ¬ (¬ w = 2) → Q (some (.int gr)) σ) (k3 : w < 400 → w < 100 → ¬ w = 0 → ¬ (¬ w = 1) → Q (some (.int tg)) σ) (k4 : w < 400 → w < 100 → ¬ (¬ w = 0) → Q (some (.int lo)) σ) (k5 : w < 400 → ¬ (w < 100) → (σ.1 0 36) ≤ (w - 100) → Q (some (.int (-5))) σ) (k6 : w < 400 → ¬ (w < 100) → ¬ ((σ.1 0 36) ≤ (w - 100)) → Q (some (.int (σ.1 23 ((w - 100).toNatClampNeg)))) σ) (k7 : ¬ (w < 400) → (σ.1 0 36) ≤ (w - 400) → Q (some (.int (-5))) σ) (k8 : ¬ (w < 400) → ¬ ((σ.1 0 36) ≤ (w - 400)) → Q (some (.int (σ.1 24 ((w - 400).toNatClampNeg)))) σ) : sy_E shM mX12_lotsThen (0, sy_ent [.ref 0, .int w, .int lo, .int tg, .int gr] 5, [], σ) Q := by
  show sy_E shM mX12_lotsThen (0, [some (.ref 0), some (.int w), some (.int lo), some (.int tg), some (.int gr)], [], σ) _
  refine sy_bk [(.iload_n 1, 0, 0, 0, 0), (.sipush 400, 0, 0, 400, 0)] (4, [some (.ref 0), some (.int w), some (.int lo), some (.int tg), some (.int gr)], [.int 400, .int w], σ) [] (by decide +kernel) rfl trivial ?_
  by_cases c1 : w < 400
  · refine sy_bk [(.if_icmp .lt 31, 1, 35, 0, 0)] (35, [some (.ref 0), some (.int w), some (.int lo), some (.int tg), some (.int gr)], [], σ) [sy_cc .lt w 400] (by decide +kernel) rfl ⟨c1, trivial⟩ ?_
    refine sy_bk [(.iload_n 1, 0, 0, 0, 0), (.bipush 100, 0, 0, 100, 0)] (38, [some (.ref 0), some (.int w), some (.int lo), some (.int tg), some (.int gr)], [.int 100, .int w], σ) [] (by decide +kernel) rfl trivial ?_
    by_cases c2 : w < 100
    · refine sy_bk [(.if_icmp .lt 29, 1, 67, 0, 0)] (67, [some (.ref 0), some (.int w), some (.int lo), some (.int tg), some (.int gr)], [], σ) [sy_cc .lt w 100] (by decide +kernel) rfl ⟨c2, trivial⟩ ?_
      refine sy_bk [(.iload_n 1, 0, 0, 0, 0)] (68, [some (.ref 0), some (.int w), some (.int lo), some (.int tg), some (.int gr)], [.int w], σ) [] (by decide +kernel) rfl trivial ?_
      by_cases c3 : ¬ w = 0
      · refine sy_bk [(.ifCond .ne 7, 1, 75, 0, 0)] (75, [some (.ref 0), some (.int w), some (.int lo), some (.int tg), some (.int gr)], [], σ) [sy_cc .ne w 0] (by decide +kernel) rfl ⟨c3, trivial⟩ ?_
        refine sy_bk [(.iload_n 1, 0, 0, 0, 0), (.iconst 1, 0, 0, 1, 0)] (77, [some (.ref 0), some (.int w), some (.int lo), some (.int tg), some (.int gr)], [.int 1, .int w], σ) [] (by decide +kernel) rfl trivial ?_
        by_cases c4 : ¬ w = 1
        · refine sy_bk [(.if_icmp .ne 7, 1, 84, 0, 0)] (84, [some (.ref 0), some (.int w), some (.int lo), some (.int tg), some (.int gr)], [], σ) [sy_cc .ne w 1] (by decide +kernel) rfl ⟨c4, trivial⟩ ?_
          refine sy_bk [(.iload_n 1, 0, 0, 0, 0), (.iconst 2, 0, 0, 2, 0)] (86, [some (.ref 0), some (.int w), some (.int lo), some (.int tg), some (.int gr)], [.int 2, .int w], σ) [] (by decide +kernel) rfl trivial ?_
          by_cases c5 : ¬ w = 2
          · refine sy_bk [(.if_icmp .ne 8, 1, 94, 0, 0)] (94, [some (.ref 0), some (.int w), some (.int lo), some (.int tg), some (.int gr)], [], σ) [sy_cc .ne w 2] (by decide +kernel) rfl ⟨c5, trivial⟩ ?_
            refine sy_bk [(.aload_n 0, 0, 0, 0, 0), (.getfield 301, 12, 36, 0, 0)] (98, [some (.ref 0), some (.int w), some (.int lo), some (.int tg), some (.int gr)], [.int (σ.1 0 36)], σ) [] (by decide +kernel) rfl trivial ?_
            exact sy_reti rfl (by decide +kernel) (k1 c1 c2 c3 c4 c5)
          · refine sy_bk [(.if_icmp .ne 8, 0, 94, 0, 0)] (89, [some (.ref 0), some (.int w), some (.int lo), some (.int tg), some (.int gr)], [], σ) [¬ sy_cc .ne w 2] (by decide +kernel) rfl ⟨c5, trivial⟩ ?_
            refine sy_bk [(.iload 4, 0, 0, 0, 0), (.goto 7, 0, 98, 0, 0)] (98, [some (.ref 0), some (.int w), some (.int lo), some (.int tg), some (.int gr)], [.int gr], σ) [] (by decide +kernel) rfl trivial ?_
            exact sy_reti rfl (by decide +kernel) (k2 c1 c2 c3 c4 c5)
        · refine sy_bk [(.if_icmp .ne 7, 0, 84, 0, 0)] (80, [some (.ref 0), some (.int w), some (.int lo), some (.int tg), some (.int gr)], [], σ) [¬ sy_cc .ne w 1] (by decide +kernel) rfl ⟨c4, trivial⟩ ?_
          refine sy_bk [(.iload_n 3, 0, 0, 0, 0), (.goto 17, 0, 98, 0, 0)] (98, [some (.ref 0), some (.int w), some (.int lo), some (.int tg), some (.int gr)], [.int tg], σ) [] (by decide +kernel) rfl trivial ?_
          exact sy_reti rfl (by decide +kernel) (k3 c1 c2 c3 c4)
      · refine sy_bk [(.ifCond .ne 7, 0, 75, 0, 0)] (71, [some (.ref 0), some (.int w), some (.int lo), some (.int tg), some (.int gr)], [], σ) [¬ sy_cc .ne w 0] (by decide +kernel) rfl ⟨c3, trivial⟩ ?_
        refine sy_bk [(.iload_n 2, 0, 0, 0, 0), (.goto 26, 0, 98, 0, 0)] (98, [some (.ref 0), some (.int w), some (.int lo), some (.int tg), some (.int gr)], [.int lo], σ) [] (by decide +kernel) rfl trivial ?_
        exact sy_reti rfl (by decide +kernel) (k4 c1 c2 c3)
    · refine sy_bk [(.if_icmp .lt 29, 0, 67, 0, 0)] (41, [some (.ref 0), some (.int w), some (.int lo), some (.int tg), some (.int gr)], [], σ) [¬ sy_cc .lt w 100] (by decide +kernel) rfl ⟨c2, trivial⟩ ?_
      refine sy_bk [(.iload_n 1, 0, 0, 0, 0), (.bipush 100, 0, 0, 100, 0), (.isub, 0, 0, 0, 0), (.aload_n 0, 0, 0, 0, 0), (.getfield 301, 12, 36, 0, 0)] (49, [some (.ref 0), some (.int w), some (.int lo), some (.int tg), some (.int gr)], [.int (σ.1 0 36), .int (w - 100)], σ) [] (by decide +kernel) rfl trivial ?_
      by_cases c6 : (σ.1 0 36) ≤ (w - 100)
      · refine sy_bk [(.if_icmp .ge 15, 1, 64, 0, 0)] (64, [some (.ref 0), some (.int w), some (.int lo), some (.int tg), some (.int gr)], [], σ) [sy_cc .ge (w - 100) (σ.1 0 36)] (by decide +kernel) rfl ⟨c6, trivial⟩ ?_
        refine sy_bk [(.bipush (-5), 0, 0, (-5), 0)] (66, [some (.ref 0), some (.int w), some (.int lo), some (.int tg), some (.int gr)], [.int (-5)], σ) [] (by decide +kernel) rfl trivial ?_
        exact sy_reti rfl (by decide +kernel) (k5 c1 c2 c6)
      · refine sy_bk [(.if_icmp .ge 15, 0, 64, 0, 0)] (52, [some (.ref 0), some (.int w), some (.int lo), some (.int tg), some (.int gr)], [], σ) [¬ sy_cc .ge (w - 100) (σ.1 0 36)] (by decide +kernel) rfl ⟨c6, trivial⟩ ?_
        refine sy_bk [(.aload_n 0, 0, 0, 0, 0), (.getfield 87, 12, 34, 0, 0), (.iload_n 1, 0, 0, 0, 0), (.bipush 100, 0, 0, 100, 0), (.isub, 0, 0, 0, 0), (.iaload, 0, 0, 0, 0), (.goto 5, 0, 66, 0, 0)] (66, [some (.ref 0), some (.int w), some (.int lo), some (.int tg), some (.int gr)], [.int (σ.1 23 ((w - 100).toNatClampNeg))], σ) [sy_okA shM 0 23 (w - 100)] (by decide +kernel) rfl ⟨⟨200, _, rfl, (b1 c1 c2 c6)⟩, trivial⟩ ?_
        exact sy_reti rfl (by decide +kernel) (k6 c1 c2 c6)
  · refine sy_bk [(.if_icmp .lt 31, 0, 35, 0, 0)] (7, [some (.ref 0), some (.int w), some (.int lo), some (.int tg), some (.int gr)], [], σ) [¬ sy_cc .lt w 400] (by decide +kernel) rfl ⟨c1, trivial⟩ ?_
    refine sy_bk [(.iload_n 1, 0, 0, 0, 0), (.sipush 400, 0, 0, 400, 0), (.isub, 0, 0, 0, 0), (.aload_n 0, 0, 0, 0, 0), (.getfield 301, 12, 36, 0, 0)] (16, [some (.ref 0), some (.int w), some (.int lo), some (.int tg), some (.int gr)], [.int (σ.1 0 36), .int (w - 400)], σ) [] (by decide +kernel) rfl trivial ?_
    by_cases c7 : (σ.1 0 36) ≤ (w - 400)
    · refine sy_bk [(.if_icmp .ge 16, 1, 32, 0, 0)] (32, [some (.ref 0), some (.int w), some (.int lo), some (.int tg), some (.int gr)], [], σ) [sy_cc .ge (w - 400) (σ.1 0 36)] (by decide +kernel) rfl ⟨c7, trivial⟩ ?_
      refine sy_bk [(.bipush (-5), 0, 0, (-5), 0)] (34, [some (.ref 0), some (.int w), some (.int lo), some (.int tg), some (.int gr)], [.int (-5)], σ) [] (by decide +kernel) rfl trivial ?_
      exact sy_reti rfl (by decide +kernel) (k7 c1 c7)
    · refine sy_bk [(.if_icmp .ge 16, 0, 32, 0, 0)] (19, [some (.ref 0), some (.int w), some (.int lo), some (.int tg), some (.int gr)], [], σ) [¬ sy_cc .ge (w - 400) (σ.1 0 36)] (by decide +kernel) rfl ⟨c7, trivial⟩ ?_
      refine sy_bk [(.aload_n 0, 0, 0, 0, 0), (.getfield 90, 12, 35, 0, 0), (.iload_n 1, 0, 0, 0, 0), (.sipush 400, 0, 0, 400, 0), (.isub, 0, 0, 0, 0), (.iaload, 0, 0, 0, 0), (.goto 5, 0, 34, 0, 0)] (34, [some (.ref 0), some (.int w), some (.int lo), some (.int tg), some (.int gr)], [.int (σ.1 24 ((w - 400).toNatClampNeg))], σ) [sy_okA shM 0 24 (w - 400)] (by decide +kernel) rfl ⟨⟨200, _, rfl, (b2 c1 c7)⟩, trivial⟩ ?_
      exact sy_reti rfl (by decide +kernel) (k8 c1 c7)

set_option maxRecDepth 20000 in
theorem w_M_lots_0 {Q : Option Value → sy_S → Prop} {σ : sy_S} {z : Int32} {n : Int32} {w : Int32}   (k1 : (0 ≤ w.toInt64 ∧ w.toInt64 ≤ 3) → (1 ≤ n.toInt64 ∧ n.toInt64 ≤ 200) → sy_E shM mX12_places (0, sy_ent [.ref 0] 3, [], σ) (fun r9 σ9 => sy_E shM mX12_lots (39, [some (.ref 0), some (.int z), some (.int n), some (.int w), none, none, none, none, none, none, none], r9.toList ++ [], σ9) Q)) (k2 : (0 ≤ w.toInt64 ∧ w.toInt64 ≤ 3) → (¬ (1 ≤ n.toInt64 ∧ n.toInt64 ≤ 200)) → Q (some (.int (-2))) σ) (k3 : (¬ (0 ≤ w.toInt64 ∧ w.toInt64 ≤ 3)) → 100 ≤ w → (1 ≤ n.toInt64 ∧ n.toInt64 ≤ 200) → sy_E shM mX12_places (0, sy_ent [.ref 0] 3, [], σ) (fun r9 σ9 => sy_E shM mX12_lots (39, [some (.ref 0), some (.int z), some (.int n), some (.int w), none, none, none, none, none, none, none], r9.toList ++ [], σ9) Q)) (k4 : (¬ (0 ≤ w.toInt64 ∧ w.toInt64 ≤ 3)) → 100 ≤ w → (¬ (1 ≤ n.toInt64 ∧ n.toInt64 ≤ 200)) → Q (some (.int (-2))) σ) (k5 : (¬ (0 ≤ w.toInt64 ∧ w.toInt64 ≤ 3)) → ¬ (100 ≤ w) → Q (some (.int (-1))) σ) : sy_E shM mX12_lots (0, sy_ent [.ref 0, .int z, .int n, .int w] 11, [], σ) Q := by
  show sy_E shM mX12_lots (0, [some (.ref 0), some (.int z), some (.int n), some (.int w), none, none, none, none, none, none, none], [], σ) _
  refine sy_bk [(.iload_n 3, 0, 0, 0, 0), (.i2l, 0, 0, 0, 0), (.lconst 0, 0, 0, 0, 0), (.ldc2_w 236, 0, 0, 0, 3)] (6, [some (.ref 0), some (.int z), some (.int n), some (.int w), none, none, none, none, none, none, none], [.long 3, .long 0, .long w.toInt64], σ) [] (by decide +kernel) rfl trivial ?_
  refine sy_callS mX12_in [.long w.toInt64, .long 0, .long 3] [] kX12_in jX12_109 (by decide +kernel) rfl rfl (Nat.le_of_ble_eq_true rfl) (Nat.le_of_ble_eq_true rfl) (by decide) ?_
  refine e_m_in (σ := σ) (v := w.toInt64) (lo := 0) (hi := 3) ?_ ?_
  · intro c1
    show sy_E shM mX12_lots (9, [some (.ref 0), some (.int z), some (.int n), some (.int w), none, none, none, none, none, none, none], [.int 1], σ) _
    refine sy_bk [(.ifCond .ne 11, 1, 20, 0, 0), (.iload_n 2, 0, 0, 0, 0), (.i2l, 0, 0, 0, 0), (.lconst 1, 0, 0, 0, 1), (.ldc2_w 304, 0, 0, 0, 200)] (26, [some (.ref 0), some (.int z), some (.int n), some (.int w), none, none, none, none, none, none, none], [.long 200, .long 1, .long n.toInt64], σ) [sy_cc .ne 1 0] (by decide +kernel) rfl ⟨(by decide : (¬ (1 : Int32) = 0)), trivial⟩ ?_
    refine sy_callS mX12_in [.long n.toInt64, .long 1, .long 200] [] kX12_in jX12_109 (by decide +kernel) rfl rfl (Nat.le_of_ble_eq_true rfl) (Nat.le_of_ble_eq_true rfl) (by decide) ?_
    refine e_m_in (σ := σ) (v := n.toInt64) (lo := 1) (hi := 200) ?_ ?_
    · intro c2
      show sy_E shM mX12_lots (29, [some (.ref 0), some (.int z), some (.int n), some (.int w), none, none, none, none, none, none, none], [.int 1], σ) _
      refine sy_bk [(.ifCond .ne 6, 1, 35, 0, 0), (.aload_n 0, 0, 0, 0, 0)] (36, [some (.ref 0), some (.int z), some (.int n), some (.int w), none, none, none, none, none, none, none], [.ref 0], σ) [sy_cc .ne 1 0] (by decide +kernel) rfl ⟨(by decide : (¬ (1 : Int32) = 0)), trivial⟩ ?_
      refine sy_callV mX12_places 0 [] [] kX12_places jX12_292 (by decide +kernel) rfl rfl (Nat.le_of_ble_eq_true rfl) (Nat.le_of_ble_eq_true rfl) (by decide) rfl ?_
      exact k1 c1 c2
    · intro c3
      show sy_E shM mX12_lots (29, [some (.ref 0), some (.int z), some (.int n), some (.int w), none, none, none, none, none, none, none], [.int 0], σ) _
      refine sy_bk [(.ifCond .ne 6, 0, 35, 0, 0), (.bipush (-2), 0, 0, (-2), 0)] (34, [some (.ref 0), some (.int z), some (.int n), some (.int w), none, none, none, none, none, none, none], [.int (-2)], σ) [¬ sy_cc .ne 0 0] (by decide +kernel) rfl ⟨(by decide : ¬ (¬ (0 : Int32) = 0)), trivial⟩ ?_
      exact sy_reti rfl (by decide +kernel) (k2 c1 c3)
  · intro c4
    show sy_E shM mX12_lots (9, [some (.ref 0), some (.int z), some (.int n), some (.int w), none, none, none, none, none, none, none], [.int 0], σ) _
    refine sy_bk [(.ifCond .ne 11, 0, 20, 0, 0), (.iload_n 3, 0, 0, 0, 0), (.bipush 100, 0, 0, 100, 0)] (15, [some (.ref 0), some (.int z), some (.int n), some (.int w), none, none, none, none, none, none, none], [.int 100, .int w], σ) [¬ sy_cc .ne 0 0] (by decide +kernel) rfl ⟨(by decide : ¬ (¬ (0 : Int32) = 0)), trivial⟩ ?_
    by_cases c5 : 100 ≤ w
    · refine sy_bk [(.if_icmp .ge 5, 1, 20, 0, 0)] (20, [some (.ref 0), some (.int z), some (.int n), some (.int w), none, none, none, none, none, none, none], [], σ) [sy_cc .ge w 100] (by decide +kernel) rfl ⟨c5, trivial⟩ ?_
      refine sy_bk [(.iload_n 2, 0, 0, 0, 0), (.i2l, 0, 0, 0, 0), (.lconst 1, 0, 0, 0, 1), (.ldc2_w 304, 0, 0, 0, 200)] (26, [some (.ref 0), some (.int z), some (.int n), some (.int w), none, none, none, none, none, none, none], [.long 200, .long 1, .long n.toInt64], σ) [] (by decide +kernel) rfl trivial ?_
      refine sy_callS mX12_in [.long n.toInt64, .long 1, .long 200] [] kX12_in jX12_109 (by decide +kernel) rfl rfl (Nat.le_of_ble_eq_true rfl) (Nat.le_of_ble_eq_true rfl) (by decide) ?_
      refine e_m_in (σ := σ) (v := n.toInt64) (lo := 1) (hi := 200) ?_ ?_
      · intro c6
        show sy_E shM mX12_lots (29, [some (.ref 0), some (.int z), some (.int n), some (.int w), none, none, none, none, none, none, none], [.int 1], σ) _
        refine sy_bk [(.ifCond .ne 6, 1, 35, 0, 0), (.aload_n 0, 0, 0, 0, 0)] (36, [some (.ref 0), some (.int z), some (.int n), some (.int w), none, none, none, none, none, none, none], [.ref 0], σ) [sy_cc .ne 1 0] (by decide +kernel) rfl ⟨(by decide : (¬ (1 : Int32) = 0)), trivial⟩ ?_
        refine sy_callV mX12_places 0 [] [] kX12_places jX12_292 (by decide +kernel) rfl rfl (Nat.le_of_ble_eq_true rfl) (Nat.le_of_ble_eq_true rfl) (by decide) rfl ?_
        exact k3 c4 c5 c6
      · intro c7
        show sy_E shM mX12_lots (29, [some (.ref 0), some (.int z), some (.int n), some (.int w), none, none, none, none, none, none, none], [.int 0], σ) _
        refine sy_bk [(.ifCond .ne 6, 0, 35, 0, 0), (.bipush (-2), 0, 0, (-2), 0)] (34, [some (.ref 0), some (.int z), some (.int n), some (.int w), none, none, none, none, none, none, none], [.int (-2)], σ) [¬ sy_cc .ne 0 0] (by decide +kernel) rfl ⟨(by decide : ¬ (¬ (0 : Int32) = 0)), trivial⟩ ?_
        exact sy_reti rfl (by decide +kernel) (k4 c4 c5 c7)
    · refine sy_bk [(.if_icmp .ge 5, 0, 20, 0, 0)] (18, [some (.ref 0), some (.int z), some (.int n), some (.int w), none, none, none, none, none, none, none], [], σ) [¬ sy_cc .ge w 100] (by decide +kernel) rfl ⟨c5, trivial⟩ ?_
      refine sy_bk [(.iconst (-1), 0, 0, (-1), 0)] (19, [some (.ref 0), some (.int z), some (.int n), some (.int w), none, none, none, none, none, none, none], [.int (-1)], σ) [] (by decide +kernel) rfl trivial ?_
      exact sy_reti rfl (by decide +kernel) (k5 c4 c5)

set_option maxRecDepth 20000 in
theorem w_M_lots_39 {Q : Option Value → sy_S → Prop} {σ : sy_S} {l1 : Int32} {l2 : Int32} {l3 : Int32} {v : Int32}   (k1 : ¬ v = 0 → sy_E shM mX12_copies (0, sy_ent [.ref 2, .ref 12] 3, [], (sy_up σ.1 0 36 0, σ.2)) (fun r9 σ9 => sy_E shM mX12_lots (77, [some (.ref 0), none, some (.int l2), some (.int l3), some (.int v), some (.int l1), some (.int 0), some (.int 0), some (.int 0), none, none], r9.toList ++ [], σ9) Q)) (k2 : ¬ (¬ v = 0) → Q (some (.int (-3))) σ) : sy_E shM mX12_lots (39, [some (.ref 0), some (.int l1), some (.int l2), some (.int l3), none, none, none, none, none, none, none], [.int v], σ) Q := by
  refine sy_bk [(.istore 4, 0, 0, 0, 0), (.iload 4, 0, 0, 0, 0)] (43, [some (.ref 0), some (.int l1), some (.int l2), some (.int l3), some (.int v), none, none, none, none, none, none], [.int v], σ) [] (by decide +kernel) rfl trivial ?_
  by_cases c1 : ¬ v = 0
  · refine sy_bk [(.ifCond .ne 6, 1, 49, 0, 0)] (49, [some (.ref 0), some (.int l1), some (.int l2), some (.int l3), some (.int v), none, none, none, none, none, none], [], σ) [sy_cc .ne v 0] (by decide +kernel) rfl ⟨c1, trivial⟩ ?_
    refine sy_bk [(.iload_n 1, 0, 0, 0, 0), (.istore 5, 0, 0, 0, 0), (.iconst 0, 0, 0, 0, 0), (.istore 6, 0, 0, 0, 0), (.iconst 0, 0, 0, 0, 0), (.istore 7, 0, 0, 0, 0), (.iconst 0, 0, 0, 0, 0), (.istore 8, 0, 0, 0, 0), (.aload_n 0, 0, 0, 0, 0), (.iconst 0, 0, 0, 0, 0), (.putfield 301, 12, 36, 0, 0), (.aload_n 0, 0, 0, 0, 0), (.getfield 22, 12, 3, 0, 0), (.aload_n 0, 0, 0, 0, 0), (.getfield 53, 12, 22, 0, 0)] (74, [some (.ref 0), some (.int l1), some (.int l2), some (.int l3), some (.int v), some (.int l1), some (.int 0), some (.int 0), some (.int 0), none, none], [.ref 12, .ref 2], (sy_up σ.1 0 36 0, σ.2)) [] (by decide +kernel) rfl trivial ?_
    refine sy_drop [some (.ref 0), none, some (.int l2), some (.int l3), some (.int v), some (.int l1), some (.int 0), some (.int 0), some (.int 0), none, none] ⟨rfl, rfl, rfl, rfl, rfl, rfl, rfl, rfl, trivial⟩ ?_
    refine sy_callS mX12_copies [.ref 2, .ref 12] [] kX12_copies jX12_209 (by decide +kernel) rfl rfl (Nat.le_of_ble_eq_true rfl) (Nat.le_of_ble_eq_true rfl) (by decide) ?_
    exact k1 c1
  · refine sy_bk [(.ifCond .ne 6, 0, 49, 0, 0)] (46, [some (.ref 0), some (.int l1), some (.int l2), some (.int l3), some (.int v), none, none, none, none, none, none], [], σ) [¬ sy_cc .ne v 0] (by decide +kernel) rfl ⟨c1, trivial⟩ ?_
    refine sy_bk [(.bipush (-3), 0, 0, (-3), 0)] (48, [some (.ref 0), some (.int l1), some (.int l2), some (.int l3), some (.int v), none, none, none, none, none, none], [.int (-3)], σ) [] (by decide +kernel) rfl trivial ?_
    exact sy_reti rfl (by decide +kernel) (k2 c1)

set_option maxRecDepth 20000 in
theorem w_M_lots_77 {Q : Option Value → sy_S → Prop} {σ : sy_S} {l2 : Int32} {l3 : Int32} {l4 : Int32} {l5 : Int32} {l6 : Int32} {l7 : Int32} {l8 : Int32}   (k1 : sy_E shM mX12_settles (0, sy_ent [.ref 0, .ref 12] 3, [], σ) (fun r9 σ9 => sy_E shM mX12_lots (85, [some (.ref 0), none, some (.int l2), some (.int l3), some (.int l4), some (.int l5), some (.int l6), some (.int l7), some (.int l8), none, none], r9.toList ++ [], σ9) Q)) : sy_E shM mX12_lots (77, [some (.ref 0), none, some (.int l2), some (.int l3), some (.int l4), some (.int l5), some (.int l6), some (.int l7), some (.int l8), none, none], [], σ) Q := by
  refine sy_bk [(.aload_n 0, 0, 0, 0, 0), (.aload_n 0, 0, 0, 0, 0), (.getfield 53, 12, 22, 0, 0)] (82, [some (.ref 0), none, some (.int l2), some (.int l3), some (.int l4), some (.int l5), some (.int l6), some (.int l7), some (.int l8), none, none], [.ref 12, .ref 0], σ) [] (by decide +kernel) rfl trivial ?_
  refine sy_callV mX12_settles 0 [.ref 12] [] kX12_settles jX12_163 (by decide +kernel) rfl rfl (Nat.le_of_ble_eq_true rfl) (Nat.le_of_ble_eq_true rfl) (by decide) rfl ?_
  exact k1

set_option maxRecDepth 20000 in
theorem w_M_lots_85 {Q : Option Value → sy_S → Prop} {σ : sy_S} {l2 : Int32} {l3 : Int32} {l4 : Int32} {l5 : Int32} {l6 : Int32} {l7 : Int32} {l8 : Int32} {v : Int32}   (k1 : sy_E shM mX12_lots (90, [some (.ref 0), none, some (.int l2), some (.int l3), some (.int l4), some (.int l5), some (.int l6), some (.int l7), some (.int l8), none, some (.int 0)], [], σ) Q) : sy_E shM mX12_lots (85, [some (.ref 0), none, some (.int l2), some (.int l3), some (.int l4), some (.int l5), some (.int l6), some (.int l7), some (.int l8), none, none], [.int v], σ) Q := by
  refine sy_bk [(.istore 9, 0, 0, 0, 0), (.iconst 0, 0, 0, 0, 0), (.istore 10, 0, 0, 0, 0)] (90, [some (.ref 0), none, some (.int l2), some (.int l3), some (.int l4), some (.int l5), some (.int l6), some (.int l7), some (.int l8), some (.int v), some (.int 0)], [], σ) [] (by decide +kernel) rfl trivial ?_
  refine sy_drop [some (.ref 0), none, some (.int l2), some (.int l3), some (.int l4), some (.int l5), some (.int l6), some (.int l7), some (.int l8), none, some (.int 0)] ⟨rfl, rfl, rfl, rfl, rfl, rfl, rfl, rfl, rfl, trivial⟩ ?_
  exact k1

set_option maxRecDepth 20000 in
theorem w_M_lots_90 {Q : Option Value → sy_S → Prop} {σ : sy_S} {l2 : Int32} {l3 : Int32} {l4 : Int32} {l5 : Int32} {l6 : Int32} {l7 : Int32} {l8 : Int32} {l10 : Int32}  (b1 : ¬ (l2 ≤ l10) → ¬ l4 = 0) (k1 : l2 ≤ l10 → sy_E shM mX12_lotsThen (0, sy_ent [.ref 0, .int l3, .int l6, .int l7, .int l8] 5, [], σ) (fun r9 σ9 => sy_E shM mX12_lots (192, [none, none, none, none, none, none, none, none, none, none, none], r9.toList ++ [], σ9) Q)) (k2 : ¬ (l2 ≤ l10) → sy_E shM mX12_placeOf (0, sy_ent [.ref 0, .int (((((l5 * 1103515245) + 12345) &&& 2147483647) / 65536) - ((((l5 * 1103515245) + 12345) &&& 2147483647) / 65536) / l4 * l4)] 4, [], σ) (fun r9 σ9 => sy_E shM mX12_lots (129, [some (.ref 0), none, some (.int l2), some (.int l3), some (.int l4), some (.int ((l5 * 1103515245) + 12345)), some (.int l6), some (.int l7), some (.int l8), none, some (.int l10)], r9.toList ++ [.ref 12], σ9) Q)) : sy_E shM mX12_lots (90, [some (.ref 0), none, some (.int l2), some (.int l3), some (.int l4), some (.int l5), some (.int l6), some (.int l7), some (.int l8), none, some (.int l10)], [], σ) Q := by
  refine sy_bk [(.iload 10, 0, 0, 0, 0), (.iload_n 2, 0, 0, 0, 0)] (93, [some (.ref 0), none, some (.int l2), some (.int l3), some (.int l4), some (.int l5), some (.int l6), some (.int l7), some (.int l8), none, some (.int l10)], [.int l2, .int l10], σ) [] (by decide +kernel) rfl trivial ?_
  by_cases c1 : l2 ≤ l10
  · refine sy_bk [(.if_icmp .ge 88, 1, 181, 0, 0)] (181, [some (.ref 0), none, some (.int l2), some (.int l3), some (.int l4), some (.int l5), some (.int l6), some (.int l7), some (.int l8), none, some (.int l10)], [], σ) [sy_cc .ge l10 l2] (by decide +kernel) rfl ⟨c1, trivial⟩ ?_
    refine sy_bk [(.aload_n 0, 0, 0, 0, 0), (.iload_n 3, 0, 0, 0, 0), (.iload 6, 0, 0, 0, 0), (.iload 7, 0, 0, 0, 0), (.iload 8, 0, 0, 0, 0)] (189, [some (.ref 0), none, some (.int l2), some (.int l3), some (.int l4), some (.int l5), some (.int l6), some (.int l7), some (.int l8), none, some (.int l10)], [.int l8, .int l7, .int l6, .int l3, .ref 0], σ) [] (by decide +kernel) rfl trivial ?_
    refine sy_drop [none, none, none, none, none, none, none, none, none, none, none] trivial ?_
    refine sy_callV mX12_lotsThen 0 [.int l3, .int l6, .int l7, .int l8] [] kX12_lotsThen jX12_322 (by decide +kernel) rfl rfl (Nat.le_of_ble_eq_true rfl) (Nat.le_of_ble_eq_true rfl) (by decide) rfl ?_
    exact k1 c1
  · refine sy_bk [(.if_icmp .ge 88, 0, 181, 0, 0)] (96, [some (.ref 0), none, some (.int l2), some (.int l3), some (.int l4), some (.int l5), some (.int l6), some (.int l7), some (.int l8), none, some (.int l10)], [], σ) [¬ sy_cc .ge l10 l2] (by decide +kernel) rfl ⟨c1, trivial⟩ ?_
    refine sy_bk [(.iload 5, 0, 0, 0, 0), (.ldc_w 306, 0, 0, 1103515245, 0), (.imul, 0, 0, 0, 0), (.sipush 12345, 0, 0, 12345, 0), (.iadd, 0, 0, 0, 0), (.istore 5, 0, 0, 0, 0), (.aload_n 0, 0, 0, 0, 0), (.getfield 53, 12, 22, 0, 0), (.aload_n 0, 0, 0, 0, 0), (.iload 5, 0, 0, 0, 0), (.ldc_w 307, 0, 0, 2147483647, 0), (.iand, 0, 0, 0, 0), (.ldc_w 308, 0, 0, 65536, 0), (.idiv, 0, 0, 0, 0), (.iload 4, 0, 0, 0, 0), (.irem, 0, 0, 0, 0)] (126, [some (.ref 0), none, some (.int l2), some (.int l3), some (.int l4), some (.int ((l5 * 1103515245) + 12345)), some (.int l6), some (.int l7), some (.int l8), none, some (.int l10)], [.int (((((l5 * 1103515245) + 12345) &&& 2147483647) / 65536) - ((((l5 * 1103515245) + 12345) &&& 2147483647) / 65536) / l4 * l4), .ref 0, .ref 12], σ) [¬ (65536 : Int32) = 0, ¬ l4 = 0] (by decide +kernel) rfl ⟨(by decide), (b1 c1), trivial⟩ ?_
    refine sy_callV mX12_placeOf 0 [.int (((((l5 * 1103515245) + 12345) &&& 2147483647) / 65536) - ((((l5 * 1103515245) + 12345) &&& 2147483647) / 65536) / l4 * l4)] [.ref 12] kX12_placeOf jX12_309 (by decide +kernel) rfl rfl (Nat.le_of_ble_eq_true rfl) (Nat.le_of_ble_eq_true rfl) (by decide) rfl ?_
    exact k2 c1

set_option maxRecDepth 20000 in
theorem w_M_lots_192 {Q : Option Value → sy_S → Prop} {σ : sy_S} {v : Int32}   (k1 : Q (some (.int v)) σ) : sy_E shM mX12_lots (192, [none, none, none, none, none, none, none, none, none, none, none], [.int v], σ) Q := by
  exact sy_reti rfl (by decide +kernel) (k1)

set_option maxRecDepth 20000 in
theorem w_M_lots_129 {Q : Option Value → sy_S → Prop} {σ : sy_S} {l2 : Int32} {l3 : Int32} {l4 : Int32} {l5 : Int32} {l6 : Int32} {l7 : Int32} {l8 : Int32} {l10 : Int32} {v : Int32}  (b1 : vp_in v 16) (k1 : sy_E shM mX12_settles (0, sy_ent [.ref 0, .ref 12] 3, [], (sy_up σ.1 12 v.toNatClampNeg ((σ.1 12 v.toNatClampNeg) + 1), σ.2)) (fun r9 σ9 => sy_E shM mX12_lots (142, [some (.ref 0), none, some (.int l2), some (.int l3), some (.int l4), some (.int l5), some (.int l6), some (.int l7), some (.int l8), none, some (.int l10)], r9.toList ++ [], σ9) Q)) : sy_E shM mX12_lots (129, [some (.ref 0), none, some (.int l2), some (.int l3), some (.int l4), some (.int l5), some (.int l6), some (.int l7), some (.int l8), none, some (.int l10)], [.int v, .ref 12], σ) Q := by
  refine sy_bk [(.dup2, 0, 0, 0, 0), (.iaload, 0, 0, 0, 0), (.iconst 1, 0, 0, 1, 0), (.iadd, 0, 0, 0, 0), (.iastore, 0, 0, 0, 0), (.aload_n 0, 0, 0, 0, 0), (.aload_n 0, 0, 0, 0, 0), (.getfield 53, 12, 22, 0, 0)] (139, [some (.ref 0), none, some (.int l2), some (.int l3), some (.int l4), some (.int l5), some (.int l6), some (.int l7), some (.int l8), none, some (.int l10)], [.ref 12, .ref 0], (sy_up σ.1 12 v.toNatClampNeg ((σ.1 12 v.toNatClampNeg) + 1), σ.2)) [sy_okA shM 0 12 v, sy_okA shM 0 12 v] (by decide +kernel) rfl ⟨⟨16, _, rfl, b1⟩, ⟨16, _, rfl, b1⟩, trivial⟩ ?_
  refine sy_callV mX12_settles 0 [.ref 12] [] kX12_settles jX12_163 (by decide +kernel) rfl rfl (Nat.le_of_ble_eq_true rfl) (Nat.le_of_ble_eq_true rfl) (by decide) rfl ?_
  exact k1

set_option maxRecDepth 20000 in
theorem w_M_lots_142 {Q : Option Value → sy_S → Prop} {σ : sy_S} {l2 : Int32} {l3 : Int32} {l4 : Int32} {l5 : Int32} {l6 : Int32} {l7 : Int32} {l8 : Int32} {l10 : Int32} {v : Int32}   (k1 : sy_E shM mX12_countsSize (0, sy_ent [.ref 0, .int v] 3, [], σ) (fun r9 σ9 => sy_E shM mX12_lots (175, [some (.ref 0), none, some (.int l2), some (.int l3), some (.int l4), some (.int l5), some (.int (l6 + (σ.1 0 7))), some (.int (l7 + v)), some (.int (if l8 < v then v else l8)), none, some (.int l10)], r9.toList ++ [], σ9) Q)) : sy_E shM mX12_lots (142, [some (.ref 0), none, some (.int l2), some (.int l3), some (.int l4), some (.int l5), some (.int l6), some (.int l7), some (.int l8), none, some (.int l10)], [.int v], σ) Q := by
  refine sy_bk [(.istore 9, 0, 0, 0, 0), (.iload 6, 0, 0, 0, 0), (.aload_n 0, 0, 0, 0, 0), (.getfield 117, 12, 7, 0, 0), (.iadd, 0, 0, 0, 0), (.istore 6, 0, 0, 0, 0), (.iload 7, 0, 0, 0, 0), (.iload 9, 0, 0, 0, 0), (.iadd, 0, 0, 0, 0), (.istore 7, 0, 0, 0, 0), (.iload 8, 0, 0, 0, 0), (.iload 9, 0, 0, 0, 0)] (164, [some (.ref 0), none, some (.int l2), some (.int l3), some (.int l4), some (.int l5), some (.int (l6 + (σ.1 0 7))), some (.int (l7 + v)), some (.int l8), some (.int v), some (.int l10)], [.int v, .int l8], σ) [] (by decide +kernel) rfl trivial ?_
  refine sy_drop [some (.ref 0), none, some (.int l2), some (.int l3), some (.int l4), some (.int l5), some (.int (l6 + (σ.1 0 7))), some (.int (l7 + v)), none, some (.int v), some (.int l10)] ⟨rfl, rfl, rfl, rfl, rfl, rfl, rfl, rfl, rfl, trivial⟩ ?_
  refine sy_max [] jX12_312 (by decide +kernel) rfl (Nat.le_of_ble_eq_true rfl) (by decide) (by decide) ?_
  show sy_E shM mX12_lots (167, [some (.ref 0), none, some (.int l2), some (.int l3), some (.int l4), some (.int l5), some (.int (l6 + (σ.1 0 7))), some (.int (l7 + v)), none, some (.int v), some (.int l10)], [.int (if l8 < v then v else l8)], σ) _
  refine sy_bk [(.istore 8, 0, 0, 0, 0), (.aload_n 0, 0, 0, 0, 0), (.iload 9, 0, 0, 0, 0)] (172, [some (.ref 0), none, some (.int l2), some (.int l3), some (.int l4), some (.int l5), some (.int (l6 + (σ.1 0 7))), some (.int (l7 + v)), some (.int (if l8 < v then v else l8)), some (.int v), some (.int l10)], [.int v, .ref 0], σ) [] (by decide +kernel) rfl trivial ?_
  refine sy_drop [some (.ref 0), none, some (.int l2), some (.int l3), some (.int l4), some (.int l5), some (.int (l6 + (σ.1 0 7))), some (.int (l7 + v)), some (.int (if l8 < v then v else l8)), none, some (.int l10)] ⟨rfl, rfl, rfl, rfl, rfl, rfl, rfl, rfl, rfl, trivial⟩ ?_
  refine sy_callV mX12_countsSize 0 [.int v] [] kX12_countsSize jX12_318 (by decide +kernel) rfl rfl (Nat.le_of_ble_eq_true rfl) (Nat.le_of_ble_eq_true rfl) (by decide) rfl ?_
  exact k1

set_option maxRecDepth 20000 in
theorem w_M_lots_175 {Q : Option Value → sy_S → Prop} {σ : sy_S} {l2 : Int32} {l3 : Int32} {l4 : Int32} {l5 : Int32} {l6 : Int32} {l7 : Int32} {l8 : Int32} {l10 : Int32}   (k1 : sy_E shM mX12_lots (90, [some (.ref 0), none, some (.int l2), some (.int l3), some (.int l4), some (.int l5), some (.int l6), some (.int l7), some (.int l8), none, some (.int (l10 + 1))], [], σ) Q) : sy_E shM mX12_lots (175, [some (.ref 0), none, some (.int l2), some (.int l3), some (.int l4), some (.int l5), some (.int l6), some (.int l7), some (.int l8), none, some (.int l10)], [], σ) Q := by
  refine sy_bk [(.iinc 10 1, 0, 0, 1, 0), (.goto (-88), 0, 90, 0, 0)] (90, [some (.ref 0), none, some (.int l2), some (.int l3), some (.int l4), some (.int l5), some (.int l6), some (.int l7), some (.int l8), none, some (.int (l10 + 1))], [], σ) [] (by decide +kernel) rfl trivial ?_
  exact k1
