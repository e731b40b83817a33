/-! walks of the model's methods (by program: wip/whole/gen/p71.py) -/
set_option maxRecDepth 20000 in
theorem w_M_forgets_0 {Q : Option Value → sy_S → Prop} {σ : sy_S}    (k1 : sy_E shM mX12_forgets (2, [some (.ref 0), some (.int 0)], [], σ) Q) : sy_E shM mX12_forgets (0, sy_ent [.ref 0] 2, [], σ) Q := by
  show sy_E shM mX12_forgets (0, [some (.ref 0), none], [], σ) _
  refine sy_bk [(.iconst 0, 0, 0, 0, 0), (.istore_n 1, 0, 0, 0, 0)] (2, [some (.ref 0), some (.int 0)], [], σ) [] (by decide +kernel) rfl trivial ?_
  exact k1

set_option maxRecDepth 20000 in
theorem w_M_forgets_2 {Q : Option Value → sy_S → Prop} {σ : sy_S} {l1 : Int32}  (b1 : ¬ (6 ≤ l1) → vp_in l1 6) (k1 : 6 ≤ l1 → sy_E shM mX12_links (0, sy_ent [.ref 0] 2, [], (sy_up (sy_up σ.1 0 13 0) 0 14 0, σ.2)) (fun r9 σ9 => sy_E shM mX12_forgets (35, [none, none], r9.toList ++ [], σ9) Q)) (k2 : ¬ (6 ≤ l1) → sy_E shM mX12_forgets (2, [some (.ref 0), some (.int (l1 + 1))], [], (sy_up σ.1 8 l1.toNatClampNeg (vp_nar .boolean 0), σ.2)) Q) : sy_E shM mX12_forgets (2, [some (.ref 0), some (.int l1)], [], σ) Q := by
  refine sy_bk [(.iload_n 1, 0, 0, 0, 0), (.bipush 6, 0, 0, 6, 0)] (5, [some (.ref 0), some (.int l1)], [.int 6, .int l1], σ) [] (by decide +kernel) rfl trivial ?_
  by_cases c1 : 6 ≤ l1
  · refine sy_bk [(.if_icmp .ge 16, 1, 21, 0, 0)] (21, [some (.ref 0), some (.int l1)], [], σ) [sy_cc .ge l1 6] (by decide +kernel) rfl ⟨c1, trivial⟩ ?_
    refine sy_bk [(.aload_n 0, 0, 0, 0, 0), (.iconst 0, 0, 0, 0, 0), (.putfield 138, 12, 13, 0, 0), (.aload_n 0, 0, 0, 0, 0), (.iconst 0, 0, 0, 0, 0), (.putfield 141, 12, 14, 0, 0), (.aload_n 0, 0, 0, 0, 0)] (32, [some (.ref 0), some (.int l1)], [.ref 0], (sy_up (sy_up σ.1 0 13 0) 0 14 0, σ.2)) [] (by decide +kernel) rfl trivial ?_
    refine sy_drop [none, none] trivial ?_
    refine sy_callV mX12_links 0 [] [] kX12_links jX12_102 (by decide +kernel) rfl rfl (Nat.le_of_ble_eq_true rfl) (Nat.le_of_ble_eq_true rfl) (by decide) rfl ?_
    exact k1 c1
  · refine sy_bk [(.if_icmp .ge 16, 0, 21, 0, 0)] (8, [some (.ref 0), some (.int l1)], [], σ) [¬ sy_cc .ge l1 6] (by decide +kernel) rfl ⟨c1, trivial⟩ ?_
    refine sy_bk [(.aload_n 0, 0, 0, 0, 0), (.getfield 41, 12, 10, 0, 0), (.iload_n 1, 0, 0, 0, 0), (.iconst 0, 0, 0, 0, 0), (.bastore, 0, 0, 0, 0), (.iinc 1 1, 0, 0, 1, 0), (.goto (-16), 0, 2, 0, 0)] (2, [some (.ref 0), some (.int (l1 + 1))], [], (sy_up σ.1 8 l1.toNatClampNeg (vp_nar .boolean 0), σ.2)) [sy_okA shM 1 8 l1] (by decide +kernel) rfl ⟨⟨6, _, rfl, (b1 c1)⟩, trivial⟩ ?_
    exact k2 c1

set_option maxRecDepth 20000 in
theorem w_M_forgets_35 {Q : Option Value → sy_S → Prop} {σ : sy_S}    (k1 : Q none σ) : sy_E shM mX12_forgets (35, [none, none], [], σ) Q := by
  exact sy_retv rfl (by decide +kernel) (k1)

set_option maxRecDepth 20000 in
theorem w_M_pushesBefore_0 {Q : Option Value → sy_S → Prop} {σ : sy_S}    (k1 : ¬ (σ.1 0 13) = 8 → sy_E shM mX12_pushesBefore (50, [some (.ref 0), some (.int 0)], [], σ) Q) (k2 : ¬ (¬ (σ.1 0 13) = 8) → sy_E shM mX12_pushesBefore (11, [some (.ref 0), some (.int 0)], [], σ) Q) : sy_E shM mX12_pushesBefore (0, sy_ent [.ref 0] 2, [], σ) Q := by
  show sy_E shM mX12_pushesBefore (0, [some (.ref 0), none], [], σ) _
  refine sy_bk [(.aload_n 0, 0, 0, 0, 0), (.getfield 138, 12, 13, 0, 0), (.bipush 8, 0, 0, 8, 0)] (6, [some (.ref 0), none], [.int 8, .int (σ.1 0 13)], σ) [] (by decide +kernel) rfl trivial ?_
  by_cases c1 : ¬ (σ.1 0 13) = 8
  · refine sy_bk [(.if_icmp .ne 42, 1, 48, 0, 0)] (48, [some (.ref 0), none], [], σ) [sy_cc .ne (σ.1 0 13) 8] (by decide +kernel) rfl ⟨c1, trivial⟩ ?_
    refine sy_bk [(.iconst 0, 0, 0, 0, 0), (.istore_n 1, 0, 0, 0, 0)] (50, [some (.ref 0), some (.int 0)], [], σ) [] (by decide +kernel) rfl trivial ?_
    exact k1 c1
  · refine sy_bk [(.if_icmp .ne 42, 0, 48, 0, 0)] (9, [some (.ref 0), none], [], σ) [¬ sy_cc .ne (σ.1 0 13) 8] (by decide +kernel) rfl ⟨c1, trivial⟩ ?_
    refine sy_bk [(.iconst 0, 0, 0, 0, 0), (.istore_n 1, 0, 0, 0, 0)] (11, [some (.ref 0), some (.int 0)], [], σ) [] (by decide +kernel) rfl trivial ?_
    exact k2 c1

set_option maxRecDepth 20000 in
theorem w_M_pushesBefore_50 {Q : Option Value → sy_S → Prop} {σ : sy_S} {l1 : Int32}  (b1 : ¬ (16 ≤ l1) → vp_in l1 16) (b2 : ¬ (16 ≤ l1) → vp_in ((16 * (σ.1 0 13)) + l1) 128) (k1 : 16 ≤ l1 → Q none (sy_up σ.1 0 13 ((σ.1 0 13) + 1), σ.2)) (k2 : ¬ (16 ≤ l1) → sy_E shM mX12_pushesBefore (50, [some (.ref 0), some (.int (l1 + 1))], [], (sy_up σ.1 9 (((16 * (σ.1 0 13)) + l1).toNatClampNeg) (σ.1 2 l1.toNatClampNeg), σ.2)) Q) : sy_E shM mX12_pushesBefore (50, [some (.ref 0), some (.int l1)], [], σ) Q := by
  refine sy_bk [(.iload_n 1, 0, 0, 0, 0), (.bipush 16, 0, 0, 16, 0)] (53, [some (.ref 0), some (.int l1)], [.int 16, .int l1], σ) [] (by decide +kernel) rfl trivial ?_
  by_cases c1 : 16 ≤ l1
  · refine sy_bk [(.if_icmp .ge 29, 1, 82, 0, 0)] (82, [some (.ref 0), some (.int l1)], [], σ) [sy_cc .ge l1 16] (by decide +kernel) rfl ⟨c1, trivial⟩ ?_
    refine sy_bk [(.aload_n 0, 0, 0, 0, 0), (.dup, 0, 0, 0, 0), (.getfield 138, 12, 13, 0, 0), (.iconst 1, 0, 0, 1, 0), (.iadd, 0, 0, 0, 0), (.putfield 138, 12, 13, 0, 0)] (92, [some (.ref 0), some (.int l1)], [], (sy_up σ.1 0 13 ((σ.1 0 13) + 1), σ.2)) [] (by decide +kernel) rfl trivial ?_
    exact sy_retv rfl (by decide +kernel) (k1 c1)
  · refine sy_bk [(.if_icmp .ge 29, 0, 82, 0, 0)] (56, [some (.ref 0), some (.int l1)], [], σ) [¬ sy_cc .ge l1 16] (by decide +kernel) rfl ⟨c1, trivial⟩ ?_
    refine sy_bk [(.aload_n 0, 0, 0, 0, 0), (.getfield 44, 12, 11, 0, 0), (.bipush 16, 0, 0, 16, 0), (.aload_n 0, 0, 0, 0, 0), (.getfield 138, 12, 13, 0, 0), (.imul, 0, 0, 0, 0), (.iload_n 1, 0, 0, 0, 0), (.iadd, 0, 0, 0, 0), (.aload_n 0, 0, 0, 0, 0), (.getfield 22, 12, 3, 0, 0), (.iload_n 1, 0, 0, 0, 0), (.iaload, 0, 0, 0, 0), (.iastore, 0, 0, 0, 0), (.iinc 1 1, 0, 0, 1, 0), (.goto (-29), 0, 50, 0, 0)] (50, [some (.ref 0), some (.int (l1 + 1))], [], (sy_up σ.1 9 (((16 * (σ.1 0 13)) + l1).toNatClampNeg) (σ.1 2 l1.toNatClampNeg), σ.2)) [sy_okA shM 0 2 l1, sy_okA shM 0 9 ((16 * (σ.1 0 13)) + l1)] (by decide +kernel) rfl ⟨⟨16, _, rfl, (b1 c1)⟩, ⟨128, _, rfl, (b2 c1)⟩, trivial⟩ ?_
    exact k2 c1

set_option maxRecDepth 20000 in
theorem w_M_pushesBefore_11 {Q : Option Value → sy_S → Prop} {σ : sy_S} {l1 : Int32}  (b1 : ¬ (112 ≤ l1) → vp_in (l1 + 16) 128) (b2 : ¬ (112 ≤ l1) → vp_in l1 128) (k1 : 112 ≤ l1 → sy_E shM mX12_pushesBefore (50, [some (.ref 0), some (.int 0)], [], (sy_up σ.1 0 13 ((σ.1 0 13) - 1), σ.2)) Q) (k2 : ¬ (112 ≤ l1) → sy_E shM mX12_pushesBefore (11, [some (.ref 0), some (.int (l1 + 1))], [], (sy_up σ.1 9 l1.toNatClampNeg (σ.1 9 ((l1 + 16).toNatClampNeg)), σ.2)) Q) : sy_E shM mX12_pushesBefore (11, [some (.ref 0), some (.int l1)], [], σ) Q := by
  refine sy_bk [(.iload_n 1, 0, 0, 0, 0), (.bipush 112, 0, 0, 112, 0)] (14, [some (.ref 0), some (.int l1)], [.int 112, .int l1], σ) [] (by decide +kernel) rfl trivial ?_
  by_cases c1 : 112 ≤ l1
  · refine sy_bk [(.if_icmp .ge 24, 1, 38, 0, 0)] (38, [some (.ref 0), some (.int l1)], [], σ) [sy_cc .ge l1 112] (by decide +kernel) rfl ⟨c1, trivial⟩ ?_
    refine sy_bk [(.aload_n 0, 0, 0, 0, 0), (.dup, 0, 0, 0, 0), (.getfield 138, 12, 13, 0, 0), (.iconst 1, 0, 0, 1, 0), (.isub, 0, 0, 0, 0), (.putfield 138, 12, 13, 0, 0), (.iconst 0, 0, 0, 0, 0), (.istore_n 1, 0, 0, 0, 0)] (50, [some (.ref 0), some (.int 0)], [], (sy_up σ.1 0 13 ((σ.1 0 13) - 1), σ.2)) [] (by decide +kernel) rfl trivial ?_
    exact k1 c1
  · refine sy_bk [(.if_icmp .ge 24, 0, 38, 0, 0)] (17, [some (.ref 0), some (.int l1)], [], σ) [¬ sy_cc .ge l1 112] (by decide +kernel) rfl ⟨c1, trivial⟩ ?_
    refine sy_bk [(.aload_n 0, 0, 0, 0, 0), (.getfield 44, 12, 11, 0, 0), (.iload_n 1, 0, 0, 0, 0), (.aload_n 0, 0, 0, 0, 0), (.getfield 44, 12, 11, 0, 0), (.iload_n 1, 0, 0, 0, 0), (.bipush 16, 0, 0, 16, 0), (.iadd, 0, 0, 0, 0), (.iaload, 0, 0, 0, 0), (.iastore, 0, 0, 0, 0), (.iinc 1 1, 0, 0, 1, 0), (.goto (-24), 0, 11, 0, 0)] (11, [some (.ref 0), some (.int (l1 + 1))], [], (sy_up σ.1 9 l1.toNatClampNeg (σ.1 9 ((l1 + 16).toNatClampNeg)), σ.2)) [sy_okA shM 0 9 (l1 + 16), sy_okA shM 0 9 l1] (by decide +kernel) rfl ⟨⟨128, _, rfl, (b1 c1)⟩, ⟨128, _, rfl, (b2 c1)⟩, trivial⟩ ?_
    exact k2 c1

set_option maxRecDepth 20000 in
theorem w_M_changes_0 {Q : Option Value → sy_S → Prop} {σ : sy_S}    (k1 : sy_E shM mX12_pushesBefore (0, sy_ent [.ref 0] 2, [], σ) (fun r9 σ9 => sy_E shM mX12_changes (4, [some (.ref 0)], r9.toList ++ [], σ9) Q)) : sy_E shM mX12_changes (0, sy_ent [.ref 0] 1, [], σ) Q := by
  show sy_E shM mX12_changes (0, [some (.ref 0)], [], σ) _
  refine sy_bk [(.aload_n 0, 0, 0, 0, 0)] (1, [some (.ref 0)], [.ref 0], σ) [] (by decide +kernel) rfl trivial ?_
  refine sy_callV mX12_pushesBefore 0 [] [] kX12_pushesBefore jX12_144 (by decide +kernel) rfl rfl (Nat.le_of_ble_eq_true rfl) (Nat.le_of_ble_eq_true rfl) (by decide) rfl ?_
  exact k1

set_option maxRecDepth 20000 in
theorem w_M_changes_4 {Q : Option Value → sy_S → Prop} {σ : sy_S}    (k1 : Q none (sy_up σ.1 0 14 0, σ.2)) : sy_E shM mX12_changes (4, [some (.ref 0)], [], σ) Q := by
  refine sy_bk [(.aload_n 0, 0, 0, 0, 0), (.iconst 0, 0, 0, 0, 0), (.putfield 141, 12, 14, 0, 0)] (9, [some (.ref 0)], [], (sy_up σ.1 0 14 0, σ.2)) [] (by decide +kernel) rfl trivial ?_
  exact sy_retv rfl (by decide +kernel) (k1)

set_option maxRecDepth 20000 in
theorem w_M_undo_0 {Q : Option Value → sy_S → Prop} {σ : sy_S}    (k1 : ¬ (σ.1 0 13) = 0 → sy_E shM mX12_undo (22, [some (.ref 0), some (.int 0)], [], (sy_up σ.1 0 13 ((σ.1 0 13) - 1), σ.2)) Q) (k2 : ¬ (¬ (σ.1 0 13) = 0) → Q (some (.int (-3))) σ) : sy_E shM mX12_undo (0, sy_ent [.ref 0] 2, [], σ) Q := by
  show sy_E shM mX12_undo (0, [some (.ref 0), none], [], σ) _
  refine sy_bk [(.aload_n 0, 0, 0, 0, 0), (.getfield 138, 12, 13, 0, 0)] (4, [some (.ref 0), none], [.int (σ.1 0 13)], σ) [] (by decide +kernel) rfl trivial ?_
  by_cases c1 : ¬ (σ.1 0 13) = 0
  · refine sy_bk [(.ifCond .ne 6, 1, 10, 0, 0)] (10, [some (.ref 0), none], [], σ) [sy_cc .ne (σ.1 0 13) 0] (by decide +kernel) rfl ⟨c1, trivial⟩ ?_
    refine sy_bk [(.aload_n 0, 0, 0, 0, 0), (.dup, 0, 0, 0, 0), (.getfield 138, 12, 13, 0, 0), (.iconst 1, 0, 0, 1, 0), (.isub, 0, 0, 0, 0), (.putfield 138, 12, 13, 0, 0), (.iconst 0, 0, 0, 0, 0), (.istore_n 1, 0, 0, 0, 0)] (22, [some (.ref 0), some (.int 0)], [], (sy_up σ.1 0 13 ((σ.1 0 13) - 1), σ.2)) [] (by decide +kernel) rfl trivial ?_
    exact k1 c1
  · refine sy_bk [(.ifCond .ne 6, 0, 10, 0, 0)] (7, [some (.ref 0), none], [], σ) [¬ sy_cc .ne (σ.1 0 13) 0] (by decide +kernel) rfl ⟨c1, trivial⟩ ?_
    refine sy_bk [(.bipush (-3), 0, 0, (-3), 0)] (9, [some (.ref 0), none], [.int (-3)], σ) [] (by decide +kernel) rfl trivial ?_
    exact sy_reti rfl (by decide +kernel) (k2 c1)

set_option maxRecDepth 20000 in
theorem w_M_undo_22 {Q : Option Value → sy_S → Prop} {σ : sy_S} {l1 : Int32}  (b1 : ¬ (16 ≤ l1) → vp_in l1 16) (b2 : ¬ (16 ≤ l1) → vp_in ((16 * (σ.1 0 14)) + l1) 128) (b3 : ¬ (16 ≤ l1) → vp_in ((16 * (σ.1 0 13)) + l1) 128) (k1 : 16 ≤ l1 → Q (some (.int (σ.1 0 13))) (sy_up σ.1 0 14 ((σ.1 0 14) + 1), σ.2)) (k2 : ¬ (16 ≤ l1) → sy_E shM mX12_undo (22, [some (.ref 0), some (.int (l1 + 1))], [], (sy_up (sy_up σ.1 10 (((16 * (σ.1 0 14)) + l1).toNatClampNeg) (σ.1 2 l1.toNatClampNeg)) 2 l1.toNatClampNeg (σ.1 9 (((16 * (σ.1 0 13)) + l1).toNatClampNeg)), σ.2)) Q) : sy_E shM mX12_undo (22, [some (.ref 0), some (.int l1)], [], σ) Q := by
  refine sy_bk [(.iload_n 1, 0, 0, 0, 0), (.bipush 16, 0, 0, 16, 0)] (25, [some (.ref 0), some (.int l1)], [.int 16, .int l1], σ) [] (by decide +kernel) rfl trivial ?_
  by_cases c1 : 16 ≤ l1
  · refine sy_bk [(.if_icmp .ge 49, 1, 74, 0, 0)] (74, [some (.ref 0), some (.int l1)], [], σ) [sy_cc .ge l1 16] (by decide +kernel) rfl ⟨c1, trivial⟩ ?_
    refine sy_bk [(.aload_n 0, 0, 0, 0, 0), (.dup, 0, 0, 0, 0), (.getfield 141, 12, 14, 0, 0), (.iconst 1, 0, 0, 1, 0), (.iadd, 0, 0, 0, 0), (.putfield 141, 12, 14, 0, 0), (.aload_n 0, 0, 0, 0, 0), (.getfield 138, 12, 13, 0, 0)] (88, [some (.ref 0), some (.int l1)], [.int (σ.1 0 13)], (sy_up σ.1 0 14 ((σ.1 0 14) + 1), σ.2)) [] (by decide +kernel) rfl trivial ?_
    exact sy_reti rfl (by decide +kernel) (k1 c1)
  · refine sy_bk [(.if_icmp .ge 49, 0, 74, 0, 0)] (28, [some (.ref 0), some (.int l1)], [], σ) [¬ sy_cc .ge l1 16] (by decide +kernel) rfl ⟨c1, trivial⟩ ?_
    refine sy_bk [(.aload_n 0, 0, 0, 0, 0), (.getfield 47, 12, 12, 0, 0), (.bipush 16, 0, 0, 16, 0), (.aload_n 0, 0, 0, 0, 0), (.getfield 141, 12, 14, 0, 0), (.imul, 0, 0, 0, 0), (.iload_n 1, 0, 0, 0, 0), (.iadd, 0, 0, 0, 0), (.aload_n 0, 0, 0, 0, 0), (.getfield 22, 12, 3, 0, 0), (.iload_n 1, 0, 0, 0, 0), (.iaload, 0, 0, 0, 0), (.iastore, 0, 0, 0, 0), (.aload_n 0, 0, 0, 0, 0), (.getfield 22, 12, 3, 0, 0), (.iload_n 1, 0, 0, 0, 0), (.aload_n 0, 0, 0, 0, 0), (.getfield 44, 12, 11, 0, 0), (.bipush 16, 0, 0, 16, 0), (.aload_n 0, 0, 0, 0, 0), (.getfield 138, 12, 13, 0, 0), (.imul, 0, 0, 0, 0), (.iload_n 1, 0, 0, 0, 0), (.iadd, 0, 0, 0, 0), (.iaload, 0, 0, 0, 0), (.iastore, 0, 0, 0, 0), (.iinc 1 1, 0, 0, 1, 0), (.goto (-49), 0, 22, 0, 0)] (22, [some (.ref 0), some (.int (l1 + 1))], [], (sy_up (sy_up σ.1 10 (((16 * (σ.1 0 14)) + l1).toNatClampNeg) (σ.1 2 l1.toNatClampNeg)) 2 l1.toNatClampNeg (σ.1 9 (((16 * (σ.1 0 13)) + l1).toNatClampNeg)), σ.2)) [sy_okA shM 0 2 l1, sy_okA shM 0 10 ((16 * (σ.1 0 14)) + l1), sy_okA shM 0 9 ((16 * (σ.1 0 13)) + l1), sy_okA shM 0 2 l1] (by decide +kernel) rfl ⟨⟨16, _, rfl, (b1 c1)⟩, ⟨128, _, rfl, (b2 c1)⟩, ⟨128, _, rfl, (b3 c1)⟩, ⟨16, _, rfl, (b1 c1)⟩, trivial⟩ ?_
    exact k2 c1

set_option maxRecDepth 20000 in
theorem w_M_redo_0 {Q : Option Value → sy_S → Prop} {σ : sy_S}    (k1 : ¬ (σ.1 0 14) = 0 → sy_E shM mX12_pushesBefore (0, sy_ent [.ref 0] 2, [], σ) (fun r9 σ9 => sy_E shM mX12_redo (14, [some (.ref 0), none], r9.toList ++ [], σ9) Q)) (k2 : ¬ (¬ (σ.1 0 14) = 0) → Q (some (.int (-3))) σ) : sy_E shM mX12_redo (0, sy_ent [.ref 0] 2, [], σ) Q := by
  show sy_E shM mX12_redo (0, [some (.ref 0), none], [], σ) _
  refine sy_bk [(.aload_n 0, 0, 0, 0, 0), (.getfield 141, 12, 14, 0, 0)] (4, [some (.ref 0), none], [.int (σ.1 0 14)], σ) [] (by decide +kernel) rfl trivial ?_
  by_cases c1 : ¬ (σ.1 0 14) = 0
  · refine sy_bk [(.ifCond .ne 6, 1, 10, 0, 0)] (10, [some (.ref 0), none], [], σ) [sy_cc .ne (σ.1 0 14) 0] (by decide +kernel) rfl ⟨c1, trivial⟩ ?_
    refine sy_bk [(.aload_n 0, 0, 0, 0, 0)] (11, [some (.ref 0), none], [.ref 0], σ) [] (by decide +kernel) rfl trivial ?_
    refine sy_callV mX12_pushesBefore 0 [] [] kX12_pushesBefore jX12_144 (by decide +kernel) rfl rfl (Nat.le_of_ble_eq_true rfl) (Nat.le_of_ble_eq_true rfl) (by decide) rfl ?_
    exact k1 c1
  · refine sy_bk [(.ifCond .ne 6, 0, 10, 0, 0)] (7, [some (.ref 0), none], [], σ) [¬ sy_cc .ne (σ.1 0 14) 0] (by decide +kernel) rfl ⟨c1, trivial⟩ ?_
    refine sy_bk [(.bipush (-3), 0, 0, (-3), 0)] (9, [some (.ref 0), none], [.int (-3)], σ) [] (by decide +kernel) rfl trivial ?_
    exact sy_reti rfl (by decide +kernel) (k2 c1)

set_option maxRecDepth 20000 in
theorem w_M_redo_14 {Q : Option Value → sy_S → Prop} {σ : sy_S}    (k1 : sy_E shM mX12_redo (26, [some (.ref 0), some (.int 0)], [], (sy_up σ.1 0 14 ((σ.1 0 14) - 1), σ.2)) Q) : sy_E shM mX12_redo (14, [some (.ref 0), none], [], σ) Q := by
  refine sy_bk [(.aload_n 0, 0, 0, 0, 0), (.dup, 0, 0, 0, 0), (.getfield 141, 12, 14, 0, 0), (.iconst 1, 0, 0, 1, 0), (.isub, 0, 0, 0, 0), (.putfield 141, 12, 14, 0, 0), (.iconst 0, 0, 0, 0, 0), (.istore_n 1, 0, 0, 0, 0)] (26, [some (.ref 0), some (.int 0)], [], (sy_up σ.1 0 14 ((σ.1 0 14) - 1), σ.2)) [] (by decide +kernel) rfl trivial ?_
  exact k1

set_option maxRecDepth 20000 in
theorem w_M_redo_26 {Q : Option Value → sy_S → Prop} {σ : sy_S} {l1 : Int32}  (b1 : ¬ (16 ≤ l1) → vp_in ((16 * (σ.1 0 14)) + l1) 128) (b2 : ¬ (16 ≤ l1) → vp_in l1 16) (k1 : 16 ≤ l1 → Q (some (.int (σ.1 0 14))) σ) (k2 : ¬ (16 ≤ l1) → sy_E shM mX12_redo (26, [some (.ref 0), some (.int (l1 + 1))], [], (sy_up σ.1 2 l1.toNatClampNeg (σ.1 10 (((16 * (σ.1 0 14)) + l1).toNatClampNeg)), σ.2)) Q) : sy_E shM mX12_redo (26, [some (.ref 0), some (.int l1)], [], σ) Q := by
  refine sy_bk [(.iload_n 1, 0, 0, 0, 0), (.bipush 16, 0, 0, 16, 0)] (29, [some (.ref 0), some (.int l1)], [.int 16, .int l1], σ) [] (by decide +kernel) rfl trivial ?_
  by_cases c1 : 16 ≤ l1
  · refine sy_bk [(.if_icmp .ge 29, 1, 58, 0, 0)] (58, [some (.ref 0), some (.int l1)], [], σ) [sy_cc .ge l1 16] (by decide +kernel) rfl ⟨c1, trivial⟩ ?_
    refine sy_bk [(.aload_n 0, 0, 0, 0, 0), (.getfield 141, 12, 14, 0, 0)] (62, [some (.ref 0), some (.int l1)], [.int (σ.1 0 14)], σ) [] (by decide +kernel) rfl trivial ?_
    exact sy_reti rfl (by decide +kernel) (k1 c1)
  · refine sy_bk [(.if_icmp .ge 29, 0, 58, 0, 0)] (32, [some (.ref 0), some (.int l1)], [], σ) [¬ sy_cc .ge l1 16] (by decide +kernel) rfl ⟨c1, trivial⟩ ?_
    refine sy_bk [(.aload_n 0, 0, 0, 0, 0), (.getfield 22, 12, 3, 0, 0), (.iload_n 1, 0, 0, 0, 0), (.aload_n 0, 0, 0, 0, 0), (.getfield 47, 12, 12, 0, 0), (.bipush 16, 0, 0, 16, 0), (.aload_n 0, 0, 0, 0, 0), (.getfield 141, 12, 14, 0, 0), (.imul, 0, 0, 0, 0), (.iload_n 1, 0, 0, 0, 0), (.iadd, 0, 0, 0, 0), (.iaload, 0, 0, 0, 0), (.iastore, 0, 0, 0, 0), (.iinc 1 1, 0, 0, 1, 0), (.goto (-29), 0, 26, 0, 0)] (26, [some (.ref 0), some (.int (l1 + 1))], [], (sy_up σ.1 2 l1.toNatClampNeg (σ.1 10 (((16 * (σ.1 0 14)) + l1).toNatClampNeg)), σ.2)) [sy_okA shM 0 10 ((16 * (σ.1 0 14)) + l1), sy_okA shM 0 2 l1] (by decide +kernel) rfl ⟨⟨128, _, rfl, (b1 c1)⟩, ⟨16, _, rfl, (b2 c1)⟩, trivial⟩ ?_
    exact k2 c1

set_option maxRecDepth 20000 in
theorem w_M_size_0 {Q : Option Value → sy_S → Prop} {σ : sy_S} {r : Int32} {c : Int32}   (k1 : (1 ≤ r.toInt64 ∧ r.toInt64 ≤ 4) → (1 ≤ c.toInt64 ∧ c.toInt64 ≤ 4) → sy_E shM mX12_size (45, [some (.ref 0), none, none, some (.int ((σ.1 0 0) * (σ.1 0 1))), some (.int 0)], [], (sy_up (sy_up σ.1 0 0 r) 0 1 c, σ.2)) Q) (k2 : (1 ≤ r.toInt64 ∧ r.toInt64 ≤ 4) → (¬ (1 ≤ c.toInt64 ∧ c.toInt64 ≤ 4)) → Q (some (.int (-2))) σ) (k3 : (¬ (1 ≤ r.toInt64 ∧ r.toInt64 ≤ 4)) → Q (some (.int (-2))) σ) : sy_E shM mX12_size (0, sy_ent [.ref 0, .int r, .int c] 5, [], σ) Q := by
  show sy_E shM mX12_size (0, [some (.ref 0), some (.int r), some (.int c), none, none], [], σ) _
  refine sy_bk [(.iload_n 1, 0, 0, 0, 0), (.i2l, 0, 0, 0, 0), (.lconst 1, 0, 0, 0, 1), (.ldc2_w 147, 0, 0, 0, 4)] (6, [some (.ref 0), some (.int r), some (.int c), none, none], [.long 4, .long 1, .long r.toInt64], σ) [] (by decide +kernel) rfl trivial ?_
  refine sy_callS mX12_in [.long r.toInt64, .long 1, .long 4] [] kX12_in jX12_109 (by decide +kernel) rfl rfl (Nat.le_of_ble_eq_true rfl) (Nat.le_of_ble_eq_true rfl) (by decide) ?_
  refine e_m_in (σ := σ) (v := r.toInt64) (lo := 1) (hi := 4) ?_ ?_
  · intro c1
    show sy_E shM mX12_size (9, [some (.ref 0), some (.int r), some (.int c), none, none], [.int 1], σ) _
    refine sy_bk [(.ifCond .eq 15, 0, 24, 0, 0), (.iload_n 2, 0, 0, 0, 0), (.i2l, 0, 0, 0, 0), (.lconst 1, 0, 0, 0, 1), (.ldc2_w 147, 0, 0, 0, 4)] (18, [some (.ref 0), some (.int r), some (.int c), none, none], [.long 4, .long 1, .long c.toInt64], σ) [¬ sy_cc .eq 1 0] (by decide +kernel) rfl ⟨(by decide : ¬ ((1 : Int32) = 0)), trivial⟩ ?_
    refine sy_callS mX12_in [.long c.toInt64, .long 1, .long 4] [] kX12_in jX12_109 (by decide +kernel) rfl rfl (Nat.le_of_ble_eq_true rfl) (Nat.le_of_ble_eq_true rfl) (by decide) ?_
    refine e_m_in (σ := σ) (v := c.toInt64) (lo := 1) (hi := 4) ?_ ?_
    · intro c2
      show sy_E shM mX12_size (21, [some (.ref 0), some (.int r), some (.int c), none, none], [.int 1], σ) _
      refine sy_bk [(.ifCond .ne 6, 1, 27, 0, 0), (.aload_n 0, 0, 0, 0, 0)] (28, [some (.ref 0), some (.int r), some (.int c), none, none], [.ref 0], σ) [sy_cc .ne 1 0] (by decide +kernel) rfl ⟨(by decide : (¬ (1 : Int32) = 0)), trivial⟩ ?_
      refine sy_callV mX12_cells 0 [] [] kX12_cells jX12_105 (by decide +kernel) rfl rfl (Nat.le_of_ble_eq_true rfl) (Nat.le_of_ble_eq_true rfl) (by decide) rfl ?_
      refine w_m_cells (σ := σ) ?_
      show sy_E shM mX12_size (31, [some (.ref 0), some (.int r), some (.int c), none, none], [.int ((σ.1 0 0) * (σ.1 0 1))], σ) _
      refine sy_bk [(.istore_n 3, 0, 0, 0, 0), (.aload_n 0, 0, 0, 0, 0), (.iload_n 1, 0, 0, 0, 0), (.putfield 9, 12, 0, 0, 0), (.aload_n 0, 0, 0, 0, 0), (.iload_n 2, 0, 0, 0, 0), (.putfield 15, 12, 1, 0, 0), (.iconst 0, 0, 0, 0, 0), (.istore 4, 0, 0, 0, 0)] (45, [some (.ref 0), some (.int r), some (.int c), some (.int ((σ.1 0 0) * (σ.1 0 1))), some (.int 0)], [], (sy_up (sy_up σ.1 0 0 r) 0 1 c, σ.2)) [] (by decide +kernel) rfl trivial ?_
      refine sy_drop [some (.ref 0), none, none, some (.int ((σ.1 0 0) * (σ.1 0 1))), some (.int 0)] ⟨rfl, rfl, rfl, trivial⟩ ?_
      exact k1 c1 c2
    · intro c3
      show sy_E shM mX12_size (21, [some (.ref 0), some (.int r), some (.int c), none, none], [.int 0], σ) _
      refine sy_bk [(.ifCond .ne 6, 0, 27, 0, 0), (.bipush (-2), 0, 0, (-2), 0)] (26, [some (.ref 0), some (.int r), some (.int c), none, none], [.int (-2)], σ) [¬ sy_cc .ne 0 0] (by decide +kernel) rfl ⟨(by decide : ¬ (¬ (0 : Int32) = 0)), trivial⟩ ?_
      exact sy_reti rfl (by decide +kernel) (k2 c1 c3)
  · intro c4
    show sy_E shM mX12_size (9, [some (.ref 0), some (.int r), some (.int c), none, none], [.int 0], σ) _
    refine sy_bk [(.ifCond .eq 15, 1, 24, 0, 0), (.bipush (-2), 0, 0, (-2), 0)] (26, [some (.ref 0), some (.int r), some (.int c), none, none], [.int (-2)], σ) [sy_cc .eq 0 0] (by decide +kernel) rfl ⟨(by decide : ((0 : Int32) = 0)), trivial⟩ ?_
    exact sy_reti rfl (by decide +kernel) (k3 c4)

set_option maxRecDepth 20000 in
theorem w_M_size_45 {Q : Option Value → sy_S → Prop} {σ : sy_S} {l3 : Int32} {l4 : Int32}  (b1 : ¬ (16 ≤ l4) → vp_in l4 16) (k1 : 16 ≤ l4 → sy_E shM mX12_forgets (0, sy_ent [.ref 0] 2, [], σ) (fun r9 σ9 => sy_E shM mX12_size (78, [none, none, none, some (.int l3), none], r9.toList ++ [], σ9) Q)) (k2 : ¬ (16 ≤ l4) → sy_E shM mX12_size (45, [some (.ref 0), none, none, some (.int l3), some (.int (l4 + 1))], [], (sy_up (sy_up σ.1 1 l4.toNatClampNeg (vp_nar .boolean 0)) 2 l4.toNatClampNeg 0, σ.2)) Q) : sy_E shM mX12_size (45, [some (.ref 0), none, none, some (.int l3), some (.int l4)], [], σ) Q := by
  refine sy_bk [(.iload 4, 0, 0, 0, 0), (.bipush 16, 0, 0, 16, 0)] (49, [some (.ref 0), none, none, some (.int l3), some (.int l4)], [.int 16, .int l4], σ) [] (by decide +kernel) rfl trivial ?_
  by_cases c1 : 16 ≤ l4
  · refine sy_bk [(.if_icmp .ge 25, 1, 74, 0, 0)] (74, [some (.ref 0), none, none, some (.int l3), some (.int l4)], [], σ) [sy_cc .ge l4 16] (by decide +kernel) rfl ⟨c1, trivial⟩ ?_
    refine sy_bk [(.aload_n 0, 0, 0, 0, 0)] (75, [some (.ref 0), none, none, some (.int l3), some (.int l4)], [.ref 0], σ) [] (by decide +kernel) rfl trivial ?_
    refine sy_drop [none, none, none, some (.int l3), none] ⟨rfl, trivial⟩ ?_
    refine sy_callV mX12_forgets 0 [] [] kX12_forgets jX12_149 (by decide +kernel) rfl rfl (Nat.le_of_ble_eq_true rfl) (Nat.le_of_ble_eq_true rfl) (by decide) rfl ?_
    exact k1 c1
  · refine sy_bk [(.if_icmp .ge 25, 0, 74, 0, 0)] (52, [some (.ref 0), none, none, some (.int l3), some (.int l4)], [], σ) [¬ sy_cc .ge l4 16] (by decide +kernel) rfl ⟨c1, trivial⟩ ?_
    refine sy_bk [(.aload_n 0, 0, 0, 0, 0), (.getfield 18, 12, 2, 0, 0), (.iload 4, 0, 0, 0, 0), (.iconst 0, 0, 0, 0, 0), (.bastore, 0, 0, 0, 0), (.aload_n 0, 0, 0, 0, 0), (.getfield 22, 12, 3, 0, 0), (.iload 4, 0, 0, 0, 0), (.iconst 0, 0, 0, 0, 0), (.iastore, 0, 0, 0, 0), (.iinc 4 1, 0, 0, 1, 0), (.goto (-26), 0, 45, 0, 0)] (45, [some (.ref 0), none, none, some (.int l3), some (.int (l4 + 1))], [], (sy_up (sy_up σ.1 1 l4.toNatClampNeg (vp_nar .boolean 0)) 2 l4.toNatClampNeg 0, σ.2)) [sy_okA shM 1 1 l4, sy_okA shM 0 2 l4] (by decide +kernel) rfl ⟨⟨16, _, rfl, (b1 c1)⟩, ⟨16, _, rfl, (b1 c1)⟩, trivial⟩ ?_
    exact k2 c1

set_option maxRecDepth 20000 in
theorem w_M_size_78 {Q : Option Value → sy_S → Prop} {σ : sy_S} {l3 : Int32}   (k1 : Q (some (.int l3)) σ) : sy_E shM mX12_size (78, [none, none, none, some (.int l3), none], [], σ) Q := by
  refine sy_bk [(.iload_n 3, 0, 0, 0, 0)] (79, [none, none, none, some (.int l3), none], [.int l3], σ) [] (by decide +kernel) rfl trivial ?_
  exact sy_reti rfl (by decide +kernel) (k1)

set_option maxRecDepth 20000 in
theorem w_M_wall_0 {Q : Option Value → sy_S → Prop} {σ : sy_S} {cell : Int32} {b : Int32}  (b1 : (0 ≤ cell.toInt64 ∧ cell.toInt64 ≤ ((((σ.1 0 0) * (σ.1 0 1)) - 1).toInt64)) → vp_in cell 16) (k1 : (0 ≤ cell.toInt64 ∧ cell.toInt64 ≤ ((((σ.1 0 0) * (σ.1 0 1)) - 1).toInt64)) → (σ.1 1 cell.toNatClampNeg) = b → (σ.1 1 cell.toNatClampNeg) = 0 → Q (some (.int 0)) σ) (k2 : (0 ≤ cell.toInt64 ∧ cell.toInt64 ≤ ((((σ.1 0 0) * (σ.1 0 1)) - 1).toInt64)) → (σ.1 1 cell.toNatClampNeg) = b → ¬ ((σ.1 1 cell.toNatClampNeg) = 0) → Q (some (.int 1)) σ) (k3 : (0 ≤ cell.toInt64 ∧ cell.toInt64 ≤ ((((σ.1 0 0) * (σ.1 0 1)) - 1).toInt64)) → ¬ ((σ.1 1 cell.toNatClampNeg) = b) → sy_E shM mX12_forgets (0, sy_ent [.ref 0] 2, [], (sy_up (sy_up σ.1 1 cell.toNatClampNeg (vp_nar .boolean b)) 2 cell.toNatClampNeg 0, σ.2)) (fun r9 σ9 => sy_E shM mX12_wall (48, [none, none, none, some (.int (σ.1 1 cell.toNatClampNeg))], r9.toList ++ [], σ9) Q)) (k4 : (¬ (0 ≤ cell.toInt64 ∧ cell.toInt64 ≤ ((((σ.1 0 0) * (σ.1 0 1)) - 1).toInt64))) → Q (some (.int (-1))) σ) : sy_E shM mX12_wall (0, sy_ent [.ref 0, .int cell, .int b] 4, [], σ) Q := by
  show sy_E shM mX12_wall (0, [some (.ref 0), some (.int cell), some (.int b), none], [], σ) _
  refine sy_bk [(.iload_n 1, 0, 0, 0, 0), (.i2l, 0, 0, 0, 0), (.lconst 0, 0, 0, 0, 0), (.aload_n 0, 0, 0, 0, 0)] (4, [some (.ref 0), some (.int cell), some (.int b), none], [.ref 0, .long 0, .long cell.toInt64], σ) [] (by decide +kernel) rfl trivial ?_
  refine sy_callV mX12_cells 0 [] [.long 0, .long cell.toInt64] kX12_cells jX12_105 (by decide +kernel) rfl rfl (Nat.le_of_ble_eq_true rfl) (Nat.le_of_ble_eq_true rfl) (by decide) rfl ?_
  refine w_m_cells (σ := σ) ?_
  show sy_E shM mX12_wall (7, [some (.ref 0), some (.int cell), some (.int b), none], [.int ((σ.1 0 0) * (σ.1 0 1)), .long 0, .long cell.toInt64], σ) _
  refine sy_bk [(.iconst 1, 0, 0, 1, 0), (.isub, 0, 0, 0, 0), (.i2l, 0, 0, 0, 0)] (10, [some (.ref 0), some (.int cell), some (.int b), none], [.long ((((σ.1 0 0) * (σ.1 0 1)) - 1).toInt64), .long 0, .long cell.toInt64], σ) [] (by decide +kernel) rfl trivial ?_
  refine sy_callS mX12_in [.long cell.toInt64, .long 0, .long ((((σ.1 0 0) * (σ.1 0 1)) - 1).toInt64)] [] kX12_in jX12_109 (by decide +kernel) rfl rfl (Nat.le_of_ble_eq_true rfl) (Nat.le_of_ble_eq_true rfl) (by decide) ?_
  refine e_m_in (σ := σ) (v := cell.toInt64) (lo := 0) (hi := ((((σ.1 0 0) * (σ.1 0 1)) - 1).toInt64)) ?_ ?_
  · intro c1
    show sy_E shM mX12_wall (13, [some (.ref 0), some (.int cell), some (.int b), none], [.int 1], σ) _
    refine sy_bk [(.ifCond .ne 5, 1, 18, 0, 0), (.aload_n 0, 0, 0, 0, 0), (.getfield 18, 12, 2, 0, 0), (.iload_n 1, 0, 0, 0, 0), (.baload, 0, 0, 0, 0), (.istore_n 3, 0, 0, 0, 0), (.iload_n 3, 0, 0, 0, 0), (.iload_n 2, 0, 0, 0, 0)] (27, [some (.ref 0), some (.int cell), some (.int b), some (.int (σ.1 1 cell.toNatClampNeg))], [.int b, .int (σ.1 1 cell.toNatClampNeg)], σ) [sy_cc .ne 1 0, sy_okA shM 1 1 cell] (by decide +kernel) rfl ⟨(by decide : (¬ (1 : Int32) = 0)), ⟨16, _, rfl, (b1 c1)⟩, trivial⟩ ?_
    by_cases c2 : (σ.1 1 cell.toNatClampNeg) = b
    · refine sy_bk [(.if_icmp .eq 21, 1, 48, 0, 0)] (48, [some (.ref 0), some (.int cell), some (.int b), some (.int (σ.1 1 cell.toNatClampNeg))], [], σ) [sy_cc .eq (σ.1 1 cell.toNatClampNeg) b] (by decide +kernel) rfl ⟨c2, trivial⟩ ?_
      refine sy_bk [(.iload_n 3, 0, 0, 0, 0)] (49, [some (.ref 0), some (.int cell), some (.int b), some (.int (σ.1 1 cell.toNatClampNeg))], [.int (σ.1 1 cell.toNatClampNeg)], σ) [] (by decide +kernel) rfl trivial ?_
      by_cases c3 : (σ.1 1 cell.toNatClampNeg) = 0
      · refine sy_bk [(.ifCond .eq 7, 1, 56, 0, 0)] (56, [some (.ref 0), some (.int cell), some (.int b), some (.int (σ.1 1 cell.toNatClampNeg))], [], σ) [sy_cc .eq (σ.1 1 cell.toNatClampNeg) 0] (by decide +kernel) rfl ⟨c3, trivial⟩ ?_
        refine sy_bk [(.iconst 0, 0, 0, 0, 0)] (57, [some (.ref 0), some (.int cell), some (.int b), some (.int (σ.1 1 cell.toNatClampNeg))], [.int 0], σ) [] (by decide +kernel) rfl trivial ?_
        exact sy_reti rfl (by decide +kernel) (k1 c1 c2 c3)
      · refine sy_bk [(.ifCond .eq 7, 0, 56, 0, 0)] (52, [some (.ref 0), some (.int cell), some (.int b), some (.int (σ.1 1 cell.toNatClampNeg))], [], σ) [¬ sy_cc .eq (σ.1 1 cell.toNatClampNeg) 0] (by decide +kernel) rfl ⟨c3, trivial⟩ ?_
        refine sy_bk [(.iconst 1, 0, 0, 1, 0), (.goto 4, 0, 57, 0, 0)] (57, [some (.ref 0), some (.int cell), some (.int b), some (.int (σ.1 1 cell.toNatClampNeg))], [.int 1], σ) [] (by decide +kernel) rfl trivial ?_
        exact sy_reti rfl (by decide +kernel) (k2 c1 c2 c3)
    · refine sy_bk [(.if_icmp .eq 21, 0, 48, 0, 0)] (30, [some (.ref 0), some (.int cell), some (.int b), some (.int (σ.1 1 cell.toNatClampNeg))], [], σ) [¬ sy_cc .eq (σ.1 1 cell.toNatClampNeg) b] (by decide +kernel) rfl ⟨c2, trivial⟩ ?_
      refine sy_bk [(.aload_n 0, 0, 0, 0, 0), (.getfield 18, 12, 2, 0, 0), (.iload_n 1, 0, 0, 0, 0), (.iload_n 2, 0, 0, 0, 0), (.bastore, 0, 0, 0, 0), (.aload_n 0, 0, 0, 0, 0), (.getfield 22, 12, 3, 0, 0), (.iload_n 1, 0, 0, 0, 0), (.iconst 0, 0, 0, 0, 0), (.iastore, 0, 0, 0, 0), (.aload_n 0, 0, 0, 0, 0)] (45, [some (.ref 0), some (.int cell), some (.int b), some (.int (σ.1 1 cell.toNatClampNeg))], [.ref 0], (sy_up (sy_up σ.1 1 cell.toNatClampNeg (vp_nar .boolean b)) 2 cell.toNatClampNeg 0, σ.2)) [sy_okA shM 1 1 cell, sy_okA shM 0 2 cell] (by decide +kernel) rfl ⟨⟨16, _, rfl, (b1 c1)⟩, ⟨16, _, rfl, (b1 c1)⟩, trivial⟩ ?_
      refine sy_drop [none, none, none, some (.int (σ.1 1 cell.toNatClampNeg))] ⟨rfl, trivial⟩ ?_
      refine sy_callV mX12_forgets 0 [] [] kX12_forgets jX12_149 (by decide +kernel) rfl rfl (Nat.le_of_ble_eq_true rfl) (Nat.le_of_ble_eq_true rfl) (by decide) rfl ?_
      exact k3 c1 c2
  · intro c4
    show sy_E shM mX12_wall (13, [some (.ref 0), some (.int cell), some (.int b), none], [.int 0], σ) _
    refine sy_bk [(.ifCond .ne 5, 0, 18, 0, 0), (.iconst (-1), 0, 0, (-1), 0)] (17, [some (.ref 0), some (.int cell), some (.int b), none], [.int (-1)], σ) [¬ sy_cc .ne 0 0] (by decide +kernel) rfl ⟨(by decide : ¬ (¬ (0 : Int32) = 0)), trivial⟩ ?_
    exact sy_reti rfl (by decide +kernel) (k4 c4)

set_option maxRecDepth 20000 in
theorem w_M_wall_48 {Q : Option Value → sy_S → Prop} {σ : sy_S} {l3 : Int32}   (k1 : l3 = 0 → Q (some (.int 0)) σ) (k2 : ¬ (l3 = 0) → Q (some (.int 1)) σ) : sy_E shM mX12_wall (48, [none, none, none, some (.int l3)], [], σ) Q := by
  refine sy_bk [(.iload_n 3, 0, 0, 0, 0)] (49, [none, none, none, some (.int l3)], [.int l3], σ) [] (by decide +kernel) rfl trivial ?_
  by_cases c1 : l3 = 0
  · refine sy_bk [(.ifCond .eq 7, 1, 56, 0, 0)] (56, [none, none, none, some (.int l3)], [], σ) [sy_cc .eq l3 0] (by decide +kernel) rfl ⟨c1, trivial⟩ ?_
    refine sy_bk [(.iconst 0, 0, 0, 0, 0)] (57, [none, none, none, some (.int l3)], [.int 0], σ) [] (by decide +kernel) rfl trivial ?_
    exact sy_reti rfl (by decide +kernel) (k1 c1)
  · refine sy_bk [(.ifCond .eq 7, 0, 56, 0, 0)] (52, [none, none, none, some (.int l3)], [], σ) [¬ sy_cc .eq l3 0] (by decide +kernel) rfl ⟨c1, trivial⟩ ?_
    refine sy_bk [(.iconst 1, 0, 0, 1, 0), (.goto 4, 0, 57, 0, 0)] (57, [none, none, none, some (.int l3)], [.int 1], σ) [] (by decide +kernel) rfl trivial ?_
    exact sy_reti rfl (by decide +kernel) (k2 c1)

set_option maxRecDepth 20000 in
theorem w_M_set_0 {Q : Option Value → sy_S → Prop} {σ : sy_S} {cell : Int32} {v : Int32} {G : sg_G}  (b1 : gm G σ.1) (k1 : ∀ (m_1 : Nat), px (sg_p G) cell = some m_1 → (0 ≤ v.toInt64 ∧ v.toInt64 ≤ 999) → sy_E shM mX12_changes (0, sy_ent [.ref 0] 1, [], σ) (fun r9 σ9 => sy_E shM mX12_set (29, [some (.ref 0), some (.int cell), some (.int v), none], r9.toList ++ [], σ9) Q)) (k2 : ∀ (m_1 : Nat), px (sg_p G) cell = some m_1 → (¬ (0 ≤ v.toInt64 ∧ v.toInt64 ≤ 999)) → Q (some (.int (-2))) σ) (k3 : px (sg_p G) cell = none → Q (some (.int (-1))) σ) : sy_E shM mX12_set (0, sy_ent [.ref 0, .int cell, .int v] 4, [], σ) Q := by
  show sy_E shM mX12_set (0, [some (.ref 0), some (.int cell), some (.int v), none], [], σ) _
  refine sy_bk [(.aload_n 0, 0, 0, 0, 0), (.iload_n 1, 0, 0, 0, 0)] (2, [some (.ref 0), some (.int cell), some (.int v), none], [.int cell, .ref 0], σ) [] (by decide +kernel) rfl trivial ?_
  refine sy_callV mX12_isPlace 0 [.int cell] [] kX12_isPlace jX12_152 (by decide +kernel) rfl rfl (Nat.le_of_ble_eq_true rfl) (Nat.le_of_ble_eq_true rfl) (by decide) rfl ?_
  refine e_m_isPl (σ := σ) (cell := cell) b1 ?_ ?_
  · intro m_1 c2
    show sy_E shM mX12_set (5, [some (.ref 0), some (.int cell), some (.int v), none], [.int 1], σ) _
    refine sy_bk [(.ifCond .ne 5, 1, 10, 0, 0), (.iload_n 2, 0, 0, 0, 0), (.i2l, 0, 0, 0, 0), (.lconst 0, 0, 0, 0, 0), (.ldc2_w 156, 0, 0, 0, 999)] (16, [some (.ref 0), some (.int cell), some (.int v), none], [.long 999, .long 0, .long v.toInt64], σ) [sy_cc .ne 1 0] (by decide +kernel) rfl ⟨(by decide : (¬ (1 : Int32) = 0)), trivial⟩ ?_
    refine sy_callS mX12_in [.long v.toInt64, .long 0, .long 999] [] kX12_in jX12_109 (by decide +kernel) rfl rfl (Nat.le_of_ble_eq_true rfl) (Nat.le_of_ble_eq_true rfl) (by decide) ?_
    refine e_m_in (σ := σ) (v := v.toInt64) (lo := 0) (hi := 999) ?_ ?_
    · intro c3
      show sy_E shM mX12_set (19, [some (.ref 0), some (.int cell), some (.int v), none], [.int 1], σ) _
      refine sy_bk [(.ifCond .ne 6, 1, 25, 0, 0), (.aload_n 0, 0, 0, 0, 0)] (26, [some (.ref 0), some (.int cell), some (.int v), none], [.ref 0], σ) [sy_cc .ne 1 0] (by decide +kernel) rfl ⟨(by decide : (¬ (1 : Int32) = 0)), trivial⟩ ?_
      refine sy_callV mX12_changes 0 [] [] kX12_changes jX12_158 (by decide +kernel) rfl rfl (Nat.le_of_ble_eq_true rfl) (Nat.le_of_ble_eq_true rfl) (by decide) rfl ?_
      exact k1 m_1 c2 c3
    · intro c4
      show sy_E shM mX12_set (19, [some (.ref 0), some (.int cell), some (.int v), none], [.int 0], σ) _
      refine sy_bk [(.ifCond .ne 6, 0, 25, 0, 0), (.bipush (-2), 0, 0, (-2), 0)] (24, [some (.ref 0), some (.int cell), some (.int v), none], [.int (-2)], σ) [¬ sy_cc .ne 0 0] (by decide +kernel) rfl ⟨(by decide : ¬ (¬ (0 : Int32) = 0)), trivial⟩ ?_
      exact sy_reti rfl (by decide +kernel) (k2 m_1 c2 c4)
  · intro c5
    show sy_E shM mX12_set (5, [some (.ref 0), some (.int cell), some (.int v), none], [.int 0], σ) _
    refine sy_bk [(.ifCond .ne 5, 0, 10, 0, 0), (.iconst (-1), 0, 0, (-1), 0)] (9, [some (.ref 0), some (.int cell), some (.int v), none], [.int (-1)], σ) [¬ sy_cc .ne 0 0] (by decide +kernel) rfl ⟨(by decide : ¬ (¬ (0 : Int32) = 0)), trivial⟩ ?_
    exact sy_reti rfl (by decide +kernel) (k3 c5)

set_option maxRecDepth 20000 in
theorem w_M_set_29 {Q : Option Value → sy_S → Prop} {σ : sy_S} {l1 : Int32} {l2 : Int32}  (b1 : vp_in l1 16) (k1 : Q (some (.int (σ.1 2 l1.toNatClampNeg))) (sy_up σ.1 2 l1.toNatClampNeg l2, σ.2)) : sy_E shM mX12_set (29, [some (.ref 0), some (.int l1), some (.int l2), none], [], σ) Q := by
  refine sy_bk [(.aload_n 0, 0, 0, 0, 0), (.getfield 22, 12, 3, 0, 0), (.iload_n 1, 0, 0, 0, 0), (.iaload, 0, 0, 0, 0), (.istore_n 3, 0, 0, 0, 0), (.aload_n 0, 0, 0, 0, 0), (.getfield 22, 12, 3, 0, 0), (.iload_n 1, 0, 0, 0, 0), (.iload_n 2, 0, 0, 0, 0), (.iastore, 0, 0, 0, 0), (.iload_n 3, 0, 0, 0, 0)] (44, [some (.ref 0), some (.int l1), some (.int l2), some (.int (σ.1 2 l1.toNatClampNeg))], [.int (σ.1 2 l1.toNatClampNeg)], (sy_up σ.1 2 l1.toNatClampNeg l2, σ.2)) [sy_okA shM 0 2 l1, sy_okA shM 0 2 l1] (by decide +kernel) rfl ⟨⟨16, _, rfl, b1⟩, ⟨16, _, rfl, b1⟩, trivial⟩ ?_
  exact sy_reti rfl (by decide +kernel) (k1)

set_option maxRecDepth 20000 in
theorem w_M_height_0 {Q : Option Value → sy_S → Prop} {σ : sy_S} {cell : Int32} {G : sg_G}  (b1 : gm G σ.1) (b2 : ∀ (m_1 : Nat), px (sg_p G) cell = some m_1 → vp_in cell 16) (k1 : ∀ (m_1 : Nat), px (sg_p G) cell = some m_1 → Q (some (.int (σ.1 2 cell.toNatClampNeg))) σ) (k2 : px (sg_p G) cell = none → Q (some (.int (-1))) σ) : sy_E shM mX12_height (0, sy_ent [.ref 0, .int cell] 2, [], σ) Q := by
  show sy_E shM mX12_height (0, [some (.ref 0), some (.int cell)], [], σ) _
  refine sy_bk [(.aload_n 0, 0, 0, 0, 0), (.iload_n 1, 0, 0, 0, 0)] (2, [some (.ref 0), some (.int cell)], [.int cell, .ref 0], σ) [] (by decide +kernel) rfl trivial ?_
  refine sy_callV mX12_isPlace 0 [.int cell] [] kX12_isPlace jX12_152 (by decide +kernel) rfl rfl (Nat.le_of_ble_eq_true rfl) (Nat.le_of_ble_eq_true rfl) (by decide) rfl ?_
  refine e_m_isPl (σ := σ) (cell := cell) b1 ?_ ?_
  · intro m_1 c2
    show sy_E shM mX12_height (5, [some (.ref 0), some (.int cell)], [.int 1], σ) _
    refine sy_bk [(.ifCond .eq 12, 0, 17, 0, 0), (.aload_n 0, 0, 0, 0, 0), (.getfield 22, 12, 3, 0, 0), (.iload_n 1, 0, 0, 0, 0), (.iaload, 0, 0, 0, 0), (.goto 4, 0, 18, 0, 0)] (18, [some (.ref 0), some (.int cell)], [.int (σ.1 2 cell.toNatClampNeg)], σ) [¬ sy_cc .eq 1 0, sy_okA shM 0 2 cell] (by decide +kernel) rfl ⟨(by decide : ¬ ((1 : Int32) = 0)), ⟨16, _, rfl, (b2 m_1 c2)⟩, trivial⟩ ?_
    exact sy_reti rfl (by decide +kernel) (k1 m_1 c2)
  · intro c3
    show sy_E shM mX12_height (5, [some (.ref 0), some (.int cell)], [.int 0], σ) _
    refine sy_bk [(.ifCond .eq 12, 1, 17, 0, 0), (.iconst (-1), 0, 0, (-1), 0)] (18, [some (.ref 0), some (.int cell)], [.int (-1)], σ) [sy_cc .eq 0 0] (by decide +kernel) rfl ⟨(by decide : ((0 : Int32) = 0)), trivial⟩ ?_
    exact sy_reti rfl (by decide +kernel) (k2 c3)

set_option maxRecDepth 20000 in
theorem w_M_drop_0 {Q : Option Value → sy_S → Prop} {σ : sy_S} {cell : Int32} {n : Int32} {G : sg_G}  (b1 : gm G σ.1) (b2 : ∀ (m_1 : Nat), px (sg_p G) cell = some m_1 → (1 ≤ n.toInt64 ∧ n.toInt64 ≤ 99) → vp_in cell 16) (k1 : ∀ (m_1 : Nat), px (sg_p G) cell = some m_1 → (1 ≤ n.toInt64 ∧ n.toInt64 ≤ 99) → ((σ.1 2 cell.toNatClampNeg) + n) ≤ 999 → sy_E shM mX12_changes (0, sy_ent [.ref 0] 1, [], σ) (fun r9 σ9 => sy_E shM mX12_drop (46, [some (.ref 0), some (.int cell), some (.int n)], r9.toList ++ [], σ9) Q)) (k2 : ∀ (m_1 : Nat), px (sg_p G) cell = some m_1 → (1 ≤ n.toInt64 ∧ n.toInt64 ≤ 99) → ¬ (((σ.1 2 cell.toNatClampNeg) + n) ≤ 999) → Q (some (.int (-4))) σ) (k3 : ∀ (m_1 : Nat), px (sg_p G) cell = some m_1 → (¬ (1 ≤ n.toInt64 ∧ n.toInt64 ≤ 99)) → Q (some (.int (-2))) σ) (k4 : px (sg_p G) cell = none → Q (some (.int (-1))) σ) : sy_E shM mX12_drop (0, sy_ent [.ref 0, .int cell, .int n] 3, [], σ) Q := by
  show sy_E shM mX12_drop (0, [some (.ref 0), some (.int cell), some (.int n)], [], σ) _
  refine sy_bk [(.aload_n 0, 0, 0, 0, 0), (.iload_n 1, 0, 0, 0, 0)] (2, [some (.ref 0), some (.int cell), some (.int n)], [.int cell, .ref 0], σ) [] (by decide +kernel) rfl trivial ?_
  refine sy_callV mX12_isPlace 0 [.int cell] [] kX12_isPlace jX12_152 (by decide +kernel) rfl rfl (Nat.le_of_ble_eq_true rfl) (Nat.le_of_ble_eq_true rfl) (by decide) rfl ?_
  refine e_m_isPl (σ := σ) (cell := cell) b1 ?_ ?_
  · intro m_1 c2
    show sy_E shM mX12_drop (5, [some (.ref 0), some (.int cell), some (.int n)], [.int 1], σ) _
    refine sy_bk [(.ifCond .ne 5, 1, 10, 0, 0), (.iload_n 2, 0, 0, 0, 0), (.i2l, 0, 0, 0, 0), (.lconst 1, 0, 0, 0, 1), (.ldc2_w 161, 0, 0, 0, 99)] (16, [some (.ref 0), some (.int cell), some (.int n)], [.long 99, .long 1, .long n.toInt64], σ) [sy_cc .ne 1 0] (by decide +kernel) rfl ⟨(by decide : (¬ (1 : Int32) = 0)), trivial⟩ ?_
    refine sy_callS mX12_in [.long n.toInt64, .long 1, .long 99] [] kX12_in jX12_109 (by decide +kernel) rfl rfl (Nat.le_of_ble_eq_true rfl) (Nat.le_of_ble_eq_true rfl) (by decide) ?_
    refine e_m_in (σ := σ) (v := n.toInt64) (lo := 1) (hi := 99) ?_ ?_
    · intro c3
      show sy_E shM mX12_drop (19, [some (.ref 0), some (.int cell), some (.int n)], [.int 1], σ) _
      refine sy_bk [(.ifCond .ne 6, 1, 25, 0, 0), (.aload_n 0, 0, 0, 0, 0), (.getfield 22, 12, 3, 0, 0), (.iload_n 1, 0, 0, 0, 0), (.iaload, 0, 0, 0, 0), (.iload_n 2, 0, 0, 0, 0), (.iadd, 0, 0, 0, 0), (.sipush 999, 0, 0, 999, 0)] (36, [some (.ref 0), some (.int cell), some (.int n)], [.int 999, .int ((σ.1 2 cell.toNatClampNeg) + n)], σ) [sy_cc .ne 1 0, sy_okA shM 0 2 cell] (by decide +kernel) rfl ⟨(by decide : (¬ (1 : Int32) = 0)), ⟨16, _, rfl, (b2 m_1 c2 c3)⟩, trivial⟩ ?_
      by_cases c4 : ((σ.1 2 cell.toNatClampNeg) + n) ≤ 999
      · refine sy_bk [(.if_icmp .le 6, 1, 42, 0, 0)] (42, [some (.ref 0), some (.int cell), some (.int n)], [], σ) [sy_cc .le ((σ.1 2 cell.toNatClampNeg) + n) 999] (by decide +kernel) rfl ⟨c4, trivial⟩ ?_
        refine sy_bk [(.aload_n 0, 0, 0, 0, 0)] (43, [some (.ref 0), some (.int cell), some (.int n)], [.ref 0], σ) [] (by decide +kernel) rfl trivial ?_
        refine sy_callV mX12_changes 0 [] [] kX12_changes jX12_158 (by decide +kernel) rfl rfl (Nat.le_of_ble_eq_true rfl) (Nat.le_of_ble_eq_true rfl) (by decide) rfl ?_
        exact k1 m_1 c2 c3 c4
      · refine sy_bk [(.if_icmp .le 6, 0, 42, 0, 0)] (39, [some (.ref 0), some (.int cell), some (.int n)], [], σ) [¬ sy_cc .le ((σ.1 2 cell.toNatClampNeg) + n) 999] (by decide +kernel) rfl ⟨c4, trivial⟩ ?_
        refine sy_bk [(.bipush (-4), 0, 0, (-4), 0)] (41, [some (.ref 0), some (.int cell), some (.int n)], [.int (-4)], σ) [] (by decide +kernel) rfl trivial ?_
        exact sy_reti rfl (by decide +kernel) (k2 m_1 c2 c3 c4)
    · intro c5
      show sy_E shM mX12_drop (19, [some (.ref 0), some (.int cell), some (.int n)], [.int 0], σ) _
      refine sy_bk [(.ifCond .ne 6, 0, 25, 0, 0), (.bipush (-2), 0, 0, (-2), 0)] (24, [some (.ref 0), some (.int cell), some (.int n)], [.int (-2)], σ) [¬ sy_cc .ne 0 0] (by decide +kernel) rfl ⟨(by decide : ¬ (¬ (0 : Int32) = 0)), trivial⟩ ?_
      exact sy_reti rfl (by decide +kernel) (k3 m_1 c2 c5)
  · intro c6
    show sy_E shM mX12_drop (5, [some (.ref 0), some (.int cell), some (.int n)], [.int 0], σ) _
    refine sy_bk [(.ifCond .ne 5, 0, 10, 0, 0), (.iconst (-1), 0, 0, (-1), 0)] (9, [some (.ref 0), some (.int cell), some (.int n)], [.int (-1)], σ) [¬ sy_cc .ne 0 0] (by decide +kernel) rfl ⟨(by decide : ¬ (¬ (0 : Int32) = 0)), trivial⟩ ?_
    exact sy_reti rfl (by decide +kernel) (k4 c6)

set_option maxRecDepth 20000 in
theorem w_M_drop_46 {Q : Option Value → sy_S → Prop} {σ : sy_S} {l1 : Int32} {l2 : Int32}  (b1 : vp_in l1 16) (k1 : Q (some (.int ((sy_up σ.1 2 l1.toNatClampNeg ((σ.1 2 l1.toNatClampNeg) + l2)) 2 l1.toNatClampNeg))) (sy_up σ.1 2 l1.toNatClampNeg ((σ.1 2 l1.toNatClampNeg) + l2), σ.2)) : sy_E shM mX12_drop (46, [some (.ref 0), some (.int l1), some (.int l2)], [], σ) Q := by
  refine sy_bk [(.aload_n 0, 0, 0, 0, 0), (.getfield 22, 12, 3, 0, 0), (.iload_n 1, 0, 0, 0, 0), (.dup2, 0, 0, 0, 0), (.iaload, 0, 0, 0, 0), (.iload_n 2, 0, 0, 0, 0), (.iadd, 0, 0, 0, 0), (.iastore, 0, 0, 0, 0), (.aload_n 0, 0, 0, 0, 0), (.getfield 22, 12, 3, 0, 0), (.iload_n 1, 0, 0, 0, 0), (.iaload, 0, 0, 0, 0)] (62, [some (.ref 0), some (.int l1), some (.int l2)], [.int ((sy_up σ.1 2 l1.toNatClampNeg ((σ.1 2 l1.toNatClampNeg) + l2)) 2 l1.toNatClampNeg)], (sy_up σ.1 2 l1.toNatClampNeg ((σ.1 2 l1.toNatClampNeg) + l2), σ.2)) [sy_okA shM 0 2 l1, sy_okA shM 0 2 l1, sy_okA shM 0 2 l1] (by decide +kernel) rfl ⟨⟨16, _, rfl, b1⟩, ⟨16, _, rfl, b1⟩, ⟨16, _, rfl, b1⟩, trivial⟩ ?_
  exact sy_reti rfl (by decide +kernel) (k1)

set_option maxRecDepth 20000 in
theorem w_M_topple_0 {Q : Option Value → sy_S → Prop} {σ : sy_S} {cell : Int32} {G : sg_G}  (b1 : gm G σ.1) (k1 : ∀ (m_1 : Nat), px (sg_p G) cell = some m_1 → sy_E shM mX12_may (0, sy_ent [.ref 0, .ref 2, .int cell] 3, [], σ) (fun r9 σ9 => sy_E shM mX12_topple (19, [some (.ref 0), some (.int cell)], r9.toList ++ [], σ9) Q)) (k2 : px (sg_p G) cell = none → Q (some (.int (-1))) σ) : sy_E shM mX12_topple (0, sy_ent [.ref 0, .int cell] 2, [], σ) Q := by
  show sy_E shM mX12_topple (0, [some (.ref 0), some (.int cell)], [], σ) _
  refine sy_bk [(.aload_n 0, 0, 0, 0, 0), (.iload_n 1, 0, 0, 0, 0)] (2, [some (.ref 0), some (.int cell)], [.int cell, .ref 0], σ) [] (by decide +kernel) rfl trivial ?_
  refine sy_callV mX12_isPlace 0 [.int cell] [] kX12_isPlace jX12_152 (by decide +kernel) rfl rfl (Nat.le_of_ble_eq_true rfl) (Nat.le_of_ble_eq_true rfl) (by decide) rfl ?_
  refine e_m_isPl (σ := σ) (cell := cell) b1 ?_ ?_
  · intro m_1 c2
    show sy_E shM mX12_topple (5, [some (.ref 0), some (.int cell)], [.int 1], σ) _
    refine sy_bk [(.ifCond .ne 5, 1, 10, 0, 0), (.aload_n 0, 0, 0, 0, 0), (.aload_n 0, 0, 0, 0, 0), (.getfield 22, 12, 3, 0, 0), (.iload_n 1, 0, 0, 0, 0)] (16, [some (.ref 0), some (.int cell)], [.int cell, .ref 2, .ref 0], σ) [sy_cc .ne 1 0] (by decide +kernel) rfl ⟨(by decide : (¬ (1 : Int32) = 0)), trivial⟩ ?_
    refine sy_callV mX12_may 0 [.ref 2, .int cell] [] kX12_may jX12_120 (by decide +kernel) rfl rfl (Nat.le_of_ble_eq_true rfl) (Nat.le_of_ble_eq_true rfl) (by decide) rfl ?_
    exact k1 m_1 c2
  · intro c3
    show sy_E shM mX12_topple (5, [some (.ref 0), some (.int cell)], [.int 0], σ) _
    refine sy_bk [(.ifCond .ne 5, 0, 10, 0, 0), (.iconst (-1), 0, 0, (-1), 0)] (9, [some (.ref 0), some (.int cell)], [.int (-1)], σ) [¬ sy_cc .ne 0 0] (by decide +kernel) rfl ⟨(by decide : ¬ (¬ (0 : Int32) = 0)), trivial⟩ ?_
    exact sy_reti rfl (by decide +kernel) (k2 c3)

set_option maxRecDepth 20000 in
theorem w_M_topple_19 {Q : Option Value → sy_S → Prop} {σ : sy_S} {l1 : Int32} {v : Int32}   (k1 : ¬ v = 0 → sy_E shM mX12_changes (0, sy_ent [.ref 0] 1, [], σ) (fun r9 σ9 => sy_E shM mX12_topple (29, [some (.ref 0), some (.int l1)], r9.toList ++ [], σ9) Q)) (k2 : ¬ (¬ v = 0) → Q (some (.int (-5))) σ) : sy_E shM mX12_topple (19, [some (.ref 0), some (.int l1)], [.int v], σ) Q := by
  by_cases c1 : ¬ v = 0
  · refine sy_bk [(.ifCond .ne 6, 1, 25, 0, 0)] (25, [some (.ref 0), some (.int l1)], [], σ) [sy_cc .ne v 0] (by decide +kernel) rfl ⟨c1, trivial⟩ ?_
    refine sy_bk [(.aload_n 0, 0, 0, 0, 0)] (26, [some (.ref 0), some (.int l1)], [.ref 0], σ) [] (by decide +kernel) rfl trivial ?_
    refine sy_callV mX12_changes 0 [] [] kX12_changes jX12_158 (by decide +kernel) rfl rfl (Nat.le_of_ble_eq_true rfl) (Nat.le_of_ble_eq_true rfl) (by decide) rfl ?_
    exact k1 c1
  · refine sy_bk [(.ifCond .ne 6, 0, 25, 0, 0)] (22, [some (.ref 0), some (.int l1)], [], σ) [¬ sy_cc .ne v 0] (by decide +kernel) rfl ⟨c1, trivial⟩ ?_
    refine sy_bk [(.bipush (-5), 0, 0, (-5), 0)] (24, [some (.ref 0), some (.int l1)], [.int (-5)], σ) [] (by decide +kernel) rfl trivial ?_
    exact sy_reti rfl (by decide +kernel) (k2 c1)

set_option maxRecDepth 20000 in
theorem w_M_topple_29 {Q : Option Value → sy_S → Prop} {σ : sy_S} {l1 : Int32}   (k1 : sy_E shM mX12_topples (0, sy_ent [.ref 0, .ref 2, .int l1, .int 1] 5, [], σ) (fun r9 σ9 => sy_E shM mX12_topple (39, [some (.ref 0), some (.int l1)], r9.toList ++ [], σ9) Q)) : sy_E shM mX12_topple (29, [some (.ref 0), some (.int l1)], [], σ) Q := by
  refine sy_bk [(.aload_n 0, 0, 0, 0, 0), (.aload_n 0, 0, 0, 0, 0), (.getfield 22, 12, 3, 0, 0), (.iload_n 1, 0, 0, 0, 0), (.iconst 1, 0, 0, 1, 0)] (36, [some (.ref 0), some (.int l1)], [.int 1, .int l1, .ref 2, .ref 0], σ) [] (by decide +kernel) rfl trivial ?_
  refine sy_callV mX12_topples 0 [.ref 2, .int l1, .int 1] [] kX12_topples jX12_131 (by decide +kernel) rfl rfl (Nat.le_of_ble_eq_true rfl) (Nat.le_of_ble_eq_true rfl) (by decide) rfl ?_
  exact k1

set_option maxRecDepth 20000 in
theorem w_M_topple_39 {Q : Option Value → sy_S → Prop} {σ : sy_S} {l1 : Int32}  (b1 : vp_in l1 16) (k1 : Q (some (.int (4 - (σ.1 4 l1.toNatClampNeg)))) σ) : sy_E shM mX12_topple (39, [some (.ref 0), some (.int l1)], [], σ) Q := by
  refine sy_bk [(.iconst 4, 0, 0, 4, 0), (.aload_n 0, 0, 0, 0, 0), (.getfield 29, 12, 5, 0, 0), (.iload_n 1, 0, 0, 0, 0), (.iaload, 0, 0, 0, 0), (.isub, 0, 0, 0, 0)] (47, [some (.ref 0), some (.int l1)], [.int (4 - (σ.1 4 l1.toNatClampNeg))], σ) [sy_okA shM 0 4 l1] (by decide +kernel) rfl ⟨⟨16, _, rfl, b1⟩, trivial⟩ ?_
  exact sy_reti rfl (by decide +kernel) (k1)

set_option maxRecDepth 20000 in
theorem w_M_settle_0 {Q : Option Value → sy_S → Prop} {σ : sy_S}    (k1 : sy_E shM mX12_changes (0, sy_ent [.ref 0] 1, [], σ) (fun r9 σ9 => sy_E shM mX12_settle (4, [some (.ref 0)], r9.toList ++ [], σ9) Q)) : sy_E shM mX12_settle (0, sy_ent [.ref 0] 1, [], σ) Q := by
  show sy_E shM mX12_settle (0, [some (.ref 0)], [], σ) _
  refine sy_bk [(.aload_n 0, 0, 0, 0, 0)] (1, [some (.ref 0)], [.ref 0], σ) [] (by decide +kernel) rfl trivial ?_
  refine sy_callV mX12_changes 0 [] [] kX12_changes jX12_158 (by decide +kernel) rfl rfl (Nat.le_of_ble_eq_true rfl) (Nat.le_of_ble_eq_true rfl) (by decide) rfl ?_
  exact k1

set_option maxRecDepth 20000 in
theorem w_M_settle_4 {Q : Option Value → sy_S → Prop} {σ : sy_S}    (k1 : sy_E shM mX12_settles (0, sy_ent [.ref 0, .ref 2] 3, [], σ) (fun r9 σ9 => sy_E shM mX12_settle (12, [none], r9.toList ++ [], σ9) Q)) : sy_E shM mX12_settle (4, [some (.ref 0)], [], σ) Q := by
  refine sy_bk [(.aload_n 0, 0, 0, 0, 0), (.aload_n 0, 0, 0, 0, 0), (.getfield 22, 12, 3, 0, 0)] (9, [some (.ref 0)], [.ref 2, .ref 0], σ) [] (by decide +kernel) rfl trivial ?_
  refine sy_drop [none] trivial ?_
  refine sy_callV mX12_settles 0 [.ref 2] [] kX12_settles jX12_163 (by decide +kernel) rfl rfl (Nat.le_of_ble_eq_true rfl) (Nat.le_of_ble_eq_true rfl) (by decide) rfl ?_
  exact k1

set_option maxRecDepth 20000 in
theorem w_M_settle_12 {Q : Option Value → sy_S → Prop} {σ : sy_S} {v : Int32}   (k1 : Q (some (.int v)) σ) : sy_E shM mX12_settle (12, [none], [.int v], σ) Q := by
  exact sy_reti rfl (by decide +kernel) (k1)

set_option maxRecDepth 20000 in
theorem w_M_feed_0 {Q : Option Value → sy_S → Prop} {σ : sy_S} {b : Int32}  (b1 : (1 ≤ b.toInt64 ∧ b.toInt64 ≤ 127) → ¬ (σ.1 0 16) = 40 → vp_in (σ.1 0 16) 40) (k1 : (1 ≤ b.toInt64 ∧ b.toInt64 ≤ 127) → ¬ (σ.1 0 16) = 40 → Q (some (.int ((σ.1 0 16) + 1))) (sy_up (sy_up σ.1 11 ((σ.1 0 16).toNatClampNeg) b) 0 16 ((σ.1 0 16) + 1), σ.2)) (k2 : (1 ≤ b.toInt64 ∧ b.toInt64 ≤ 127) → ¬ (¬ (σ.1 0 16) = 40) → Q (some (.int (-4))) σ) (k3 : (¬ (1 ≤ b.toInt64 ∧ b.toInt64 ≤ 127)) → Q (some (.int (-2))) σ) : sy_E shM mX12_feed (0, sy_ent [.ref 0, .int b] 2, [], σ) Q := by
  show sy_E shM mX12_feed (0, [some (.ref 0), some (.int b)], [], σ) _
  refine sy_bk [(.iload_n 1, 0, 0, 0, 0), (.i2l, 0, 0, 0, 0), (.lconst 1, 0, 0, 0, 1), (.ldc2_w 167, 0, 0, 0, 127)] (6, [some (.ref 0), some (.int b)], [.long 127, .long 1, .long b.toInt64], σ) [] (by decide +kernel) rfl trivial ?_
  refine sy_callS mX12_in [.long b.toInt64, .long 1, .long 127] [] kX12_in jX12_109 (by decide +kernel) rfl rfl (Nat.le_of_ble_eq_true rfl) (Nat.le_of_ble_eq_true rfl) (by decide) ?_
  refine e_m_in (σ := σ) (v := b.toInt64) (lo := 1) (hi := 127) ?_ ?_
  · intro c1
    show sy_E shM mX12_feed (9, [some (.ref 0), some (.int b)], [.int 1], σ) _
    refine sy_bk [(.ifCond .ne 6, 1, 15, 0, 0), (.aload_n 0, 0, 0, 0, 0), (.getfield 169, 12, 16, 0, 0), (.bipush 40, 0, 0, 40, 0)] (21, [some (.ref 0), some (.int b)], [.int 40, .int (σ.1 0 16)], σ) [sy_cc .ne 1 0] (by decide +kernel) rfl ⟨(by decide : (¬ (1 : Int32) = 0)), trivial⟩ ?_
    by_cases c2 : ¬ (σ.1 0 16) = 40
    · refine sy_bk [(.if_icmp .ne 6, 1, 27, 0, 0)] (27, [some (.ref 0), some (.int b)], [], σ) [sy_cc .ne (σ.1 0 16) 40] (by decide +kernel) rfl ⟨c2, trivial⟩ ?_
      refine sy_bk [(.aload_n 0, 0, 0, 0, 0), (.getfield 50, 12, 15, 0, 0), (.aload_n 0, 0, 0, 0, 0), (.getfield 169, 12, 16, 0, 0), (.iload_n 1, 0, 0, 0, 0), (.iastore, 0, 0, 0, 0), (.aload_n 0, 0, 0, 0, 0), (.dup, 0, 0, 0, 0), (.getfield 169, 12, 16, 0, 0), (.iconst 1, 0, 0, 1, 0), (.iadd, 0, 0, 0, 0), (.putfield 169, 12, 16, 0, 0), (.aload_n 0, 0, 0, 0, 0), (.getfield 169, 12, 16, 0, 0)] (51, [some (.ref 0), some (.int b)], [.int ((σ.1 0 16) + 1)], (sy_up (sy_up σ.1 11 ((σ.1 0 16).toNatClampNeg) b) 0 16 ((σ.1 0 16) + 1), σ.2)) [sy_okA shM 0 11 (σ.1 0 16)] (by decide +kernel) rfl ⟨⟨40, _, rfl, (b1 c1 c2)⟩, trivial⟩ ?_
      exact sy_reti rfl (by decide +kernel) (k1 c1 c2)
    · refine sy_bk [(.if_icmp .ne 6, 0, 27, 0, 0)] (24, [some (.ref 0), some (.int b)], [], σ) [¬ sy_cc .ne (σ.1 0 16) 40] (by decide +kernel) rfl ⟨c2, trivial⟩ ?_
      refine sy_bk [(.bipush (-4), 0, 0, (-4), 0)] (26, [some (.ref 0), some (.int b)], [.int (-4)], σ) [] (by decide +kernel) rfl trivial ?_
      exact sy_reti rfl (by decide +kernel) (k2 c1 c2)
  · intro c3
    show sy_E shM mX12_feed (9, [some (.ref 0), some (.int b)], [.int 0], σ) _
    refine sy_bk [(.ifCond .ne 6, 0, 15, 0, 0), (.bipush (-2), 0, 0, (-2), 0)] (14, [some (.ref 0), some (.int b)], [.int (-2)], σ) [¬ sy_cc .ne 0 0] (by decide +kernel) rfl ⟨(by decide : ¬ (¬ (0 : Int32) = 0)), trivial⟩ ?_
    exact sy_reti rfl (by decide +kernel) (k3 c3)

set_option maxRecDepth 20000 in
theorem w_M_isCell_0 {Q : Option Value → sy_S → Prop} {σ : sy_S} {b : Int32}   (k1 : b = 35 → Q (some (.int 1)) σ) (k2 : ¬ (b = 35) → (48 ≤ b.toInt64 ∧ b.toInt64 ≤ 57) → Q (some (.int 1)) σ) (k3 : ¬ (b = 35) → (¬ (48 ≤ b.toInt64 ∧ b.toInt64 ≤ 57)) → Q (some (.int 0)) σ) : sy_E shM mX12_isCell (0, sy_ent [.int b] 1, [], σ) Q := by
  show sy_E shM mX12_isCell (0, [some (.int b)], [], σ) _
  refine sy_bk [(.iload_n 0, 0, 0, 0, 0), (.bipush 35, 0, 0, 35, 0)] (3, [some (.int b)], [.int 35, .int b], σ) [] (by decide +kernel) rfl trivial ?_
  by_cases c1 : b = 35
  · refine sy_bk [(.if_icmp .eq 17, 1, 20, 0, 0)] (20, [some (.int b)], [], σ) [sy_cc .eq b 35] (by decide +kernel) rfl ⟨c1, trivial⟩ ?_
    refine sy_bk [(.iconst 1, 0, 0, 1, 0), (.goto 4, 0, 25, 0, 0)] (25, [some (.int b)], [.int 1], σ) [] (by decide +kernel) rfl trivial ?_
    exact sy_retz rfl (by decide +kernel) (Or.inr rfl) (k1 c1)
  · refine sy_bk [(.if_icmp .eq 17, 0, 20, 0, 0)] (6, [some (.int b)], [], σ) [¬ sy_cc .eq b 35] (by decide +kernel) rfl ⟨c1, trivial⟩ ?_
    refine sy_bk [(.iload_n 0, 0, 0, 0, 0), (.i2l, 0, 0, 0, 0), (.ldc2_w 172, 0, 0, 0, 48), (.ldc2_w 174, 0, 0, 0, 57)] (14, [some (.int b)], [.long 57, .long 48, .long b.toInt64], σ) [] (by decide +kernel) rfl trivial ?_
    refine sy_callS mX12_in [.long b.toInt64, .long 48, .long 57] [] kX12_in jX12_109 (by decide +kernel) rfl rfl (Nat.le_of_ble_eq_true rfl) (Nat.le_of_ble_eq_true rfl) (by decide) ?_
    refine e_m_in (σ := σ) (v := b.toInt64) (lo := 48) (hi := 57) ?_ ?_
    · intro c2
      show sy_E shM mX12_isCell (17, [some (.int b)], [.int 1], σ) _
      refine sy_bk [(.ifCond .eq 7, 0, 24, 0, 0), (.iconst 1, 0, 0, 1, 0), (.goto 4, 0, 25, 0, 0)] (25, [some (.int b)], [.int 1], σ) [¬ sy_cc .eq 1 0] (by decide +kernel) rfl ⟨(by decide : ¬ ((1 : Int32) = 0)), trivial⟩ ?_
      exact sy_retz rfl (by decide +kernel) (Or.inr rfl) (k2 c1 c2)
    · intro c3
      show sy_E shM mX12_isCell (17, [some (.int b)], [.int 0], σ) _
      refine sy_bk [(.ifCond .eq 7, 1, 24, 0, 0), (.iconst 0, 0, 0, 0, 0)] (25, [some (.int b)], [.int 0], σ) [sy_cc .eq 0 0] (by decide +kernel) rfl ⟨(by decide : ((0 : Int32) = 0)), trivial⟩ ?_
      exact sy_retz rfl (by decide +kernel) (Or.inl rfl) (k3 c1 c3)

set_option maxRecDepth 20000 in
theorem w_M_wrongAt_0 {Q : Option Value → sy_S → Prop} {σ : sy_S} {b : Int32}   (k1 : sy_E shM mX12_isCell (0, sy_ent [.int b] 1, [], σ) (fun r9 σ9 => sy_E shM mX12_wrongAt (4, [some (.ref 0), some (.int b), none], r9.toList ++ [], σ9) Q)) : sy_E shM mX12_wrongAt (0, sy_ent [.ref 0, .int b] 3, [], σ) Q := by
  show sy_E shM mX12_wrongAt (0, [some (.ref 0), some (.int b), none], [], σ) _
  refine sy_bk [(.iload_n 1, 0, 0, 0, 0)] (1, [some (.ref 0), some (.int b), none], [.int b], σ) [] (by decide +kernel) rfl trivial ?_
  refine sy_callS mX12_isCell [.int b] [] kX12_isCell jX12_176 (by decide +kernel) rfl rfl (Nat.le_of_ble_eq_true rfl) (Nat.le_of_ble_eq_true rfl) (by decide) ?_
  exact k1

set_option maxRecDepth 20000 in
theorem w_M_wrongAt_4 {Q : Option Value → sy_S → Prop} {σ : sy_S} {l1 : Int32} {v : Int32}   (k1 : v = 0 → (σ.1 0 20) ≤ 0 → ¬ l1 = 47 → Q (some (.int 2)) σ) (k2 : v = 0 → (σ.1 0 20) ≤ 0 → ¬ (¬ l1 = 47) → Q (some (.int 2)) σ) (k3 : v = 0 → ¬ ((σ.1 0 20) ≤ 0) → (σ.1 0 21) = 0 → ¬ l1 = 47 → Q (some (.int 2)) σ) (k4 : v = 0 → ¬ ((σ.1 0 20) ≤ 0) → (σ.1 0 21) = 0 → ¬ (¬ l1 = 47) → ¬ (σ.1 0 19) = 3 → Q (some (.int 0)) σ) (k5 : v = 0 → ¬ ((σ.1 0 20) ≤ 0) → (σ.1 0 21) = 0 → ¬ (¬ l1 = 47) → ¬ (¬ (σ.1 0 19) = 3) → Q (some (.int 5)) σ) (k6 : v = 0 → ¬ ((σ.1 0 20) ≤ 0) → ¬ ((σ.1 0 21) = 0) → ¬ (σ.1 0 20) = (σ.1 0 21) → ¬ l1 = 47 → Q (some (.int 2)) σ) (k7 : v = 0 → ¬ ((σ.1 0 20) ≤ 0) → ¬ ((σ.1 0 21) = 0) → ¬ (σ.1 0 20) = (σ.1 0 21) → ¬ (¬ l1 = 47) → Q (some (.int 2)) σ) (k8 : v = 0 → ¬ ((σ.1 0 20) ≤ 0) → ¬ ((σ.1 0 21) = 0) → ¬ (¬ (σ.1 0 20) = (σ.1 0 21)) → ¬ l1 = 47 → Q (some (.int 2)) σ) (k9 : v = 0 → ¬ ((σ.1 0 20) ≤ 0) → ¬ ((σ.1 0 21) = 0) → ¬ (¬ (σ.1 0 20) = (σ.1 0 21)) → ¬ (¬ l1 = 47) → ¬ (σ.1 0 19) = 3 → Q (some (.int 0)) σ) (k10 : v = 0 → ¬ ((σ.1 0 20) ≤ 0) → ¬ ((σ.1 0 21) = 0) → ¬ (¬ (σ.1 0 20) = (σ.1 0 21)) → ¬ (¬ l1 = 47) → ¬ (¬ (σ.1 0 19) = 3) → Q (some (.int 5)) σ) (k11 : ¬ (v = 0) → ¬ (σ.1 0 21) = 0 → ¬ (σ.1 0 20) = (σ.1 0 21) → Q (some (.int 0)) σ) (k12 : ¬ (v = 0) → ¬ (σ.1 0 21) = 0 → ¬ (¬ (σ.1 0 20) = (σ.1 0 21)) → Q (some (.int 4)) σ) (k13 : ¬ (v = 0) → ¬ (¬ (σ.1 0 21) = 0) → ¬ (σ.1 0 20) = 4 → Q (some (.int 0)) σ) (k14 : ¬ (v = 0) → ¬ (¬ (σ.1 0 21) = 0) → ¬ (¬ (σ.1 0 20) = 4) → Q (some (.int 4)) σ) : sy_E shM mX12_wrongAt (4, [some (.ref 0), some (.int l1), none], [.int v], σ) Q := by
  by_cases c1 : v = 0
  · refine sy_bk [(.ifCond .eq 31, 1, 35, 0, 0)] (35, [some (.ref 0), some (.int l1), none], [], σ) [sy_cc .eq v 0] (by decide +kernel) rfl ⟨c1, trivial⟩ ?_
    refine sy_bk [(.aload_n 0, 0, 0, 0, 0), (.getfield 179, 12, 20, 0, 0)] (39, [some (.ref 0), some (.int l1), none], [.int (σ.1 0 20)], σ) [] (by decide +kernel) rfl trivial ?_
    by_cases c2 : (σ.1 0 20) ≤ 0
    · refine sy_bk [(.ifCond .le 25, 1, 64, 0, 0)] (64, [some (.ref 0), some (.int l1), none], [], σ) [sy_cc .le (σ.1 0 20) 0] (by decide +kernel) rfl ⟨c2, trivial⟩ ?_
      refine sy_bk [(.iconst 0, 0, 0, 0, 0), (.istore_n 2, 0, 0, 0, 0), (.iload_n 1, 0, 0, 0, 0), (.bipush 47, 0, 0, 47, 0)] (69, [some (.ref 0), some (.int l1), some (.int 0)], [.int 47, .int l1], σ) [] (by decide +kernel) rfl trivial ?_
      by_cases c3 : ¬ l1 = 47
      · refine sy_bk [(.if_icmp .ne 7, 1, 76, 0, 0)] (76, [some (.ref 0), some (.int l1), some (.int 0)], [], σ) [sy_cc .ne l1 47] (by decide +kernel) rfl ⟨c3, trivial⟩ ?_
        refine sy_bk [(.iconst 2, 0, 0, 2, 0)] (77, [some (.ref 0), some (.int l1), some (.int 0)], [.int 2], σ) [] (by decide +kernel) rfl trivial ?_
        exact sy_reti rfl (by decide +kernel) (k1 c1 c2 c3)
      · refine sy_bk [(.if_icmp .ne 7, 0, 76, 0, 0)] (72, [some (.ref 0), some (.int l1), some (.int 0)], [], σ) [¬ sy_cc .ne l1 47] (by decide +kernel) rfl ⟨c3, trivial⟩ ?_
        refine sy_bk [(.iload_n 2, 0, 0, 0, 0), (.ifCond .ne 5, 0, 78, 0, 0), (.iconst 2, 0, 0, 2, 0)] (77, [some (.ref 0), some (.int l1), some (.int 0)], [.int 2], σ) [¬ sy_cc .ne 0 0] (by decide +kernel) rfl ⟨(by decide : ¬ (¬ (0 : Int32) = 0)), trivial⟩ ?_
        exact sy_reti rfl (by decide +kernel) (k2 c1 c2 c3)
    · refine sy_bk [(.ifCond .le 25, 0, 64, 0, 0)] (42, [some (.ref 0), some (.int l1), none], [], σ) [¬ sy_cc .le (σ.1 0 20) 0] (by decide +kernel) rfl ⟨c2, trivial⟩ ?_
      refine sy_bk [(.aload_n 0, 0, 0, 0, 0), (.getfield 182, 12, 21, 0, 0)] (46, [some (.ref 0), some (.int l1), none], [.int (σ.1 0 21)], σ) [] (by decide +kernel) rfl trivial ?_
      by_cases c4 : (σ.1 0 21) = 0
      · refine sy_bk [(.ifCond .eq 14, 1, 60, 0, 0)] (60, [some (.ref 0), some (.int l1), none], [], σ) [sy_cc .eq (σ.1 0 21) 0] (by decide +kernel) rfl ⟨c4, trivial⟩ ?_
        refine sy_bk [(.iconst 1, 0, 0, 1, 0), (.goto 4, 0, 65, 0, 0), (.istore_n 2, 0, 0, 0, 0), (.iload_n 1, 0, 0, 0, 0), (.bipush 47, 0, 0, 47, 0)] (69, [some (.ref 0), some (.int l1), some (.int 1)], [.int 47, .int l1], σ) [] (by decide +kernel) rfl trivial ?_
        by_cases c5 : ¬ l1 = 47
        · refine sy_bk [(.if_icmp .ne 7, 1, 76, 0, 0)] (76, [some (.ref 0), some (.int l1), some (.int 1)], [], σ) [sy_cc .ne l1 47] (by decide +kernel) rfl ⟨c5, trivial⟩ ?_
          refine sy_bk [(.iconst 2, 0, 0, 2, 0)] (77, [some (.ref 0), some (.int l1), some (.int 1)], [.int 2], σ) [] (by decide +kernel) rfl trivial ?_
          exact sy_reti rfl (by decide +kernel) (k3 c1 c2 c4 c5)
        · refine sy_bk [(.if_icmp .ne 7, 0, 76, 0, 0)] (72, [some (.ref 0), some (.int l1), some (.int 1)], [], σ) [¬ sy_cc .ne l1 47] (by decide +kernel) rfl ⟨c5, trivial⟩ ?_
          refine sy_bk [(.iload_n 2, 0, 0, 0, 0), (.ifCond .ne 5, 1, 78, 0, 0), (.aload_n 0, 0, 0, 0, 0), (.getfield 185, 12, 19, 0, 0), (.iconst 3, 0, 0, 3, 0)] (83, [some (.ref 0), some (.int l1), some (.int 1)], [.int 3, .int (σ.1 0 19)], σ) [sy_cc .ne 1 0] (by decide +kernel) rfl ⟨(by decide : (¬ (1 : Int32) = 0)), trivial⟩ ?_
          by_cases c6 : ¬ (σ.1 0 19) = 3
          · refine sy_bk [(.if_icmp .ne 7, 1, 90, 0, 0)] (90, [some (.ref 0), some (.int l1), some (.int 1)], [], σ) [sy_cc .ne (σ.1 0 19) 3] (by decide +kernel) rfl ⟨c6, trivial⟩ ?_
            refine sy_bk [(.iconst 0, 0, 0, 0, 0)] (91, [some (.ref 0), some (.int l1), some (.int 1)], [.int 0], σ) [] (by decide +kernel) rfl trivial ?_
            exact sy_reti rfl (by decide +kernel) (k4 c1 c2 c4 c5 c6)
          · refine sy_bk [(.if_icmp .ne 7, 0, 90, 0, 0)] (86, [some (.ref 0), some (.int l1), some (.int 1)], [], σ) [¬ sy_cc .ne (σ.1 0 19) 3] (by decide +kernel) rfl ⟨c6, trivial⟩ ?_
            refine sy_bk [(.iconst 5, 0, 0, 5, 0), (.goto 4, 0, 91, 0, 0)] (91, [some (.ref 0), some (.int l1), some (.int 1)], [.int 5], σ) [] (by decide +kernel) rfl trivial ?_
            exact sy_reti rfl (by decide +kernel) (k5 c1 c2 c4 c5 c6)
      · refine sy_bk [(.ifCond .eq 14, 0, 60, 0, 0)] (49, [some (.ref 0), some (.int l1), none], [], σ) [¬ sy_cc .eq (σ.1 0 21) 0] (by decide +kernel) rfl ⟨c4, trivial⟩ ?_
        refine sy_bk [(.aload_n 0, 0, 0, 0, 0), (.getfield 179, 12, 20, 0, 0), (.aload_n 0, 0, 0, 0, 0), (.getfield 182, 12, 21, 0, 0)] (57, [some (.ref 0), some (.int l1), none], [.int (σ.1 0 21), .int (σ.1 0 20)], σ) [] (by decide +kernel) rfl trivial ?_
        by_cases c7 : ¬ (σ.1 0 20) = (σ.1 0 21)
        · refine sy_bk [(.if_icmp .ne 7, 1, 64, 0, 0)] (64, [some (.ref 0), some (.int l1), none], [], σ) [sy_cc .ne (σ.1 0 20) (σ.1 0 21)] (by decide +kernel) rfl ⟨c7, trivial⟩ ?_
          refine sy_bk [(.iconst 0, 0, 0, 0, 0), (.istore_n 2, 0, 0, 0, 0), (.iload_n 1, 0, 0, 0, 0), (.bipush 47, 0, 0, 47, 0)] (69, [some (.ref 0), some (.int l1), some (.int 0)], [.int 47, .int l1], σ) [] (by decide +kernel) rfl trivial ?_
          by_cases c8 : ¬ l1 = 47
          · refine sy_bk [(.if_icmp .ne 7, 1, 76, 0, 0)] (76, [some (.ref 0), some (.int l1), some (.int 0)], [], σ) [sy_cc .ne l1 47] (by decide +kernel) rfl ⟨c8, trivial⟩ ?_
            refine sy_bk [(.iconst 2, 0, 0, 2, 0)] (77, [some (.ref 0), some (.int l1), some (.int 0)], [.int 2], σ) [] (by decide +kernel) rfl trivial ?_
            exact sy_reti rfl (by decide +kernel) (k6 c1 c2 c4 c7 c8)
          · refine sy_bk [(.if_icmp .ne 7, 0, 76, 0, 0)] (72, [some (.ref 0), some (.int l1), some (.int 0)], [], σ) [¬ sy_cc .ne l1 47] (by decide +kernel) rfl ⟨c8, trivial⟩ ?_
            refine sy_bk [(.iload_n 2, 0, 0, 0, 0), (.ifCond .ne 5, 0, 78, 0, 0), (.iconst 2, 0, 0, 2, 0)] (77, [some (.ref 0), some (.int l1), some (.int 0)], [.int 2], σ) [¬ sy_cc .ne 0 0] (by decide +kernel) rfl ⟨(by decide : ¬ (¬ (0 : Int32) = 0)), trivial⟩ ?_
            exact sy_reti rfl (by decide +kernel) (k7 c1 c2 c4 c7 c8)
        · refine sy_bk [(.if_icmp .ne 7, 0, 64, 0, 0)] (60, [some (.ref 0), some (.int l1), none], [], σ) [¬ sy_cc .ne (σ.1 0 20) (σ.1 0 21)] (by decide +kernel) rfl ⟨c7, trivial⟩ ?_
          refine sy_bk [(.iconst 1, 0, 0, 1, 0), (.goto 4, 0, 65, 0, 0), (.istore_n 2, 0, 0, 0, 0), (.iload_n 1, 0, 0, 0, 0), (.bipush 47, 0, 0, 47, 0)] (69, [some (.ref 0), some (.int l1), some (.int 1)], [.int 47, .int l1], σ) [] (by decide +kernel) rfl trivial ?_
          by_cases c9 : ¬ l1 = 47
          · refine sy_bk [(.if_icmp .ne 7, 1, 76, 0, 0)] (76, [some (.ref 0), some (.int l1), some (.int 1)], [], σ) [sy_cc .ne l1 47] (by decide +kernel) rfl ⟨c9, trivial⟩ ?_
            refine sy_bk [(.iconst 2, 0, 0, 2, 0)] (77, [some (.ref 0), some (.int l1), some (.int 1)], [.int 2], σ) [] (by decide +kernel) rfl trivial ?_
            exact sy_reti rfl (by decide +kernel) (k8 c1 c2 c4 c7 c9)
          · refine sy_bk [(.if_icmp .ne 7, 0, 76, 0, 0)] (72, [some (.ref 0), some (.int l1), some (.int 1)], [], σ) [¬ sy_cc .ne l1 47] (by decide +kernel) rfl ⟨c9, trivial⟩ ?_
            refine sy_bk [(.iload_n 2, 0, 0, 0, 0), (.ifCond .ne 5, 1, 78, 0, 0), (.aload_n 0, 0, 0, 0, 0), (.getfield 185, 12, 19, 0, 0), (.iconst 3, 0, 0, 3, 0)] (83, [some (.ref 0), some (.int l1), some (.int 1)], [.int 3, .int (σ.1 0 19)], σ) [sy_cc .ne 1 0] (by decide +kernel) rfl ⟨(by decide : (¬ (1 : Int32) = 0)), trivial⟩ ?_
            by_cases c10 : ¬ (σ.1 0 19) = 3
            · refine sy_bk [(.if_icmp .ne 7, 1, 90, 0, 0)] (90, [some (.ref 0), some (.int l1), some (.int 1)], [], σ) [sy_cc .ne (σ.1 0 19) 3] (by decide +kernel) rfl ⟨c10, trivial⟩ ?_
              refine sy_bk [(.iconst 0, 0, 0, 0, 0)] (91, [some (.ref 0), some (.int l1), some (.int 1)], [.int 0], σ) [] (by decide +kernel) rfl trivial ?_
              exact sy_reti rfl (by decide +kernel) (k9 c1 c2 c4 c7 c9 c10)
            · refine sy_bk [(.if_icmp .ne 7, 0, 90, 0, 0)] (86, [some (.ref 0), some (.int l1), some (.int 1)], [], σ) [¬ sy_cc .ne (σ.1 0 19) 3] (by decide +kernel) rfl ⟨c10, trivial⟩ ?_
              refine sy_bk [(.iconst 5, 0, 0, 5, 0), (.goto 4, 0, 91, 0, 0)] (91, [some (.ref 0), some (.int l1), some (.int 1)], [.int 5], σ) [] (by decide +kernel) rfl trivial ?_
              exact sy_reti rfl (by decide +kernel) (k10 c1 c2 c4 c7 c9 c10)
  · refine sy_bk [(.ifCond .eq 31, 0, 35, 0, 0)] (7, [some (.ref 0), some (.int l1), none], [], σ) [¬ sy_cc .eq v 0] (by decide +kernel) rfl ⟨c1, trivial⟩ ?_
    refine sy_bk [(.aload_n 0, 0, 0, 0, 0), (.getfield 179, 12, 20, 0, 0), (.aload_n 0, 0, 0, 0, 0), (.getfield 182, 12, 21, 0, 0)] (15, [some (.ref 0), some (.int l1), none], [.int (σ.1 0 21), .int (σ.1 0 20)], σ) [] (by decide +kernel) rfl trivial ?_
    by_cases c11 : ¬ (σ.1 0 21) = 0
    · refine sy_bk [(.ifCond .ne 7, 1, 22, 0, 0)] (22, [some (.ref 0), some (.int l1), none], [.int (σ.1 0 20)], σ) [sy_cc .ne (σ.1 0 21) 0] (by decide +kernel) rfl ⟨c11, trivial⟩ ?_
      refine sy_bk [(.aload_n 0, 0, 0, 0, 0), (.getfield 182, 12, 21, 0, 0)] (26, [some (.ref 0), some (.int l1), none], [.int (σ.1 0 21), .int (σ.1 0 20)], σ) [] (by decide +kernel) rfl trivial ?_
      by_cases c12 : ¬ (σ.1 0 20) = (σ.1 0 21)
      · refine sy_bk [(.if_icmp .ne 7, 1, 33, 0, 0)] (33, [some (.ref 0), some (.int l1), none], [], σ) [sy_cc .ne (σ.1 0 20) (σ.1 0 21)] (by decide +kernel) rfl ⟨c12, trivial⟩ ?_
        refine sy_bk [(.iconst 0, 0, 0, 0, 0)] (34, [some (.ref 0), some (.int l1), none], [.int 0], σ) [] (by decide +kernel) rfl trivial ?_
        exact sy_reti rfl (by decide +kernel) (k11 c1 c11 c12)
      · refine sy_bk [(.if_icmp .ne 7, 0, 33, 0, 0)] (29, [some (.ref 0), some (.int l1), none], [], σ) [¬ sy_cc .ne (σ.1 0 20) (σ.1 0 21)] (by decide +kernel) rfl ⟨c12, trivial⟩ ?_
        refine sy_bk [(.iconst 4, 0, 0, 4, 0), (.goto 4, 0, 34, 0, 0)] (34, [some (.ref 0), some (.int l1), none], [.int 4], σ) [] (by decide +kernel) rfl trivial ?_
        exact sy_reti rfl (by decide +kernel) (k12 c1 c11 c12)
    · refine sy_bk [(.ifCond .ne 7, 0, 22, 0, 0)] (18, [some (.ref 0), some (.int l1), none], [.int (σ.1 0 20)], σ) [¬ sy_cc .ne (σ.1 0 21) 0] (by decide +kernel) rfl ⟨c11, trivial⟩ ?_
      refine sy_bk [(.iconst 4, 0, 0, 4, 0), (.goto 7, 0, 26, 0, 0)] (26, [some (.ref 0), some (.int l1), none], [.int 4, .int (σ.1 0 20)], σ) [] (by decide +kernel) rfl trivial ?_
      by_cases c13 : ¬ (σ.1 0 20) = 4
      · refine sy_bk [(.if_icmp .ne 7, 1, 33, 0, 0)] (33, [some (.ref 0), some (.int l1), none], [], σ) [sy_cc .ne (σ.1 0 20) 4] (by decide +kernel) rfl ⟨c13, trivial⟩ ?_
        refine sy_bk [(.iconst 0, 0, 0, 0, 0)] (34, [some (.ref 0), some (.int l1), none], [.int 0], σ) [] (by decide +kernel) rfl trivial ?_
        exact sy_reti rfl (by decide +kernel) (k13 c1 c11 c13)
      · refine sy_bk [(.if_icmp .ne 7, 0, 33, 0, 0)] (29, [some (.ref 0), some (.int l1), none], [], σ) [¬ sy_cc .ne (σ.1 0 20) 4] (by decide +kernel) rfl ⟨c13, trivial⟩ ?_
        refine sy_bk [(.iconst 4, 0, 0, 4, 0), (.goto 4, 0, 34, 0, 0)] (34, [some (.ref 0), some (.int l1), none], [.int 4], σ) [] (by decide +kernel) rfl trivial ?_
        exact sy_reti rfl (by decide +kernel) (k14 c1 c11 c13)

set_option maxRecDepth 20000 in
theorem w_M_wrongPlace_0 {Q : Option Value → sy_S → Prop} {σ : sy_S}    (k1 : sy_E shM mX12_wrongPlace (17, [some (.ref 0), some (.int 0)], [], (sy_up (sy_up (sy_up σ.1 0 19 0) 0 20 0) 0 21 0, σ.2)) Q) : sy_E shM mX12_wrongPlace (0, sy_ent [.ref 0] 2, [], σ) Q := by
  show sy_E shM mX12_wrongPlace (0, [some (.ref 0), none], [], σ) _
  refine sy_bk [(.aload_n 0, 0, 0, 0, 0), (.iconst 0, 0, 0, 0, 0), (.putfield 185, 12, 19, 0, 0), (.aload_n 0, 0, 0, 0, 0), (.iconst 0, 0, 0, 0, 0), (.putfield 179, 12, 20, 0, 0), (.aload_n 0, 0, 0, 0, 0), (.iconst 0, 0, 0, 0, 0), (.putfield 182, 12, 21, 0, 0), (.iconst 0, 0, 0, 0, 0), (.istore_n 1, 0, 0, 0, 0)] (17, [some (.ref 0), some (.int 0)], [], (sy_up (sy_up (sy_up σ.1 0 19 0) 0 20 0) 0 21 0, σ.2)) [] (by decide +kernel) rfl trivial ?_
  exact k1

set_option maxRecDepth 20000 in
theorem w_M_wrongPlace_17 {Q : Option Value → sy_S → Prop} {σ : sy_S} {l1 : Int32}  (b1 : ¬ ((σ.1 0 16) ≤ l1) → vp_in l1 40) (k1 : (σ.1 0 16) ≤ l1 → (σ.1 0 20) ≤ 0 → Q (some (.int (σ.1 0 16))) (sy_up σ.1 0 18 3, σ.2)) (k2 : (σ.1 0 16) ≤ l1 → ¬ ((σ.1 0 20) ≤ 0) → (σ.1 0 21) = 0 → Q (some (.int (-1))) (sy_up σ.1 0 18 0, σ.2)) (k3 : (σ.1 0 16) ≤ l1 → ¬ ((σ.1 0 20) ≤ 0) → ¬ ((σ.1 0 21) = 0) → ¬ (σ.1 0 20) = (σ.1 0 21) → Q (some (.int (σ.1 0 16))) (sy_up σ.1 0 18 3, σ.2)) (k4 : (σ.1 0 16) ≤ l1 → ¬ ((σ.1 0 20) ≤ 0) → ¬ ((σ.1 0 21) = 0) → ¬ (¬ (σ.1 0 20) = (σ.1 0 21)) → Q (some (.int (-1))) (sy_up σ.1 0 18 0, σ.2)) (k5 : ¬ ((σ.1 0 16) ≤ l1) → sy_E shM mX12_wrongAt (0, sy_ent [.ref 0, .int (σ.1 11 l1.toNatClampNeg)] 3, [], σ) (fun r9 σ9 => sy_E shM mX12_wrongPlace (36, [some (.ref 0), some (.int l1)], r9.toList ++ [.ref 0], σ9) Q)) : sy_E shM mX12_wrongPlace (17, [some (.ref 0), some (.int l1)], [], σ) Q := by
  refine sy_bk [(.iload_n 1, 0, 0, 0, 0), (.aload_n 0, 0, 0, 0, 0), (.getfield 169, 12, 16, 0, 0)] (22, [some (.ref 0), some (.int l1)], [.int (σ.1 0 16), .int l1], σ) [] (by decide +kernel) rfl trivial ?_
  by_cases c1 : (σ.1 0 16) ≤ l1
  · refine sy_bk [(.if_icmp .ge 79, 1, 101, 0, 0)] (101, [some (.ref 0), some (.int l1)], [], σ) [sy_cc .ge l1 (σ.1 0 16)] (by decide +kernel) rfl ⟨c1, trivial⟩ ?_
    refine sy_bk [(.aload_n 0, 0, 0, 0, 0), (.getfield 179, 12, 20, 0, 0)] (105, [some (.ref 0), some (.int l1)], [.int (σ.1 0 20)], σ) [] (by decide +kernel) rfl trivial ?_
    by_cases c2 : (σ.1 0 20) ≤ 0
    · refine sy_bk [(.ifCond .le 25, 1, 130, 0, 0)] (130, [some (.ref 0), some (.int l1)], [], σ) [sy_cc .le (σ.1 0 20) 0] (by decide +kernel) rfl ⟨c2, trivial⟩ ?_
      refine sy_bk [(.iconst 0, 0, 0, 0, 0), (.istore_n 1, 0, 0, 0, 0), (.aload_n 0, 0, 0, 0, 0), (.iload_n 1, 0, 0, 0, 0), (.ifCond .eq 7, 1, 141, 0, 0), (.iconst 3, 0, 0, 3, 0), (.putfield 192, 12, 18, 0, 0), (.iload_n 1, 0, 0, 0, 0), (.ifCond .eq 7, 1, 153, 0, 0), (.aload_n 0, 0, 0, 0, 0), (.getfield 169, 12, 16, 0, 0)] (157, [some (.ref 0), some (.int 0)], [.int (σ.1 0 16)], (sy_up σ.1 0 18 3, σ.2)) [sy_cc .eq 0 0, sy_cc .eq 0 0] (by decide +kernel) rfl ⟨(by decide : ((0 : Int32) = 0)), (by decide : ((0 : Int32) = 0)), trivial⟩ ?_
      exact sy_reti rfl (by decide +kernel) (k1 c1 c2)
    · refine sy_bk [(.ifCond .le 25, 0, 130, 0, 0)] (108, [some (.ref 0), some (.int l1)], [], σ) [¬ sy_cc .le (σ.1 0 20) 0] (by decide +kernel) rfl ⟨c2, trivial⟩ ?_
      refine sy_bk [(.aload_n 0, 0, 0, 0, 0), (.getfield 182, 12, 21, 0, 0)] (112, [some (.ref 0), some (.int l1)], [.int (σ.1 0 21)], σ) [] (by decide +kernel) rfl trivial ?_
      by_cases c3 : (σ.1 0 21) = 0
      · refine sy_bk [(.ifCond .eq 14, 1, 126, 0, 0)] (126, [some (.ref 0), some (.int l1)], [], σ) [sy_cc .eq (σ.1 0 21) 0] (by decide +kernel) rfl ⟨c3, trivial⟩ ?_
        refine sy_bk [(.iconst 1, 0, 0, 1, 0), (.goto 4, 0, 131, 0, 0), (.istore_n 1, 0, 0, 0, 0), (.aload_n 0, 0, 0, 0, 0), (.iload_n 1, 0, 0, 0, 0), (.ifCond .eq 7, 0, 141, 0, 0), (.iconst 0, 0, 0, 0, 0), (.goto 4, 0, 142, 0, 0), (.putfield 192, 12, 18, 0, 0), (.iload_n 1, 0, 0, 0, 0), (.ifCond .eq 7, 0, 153, 0, 0), (.iconst (-1), 0, 0, (-1), 0), (.goto 7, 0, 157, 0, 0)] (157, [some (.ref 0), some (.int 1)], [.int (-1)], (sy_up σ.1 0 18 0, σ.2)) [¬ sy_cc .eq 1 0, ¬ sy_cc .eq 1 0] (by decide +kernel) rfl ⟨(by decide : ¬ ((1 : Int32) = 0)), (by decide : ¬ ((1 : Int32) = 0)), trivial⟩ ?_
        exact sy_reti rfl (by decide +kernel) (k2 c1 c2 c3)
      · refine sy_bk [(.ifCond .eq 14, 0, 126, 0, 0)] (115, [some (.ref 0), some (.int l1)], [], σ) [¬ sy_cc .eq (σ.1 0 21) 0] (by decide +kernel) rfl ⟨c3, trivial⟩ ?_
        refine sy_bk [(.aload_n 0, 0, 0, 0, 0), (.getfield 179, 12, 20, 0, 0), (.aload_n 0, 0, 0, 0, 0), (.getfield 182, 12, 21, 0, 0)] (123, [some (.ref 0), some (.int l1)], [.int (σ.1 0 21), .int (σ.1 0 20)], σ) [] (by decide +kernel) rfl trivial ?_
        by_cases c4 : ¬ (σ.1 0 20) = (σ.1 0 21)
        · refine sy_bk [(.if_icmp .ne 7, 1, 130, 0, 0)] (130, [some (.ref 0), some (.int l1)], [], σ) [sy_cc .ne (σ.1 0 20) (σ.1 0 21)] (by decide +kernel) rfl ⟨c4, trivial⟩ ?_
          refine sy_bk [(.iconst 0, 0, 0, 0, 0), (.istore_n 1, 0, 0, 0, 0), (.aload_n 0, 0, 0, 0, 0), (.iload_n 1, 0, 0, 0, 0), (.ifCond .eq 7, 1, 141, 0, 0), (.iconst 3, 0, 0, 3, 0), (.putfield 192, 12, 18, 0, 0), (.iload_n 1, 0, 0, 0, 0), (.ifCond .eq 7, 1, 153, 0, 0), (.aload_n 0, 0, 0, 0, 0), (.getfield 169, 12, 16, 0, 0)] (157, [some (.ref 0), some (.int 0)], [.int (σ.1 0 16)], (sy_up σ.1 0 18 3, σ.2)) [sy_cc .eq 0 0, sy_cc .eq 0 0] (by decide +kernel) rfl ⟨(by decide : ((0 : Int32) = 0)), (by decide : ((0 : Int32) = 0)), trivial⟩ ?_
          exact sy_reti rfl (by decide +kernel) (k3 c1 c2 c3 c4)
        · refine sy_bk [(.if_icmp .ne 7, 0, 130, 0, 0)] (126, [some (.ref 0), some (.int l1)], [], σ) [¬ sy_cc .ne (σ.1 0 20) (σ.1 0 21)] (by decide +kernel) rfl ⟨c4, trivial⟩ ?_
          refine sy_bk [(.iconst 1, 0, 0, 1, 0), (.goto 4, 0, 131, 0, 0), (.istore_n 1, 0, 0, 0, 0), (.aload_n 0, 0, 0, 0, 0), (.iload_n 1, 0, 0, 0, 0), (.ifCond .eq 7, 0, 141, 0, 0), (.iconst 0, 0, 0, 0, 0), (.goto 4, 0, 142, 0, 0), (.putfield 192, 12, 18, 0, 0), (.iload_n 1, 0, 0, 0, 0), (.ifCond .eq 7, 0, 153, 0, 0), (.iconst (-1), 0, 0, (-1), 0), (.goto 7, 0, 157, 0, 0)] (157, [some (.ref 0), some (.int 1)], [.int (-1)], (sy_up σ.1 0 18 0, σ.2)) [¬ sy_cc .eq 1 0, ¬ sy_cc .eq 1 0] (by decide +kernel) rfl ⟨(by decide : ¬ ((1 : Int32) = 0)), (by decide : ¬ ((1 : Int32) = 0)), trivial⟩ ?_
          exact sy_reti rfl (by decide +kernel) (k4 c1 c2 c3 c4)
  · refine sy_bk [(.if_icmp .ge 79, 0, 101, 0, 0)] (25, [some (.ref 0), some (.int l1)], [], σ) [¬ sy_cc .ge l1 (σ.1 0 16)] (by decide +kernel) rfl ⟨c1, trivial⟩ ?_
    refine sy_bk [(.aload_n 0, 0, 0, 0, 0), (.aload_n 0, 0, 0, 0, 0), (.aload_n 0, 0, 0, 0, 0), (.getfield 50, 12, 15, 0, 0), (.iload_n 1, 0, 0, 0, 0), (.iaload, 0, 0, 0, 0)] (33, [some (.ref 0), some (.int l1)], [.int (σ.1 11 l1.toNatClampNeg), .ref 0, .ref 0], σ) [sy_okA shM 0 11 l1] (by decide +kernel) rfl ⟨⟨40, _, rfl, (b1 c1)⟩, trivial⟩ ?_
    refine sy_callV mX12_wrongAt 0 [.int (σ.1 11 l1.toNatClampNeg)] [.ref 0] kX12_wrongAt jX12_188 (by decide +kernel) rfl rfl (Nat.le_of_ble_eq_true rfl) (Nat.le_of_ble_eq_true rfl) (by decide) rfl ?_
    exact k5 c1

set_option maxRecDepth 20000 in
theorem w_M_wrongPlace_36 {Q : Option Value → sy_S → Prop} {σ : sy_S} {l1 : Int32} {v : Int32}  (b1 : v ≤ 0 → vp_in l1 40) (k1 : v ≤ 0 → ¬ (σ.1 11 l1.toNatClampNeg) = 47 → sy_E shM mX12_wrongPlace (17, [some (.ref 0), some (.int (l1 + 1))], [], (sy_up (sy_up σ.1 0 18 v) 0 20 ((σ.1 0 20) + 1), σ.2)) Q) (k2 : v ≤ 0 → ¬ (¬ (σ.1 11 l1.toNatClampNeg) = 47) → sy_E shM mX12_wrongPlace (17, [some (.ref 0), some (.int (l1 + 1))], [], (sy_up (sy_up (sy_up (sy_up σ.1 0 18 v) 0 21 (σ.1 0 20)) 0 20 0) 0 19 ((σ.1 0 19) + 1), σ.2)) Q) (k3 : ¬ (v ≤ 0) → Q (some (.int l1)) (sy_up σ.1 0 18 v, σ.2)) : sy_E shM mX12_wrongPlace (36, [some (.ref 0), some (.int l1)], [.int v, .ref 0], σ) Q := by
  refine sy_bk [(.putfield 192, 12, 18, 0, 0), (.aload_n 0, 0, 0, 0, 0), (.getfield 192, 12, 18, 0, 0)] (43, [some (.ref 0), some (.int l1)], [.int v], (sy_up σ.1 0 18 v, σ.2)) [] (by decide +kernel) rfl trivial ?_
  by_cases c1 : v ≤ 0
  · refine sy_bk [(.ifCond .le 5, 1, 48, 0, 0)] (48, [some (.ref 0), some (.int l1)], [], (sy_up σ.1 0 18 v, σ.2)) [sy_cc .le v 0] (by decide +kernel) rfl ⟨c1, trivial⟩ ?_
    refine sy_bk [(.aload_n 0, 0, 0, 0, 0), (.getfield 50, 12, 15, 0, 0), (.iload_n 1, 0, 0, 0, 0), (.iaload, 0, 0, 0, 0), (.bipush 47, 0, 0, 47, 0)] (56, [some (.ref 0), some (.int l1)], [.int 47, .int (σ.1 11 l1.toNatClampNeg)], (sy_up σ.1 0 18 v, σ.2)) [sy_okA shM 0 11 l1] (by decide +kernel) rfl ⟨⟨40, _, rfl, (b1 c1)⟩, trivial⟩ ?_
    by_cases c2 : ¬ (σ.1 11 l1.toNatClampNeg) = 47
    · refine sy_bk [(.if_icmp .ne 29, 1, 85, 0, 0)] (85, [some (.ref 0), some (.int l1)], [], (sy_up σ.1 0 18 v, σ.2)) [sy_cc .ne (σ.1 11 l1.toNatClampNeg) 47] (by decide +kernel) rfl ⟨c2, trivial⟩ ?_
      refine sy_bk [(.aload_n 0, 0, 0, 0, 0), (.dup, 0, 0, 0, 0), (.getfield 179, 12, 20, 0, 0), (.iconst 1, 0, 0, 1, 0), (.iadd, 0, 0, 0, 0), (.putfield 179, 12, 20, 0, 0), (.iinc 1 1, 0, 0, 1, 0), (.goto (-81), 0, 17, 0, 0)] (17, [some (.ref 0), some (.int (l1 + 1))], [], (sy_up (sy_up σ.1 0 18 v) 0 20 ((σ.1 0 20) + 1), σ.2)) [] (by decide +kernel) rfl trivial ?_
      exact k1 c1 c2
    · refine sy_bk [(.if_icmp .ne 29, 0, 85, 0, 0)] (59, [some (.ref 0), some (.int l1)], [], (sy_up σ.1 0 18 v, σ.2)) [¬ sy_cc .ne (σ.1 11 l1.toNatClampNeg) 47] (by decide +kernel) rfl ⟨c2, trivial⟩ ?_
      refine sy_bk [(.aload_n 0, 0, 0, 0, 0), (.aload_n 0, 0, 0, 0, 0), (.getfield 179, 12, 20, 0, 0), (.putfield 182, 12, 21, 0, 0), (.aload_n 0, 0, 0, 0, 0), (.iconst 0, 0, 0, 0, 0), (.putfield 179, 12, 20, 0, 0), (.aload_n 0, 0, 0, 0, 0), (.dup, 0, 0, 0, 0), (.getfield 185, 12, 19, 0, 0), (.iconst 1, 0, 0, 1, 0), (.iadd, 0, 0, 0, 0), (.putfield 185, 12, 19, 0, 0), (.goto 13, 0, 95, 0, 0), (.iinc 1 1, 0, 0, 1, 0), (.goto (-81), 0, 17, 0, 0)] (17, [some (.ref 0), some (.int (l1 + 1))], [], (sy_up (sy_up (sy_up (sy_up σ.1 0 18 v) 0 21 (σ.1 0 20)) 0 20 0) 0 19 ((σ.1 0 19) + 1), σ.2)) [] (by decide +kernel) rfl trivial ?_
      exact k2 c1 c2
  · refine sy_bk [(.ifCond .le 5, 0, 48, 0, 0)] (46, [some (.ref 0), some (.int l1)], [], (sy_up σ.1 0 18 v, σ.2)) [¬ sy_cc .le v 0] (by decide +kernel) rfl ⟨c1, trivial⟩ ?_
    refine sy_bk [(.iload_n 1, 0, 0, 0, 0)] (47, [some (.ref 0), some (.int l1)], [.int l1], (sy_up σ.1 0 18 v, σ.2)) [] (by decide +kernel) rfl trivial ?_
    exact sy_reti rfl (by decide +kernel) (k3 c1)

set_option maxRecDepth 20000 in
theorem w_M_read_0 {Q : Option Value → sy_S → Prop} {σ : sy_S}    (k1 : sy_E shM mX12_wrongPlace (0, sy_ent [.ref 0] 2, [], σ) (fun r9 σ9 => sy_E shM mX12_read (4, [some (.ref 0), none, none, none, none], r9.toList ++ [], σ9) Q)) : sy_E shM mX12_read (0, sy_ent [.ref 0] 5, [], σ) Q := by
  show sy_E shM mX12_read (0, [some (.ref 0), none, none, none, none], [], σ) _
  refine sy_bk [(.aload_n 0, 0, 0, 0, 0)] (1, [some (.ref 0), none, none, none, none], [.ref 0], σ) [] (by decide +kernel) rfl trivial ?_
  refine sy_callV mX12_wrongPlace 0 [] [] kX12_wrongPlace jX12_195 (by decide +kernel) rfl rfl (Nat.le_of_ble_eq_true rfl) (Nat.le_of_ble_eq_true rfl) (by decide) rfl ?_
  exact k1

set_option maxRecDepth 20000 in
theorem w_M_read_4 {Q : Option Value → sy_S → Prop} {σ : sy_S} {v : Int32}   (k1 : v < 0 → sy_E shM mX12_read (55, [some (.ref 0), none, some (.int (σ.1 0 16)), some (.int 0), some (.int 0)], [], (sy_up (sy_up (sy_up (sy_up σ.1 0 17 (σ.1 0 19)) 0 16 0) 0 0 ((σ.1 0 19) + 1)) 0 1 (σ.1 0 20), σ.2)) Q) (k2 : ¬ (v < 0) → Q (some (.int ((-100) - v))) (sy_up (sy_up σ.1 0 17 (σ.1 0 19)) 0 16 0, σ.2)) : sy_E shM mX12_read (4, [some (.ref 0), none, none, none, none], [.int v], σ) Q := by
  refine sy_bk [(.istore_n 1, 0, 0, 0, 0), (.aload_n 0, 0, 0, 0, 0), (.aload_n 0, 0, 0, 0, 0), (.getfield 185, 12, 19, 0, 0), (.putfield 198, 12, 17, 0, 0), (.aload_n 0, 0, 0, 0, 0), (.getfield 169, 12, 16, 0, 0), (.istore_n 2, 0, 0, 0, 0), (.aload_n 0, 0, 0, 0, 0), (.iconst 0, 0, 0, 0, 0), (.putfield 169, 12, 16, 0, 0), (.iload_n 1, 0, 0, 0, 0)] (24, [some (.ref 0), some (.int v), some (.int (σ.1 0 16)), none, none], [.int v], (sy_up (sy_up σ.1 0 17 (σ.1 0 19)) 0 16 0, σ.2)) [] (by decide +kernel) rfl trivial ?_
  by_cases c1 : v < 0
  · refine sy_bk [(.ifCond .lt 8, 1, 32, 0, 0)] (32, [some (.ref 0), some (.int v), some (.int (σ.1 0 16)), none, none], [], (sy_up (sy_up σ.1 0 17 (σ.1 0 19)) 0 16 0, σ.2)) [sy_cc .lt v 0] (by decide +kernel) rfl ⟨c1, trivial⟩ ?_
    refine sy_bk [(.aload_n 0, 0, 0, 0, 0), (.aload_n 0, 0, 0, 0, 0), (.getfield 185, 12, 19, 0, 0), (.iconst 1, 0, 0, 1, 0), (.iadd, 0, 0, 0, 0), (.putfield 9, 12, 0, 0, 0), (.aload_n 0, 0, 0, 0, 0), (.aload_n 0, 0, 0, 0, 0), (.getfield 179, 12, 20, 0, 0), (.putfield 15, 12, 1, 0, 0), (.iconst 0, 0, 0, 0, 0), (.istore_n 3, 0, 0, 0, 0), (.iconst 0, 0, 0, 0, 0), (.istore 4, 0, 0, 0, 0)] (55, [some (.ref 0), some (.int v), some (.int (σ.1 0 16)), some (.int 0), some (.int 0)], [], (sy_up (sy_up (sy_up (sy_up σ.1 0 17 (σ.1 0 19)) 0 16 0) 0 0 ((σ.1 0 19) + 1)) 0 1 (σ.1 0 20), σ.2)) [] (by decide +kernel) rfl trivial ?_
    refine sy_drop [some (.ref 0), none, some (.int (σ.1 0 16)), some (.int 0), some (.int 0)] ⟨rfl, rfl, rfl, rfl, trivial⟩ ?_
    exact k1 c1
  · refine sy_bk [(.ifCond .lt 8, 0, 32, 0, 0)] (27, [some (.ref 0), some (.int v), some (.int (σ.1 0 16)), none, none], [], (sy_up (sy_up σ.1 0 17 (σ.1 0 19)) 0 16 0, σ.2)) [¬ sy_cc .lt v 0] (by decide +kernel) rfl ⟨c1, trivial⟩ ?_
    refine sy_bk [(.bipush (-100), 0, 0, (-100), 0), (.iload_n 1, 0, 0, 0, 0), (.isub, 0, 0, 0, 0)] (31, [some (.ref 0), some (.int v), some (.int (σ.1 0 16)), none, none], [.int ((-100) - v)], (sy_up (sy_up σ.1 0 17 (σ.1 0 19)) 0 16 0, σ.2)) [] (by decide +kernel) rfl trivial ?_
    exact sy_reti rfl (by decide +kernel) (k2 c1)

set_option maxRecDepth 20000 in
theorem w_M_read_55 {Q : Option Value → sy_S → Prop} {σ : sy_S} {l2 : Int32} {l3 : Int32} {l4 : Int32}  (b1 : ¬ (16 ≤ l4) → vp_in l4 16) (k1 : 16 ≤ l4 → sy_E shM mX12_read (87, [some (.ref 0), none, some (.int l2), some (.int l3), some (.int 0)], [], σ) Q) (k2 : ¬ (16 ≤ l4) → sy_E shM mX12_read (55, [some (.ref 0), none, some (.int l2), some (.int l3), some (.int (l4 + 1))], [], (sy_up (sy_up σ.1 1 l4.toNatClampNeg (vp_nar .boolean 0)) 2 l4.toNatClampNeg 0, σ.2)) Q) : sy_E shM mX12_read (55, [some (.ref 0), none, some (.int l2), some (.int l3), some (.int l4)], [], σ) Q := by
  refine sy_bk [(.iload 4, 0, 0, 0, 0), (.bipush 16, 0, 0, 16, 0)] (59, [some (.ref 0), none, some (.int l2), some (.int l3), some (.int l4)], [.int 16, .int l4], σ) [] (by decide +kernel) rfl trivial ?_
  by_cases c1 : 16 ≤ l4
  · refine sy_bk [(.if_icmp .ge 25, 1, 84, 0, 0)] (84, [some (.ref 0), none, some (.int l2), some (.int l3), some (.int l4)], [], σ) [sy_cc .ge l4 16] (by decide +kernel) rfl ⟨c1, trivial⟩ ?_
    refine sy_bk [(.iconst 0, 0, 0, 0, 0), (.istore 4, 0, 0, 0, 0)] (87, [some (.ref 0), none, some (.int l2), some (.int l3), some (.int 0)], [], σ) [] (by decide +kernel) rfl trivial ?_
    exact k1 c1
  · refine sy_bk [(.if_icmp .ge 25, 0, 84, 0, 0)] (62, [some (.ref 0), none, some (.int l2), some (.int l3), some (.int l4)], [], σ) [¬ sy_cc .ge l4 16] (by decide +kernel) rfl ⟨c1, trivial⟩ ?_
    refine sy_bk [(.aload_n 0, 0, 0, 0, 0), (.getfield 18, 12, 2, 0, 0), (.iload 4, 0, 0, 0, 0), (.iconst 0, 0, 0, 0, 0), (.bastore, 0, 0, 0, 0), (.aload_n 0, 0, 0, 0, 0), (.getfield 22, 12, 3, 0, 0), (.iload 4, 0, 0, 0, 0), (.iconst 0, 0, 0, 0, 0), (.iastore, 0, 0, 0, 0), (.iinc 4 1, 0, 0, 1, 0), (.goto (-26), 0, 55, 0, 0)] (55, [some (.ref 0), none, some (.int l2), some (.int l3), some (.int (l4 + 1))], [], (sy_up (sy_up σ.1 1 l4.toNatClampNeg (vp_nar .boolean 0)) 2 l4.toNatClampNeg 0, σ.2)) [sy_okA shM 1 1 l4, sy_okA shM 0 2 l4] (by decide +kernel) rfl ⟨⟨16, _, rfl, (b1 c1)⟩, ⟨16, _, rfl, (b1 c1)⟩, trivial⟩ ?_
    exact k2 c1

set_option maxRecDepth 20000 in
theorem w_M_read_87 {Q : Option Value → sy_S → Prop} {σ : sy_S} {l2 : Int32} {l3 : Int32} {l4 : Int32}  (b1 : ¬ (l2 ≤ l4) → vp_in l4 40) (b2 : ¬ (l2 ≤ l4) → ¬ ((σ.1 11 l4.toNatClampNeg) = 47) → ¬ (σ.1 11 l4.toNatClampNeg) = 35 → vp_in l3 16) (b3 : ¬ (l2 ≤ l4) → ¬ ((σ.1 11 l4.toNatClampNeg) = 47) → ¬ (¬ (σ.1 11 l4.toNatClampNeg) = 35) → vp_in l3 16) (k1 : l2 ≤ l4 → sy_E shM mX12_forgets (0, sy_ent [.ref 0] 2, [], σ) (fun r9 σ9 => sy_E shM mX12_read (170, [some (.ref 0), none, none, none, none], r9.toList ++ [], σ9) Q)) (k2 : ¬ (l2 ≤ l4) → (σ.1 11 l4.toNatClampNeg) = 47 → sy_E shM mX12_read (87, [some (.ref 0), none, some (.int l2), some (.int l3), some (.int (l4 + 1))], [], σ) Q) (k3 : ¬ (l2 ≤ l4) → ¬ ((σ.1 11 l4.toNatClampNeg) = 47) → ¬ (σ.1 11 l4.toNatClampNeg) = 35 → ((sy_up σ.1 1 l3.toNatClampNeg (vp_nar .boolean 0)) 1 l3.toNatClampNeg) = 0 → sy_E shM mX12_read (87, [some (.ref 0), none, some (.int l2), some (.int (l3 + 1)), some (.int (l4 + 1))], [], (sy_up (sy_up σ.1 1 l3.toNatClampNeg (vp_nar .boolean 0)) 2 l3.toNatClampNeg ((σ.1 11 l4.toNatClampNeg) - 48), σ.2)) Q) (k4 : ¬ (l2 ≤ l4) → ¬ ((σ.1 11 l4.toNatClampNeg) = 47) → ¬ (σ.1 11 l4.toNatClampNeg) = 35 → ¬ (((sy_up σ.1 1 l3.toNatClampNeg (vp_nar .boolean 0)) 1 l3.toNatClampNeg) = 0) → sy_E shM mX12_read (87, [some (.ref 0), none, some (.int l2), some (.int (l3 + 1)), some (.int (l4 + 1))], [], (sy_up (sy_up σ.1 1 l3.toNatClampNeg (vp_nar .boolean 0)) 2 l3.toNatClampNeg 0, σ.2)) Q) (k5 : ¬ (l2 ≤ l4) → ¬ ((σ.1 11 l4.toNatClampNeg) = 47) → ¬ (¬ (σ.1 11 l4.toNatClampNeg) = 35) → ((sy_up σ.1 1 l3.toNatClampNeg (vp_nar .boolean 1)) 1 l3.toNatClampNeg) = 0 → sy_E shM mX12_read (87, [some (.ref 0), none, some (.int l2), some (.int (l3 + 1)), some (.int (l4 + 1))], [], (sy_up (sy_up σ.1 1 l3.toNatClampNeg (vp_nar .boolean 1)) 2 l3.toNatClampNeg ((σ.1 11 l4.toNatClampNeg) - 48), σ.2)) Q) (k6 : ¬ (l2 ≤ l4) → ¬ ((σ.1 11 l4.toNatClampNeg) = 47) → ¬ (¬ (σ.1 11 l4.toNatClampNeg) = 35) → ¬ (((sy_up σ.1 1 l3.toNatClampNeg (vp_nar .boolean 1)) 1 l3.toNatClampNeg) = 0) → sy_E shM mX12_read (87, [some (.ref 0), none, some (.int l2), some (.int (l3 + 1)), some (.int (l4 + 1))], [], (sy_up (sy_up σ.1 1 l3.toNatClampNeg (vp_nar .boolean 1)) 2 l3.toNatClampNeg 0, σ.2)) Q) : sy_E shM mX12_read (87, [some (.ref 0), none, some (.int l2), some (.int l3), some (.int l4)], [], σ) Q := by
  refine sy_bk [(.iload 4, 0, 0, 0, 0), (.iload_n 2, 0, 0, 0, 0)] (90, [some (.ref 0), none, some (.int l2), some (.int l3), some (.int l4)], [.int l2, .int l4], σ) [] (by decide +kernel) rfl trivial ?_
  by_cases c1 : l2 ≤ l4
  · refine sy_bk [(.if_icmp .ge 76, 1, 166, 0, 0)] (166, [some (.ref 0), none, some (.int l2), some (.int l3), some (.int l4)], [], σ) [sy_cc .ge l4 l2] (by decide +kernel) rfl ⟨c1, trivial⟩ ?_
    refine sy_bk [(.aload_n 0, 0, 0, 0, 0)] (167, [some (.ref 0), none, some (.int l2), some (.int l3), some (.int l4)], [.ref 0], σ) [] (by decide +kernel) rfl trivial ?_
    refine sy_drop [some (.ref 0), none, none, none, none] ⟨rfl, trivial⟩ ?_
    refine sy_callV mX12_forgets 0 [] [] kX12_forgets jX12_149 (by decide +kernel) rfl rfl (Nat.le_of_ble_eq_true rfl) (Nat.le_of_ble_eq_true rfl) (by decide) rfl ?_
    exact k1 c1
  · refine sy_bk [(.if_icmp .ge 76, 0, 166, 0, 0)] (93, [some (.ref 0), none, some (.int l2), some (.int l3), some (.int l4)], [], σ) [¬ sy_cc .ge l4 l2] (by decide +kernel) rfl ⟨c1, trivial⟩ ?_
    refine sy_bk [(.aload_n 0, 0, 0, 0, 0), (.getfield 50, 12, 15, 0, 0), (.iload 4, 0, 0, 0, 0), (.iaload, 0, 0, 0, 0), (.bipush 47, 0, 0, 47, 0)] (102, [some (.ref 0), none, some (.int l2), some (.int l3), some (.int l4)], [.int 47, .int (σ.1 11 l4.toNatClampNeg)], σ) [sy_okA shM 0 11 l4] (by decide +kernel) rfl ⟨⟨40, _, rfl, (b1 c1)⟩, trivial⟩ ?_
    by_cases c2 : (σ.1 11 l4.toNatClampNeg) = 47
    · refine sy_bk [(.if_icmp .eq 58, 1, 160, 0, 0)] (160, [some (.ref 0), none, some (.int l2), some (.int l3), some (.int l4)], [], σ) [sy_cc .eq (σ.1 11 l4.toNatClampNeg) 47] (by decide +kernel) rfl ⟨c2, trivial⟩ ?_
      refine sy_bk [(.iinc 4 1, 0, 0, 1, 0), (.goto (-76), 0, 87, 0, 0)] (87, [some (.ref 0), none, some (.int l2), some (.int l3), some (.int (l4 + 1))], [], σ) [] (by decide +kernel) rfl trivial ?_
      exact k2 c1 c2
    · refine sy_bk [(.if_icmp .eq 58, 0, 160, 0, 0)] (105, [some (.ref 0), none, some (.int l2), some (.int l3), some (.int l4)], [], σ) [¬ sy_cc .eq (σ.1 11 l4.toNatClampNeg) 47] (by decide +kernel) rfl ⟨c2, trivial⟩ ?_
      refine sy_bk [(.aload_n 0, 0, 0, 0, 0), (.getfield 18, 12, 2, 0, 0), (.iload_n 3, 0, 0, 0, 0), (.aload_n 0, 0, 0, 0, 0), (.getfield 50, 12, 15, 0, 0), (.iload 4, 0, 0, 0, 0), (.iaload, 0, 0, 0, 0), (.bipush 35, 0, 0, 35, 0)] (119, [some (.ref 0), none, some (.int l2), some (.int l3), some (.int l4)], [.int 35, .int (σ.1 11 l4.toNatClampNeg), .int l3, .ref 1], σ) [sy_okA shM 0 11 l4] (by decide +kernel) rfl ⟨⟨40, _, rfl, (b1 c1)⟩, trivial⟩ ?_
      by_cases c3 : ¬ (σ.1 11 l4.toNatClampNeg) = 35
      · refine sy_bk [(.if_icmp .ne 7, 1, 126, 0, 0)] (126, [some (.ref 0), none, some (.int l2), some (.int l3), some (.int l4)], [.int l3, .ref 1], σ) [sy_cc .ne (σ.1 11 l4.toNatClampNeg) 35] (by decide +kernel) rfl ⟨c3, trivial⟩ ?_
        refine sy_bk [(.iconst 0, 0, 0, 0, 0), (.bastore, 0, 0, 0, 0), (.aload_n 0, 0, 0, 0, 0), (.getfield 22, 12, 3, 0, 0), (.iload_n 3, 0, 0, 0, 0), (.aload_n 0, 0, 0, 0, 0), (.getfield 18, 12, 2, 0, 0), (.iload_n 3, 0, 0, 0, 0), (.baload, 0, 0, 0, 0)] (139, [some (.ref 0), none, some (.int l2), some (.int l3), some (.int l4)], [.int ((sy_up σ.1 1 l3.toNatClampNeg (vp_nar .boolean 0)) 1 l3.toNatClampNeg), .int l3, .ref 2], (sy_up σ.1 1 l3.toNatClampNeg (vp_nar .boolean 0), σ.2)) [sy_okA shM 1 1 l3, sy_okA shM 1 1 l3] (by decide +kernel) rfl ⟨⟨16, _, rfl, (b2 c1 c2 c3)⟩, ⟨16, _, rfl, (b2 c1 c2 c3)⟩, trivial⟩ ?_
        by_cases c4 : ((sy_up σ.1 1 l3.toNatClampNeg (vp_nar .boolean 0)) 1 l3.toNatClampNeg) = 0
        · refine sy_bk [(.ifCond .eq 7, 1, 146, 0, 0)] (146, [some (.ref 0), none, some (.int l2), some (.int l3), some (.int l4)], [.int l3, .ref 2], (sy_up σ.1 1 l3.toNatClampNeg (vp_nar .boolean 0), σ.2)) [sy_cc .eq ((sy_up σ.1 1 l3.toNatClampNeg (vp_nar .boolean 0)) 1 l3.toNatClampNeg) 0] (by decide +kernel) rfl ⟨c4, trivial⟩ ?_
          refine sy_bk [(.aload_n 0, 0, 0, 0, 0), (.getfield 50, 12, 15, 0, 0), (.iload 4, 0, 0, 0, 0), (.iaload, 0, 0, 0, 0), (.bipush 48, 0, 0, 48, 0), (.isub, 0, 0, 0, 0), (.iastore, 0, 0, 0, 0), (.iinc 3 1, 0, 0, 1, 0), (.iinc 4 1, 0, 0, 1, 0), (.goto (-76), 0, 87, 0, 0)] (87, [some (.ref 0), none, some (.int l2), some (.int (l3 + 1)), some (.int (l4 + 1))], [], (sy_up (sy_up σ.1 1 l3.toNatClampNeg (vp_nar .boolean 0)) 2 l3.toNatClampNeg ((σ.1 11 l4.toNatClampNeg) - 48), σ.2)) [sy_okA shM 0 11 l4, sy_okA shM 0 2 l3] (by decide +kernel) rfl ⟨⟨40, _, rfl, (b1 c1)⟩, ⟨16, _, rfl, (b2 c1 c2 c3)⟩, trivial⟩ ?_
          exact k3 c1 c2 c3 c4
        · refine sy_bk [(.ifCond .eq 7, 0, 146, 0, 0)] (142, [some (.ref 0), none, some (.int l2), some (.int l3), some (.int l4)], [.int l3, .ref 2], (sy_up σ.1 1 l3.toNatClampNeg (vp_nar .boolean 0), σ.2)) [¬ sy_cc .eq ((sy_up σ.1 1 l3.toNatClampNeg (vp_nar .boolean 0)) 1 l3.toNatClampNeg) 0] (by decide +kernel) rfl ⟨c4, trivial⟩ ?_
          refine sy_bk [(.iconst 0, 0, 0, 0, 0), (.goto 13, 0, 156, 0, 0), (.iastore, 0, 0, 0, 0), (.iinc 3 1, 0, 0, 1, 0), (.iinc 4 1, 0, 0, 1, 0), (.goto (-76), 0, 87, 0, 0)] (87, [some (.ref 0), none, some (.int l2), some (.int (l3 + 1)), some (.int (l4 + 1))], [], (sy_up (sy_up σ.1 1 l3.toNatClampNeg (vp_nar .boolean 0)) 2 l3.toNatClampNeg 0, σ.2)) [sy_okA shM 0 2 l3] (by decide +kernel) rfl ⟨⟨16, _, rfl, (b2 c1 c2 c3)⟩, trivial⟩ ?_
          exact k4 c1 c2 c3 c4
      · refine sy_bk [(.if_icmp .ne 7, 0, 126, 0, 0)] (122, [some (.ref 0), none, some (.int l2), some (.int l3), some (.int l4)], [.int l3, .ref 1], σ) [¬ sy_cc .ne (σ.1 11 l4.toNatClampNeg) 35] (by decide +kernel) rfl ⟨c3, trivial⟩ ?_
        refine sy_bk [(.iconst 1, 0, 0, 1, 0), (.goto 4, 0, 127, 0, 0), (.bastore, 0, 0, 0, 0), (.aload_n 0, 0, 0, 0, 0), (.getfield 22, 12, 3, 0, 0), (.iload_n 3, 0, 0, 0, 0), (.aload_n 0, 0, 0, 0, 0), (.getfield 18, 12, 2, 0, 0), (.iload_n 3, 0, 0, 0, 0), (.baload, 0, 0, 0, 0)] (139, [some (.ref 0), none, some (.int l2), some (.int l3), some (.int l4)], [.int ((sy_up σ.1 1 l3.toNatClampNeg (vp_nar .boolean 1)) 1 l3.toNatClampNeg), .int l3, .ref 2], (sy_up σ.1 1 l3.toNatClampNeg (vp_nar .boolean 1), σ.2)) [sy_okA shM 1 1 l3, sy_okA shM 1 1 l3] (by decide +kernel) rfl ⟨⟨16, _, rfl, (b3 c1 c2 c3)⟩, ⟨16, _, rfl, (b3 c1 c2 c3)⟩, trivial⟩ ?_
        by_cases c5 : ((sy_up σ.1 1 l3.toNatClampNeg (vp_nar .boolean 1)) 1 l3.toNatClampNeg) = 0
        · refine sy_bk [(.ifCond .eq 7, 1, 146, 0, 0)] (146, [some (.ref 0), none, some (.int l2), some (.int l3), some (.int l4)], [.int l3, .ref 2], (sy_up σ.1 1 l3.toNatClampNeg (vp_nar .boolean 1), σ.2)) [sy_cc .eq ((sy_up σ.1 1 l3.toNatClampNeg (vp_nar .boolean 1)) 1 l3.toNatClampNeg) 0] (by decide +kernel) rfl ⟨c5, trivial⟩ ?_
          refine sy_bk [(.aload_n 0, 0, 0, 0, 0), (.getfield 50, 12, 15, 0, 0), (.iload 4, 0, 0, 0, 0), (.iaload, 0, 0, 0, 0), (.bipush 48, 0, 0, 48, 0), (.isub, 0, 0, 0, 0), (.iastore, 0, 0, 0, 0), (.iinc 3 1, 0, 0, 1, 0), (.iinc 4 1, 0, 0, 1, 0), (.goto (-76), 0, 87, 0, 0)] (87, [some (.ref 0), none, some (.int l2), some (.int (l3 + 1)), some (.int (l4 + 1))], [], (sy_up (sy_up σ.1 1 l3.toNatClampNeg (vp_nar .boolean 1)) 2 l3.toNatClampNeg ((σ.1 11 l4.toNatClampNeg) - 48), σ.2)) [sy_okA shM 0 11 l4, sy_okA shM 0 2 l3] (by decide +kernel) rfl ⟨⟨40, _, rfl, (b1 c1)⟩, ⟨16, _, rfl, (b3 c1 c2 c3)⟩, trivial⟩ ?_
          exact k5 c1 c2 c3 c5
        · refine sy_bk [(.ifCond .eq 7, 0, 146, 0, 0)] (142, [some (.ref 0), none, some (.int l2), some (.int l3), some (.int l4)], [.int l3, .ref 2], (sy_up σ.1 1 l3.toNatClampNeg (vp_nar .boolean 1), σ.2)) [¬ sy_cc .eq ((sy_up σ.1 1 l3.toNatClampNeg (vp_nar .boolean 1)) 1 l3.toNatClampNeg) 0] (by decide +kernel) rfl ⟨c5, trivial⟩ ?_
          refine sy_bk [(.iconst 0, 0, 0, 0, 0), (.goto 13, 0, 156, 0, 0), (.iastore, 0, 0, 0, 0), (.iinc 3 1, 0, 0, 1, 0), (.iinc 4 1, 0, 0, 1, 0), (.goto (-76), 0, 87, 0, 0)] (87, [some (.ref 0), none, some (.int l2), some (.int (l3 + 1)), some (.int (l4 + 1))], [], (sy_up (sy_up σ.1 1 l3.toNatClampNeg (vp_nar .boolean 1)) 2 l3.toNatClampNeg 0, σ.2)) [sy_okA shM 0 2 l3] (by decide +kernel) rfl ⟨⟨16, _, rfl, (b3 c1 c2 c3)⟩, trivial⟩ ?_
          exact k6 c1 c2 c3 c5

set_option maxRecDepth 20000 in
theorem w_M_read_170 {Q : Option Value → sy_S → Prop} {σ : sy_S}    (k1 : Q (some (.int ((σ.1 0 0) * (σ.1 0 1)))) σ) : sy_E shM mX12_read (170, [some (.ref 0), none, none, none, none], [], σ) Q := by
  refine sy_bk [(.aload_n 0, 0, 0, 0, 0)] (171, [some (.ref 0), none, none, none, none], [.ref 0], σ) [] (by decide +kernel) rfl trivial ?_
  refine sy_callV mX12_cells 0 [] [] kX12_cells jX12_105 (by decide +kernel) rfl rfl (Nat.le_of_ble_eq_true rfl) (Nat.le_of_ble_eq_true rfl) (by decide) rfl ?_
  refine w_m_cells (σ := σ) ?_
  show sy_E shM mX12_read (174, [some (.ref 0), none, none, none, none], [.int ((σ.1 0 0) * (σ.1 0 1))], σ) _
  exact sy_reti rfl (by decide +kernel) (k1)

set_option maxRecDepth 20000 in
theorem w_M_why_0 {Q : Option Value → sy_S → Prop} {σ : sy_S} {i : Int32}   (k1 : (σ.1 0 18) = 0 → Q (some (.int (-1))) σ) (k2 : ¬ ((σ.1 0 18) = 0) → (0 ≤ i.toInt64 ∧ i.toInt64 ≤ 2) → ¬ i = 0 → ¬ i = 1 → Q (some (.int (σ.1 0 18))) σ) (k3 : ¬ ((σ.1 0 18) = 0) → (0 ≤ i.toInt64 ∧ i.toInt64 ≤ 2) → ¬ i = 0 → ¬ (¬ i = 1) → Q (some (.int (10 + (σ.1 0 17)))) σ) (k4 : ¬ ((σ.1 0 18) = 0) → (0 ≤ i.toInt64 ∧ i.toInt64 ≤ 2) → ¬ (¬ i = 0) → Q (some (.int 1)) σ) (k5 : ¬ ((σ.1 0 18) = 0) → (¬ (0 ≤ i.toInt64 ∧ i.toInt64 ≤ 2)) → Q (some (.int (-1))) σ) : sy_E shM mX12_why (0, sy_ent [.ref 0, .int i] 2, [], σ) Q := by
  show sy_E shM mX12_why (0, [some (.ref 0), some (.int i)], [], σ) _
  refine sy_bk [(.aload_n 0, 0, 0, 0, 0), (.getfield 192, 12, 18, 0, 0)] (4, [some (.ref 0), some (.int i)], [.int (σ.1 0 18)], σ) [] (by decide +kernel) rfl trivial ?_
  by_cases c1 : (σ.1 0 18) = 0
  · refine sy_bk [(.ifCond .eq 15, 1, 19, 0, 0)] (19, [some (.ref 0), some (.int i)], [], σ) [sy_cc .eq (σ.1 0 18) 0] (by decide +kernel) rfl ⟨c1, trivial⟩ ?_
    refine sy_bk [(.iconst (-1), 0, 0, (-1), 0)] (20, [some (.ref 0), some (.int i)], [.int (-1)], σ) [] (by decide +kernel) rfl trivial ?_
    exact sy_reti rfl (by decide +kernel) (k1 c1)
  · refine sy_bk [(.ifCond .eq 15, 0, 19, 0, 0)] (7, [some (.ref 0), some (.int i)], [], σ) [¬ sy_cc .eq (σ.1 0 18) 0] (by decide +kernel) rfl ⟨c1, trivial⟩ ?_
    refine sy_bk [(.iload_n 1, 0, 0, 0, 0), (.i2l, 0, 0, 0, 0), (.lconst 0, 0, 0, 0, 0), (.ldc2_w 201, 0, 0, 0, 2)] (13, [some (.ref 0), some (.int i)], [.long 2, .long 0, .long i.toInt64], σ) [] (by decide +kernel) rfl trivial ?_
    refine sy_callS mX12_in [.long i.toInt64, .long 0, .long 2] [] kX12_in jX12_109 (by decide +kernel) rfl rfl (Nat.le_of_ble_eq_true rfl) (Nat.le_of_ble_eq_true rfl) (by decide) ?_
    refine e_m_in (σ := σ) (v := i.toInt64) (lo := 0) (hi := 2) ?_ ?_
    · intro c2
      show sy_E shM mX12_why (16, [some (.ref 0), some (.int i)], [.int 1], σ) _
      refine sy_bk [(.ifCond .ne 5, 1, 21, 0, 0), (.iload_n 1, 0, 0, 0, 0)] (22, [some (.ref 0), some (.int i)], [.int i], σ) [sy_cc .ne 1 0] (by decide +kernel) rfl ⟨(by decide : (¬ (1 : Int32) = 0)), trivial⟩ ?_
      by_cases c3 : ¬ i = 0
      · refine sy_bk [(.ifCond .ne 7, 1, 29, 0, 0)] (29, [some (.ref 0), some (.int i)], [], σ) [sy_cc .ne i 0] (by decide +kernel) rfl ⟨c3, trivial⟩ ?_
        refine sy_bk [(.iload_n 1, 0, 0, 0, 0), (.iconst 1, 0, 0, 1, 0)] (31, [some (.ref 0), some (.int i)], [.int 1, .int i], σ) [] (by decide +kernel) rfl trivial ?_
        by_cases c4 : ¬ i = 1
        · refine sy_bk [(.if_icmp .ne 13, 1, 44, 0, 0)] (44, [some (.ref 0), some (.int i)], [], σ) [sy_cc .ne i 1] (by decide +kernel) rfl ⟨c4, trivial⟩ ?_
          refine sy_bk [(.aload_n 0, 0, 0, 0, 0), (.getfield 192, 12, 18, 0, 0)] (48, [some (.ref 0), some (.int i)], [.int (σ.1 0 18)], σ) [] (by decide +kernel) rfl trivial ?_
          exact sy_reti rfl (by decide +kernel) (k2 c1 c2 c3 c4)
        · refine sy_bk [(.if_icmp .ne 13, 0, 44, 0, 0)] (34, [some (.ref 0), some (.int i)], [], σ) [¬ sy_cc .ne i 1] (by decide +kernel) rfl ⟨c4, trivial⟩ ?_
          refine sy_bk [(.bipush 10, 0, 0, 10, 0), (.aload_n 0, 0, 0, 0, 0), (.getfield 198, 12, 17, 0, 0), (.iadd, 0, 0, 0, 0), (.goto 7, 0, 48, 0, 0)] (48, [some (.ref 0), some (.int i)], [.int (10 + (σ.1 0 17))], σ) [] (by decide +kernel) rfl trivial ?_
          exact sy_reti rfl (by decide +kernel) (k3 c1 c2 c3 c4)
      · refine sy_bk [(.ifCond .ne 7, 0, 29, 0, 0)] (25, [some (.ref 0), some (.int i)], [], σ) [¬ sy_cc .ne i 0] (by decide +kernel) rfl ⟨c3, trivial⟩ ?_
        refine sy_bk [(.iconst 1, 0, 0, 1, 0), (.goto 22, 0, 48, 0, 0)] (48, [some (.ref 0), some (.int i)], [.int 1], σ) [] (by decide +kernel) rfl trivial ?_
        exact sy_reti rfl (by decide +kernel) (k4 c1 c2 c3)
    · intro c5
      show sy_E shM mX12_why (16, [some (.ref 0), some (.int i)], [.int 0], σ) _
      refine sy_bk [(.ifCond .ne 5, 0, 21, 0, 0), (.iconst (-1), 0, 0, (-1), 0)] (20, [some (.ref 0), some (.int i)], [.int (-1)], σ) [¬ sy_cc .ne 0 0] (by decide +kernel) rfl ⟨(by decide : ¬ (¬ (0 : Int32) = 0)), trivial⟩ ?_
      exact sy_reti rfl (by decide +kernel) (k5 c1 c5)

set_option maxRecDepth 20000 in
theorem w_M_settledThen_0 {Q : Option Value → sy_S → Prop} {σ : sy_S} {w : Int32}   (k1 : sy_E shM mX12_settles (0, sy_ent [.ref 0, .ref 12] 3, [], σ) (fun r9 σ9 => sy_E shM mX12_settledThen (8, [some (.ref 0), some (.int w), none], r9.toList ++ [], σ9) Q)) : sy_E shM mX12_settledThen (0, sy_ent [.ref 0, .int w] 3, [], σ) Q := by
  show sy_E shM mX12_settledThen (0, [some (.ref 0), some (.int w), none], [], σ) _
  refine sy_bk [(.aload_n 0, 0, 0, 0, 0), (.aload_n 0, 0, 0, 0, 0), (.getfield 53, 12, 22, 0, 0)] (5, [some (.ref 0), some (.int w), none], [.ref 12, .ref 0], σ) [] (by decide +kernel) rfl trivial ?_
  refine sy_callV mX12_settles 0 [.ref 12] [] kX12_settles jX12_163 (by decide +kernel) rfl rfl (Nat.le_of_ble_eq_true rfl) (Nat.le_of_ble_eq_true rfl) (by decide) rfl ?_
  exact k1

set_option maxRecDepth 20000 in
theorem w_M_settledThen_8 {Q : Option Value → sy_S → Prop} {σ : sy_S} {l1 : Int32} {v : Int32}  (b1 : l1 < 200 → ¬ (l1 < 100) → vp_in (l1 - 100) 16) (b2 : ¬ (l1 < 200) → vp_in (l1 - 200) 16) (k1 : l1 < 200 → l1 < 100 → ¬ l1 = 0 → ¬ l1 = 1 → ¬ l1 = 3 → sy_E shM mX12_grains (0, sy_ent [.ref 0, .ref 12] 4, [], σ) (fun r9 σ9 => sy_E shM mX12_settledThen (83, [none, none, none], r9.toList ++ [], σ9) Q)) (k2 : l1 < 200 → l1 < 100 → ¬ l1 = 0 → ¬ l1 = 1 → ¬ (¬ l1 = 3) → sy_E shM mX12_toppled (0, sy_ent [.ref 0] 3, [], σ) (fun r9 σ9 => sy_E shM mX12_settledThen (72, [none, none, none], r9.toList ++ [], σ9) Q)) (k3 : l1 < 200 → l1 < 100 → ¬ l1 = 0 → ¬ (¬ l1 = 1) → Q (some (.int (σ.1 0 7))) σ) (k4 : l1 < 200 → l1 < 100 → ¬ (¬ l1 = 0) → Q (some (.int v)) σ) (k5 : l1 < 200 → ¬ (l1 < 100) → Q (some (.int (σ.1 5 ((l1 - 100).toNatClampNeg)))) σ) (k6 : ¬ (l1 < 200) → Q (some (.int (σ.1 12 ((l1 - 200).toNatClampNeg)))) σ) : sy_E shM mX12_settledThen (8, [some (.ref 0), some (.int l1), none], [.int v], σ) Q := by
  refine sy_bk [(.istore_n 2, 0, 0, 0, 0), (.iload_n 1, 0, 0, 0, 0), (.sipush 200, 0, 0, 200, 0)] (13, [some (.ref 0), some (.int l1), some (.int v)], [.int 200, .int l1], σ) [] (by decide +kernel) rfl trivial ?_
  by_cases c1 : l1 < 200
  · refine sy_bk [(.if_icmp .lt 14, 1, 27, 0, 0)] (27, [some (.ref 0), some (.int l1), some (.int v)], [], σ) [sy_cc .lt l1 200] (by decide +kernel) rfl ⟨c1, trivial⟩ ?_
    refine sy_bk [(.iload_n 1, 0, 0, 0, 0), (.bipush 100, 0, 0, 100, 0)] (30, [some (.ref 0), some (.int l1), some (.int v)], [.int 100, .int l1], σ) [] (by decide +kernel) rfl trivial ?_
    by_cases c2 : l1 < 100
    · refine sy_bk [(.if_icmp .lt 13, 1, 43, 0, 0)] (43, [some (.ref 0), some (.int l1), some (.int v)], [], σ) [sy_cc .lt l1 100] (by decide +kernel) rfl ⟨c2, trivial⟩ ?_
      refine sy_bk [(.iload_n 1, 0, 0, 0, 0)] (44, [some (.ref 0), some (.int l1), some (.int v)], [.int l1], σ) [] (by decide +kernel) rfl trivial ?_
      by_cases c3 : ¬ l1 = 0
      · refine sy_bk [(.ifCond .ne 7, 1, 51, 0, 0)] (51, [some (.ref 0), some (.int l1), some (.int v)], [], σ) [sy_cc .ne l1 0] (by decide +kernel) rfl ⟨c3, trivial⟩ ?_
        refine sy_bk [(.iload_n 1, 0, 0, 0, 0), (.iconst 1, 0, 0, 1, 0)] (53, [some (.ref 0), some (.int l1), some (.int v)], [.int 1, .int l1], σ) [] (by decide +kernel) rfl trivial ?_
        by_cases c4 : ¬ l1 = 1
        · refine sy_bk [(.if_icmp .ne 10, 1, 63, 0, 0)] (63, [some (.ref 0), some (.int l1), some (.int v)], [], σ) [sy_cc .ne l1 1] (by decide +kernel) rfl ⟨c4, trivial⟩ ?_
          refine sy_bk [(.iload_n 1, 0, 0, 0, 0), (.iconst 3, 0, 0, 3, 0)] (65, [some (.ref 0), some (.int l1), some (.int v)], [.int 3, .int l1], σ) [] (by decide +kernel) rfl trivial ?_
          by_cases c5 : ¬ l1 = 3
          · refine sy_bk [(.if_icmp .ne 10, 1, 75, 0, 0)] (75, [some (.ref 0), some (.int l1), some (.int v)], [], σ) [sy_cc .ne l1 3] (by decide +kernel) rfl ⟨c5, trivial⟩ ?_
            refine sy_bk [(.aload_n 0, 0, 0, 0, 0), (.aload_n 0, 0, 0, 0, 0), (.getfield 53, 12, 22, 0, 0)] (80, [some (.ref 0), some (.int l1), some (.int v)], [.ref 12, .ref 0], σ) [] (by decide +kernel) rfl trivial ?_
            refine sy_drop [none, none, none] trivial ?_
            refine sy_callV mX12_grains 0 [.ref 12] [] kX12_grains jX12_206 (by decide +kernel) rfl rfl (Nat.le_of_ble_eq_true rfl) (Nat.le_of_ble_eq_true rfl) (by decide) rfl ?_
            exact k1 c1 c2 c3 c4 c5
          · refine sy_bk [(.if_icmp .ne 10, 0, 75, 0, 0)] (68, [some (.ref 0), some (.int l1), some (.int v)], [], σ) [¬ sy_cc .ne l1 3] (by decide +kernel) rfl ⟨c5, trivial⟩ ?_
            refine sy_bk [(.aload_n 0, 0, 0, 0, 0)] (69, [some (.ref 0), some (.int l1), some (.int v)], [.ref 0], σ) [] (by decide +kernel) rfl trivial ?_
            refine sy_drop [none, none, none] trivial ?_
            refine sy_callV mX12_toppled 0 [] [] kX12_toppled jX12_203 (by decide +kernel) rfl rfl (Nat.le_of_ble_eq_true rfl) (Nat.le_of_ble_eq_true rfl) (by decide) rfl ?_
            exact k2 c1 c2 c3 c4 c5
        · refine sy_bk [(.if_icmp .ne 10, 0, 63, 0, 0)] (56, [some (.ref 0), some (.int l1), some (.int v)], [], σ) [¬ sy_cc .ne l1 1] (by decide +kernel) rfl ⟨c4, trivial⟩ ?_
          refine sy_bk [(.aload_n 0, 0, 0, 0, 0), (.getfield 117, 12, 7, 0, 0), (.goto 23, 0, 83, 0, 0)] (83, [some (.ref 0), some (.int l1), some (.int v)], [.int (σ.1 0 7)], σ) [] (by decide +kernel) rfl trivial ?_
          exact sy_reti rfl (by decide +kernel) (k3 c1 c2 c3 c4)
      · refine sy_bk [(.ifCond .ne 7, 0, 51, 0, 0)] (47, [some (.ref 0), some (.int l1), some (.int v)], [], σ) [¬ sy_cc .ne l1 0] (by decide +kernel) rfl ⟨c3, trivial⟩ ?_
        refine sy_bk [(.iload_n 2, 0, 0, 0, 0), (.goto 35, 0, 83, 0, 0)] (83, [some (.ref 0), some (.int l1), some (.int v)], [.int v], σ) [] (by decide +kernel) rfl trivial ?_
        exact sy_reti rfl (by decide +kernel) (k4 c1 c2 c3)
    · refine sy_bk [(.if_icmp .lt 13, 0, 43, 0, 0)] (33, [some (.ref 0), some (.int l1), some (.int v)], [], σ) [¬ sy_cc .lt l1 100] (by decide +kernel) rfl ⟨c2, trivial⟩ ?_
      refine sy_bk [(.aload_n 0, 0, 0, 0, 0), (.getfield 32, 12, 6, 0, 0), (.iload_n 1, 0, 0, 0, 0), (.bipush 100, 0, 0, 100, 0), (.isub, 0, 0, 0, 0), (.iaload, 0, 0, 0, 0)] (42, [some (.ref 0), some (.int l1), some (.int v)], [.int (σ.1 5 ((l1 - 100).toNatClampNeg))], σ) [sy_okA shM 0 5 (l1 - 100)] (by decide +kernel) rfl ⟨⟨16, _, rfl, (b1 c1 c2)⟩, trivial⟩ ?_
      exact sy_reti rfl (by decide +kernel) (k5 c1 c2)
  · refine sy_bk [(.if_icmp .lt 14, 0, 27, 0, 0)] (16, [some (.ref 0), some (.int l1), some (.int v)], [], σ) [¬ sy_cc .lt l1 200] (by decide +kernel) rfl ⟨c1, trivial⟩ ?_
    refine sy_bk [(.aload_n 0, 0, 0, 0, 0), (.getfield 53, 12, 22, 0, 0), (.iload_n 1, 0, 0, 0, 0), (.sipush 200, 0, 0, 200, 0), (.isub, 0, 0, 0, 0), (.iaload, 0, 0, 0, 0)] (26, [some (.ref 0), some (.int l1), some (.int v)], [.int (σ.1 12 ((l1 - 200).toNatClampNeg))], σ) [sy_okA shM 0 12 (l1 - 200)] (by decide +kernel) rfl ⟨⟨16, _, rfl, (b2 c1)⟩, trivial⟩ ?_
    exact sy_reti rfl (by decide +kernel) (k6 c1)

set_option maxRecDepth 20000 in
theorem w_M_settledThen_83 {Q : Option Value → sy_S → Prop} {σ : sy_S} {v : Int32}   (k1 : Q (some (.int v)) σ) : sy_E shM mX12_settledThen (83, [none, none, none], [.int v], σ) Q := by
  exact sy_reti rfl (by decide +kernel) (k1)

set_option maxRecDepth 20000 in
theorem w_M_settledThen_72 {Q : Option Value → sy_S → Prop} {σ : sy_S} {v : Int32}   (k1 : Q (some (.int v)) σ) : sy_E shM mX12_settledThen (72, [none, none, none], [.int v], σ) Q := by
  refine sy_bk [(.goto 11, 0, 83, 0, 0)] (83, [none, none, none], [.int v], σ) [] (by decide +kernel) rfl trivial ?_
  exact sy_reti rfl (by decide +kernel) (k1)

set_option maxRecDepth 20000 in
theorem w_M_settled_0 {Q : Option Value → sy_S → Prop} {σ : sy_S} {w : Int32} {G : sg_G}  (b1 : (¬ (0 ≤ w.toInt64 ∧ w.toInt64 ≤ 4)) → gm G σ.1) (k1 : (0 ≤ w.toInt64 ∧ w.toInt64 ≤ 4) → sy_E shM mX12_copies (0, sy_ent [.ref 2, .ref 12] 3, [], σ) (fun r9 σ9 => sy_E shM mX12_settled (48, [some (.ref 0), some (.int w)], r9.toList ++ [], σ9) Q)) (k2 : (¬ (0 ≤ w.toInt64 ∧ w.toInt64 ≤ 4)) → ∀ (m_3 : Nat), px (sg_p G) (w - 100) = some m_3 → sy_E shM mX12_copies (0, sy_ent [.ref 2, .ref 12] 3, [], σ) (fun r9 σ9 => sy_E shM mX12_settled (48, [some (.ref 0), some (.int w)], r9.toList ++ [], σ9) Q)) (k3 : (¬ (0 ≤ w.toInt64 ∧ w.toInt64 ≤ 4)) → px (sg_p G) (w - 100) = none → ∀ (m_6 : Nat), px (sg_p G) (w - 200) = some m_6 → sy_E shM mX12_copies (0, sy_ent [.ref 2, .ref 12] 3, [], σ) (fun r9 σ9 => sy_E shM mX12_settled (48, [some (.ref 0), some (.int w)], r9.toList ++ [], σ9) Q)) (k4 : (¬ (0 ≤ w.toInt64 ∧ w.toInt64 ≤ 4)) → px (sg_p G) (w - 100) = none → px (sg_p G) (w - 200) = none → Q (some (.int (-1))) σ) : sy_E shM mX12_settled (0, sy_ent [.ref 0, .int w] 2, [], σ) Q := by
  show sy_E shM mX12_settled (0, [some (.ref 0), some (.int w)], [], σ) _
  refine sy_bk [(.iload_n 1, 0, 0, 0, 0), (.i2l, 0, 0, 0, 0), (.lconst 0, 0, 0, 0, 0), (.ldc2_w 147, 0, 0, 0, 4)] (6, [some (.ref 0), some (.int w)], [.long 4, .long 0, .long w.toInt64], σ) [] (by decide +kernel) rfl trivial ?_
  refine sy_callS mX12_in [.long w.toInt64, .long 0, .long 4] [] kX12_in jX12_109 (by decide +kernel) rfl rfl (Nat.le_of_ble_eq_true rfl) (Nat.le_of_ble_eq_true rfl) (by decide) ?_
  refine e_m_in (σ := σ) (v := w.toInt64) (lo := 0) (hi := 4) ?_ ?_
  · intro c1
    show sy_E shM mX12_settled (9, [some (.ref 0), some (.int w)], [.int 1], σ) _
    refine sy_bk [(.ifCond .ne 28, 1, 37, 0, 0), (.aload_n 0, 0, 0, 0, 0), (.getfield 22, 12, 3, 0, 0), (.aload_n 0, 0, 0, 0, 0), (.getfield 53, 12, 22, 0, 0)] (45, [some (.ref 0), some (.int w)], [.ref 12, .ref 2], σ) [sy_cc .ne 1 0] (by decide +kernel) rfl ⟨(by decide : (¬ (1 : Int32) = 0)), trivial⟩ ?_
    refine sy_callS mX12_copies [.ref 2, .ref 12] [] kX12_copies jX12_209 (by decide +kernel) rfl rfl (Nat.le_of_ble_eq_true rfl) (Nat.le_of_ble_eq_true rfl) (by decide) ?_
    exact k1 c1
  · intro c2
    show sy_E shM mX12_settled (9, [some (.ref 0), some (.int w)], [.int 0], σ) _
    refine sy_bk [(.ifCond .ne 28, 0, 37, 0, 0), (.aload_n 0, 0, 0, 0, 0), (.iload_n 1, 0, 0, 0, 0), (.bipush 100, 0, 0, 100, 0), (.isub, 0, 0, 0, 0)] (17, [some (.ref 0), some (.int w)], [.int (w - 100), .ref 0], σ) [¬ sy_cc .ne 0 0] (by decide +kernel) rfl ⟨(by decide : ¬ (¬ (0 : Int32) = 0)), trivial⟩ ?_
    refine sy_callV mX12_isPlace 0 [.int (w - 100)] [] kX12_isPlace jX12_152 (by decide +kernel) rfl rfl (Nat.le_of_ble_eq_true rfl) (Nat.le_of_ble_eq_true rfl) (by decide) rfl ?_
    refine e_m_isPl (σ := σ) (cell := (w - 100)) (b1 c2) ?_ ?_
    · intro m_3 c4
      show sy_E shM mX12_settled (20, [some (.ref 0), some (.int w)], [.int 1], σ) _
      refine sy_bk [(.ifCond .ne 17, 1, 37, 0, 0), (.aload_n 0, 0, 0, 0, 0), (.getfield 22, 12, 3, 0, 0), (.aload_n 0, 0, 0, 0, 0), (.getfield 53, 12, 22, 0, 0)] (45, [some (.ref 0), some (.int w)], [.ref 12, .ref 2], σ) [sy_cc .ne 1 0] (by decide +kernel) rfl ⟨(by decide : (¬ (1 : Int32) = 0)), trivial⟩ ?_
      refine sy_callS mX12_copies [.ref 2, .ref 12] [] kX12_copies jX12_209 (by decide +kernel) rfl rfl (Nat.le_of_ble_eq_true rfl) (Nat.le_of_ble_eq_true rfl) (by decide) ?_
      exact k2 c2 m_3 c4
    · intro c5
      show sy_E shM mX12_settled (20, [some (.ref 0), some (.int w)], [.int 0], σ) _
      refine sy_bk [(.ifCond .ne 17, 0, 37, 0, 0), (.aload_n 0, 0, 0, 0, 0), (.iload_n 1, 0, 0, 0, 0), (.sipush 200, 0, 0, 200, 0), (.isub, 0, 0, 0, 0)] (29, [some (.ref 0), some (.int w)], [.int (w - 200), .ref 0], σ) [¬ sy_cc .ne 0 0] (by decide +kernel) rfl ⟨(by decide : ¬ (¬ (0 : Int32) = 0)), trivial⟩ ?_
      refine sy_callV mX12_isPlace 0 [.int (w - 200)] [] kX12_isPlace jX12_152 (by decide +kernel) rfl rfl (Nat.le_of_ble_eq_true rfl) (Nat.le_of_ble_eq_true rfl) (by decide) rfl ?_
      refine e_m_isPl (σ := σ) (cell := (w - 200)) (b1 c2) ?_ ?_
      · intro m_6 c7
        show sy_E shM mX12_settled (32, [some (.ref 0), some (.int w)], [.int 1], σ) _
        refine sy_bk [(.ifCond .ne 5, 1, 37, 0, 0), (.aload_n 0, 0, 0, 0, 0), (.getfield 22, 12, 3, 0, 0), (.aload_n 0, 0, 0, 0, 0), (.getfield 53, 12, 22, 0, 0)] (45, [some (.ref 0), some (.int w)], [.ref 12, .ref 2], σ) [sy_cc .ne 1 0] (by decide +kernel) rfl ⟨(by decide : (¬ (1 : Int32) = 0)), trivial⟩ ?_
        refine sy_callS mX12_copies [.ref 2, .ref 12] [] kX12_copies jX12_209 (by decide +kernel) rfl rfl (Nat.le_of_ble_eq_true rfl) (Nat.le_of_ble_eq_true rfl) (by decide) ?_
        exact k3 c2 c5 m_6 c7
      · intro c8
        show sy_E shM mX12_settled (32, [some (.ref 0), some (.int w)], [.int 0], σ) _
        refine sy_bk [(.ifCond .ne 5, 0, 37, 0, 0), (.iconst (-1), 0, 0, (-1), 0)] (36, [some (.ref 0), some (.int w)], [.int (-1)], σ) [¬ sy_cc .ne 0 0] (by decide +kernel) rfl ⟨(by decide : ¬ (¬ (0 : Int32) = 0)), trivial⟩ ?_
        exact sy_reti rfl (by decide +kernel) (k4 c2 c5 c8)

set_option maxRecDepth 20000 in
theorem w_M_settled_48 {Q : Option Value → sy_S → Prop} {σ : sy_S} {l1 : Int32}   (k1 : ¬ l1 = 2 → sy_E shM mX12_settledThen (0, sy_ent [.ref 0, .int l1] 3, [], σ) (fun r9 σ9 => sy_E shM mX12_settled (69, [none, none], r9.toList ++ [], σ9) Q)) (k2 : ¬ (¬ l1 = 2) → sy_E shM mX12_roundsOf (0, sy_ent [.ref 0, .ref 12] 4, [], σ) (fun r9 σ9 => sy_E shM mX12_settled (61, [none, none], r9.toList ++ [], σ9) Q)) : sy_E shM mX12_settled (48, [some (.ref 0), some (.int l1)], [], σ) Q := by
  refine sy_bk [(.iload_n 1, 0, 0, 0, 0), (.iconst 2, 0, 0, 2, 0)] (50, [some (.ref 0), some (.int l1)], [.int 2, .int l1], σ) [] (by decide +kernel) rfl trivial ?_
  by_cases c1 : ¬ l1 = 2
  · refine sy_bk [(.if_icmp .ne 14, 1, 64, 0, 0)] (64, [some (.ref 0), some (.int l1)], [], σ) [sy_cc .ne l1 2] (by decide +kernel) rfl ⟨c1, trivial⟩ ?_
    refine sy_bk [(.aload_n 0, 0, 0, 0, 0), (.iload_n 1, 0, 0, 0, 0)] (66, [some (.ref 0), some (.int l1)], [.int l1, .ref 0], σ) [] (by decide +kernel) rfl trivial ?_
    refine sy_drop [none, none] trivial ?_
    refine sy_callV mX12_settledThen 0 [.int l1] [] kX12_settledThen jX12_216 (by decide +kernel) rfl rfl (Nat.le_of_ble_eq_true rfl) (Nat.le_of_ble_eq_true rfl) (by decide) rfl ?_
    exact k1 c1
  · refine sy_bk [(.if_icmp .ne 14, 0, 64, 0, 0)] (53, [some (.ref 0), some (.int l1)], [], σ) [¬ sy_cc .ne l1 2] (by decide +kernel) rfl ⟨c1, trivial⟩ ?_
    refine sy_bk [(.aload_n 0, 0, 0, 0, 0), (.aload_n 0, 0, 0, 0, 0), (.getfield 53, 12, 22, 0, 0)] (58, [some (.ref 0), some (.int l1)], [.ref 12, .ref 0], σ) [] (by decide +kernel) rfl trivial ?_
    refine sy_drop [none, none] trivial ?_
    refine sy_callV mX12_roundsOf 0 [.ref 12] [] kX12_roundsOf jX12_213 (by decide +kernel) rfl rfl (Nat.le_of_ble_eq_true rfl) (Nat.le_of_ble_eq_true rfl) (by decide) rfl ?_
    exact k2 c1

set_option maxRecDepth 20000 in
theorem w_M_settled_69 {Q : Option Value → sy_S → Prop} {σ : sy_S} {v : Int32}   (k1 : Q (some (.int v)) σ) : sy_E shM mX12_settled (69, [none, none], [.int v], σ) Q := by
  exact sy_reti rfl (by decide +kernel) (k1)

set_option maxRecDepth 20000 in
theorem w_M_settled_61 {Q : Option Value → sy_S → Prop} {σ : sy_S} {v : Int32}   (k1 : Q (some (.int v)) σ) : sy_E shM mX12_settled (61, [none, none], [.int v], σ) Q := by
  refine sy_bk [(.goto 8, 0, 69, 0, 0)] (69, [none, none], [.int v], σ) [] (by decide +kernel) rfl trivial ?_
  exact sy_reti rfl (by decide +kernel) (k1)

set_option maxRecDepth 20000 in
theorem w_M_trace_0 {Q : Option Value → sy_S → Prop} {σ : sy_S} {o : Int32} {i : Int32}   (k1 : ∀ (m_1 : Nat), px p4 o = some m_1 → 0 ≤ i → sy_E shM mX12_copies (0, sy_ent [.ref 2, .ref 12] 3, [], σ) (fun r9 σ9 => sy_E shM mX12_trace (27, [some (.ref 0), some (.int o), some (.int i), none, none], r9.toList ++ [], σ9) Q)) (k2 : ∀ (m_1 : Nat), px p4 o = some m_1 → ¬ (0 ≤ i) → Q (some (.int (-5))) σ) (k3 : px p4 o = none → Q (some (.int (-1))) σ) : sy_E shM mX12_trace (0, sy_ent [.ref 0, .int o, .int i] 5, [], σ) Q := by
  show sy_E shM mX12_trace (0, [some (.ref 0), some (.int o), some (.int i), none, none], [], σ) _
  refine sy_bk [(.iload_n 1, 0, 0, 0, 0)] (1, [some (.ref 0), some (.int o), some (.int i), none, none], [.int o], σ) [] (by decide +kernel) rfl trivial ?_
  refine sy_callS mX12_isOrder [.int o] [] kX12_isOrder jX12_238 (by decide +kernel) rfl rfl (Nat.le_of_ble_eq_true rfl) (Nat.le_of_ble_eq_true rfl) (by decide) ?_
  refine e_m_isOrder (σ := σ) (i := o) ?_ ?_
  · intro m_1 c2
    show sy_E shM mX12_trace (4, [some (.ref 0), some (.int o), some (.int i), none, none], [.int 1], σ) _
    refine sy_bk [(.ifCond .ne 5, 1, 9, 0, 0), (.iload_n 2, 0, 0, 0, 0)] (10, [some (.ref 0), some (.int o), some (.int i), none, none], [.int i], σ) [sy_cc .ne 1 0] (by decide +kernel) rfl ⟨(by decide : (¬ (1 : Int32) = 0)), trivial⟩ ?_
    by_cases c3 : 0 ≤ i
    · refine sy_bk [(.ifCond .ge 6, 1, 16, 0, 0)] (16, [some (.ref 0), some (.int o), some (.int i), none, none], [], σ) [sy_cc .ge i 0] (by decide +kernel) rfl ⟨c3, trivial⟩ ?_
      refine sy_bk [(.aload_n 0, 0, 0, 0, 0), (.getfield 22, 12, 3, 0, 0), (.aload_n 0, 0, 0, 0, 0), (.getfield 53, 12, 22, 0, 0)] (24, [some (.ref 0), some (.int o), some (.int i), none, none], [.ref 12, .ref 2], σ) [] (by decide +kernel) rfl trivial ?_
      refine sy_callS mX12_copies [.ref 2, .ref 12] [] kX12_copies jX12_209 (by decide +kernel) rfl rfl (Nat.le_of_ble_eq_true rfl) (Nat.le_of_ble_eq_true rfl) (by decide) ?_
      exact k1 m_1 c2 c3
    · refine sy_bk [(.ifCond .ge 6, 0, 16, 0, 0)] (13, [some (.ref 0), some (.int o), some (.int i), none, none], [], σ) [¬ sy_cc .ge i 0] (by decide +kernel) rfl ⟨c3, trivial⟩ ?_
      refine sy_bk [(.bipush (-5), 0, 0, (-5), 0)] (15, [some (.ref 0), some (.int o), some (.int i), none, none], [.int (-5)], σ) [] (by decide +kernel) rfl trivial ?_
      exact sy_reti rfl (by decide +kernel) (k2 m_1 c2 c3)
  · intro c4
    show sy_E shM mX12_trace (4, [some (.ref 0), some (.int o), some (.int i), none, none], [.int 0], σ) _
    refine sy_bk [(.ifCond .ne 5, 0, 9, 0, 0), (.iconst (-1), 0, 0, (-1), 0)] (8, [some (.ref 0), some (.int o), some (.int i), none, none], [.int (-1)], σ) [¬ sy_cc .ne 0 0] (by decide +kernel) rfl ⟨(by decide : ¬ (¬ (0 : Int32) = 0)), trivial⟩ ?_
    exact sy_reti rfl (by decide +kernel) (k3 c4)

set_option maxRecDepth 20000 in
theorem w_M_trace_27 {Q : Option Value → sy_S → Prop} {σ : sy_S} {l1 : Int32} {l2 : Int32}   (k1 : sy_E shM mX12_beginsOrder (0, sy_ent [.ref 0, .ref 12] 3, [], σ) (fun r9 σ9 => sy_E shM mX12_trace (35, [some (.ref 0), some (.int l1), some (.int l2), none, none], r9.toList ++ [], σ9) Q)) : sy_E shM mX12_trace (27, [some (.ref 0), some (.int l1), some (.int l2), none, none], [], σ) Q := by
  refine sy_bk [(.aload_n 0, 0, 0, 0, 0), (.aload_n 0, 0, 0, 0, 0), (.getfield 53, 12, 22, 0, 0)] (32, [some (.ref 0), some (.int l1), some (.int l2), none, none], [.ref 12, .ref 0], σ) [] (by decide +kernel) rfl trivial ?_
  refine sy_callV mX12_beginsOrder 0 [.ref 12] [] kX12_beginsOrder jX12_241 (by decide +kernel) rfl rfl (Nat.le_of_ble_eq_true rfl) (Nat.le_of_ble_eq_true rfl) (by decide) rfl ?_
  exact k1

set_option maxRecDepth 20000 in
theorem w_M_trace_35 {Q : Option Value → sy_S → Prop} {σ : sy_S} {l1 : Int32} {l2 : Int32}   (k1 : sy_E shM mX12_goes (0, sy_ent [.ref 0, .ref 12, .int l1] 5, [], σ) (fun r9 σ9 => sy_E shM mX12_trace (44, [some (.ref 0), some (.int l1), some (.int l2), none, none], r9.toList ++ [], σ9) Q)) : sy_E shM mX12_trace (35, [some (.ref 0), some (.int l1), some (.int l2), none, none], [], σ) Q := by
  refine sy_bk [(.aload_n 0, 0, 0, 0, 0), (.aload_n 0, 0, 0, 0, 0), (.getfield 53, 12, 22, 0, 0), (.iload_n 1, 0, 0, 0, 0)] (41, [some (.ref 0), some (.int l1), some (.int l2), none, none], [.int l1, .ref 12, .ref 0], σ) [] (by decide +kernel) rfl trivial ?_
  refine sy_callV mX12_goes 0 [.ref 12, .int l1] [] kX12_goes jX12_245 (by decide +kernel) rfl rfl (Nat.le_of_ble_eq_true rfl) (Nat.le_of_ble_eq_true rfl) (by decide) rfl ?_
  exact k1

set_option maxRecDepth 20000 in
theorem w_M_trace_44 {Q : Option Value → sy_S → Prop} {σ : sy_S} {l1 : Int32} {l2 : Int32} {v : Int32}   (k1 : sy_E shM mX12_trace (48, [some (.ref 0), some (.int l1), some (.int l2), some (.int v), some (.int 0)], [], σ) Q) : sy_E shM mX12_trace (44, [some (.ref 0), some (.int l1), some (.int l2), none, none], [.int v], σ) Q := by
  refine sy_bk [(.istore_n 3, 0, 0, 0, 0), (.iconst 0, 0, 0, 0, 0), (.istore 4, 0, 0, 0, 0)] (48, [some (.ref 0), some (.int l1), some (.int l2), some (.int v), some (.int 0)], [], σ) [] (by decide +kernel) rfl trivial ?_
  exact k1

set_option maxRecDepth 20000 in
theorem w_M_trace_48 {Q : Option Value → sy_S → Prop} {σ : sy_S} {l1 : Int32} {l2 : Int32} {l3 : Int32} {l4 : Int32}   (k1 : l2 ≤ l4 → 0 ≤ l3 → Q (some (.int l3)) σ) (k2 : l2 ≤ l4 → ¬ (0 ≤ l3) → Q (some (.int (-5))) σ) (k3 : ¬ (l2 ≤ l4) → l3 < 0 → 0 ≤ l3 → Q (some (.int l3)) σ) (k4 : ¬ (l2 ≤ l4) → l3 < 0 → ¬ (0 ≤ l3) → Q (some (.int (-5))) σ) (k5 : ¬ (l2 ≤ l4) → ¬ (l3 < 0) → sy_E shM mX12_goes (0, sy_ent [.ref 0, .ref 12, .int l1] 5, [], σ) (fun r9 σ9 => sy_E shM mX12_trace (67, [some (.ref 0), some (.int l1), some (.int l2), none, some (.int l4)], r9.toList ++ [], σ9) Q)) : sy_E shM mX12_trace (48, [some (.ref 0), some (.int l1), some (.int l2), some (.int l3), some (.int l4)], [], σ) Q := by
  refine sy_bk [(.iload 4, 0, 0, 0, 0), (.iload_n 2, 0, 0, 0, 0)] (51, [some (.ref 0), some (.int l1), some (.int l2), some (.int l3), some (.int l4)], [.int l2, .int l4], σ) [] (by decide +kernel) rfl trivial ?_
  by_cases c1 : l2 ≤ l4
  · refine sy_bk [(.if_icmp .ge 23, 1, 74, 0, 0)] (74, [some (.ref 0), some (.int l1), some (.int l2), some (.int l3), some (.int l4)], [], σ) [sy_cc .ge l4 l2] (by decide +kernel) rfl ⟨c1, trivial⟩ ?_
    refine sy_bk [(.iload_n 3, 0, 0, 0, 0)] (75, [some (.ref 0), some (.int l1), some (.int l2), some (.int l3), some (.int l4)], [.int l3], σ) [] (by decide +kernel) rfl trivial ?_
    by_cases c2 : 0 ≤ l3
    · refine sy_bk [(.ifCond .ge 8, 1, 83, 0, 0)] (83, [some (.ref 0), some (.int l1), some (.int l2), some (.int l3), some (.int l4)], [], σ) [sy_cc .ge l3 0] (by decide +kernel) rfl ⟨c2, trivial⟩ ?_
      refine sy_bk [(.iload_n 3, 0, 0, 0, 0)] (84, [some (.ref 0), some (.int l1), some (.int l2), some (.int l3), some (.int l4)], [.int l3], σ) [] (by decide +kernel) rfl trivial ?_
      exact sy_reti rfl (by decide +kernel) (k1 c1 c2)
    · refine sy_bk [(.ifCond .ge 8, 0, 83, 0, 0)] (78, [some (.ref 0), some (.int l1), some (.int l2), some (.int l3), some (.int l4)], [], σ) [¬ sy_cc .ge l3 0] (by decide +kernel) rfl ⟨c2, trivial⟩ ?_
      refine sy_bk [(.bipush (-5), 0, 0, (-5), 0), (.goto 4, 0, 84, 0, 0)] (84, [some (.ref 0), some (.int l1), some (.int l2), some (.int l3), some (.int l4)], [.int (-5)], σ) [] (by decide +kernel) rfl trivial ?_
      exact sy_reti rfl (by decide +kernel) (k2 c1 c2)
  · refine sy_bk [(.if_icmp .ge 23, 0, 74, 0, 0)] (54, [some (.ref 0), some (.int l1), some (.int l2), some (.int l3), some (.int l4)], [], σ) [¬ sy_cc .ge l4 l2] (by decide +kernel) rfl ⟨c1, trivial⟩ ?_
    refine sy_bk [(.iload_n 3, 0, 0, 0, 0)] (55, [some (.ref 0), some (.int l1), some (.int l2), some (.int l3), some (.int l4)], [.int l3], σ) [] (by decide +kernel) rfl trivial ?_
    by_cases c3 : l3 < 0
    · refine sy_bk [(.ifCond .lt 19, 1, 74, 0, 0)] (74, [some (.ref 0), some (.int l1), some (.int l2), some (.int l3), some (.int l4)], [], σ) [sy_cc .lt l3 0] (by decide +kernel) rfl ⟨c3, trivial⟩ ?_
      refine sy_bk [(.iload_n 3, 0, 0, 0, 0)] (75, [some (.ref 0), some (.int l1), some (.int l2), some (.int l3), some (.int l4)], [.int l3], σ) [] (by decide +kernel) rfl trivial ?_
      by_cases c4 : 0 ≤ l3
      · refine sy_bk [(.ifCond .ge 8, 1, 83, 0, 0)] (83, [some (.ref 0), some (.int l1), some (.int l2), some (.int l3), some (.int l4)], [], σ) [sy_cc .ge l3 0] (by decide +kernel) rfl ⟨c4, trivial⟩ ?_
        refine sy_bk [(.iload_n 3, 0, 0, 0, 0)] (84, [some (.ref 0), some (.int l1), some (.int l2), some (.int l3), some (.int l4)], [.int l3], σ) [] (by decide +kernel) rfl trivial ?_
        exact sy_reti rfl (by decide +kernel) (k3 c1 c3 c4)
      · refine sy_bk [(.ifCond .ge 8, 0, 83, 0, 0)] (78, [some (.ref 0), some (.int l1), some (.int l2), some (.int l3), some (.int l4)], [], σ) [¬ sy_cc .ge l3 0] (by decide +kernel) rfl ⟨c4, trivial⟩ ?_
        refine sy_bk [(.bipush (-5), 0, 0, (-5), 0), (.goto 4, 0, 84, 0, 0)] (84, [some (.ref 0), some (.int l1), some (.int l2), some (.int l3), some (.int l4)], [.int (-5)], σ) [] (by decide +kernel) rfl trivial ?_
        exact sy_reti rfl (by decide +kernel) (k4 c1 c3 c4)
    · refine sy_bk [(.ifCond .lt 19, 0, 74, 0, 0)] (58, [some (.ref 0), some (.int l1), some (.int l2), some (.int l3), some (.int l4)], [], σ) [¬ sy_cc .lt l3 0] (by decide +kernel) rfl ⟨c3, trivial⟩ ?_
      refine sy_bk [(.aload_n 0, 0, 0, 0, 0), (.aload_n 0, 0, 0, 0, 0), (.getfield 53, 12, 22, 0, 0), (.iload_n 1, 0, 0, 0, 0)] (64, [some (.ref 0), some (.int l1), some (.int l2), some (.int l3), some (.int l4)], [.int l1, .ref 12, .ref 0], σ) [] (by decide +kernel) rfl trivial ?_
      refine sy_drop [some (.ref 0), some (.int l1), some (.int l2), none, some (.int l4)] ⟨rfl, rfl, rfl, rfl, trivial⟩ ?_
      refine sy_callV mX12_goes 0 [.ref 12, .int l1] [] kX12_goes jX12_245 (by decide +kernel) rfl rfl (Nat.le_of_ble_eq_true rfl) (Nat.le_of_ble_eq_true rfl) (by decide) rfl ?_
      exact k5 c1 c3

set_option maxRecDepth 20000 in
theorem w_M_trace_67 {Q : Option Value → sy_S → Prop} {σ : sy_S} {l1 : Int32} {l2 : Int32} {l4 : Int32} {v : Int32}   (k1 : sy_E shM mX12_trace (48, [some (.ref 0), some (.int l1), some (.int l2), some (.int v), some (.int (l4 + 1))], [], σ) Q) : sy_E shM mX12_trace (67, [some (.ref 0), some (.int l1), some (.int l2), none, some (.int l4)], [.int v], σ) Q := by
  refine sy_bk [(.istore_n 3, 0, 0, 0, 0), (.iinc 4 1, 0, 0, 1, 0), (.goto (-23), 0, 48, 0, 0)] (48, [some (.ref 0), some (.int l1), some (.int l2), some (.int v), some (.int (l4 + 1))], [], σ) [] (by decide +kernel) rfl trivial ?_
  exact k1

set_option maxRecDepth 20000 in
theorem w_M_firstsBy_0 {Q : Option Value → sy_S → Prop} {σ : sy_S} {o : Int32}   (k1 : sy_E shM mX12_copies (0, sy_ent [.ref 2, .ref 12] 3, [], σ) (fun r9 σ9 => sy_E shM mX12_firstsBy (11, [some (.ref 0), some (.int o), none, none], r9.toList ++ [], σ9) Q)) : sy_E shM mX12_firstsBy (0, sy_ent [.ref 0, .int o] 4, [], σ) Q := by
  show sy_E shM mX12_firstsBy (0, [some (.ref 0), some (.int o), none, none], [], σ) _
  refine sy_bk [(.aload_n 0, 0, 0, 0, 0), (.getfield 22, 12, 3, 0, 0), (.aload_n 0, 0, 0, 0, 0), (.getfield 53, 12, 22, 0, 0)] (8, [some (.ref 0), some (.int o), none, none], [.ref 12, .ref 2], σ) [] (by decide +kernel) rfl trivial ?_
  refine sy_callS mX12_copies [.ref 2, .ref 12] [] kX12_copies jX12_209 (by decide +kernel) rfl rfl (Nat.le_of_ble_eq_true rfl) (Nat.le_of_ble_eq_true rfl) (by decide) ?_
  exact k1

set_option maxRecDepth 20000 in
theorem w_M_firstsBy_11 {Q : Option Value → sy_S → Prop} {σ : sy_S} {l1 : Int32}   (k1 : sy_E shM mX12_beginsOrder (0, sy_ent [.ref 0, .ref 12] 3, [], σ) (fun r9 σ9 => sy_E shM mX12_firstsBy (19, [some (.ref 0), some (.int l1), none, none], r9.toList ++ [], σ9) Q)) : sy_E shM mX12_firstsBy (11, [some (.ref 0), some (.int l1), none, none], [], σ) Q := by
  refine sy_bk [(.aload_n 0, 0, 0, 0, 0), (.aload_n 0, 0, 0, 0, 0), (.getfield 53, 12, 22, 0, 0)] (16, [some (.ref 0), some (.int l1), none, none], [.ref 12, .ref 0], σ) [] (by decide +kernel) rfl trivial ?_
  refine sy_callV mX12_beginsOrder 0 [.ref 12] [] kX12_beginsOrder jX12_241 (by decide +kernel) rfl rfl (Nat.le_of_ble_eq_true rfl) (Nat.le_of_ble_eq_true rfl) (by decide) rfl ?_
  exact k1

set_option maxRecDepth 20000 in
theorem w_M_firstsBy_19 {Q : Option Value → sy_S → Prop} {σ : sy_S} {l1 : Int32}   (k1 : sy_E shM mX12_goes (0, sy_ent [.ref 0, .ref 12, .int l1] 5, [], σ) (fun r9 σ9 => sy_E shM mX12_firstsBy (30, [some (.ref 0), some (.int l1), some (.int 0), none], r9.toList ++ [], σ9) Q)) : sy_E shM mX12_firstsBy (19, [some (.ref 0), some (.int l1), none, none], [], σ) Q := by
  refine sy_bk [(.iconst 0, 0, 0, 0, 0), (.istore_n 2, 0, 0, 0, 0), (.aload_n 0, 0, 0, 0, 0), (.aload_n 0, 0, 0, 0, 0), (.getfield 53, 12, 22, 0, 0), (.iload_n 1, 0, 0, 0, 0)] (27, [some (.ref 0), some (.int l1), some (.int 0), none], [.int l1, .ref 12, .ref 0], σ) [] (by decide +kernel) rfl trivial ?_
  refine sy_callV mX12_goes 0 [.ref 12, .int l1] [] kX12_goes jX12_245 (by decide +kernel) rfl rfl (Nat.le_of_ble_eq_true rfl) (Nat.le_of_ble_eq_true rfl) (by decide) rfl ?_
  exact k1

set_option maxRecDepth 20000 in
theorem w_M_firstsBy_30 {Q : Option Value → sy_S → Prop} {σ : sy_S} {l1 : Int32} {l2 : Int32} {v : Int32}   (k1 : sy_E shM mX12_firstsBy (31, [some (.ref 0), some (.int l1), some (.int l2), some (.int v)], [], σ) Q) : sy_E shM mX12_firstsBy (30, [some (.ref 0), some (.int l1), some (.int l2), none], [.int v], σ) Q := by
  refine sy_bk [(.istore_n 3, 0, 0, 0, 0)] (31, [some (.ref 0), some (.int l1), some (.int l2), some (.int v)], [], σ) [] (by decide +kernel) rfl trivial ?_
  exact k1

set_option maxRecDepth 20000 in
theorem w_M_firstsBy_31 {Q : Option Value → sy_S → Prop} {σ : sy_S} {l1 : Int32} {l2 : Int32} {l3 : Int32}  (b1 : ¬ (l3 < 0) → ¬ (60 ≤ l2) → vp_in l2 60) (k1 : l3 < 0 → Q (some (.int l2)) σ) (k2 : ¬ (l3 < 0) → 60 ≤ l2 → Q (some (.int l2)) σ) (k3 : ¬ (l3 < 0) → ¬ (60 ≤ l2) → 60 ≤ (l2 + 1) → sy_E shM mX12_firstsBy (31, [some (.ref 0), some (.int l1), some (.int (l2 + 1)), some (.int l3)], [], (sy_up σ.1 15 l2.toNatClampNeg l3, σ.2)) Q) (k4 : ¬ (l3 < 0) → ¬ (60 ≤ l2) → ¬ (60 ≤ (l2 + 1)) → sy_E shM mX12_goes (0, sy_ent [.ref 0, .ref 12, .int l1] 5, [], (sy_up σ.1 15 l2.toNatClampNeg l3, σ.2)) (fun r9 σ9 => sy_E shM mX12_firstsBy (66, [some (.ref 0), some (.int l1), some (.int (l2 + 1)), none], r9.toList ++ [], σ9) Q)) : sy_E shM mX12_firstsBy (31, [some (.ref 0), some (.int l1), some (.int l2), some (.int l3)], [], σ) Q := by
  refine sy_bk [(.iload_n 3, 0, 0, 0, 0)] (32, [some (.ref 0), some (.int l1), some (.int l2), some (.int l3)], [.int l3], σ) [] (by decide +kernel) rfl trivial ?_
  by_cases c1 : l3 < 0
  · refine sy_bk [(.ifCond .lt 42, 1, 74, 0, 0)] (74, [some (.ref 0), some (.int l1), some (.int l2), some (.int l3)], [], σ) [sy_cc .lt l3 0] (by decide +kernel) rfl ⟨c1, trivial⟩ ?_
    refine sy_bk [(.iload_n 2, 0, 0, 0, 0)] (75, [some (.ref 0), some (.int l1), some (.int l2), some (.int l3)], [.int l2], σ) [] (by decide +kernel) rfl trivial ?_
    exact sy_reti rfl (by decide +kernel) (k1 c1)
  · refine sy_bk [(.ifCond .lt 42, 0, 74, 0, 0)] (35, [some (.ref 0), some (.int l1), some (.int l2), some (.int l3)], [], σ) [¬ sy_cc .lt l3 0] (by decide +kernel) rfl ⟨c1, trivial⟩ ?_
    refine sy_bk [(.iload_n 2, 0, 0, 0, 0), (.bipush 60, 0, 0, 60, 0)] (38, [some (.ref 0), some (.int l1), some (.int l2), some (.int l3)], [.int 60, .int l2], σ) [] (by decide +kernel) rfl trivial ?_
    by_cases c2 : 60 ≤ l2
    · refine sy_bk [(.if_icmp .ge 36, 1, 74, 0, 0)] (74, [some (.ref 0), some (.int l1), some (.int l2), some (.int l3)], [], σ) [sy_cc .ge l2 60] (by decide +kernel) rfl ⟨c2, trivial⟩ ?_
      refine sy_bk [(.iload_n 2, 0, 0, 0, 0)] (75, [some (.ref 0), some (.int l1), some (.int l2), some (.int l3)], [.int l2], σ) [] (by decide +kernel) rfl trivial ?_
      exact sy_reti rfl (by decide +kernel) (k2 c1 c2)
    · refine sy_bk [(.if_icmp .ge 36, 0, 74, 0, 0)] (41, [some (.ref 0), some (.int l1), some (.int l2), some (.int l3)], [], σ) [¬ sy_cc .ge l2 60] (by decide +kernel) rfl ⟨c2, trivial⟩ ?_
      refine sy_bk [(.aload_n 0, 0, 0, 0, 0), (.getfield 62, 12, 26, 0, 0), (.iload_n 2, 0, 0, 0, 0), (.iload_n 3, 0, 0, 0, 0), (.iastore, 0, 0, 0, 0), (.iinc 2 1, 0, 0, 1, 0), (.iload_n 2, 0, 0, 0, 0), (.bipush 60, 0, 0, 60, 0)] (54, [some (.ref 0), some (.int l1), some (.int (l2 + 1)), some (.int l3)], [.int 60, .int (l2 + 1)], (sy_up σ.1 15 l2.toNatClampNeg l3, σ.2)) [sy_okA shM 0 15 l2] (by decide +kernel) rfl ⟨⟨60, _, rfl, (b1 c1 c2)⟩, trivial⟩ ?_
      by_cases c3 : 60 ≤ (l2 + 1)
      · refine sy_bk [(.if_icmp .ge 15, 1, 69, 0, 0)] (69, [some (.ref 0), some (.int l1), some (.int (l2 + 1)), some (.int l3)], [], (sy_up σ.1 15 l2.toNatClampNeg l3, σ.2)) [sy_cc .ge (l2 + 1) 60] (by decide +kernel) rfl ⟨c3, trivial⟩ ?_
        refine sy_bk [(.iload_n 3, 0, 0, 0, 0), (.istore_n 3, 0, 0, 0, 0), (.goto (-40), 0, 31, 0, 0)] (31, [some (.ref 0), some (.int l1), some (.int (l2 + 1)), some (.int l3)], [], (sy_up σ.1 15 l2.toNatClampNeg l3, σ.2)) [] (by decide +kernel) rfl trivial ?_
        exact k3 c1 c2 c3
      · refine sy_bk [(.if_icmp .ge 15, 0, 69, 0, 0)] (57, [some (.ref 0), some (.int l1), some (.int (l2 + 1)), some (.int l3)], [], (sy_up σ.1 15 l2.toNatClampNeg l3, σ.2)) [¬ sy_cc .ge (l2 + 1) 60] (by decide +kernel) rfl ⟨c3, trivial⟩ ?_
        refine sy_bk [(.aload_n 0, 0, 0, 0, 0), (.aload_n 0, 0, 0, 0, 0), (.getfield 53, 12, 22, 0, 0), (.iload_n 1, 0, 0, 0, 0)] (63, [some (.ref 0), some (.int l1), some (.int (l2 + 1)), some (.int l3)], [.int l1, .ref 12, .ref 0], (sy_up σ.1 15 l2.toNatClampNeg l3, σ.2)) [] (by decide +kernel) rfl trivial ?_
        refine sy_drop [some (.ref 0), some (.int l1), some (.int (l2 + 1)), none] ⟨rfl, rfl, rfl, trivial⟩ ?_
        refine sy_callV mX12_goes 0 [.ref 12, .int l1] [] kX12_goes jX12_245 (by decide +kernel) rfl rfl (Nat.le_of_ble_eq_true rfl) (Nat.le_of_ble_eq_true rfl) (by decide) rfl ?_
        exact k4 c1 c2 c3

set_option maxRecDepth 20000 in
theorem w_M_firstsBy_66 {Q : Option Value → sy_S → Prop} {σ : sy_S} {l1 : Int32} {l2 : Int32} {v : Int32}   (k1 : sy_E shM mX12_firstsBy (31, [some (.ref 0), some (.int l1), some (.int l2), some (.int v)], [], σ) Q) : sy_E shM mX12_firstsBy (66, [some (.ref 0), some (.int l1), some (.int l2), none], [.int v], σ) Q := by
  refine sy_bk [(.goto 4, 0, 70, 0, 0), (.istore_n 3, 0, 0, 0, 0), (.goto (-40), 0, 31, 0, 0)] (31, [some (.ref 0), some (.int l1), some (.int l2), some (.int v)], [], σ) [] (by decide +kernel) rfl trivial ?_
  exact k1

set_option maxRecDepth 20000 in
theorem w_M_common_0 {Q : Option Value → sy_S → Prop} {σ : sy_S} {o : Int32} {u : Int32}   (k1 : ∀ (m_1 : Nat), px p4 o = some m_1 → ∀ (m_3 : Nat), px p4 u = some m_3 → sy_E shM mX12_firstsBy (0, sy_ent [.ref 0, .int o] 4, [], σ) (fun r9 σ9 => sy_E shM mX12_common (21, [some (.ref 0), none, some (.int u), none, none, none], r9.toList ++ [], σ9) Q)) (k2 : ∀ (m_1 : Nat), px p4 o = some m_1 → px p4 u = none → Q (some (.int (-1))) σ) (k3 : px p4 o = none → Q (some (.int (-1))) σ) : sy_E shM mX12_common (0, sy_ent [.ref 0, .int o, .int u] 6, [], σ) Q := by
  show sy_E shM mX12_common (0, [some (.ref 0), some (.int o), some (.int u), none, none, none], [], σ) _
  refine sy_bk [(.iload_n 1, 0, 0, 0, 0)] (1, [some (.ref 0), some (.int o), some (.int u), none, none, none], [.int o], σ) [] (by decide +kernel) rfl trivial ?_
  refine sy_callS mX12_isOrder [.int o] [] kX12_isOrder jX12_238 (by decide +kernel) rfl rfl (Nat.le_of_ble_eq_true rfl) (Nat.le_of_ble_eq_true rfl) (by decide) ?_
  refine e_m_isOrder (σ := σ) (i := o) ?_ ?_
  · intro m_1 c2
    show sy_E shM mX12_common (4, [some (.ref 0), some (.int o), some (.int u), none, none, none], [.int 1], σ) _
    refine sy_bk [(.ifCond .eq 10, 0, 14, 0, 0), (.iload_n 2, 0, 0, 0, 0)] (8, [some (.ref 0), some (.int o), some (.int u), none, none, none], [.int u], σ) [¬ sy_cc .eq 1 0] (by decide +kernel) rfl ⟨(by decide : ¬ ((1 : Int32) = 0)), trivial⟩ ?_
    refine sy_callS mX12_isOrder [.int u] [] kX12_isOrder jX12_238 (by decide +kernel) rfl rfl (Nat.le_of_ble_eq_true rfl) (Nat.le_of_ble_eq_true rfl) (by decide) ?_
    refine e_m_isOrder (σ := σ) (i := u) ?_ ?_
    · intro m_3 c4
      show sy_E shM mX12_common (11, [some (.ref 0), some (.int o), some (.int u), none, none, none], [.int 1], σ) _
      refine sy_bk [(.ifCond .ne 5, 1, 16, 0, 0), (.aload_n 0, 0, 0, 0, 0), (.iload_n 1, 0, 0, 0, 0)] (18, [some (.ref 0), some (.int o), some (.int u), none, none, none], [.int o, .ref 0], σ) [sy_cc .ne 1 0] (by decide +kernel) rfl ⟨(by decide : (¬ (1 : Int32) = 0)), trivial⟩ ?_
      refine sy_drop [some (.ref 0), none, some (.int u), none, none, none] ⟨rfl, rfl, trivial⟩ ?_
      refine sy_callV mX12_firstsBy 0 [.int o] [] kX12_firstsBy jX12_249 (by decide +kernel) rfl rfl (Nat.le_of_ble_eq_true rfl) (Nat.le_of_ble_eq_true rfl) (by decide) rfl ?_
      exact k1 m_1 c2 m_3 c4
    · intro c5
      show sy_E shM mX12_common (11, [some (.ref 0), some (.int o), some (.int u), none, none, none], [.int 0], σ) _
      refine sy_bk [(.ifCond .ne 5, 0, 16, 0, 0), (.iconst (-1), 0, 0, (-1), 0)] (15, [some (.ref 0), some (.int o), some (.int u), none, none, none], [.int (-1)], σ) [¬ sy_cc .ne 0 0] (by decide +kernel) rfl ⟨(by decide : ¬ (¬ (0 : Int32) = 0)), trivial⟩ ?_
      exact sy_reti rfl (by decide +kernel) (k2 m_1 c2 c5)
  · intro c6
    show sy_E shM mX12_common (4, [some (.ref 0), some (.int o), some (.int u), none, none, none], [.int 0], σ) _
    refine sy_bk [(.ifCond .eq 10, 1, 14, 0, 0), (.iconst (-1), 0, 0, (-1), 0)] (15, [some (.ref 0), some (.int o), some (.int u), none, none, none], [.int (-1)], σ) [sy_cc .eq 0 0] (by decide +kernel) rfl ⟨(by decide : ((0 : Int32) = 0)), trivial⟩ ?_
    exact sy_reti rfl (by decide +kernel) (k3 c6)

set_option maxRecDepth 20000 in
theorem w_M_common_21 {Q : Option Value → sy_S → Prop} {σ : sy_S} {l2 : Int32} {v : Int32}   (k1 : sy_E shM mX12_copies (0, sy_ent [.ref 2, .ref 12] 3, [], σ) (fun r9 σ9 => sy_E shM mX12_common (33, [some (.ref 0), none, some (.int l2), some (.int v), none, none], r9.toList ++ [], σ9) Q)) : sy_E shM mX12_common (21, [some (.ref 0), none, some (.int l2), none, none, none], [.int v], σ) Q := by
  refine sy_bk [(.istore_n 3, 0, 0, 0, 0), (.aload_n 0, 0, 0, 0, 0), (.getfield 22, 12, 3, 0, 0), (.aload_n 0, 0, 0, 0, 0), (.getfield 53, 12, 22, 0, 0)] (30, [some (.ref 0), none, some (.int l2), some (.int v), none, none], [.ref 12, .ref 2], σ) [] (by decide +kernel) rfl trivial ?_
  refine sy_callS mX12_copies [.ref 2, .ref 12] [] kX12_copies jX12_209 (by decide +kernel) rfl rfl (Nat.le_of_ble_eq_true rfl) (Nat.le_of_ble_eq_true rfl) (by decide) ?_
  exact k1

set_option maxRecDepth 20000 in
theorem w_M_common_33 {Q : Option Value → sy_S → Prop} {σ : sy_S} {l2 : Int32} {l3 : Int32}   (k1 : sy_E shM mX12_beginsOrder (0, sy_ent [.ref 0, .ref 12] 3, [], σ) (fun r9 σ9 => sy_E shM mX12_common (41, [some (.ref 0), none, some (.int l2), some (.int l3), none, none], r9.toList ++ [], σ9) Q)) : sy_E shM mX12_common (33, [some (.ref 0), none, some (.int l2), some (.int l3), none, none], [], σ) Q := by
  refine sy_bk [(.aload_n 0, 0, 0, 0, 0), (.aload_n 0, 0, 0, 0, 0), (.getfield 53, 12, 22, 0, 0)] (38, [some (.ref 0), none, some (.int l2), some (.int l3), none, none], [.ref 12, .ref 0], σ) [] (by decide +kernel) rfl trivial ?_
  refine sy_callV mX12_beginsOrder 0 [.ref 12] [] kX12_beginsOrder jX12_241 (by decide +kernel) rfl rfl (Nat.le_of_ble_eq_true rfl) (Nat.le_of_ble_eq_true rfl) (by decide) rfl ?_
  exact k1

set_option maxRecDepth 20000 in
theorem w_M_common_41 {Q : Option Value → sy_S → Prop} {σ : sy_S} {l2 : Int32} {l3 : Int32}   (k1 : sy_E shM mX12_common (47, [some (.ref 0), none, some (.int l2), some (.int l3), some (.int 0), some (.int 0)], [], σ) Q) : sy_E shM mX12_common (41, [some (.ref 0), none, some (.int l2), some (.int l3), none, none], [], σ) Q := by
  refine sy_bk [(.iconst 0, 0, 0, 0, 0), (.istore 4, 0, 0, 0, 0), (.iconst 0, 0, 0, 0, 0), (.istore 5, 0, 0, 0, 0)] (47, [some (.ref 0), none, some (.int l2), some (.int l3), some (.int 0), some (.int 0)], [], σ) [] (by decide +kernel) rfl trivial ?_
  exact k1

set_option maxRecDepth 20000 in
theorem w_M_common_47 {Q : Option Value → sy_S → Prop} {σ : sy_S} {l2 : Int32} {l3 : Int32} {l4 : Int32} {l5 : Int32}   (k1 : l3 ≤ l5 → Q (some (.int l4)) σ) (k2 : ¬ (l3 ≤ l5) → sy_E shM mX12_goes (0, sy_ent [.ref 0, .ref 12, .int l2] 5, [], σ) (fun r9 σ9 => sy_E shM mX12_common (64, [some (.ref 0), none, some (.int l2), some (.int l3), none, some (.int l5)], r9.toList ++ [.int l4], σ9) Q)) : sy_E shM mX12_common (47, [some (.ref 0), none, some (.int l2), some (.int l3), some (.int l4), some (.int l5)], [], σ) Q := by
  refine sy_bk [(.iload 5, 0, 0, 0, 0), (.iload_n 3, 0, 0, 0, 0)] (50, [some (.ref 0), none, some (.int l2), some (.int l3), some (.int l4), some (.int l5)], [.int l3, .int l5], σ) [] (by decide +kernel) rfl trivial ?_
  by_cases c1 : l3 ≤ l5
  · refine sy_bk [(.if_icmp .ge 38, 1, 88, 0, 0)] (88, [some (.ref 0), none, some (.int l2), some (.int l3), some (.int l4), some (.int l5)], [], σ) [sy_cc .ge l5 l3] (by decide +kernel) rfl ⟨c1, trivial⟩ ?_
    refine sy_bk [(.iload 4, 0, 0, 0, 0)] (90, [some (.ref 0), none, some (.int l2), some (.int l3), some (.int l4), some (.int l5)], [.int l4], σ) [] (by decide +kernel) rfl trivial ?_
    exact sy_reti rfl (by decide +kernel) (k1 c1)
  · refine sy_bk [(.if_icmp .ge 38, 0, 88, 0, 0)] (53, [some (.ref 0), none, some (.int l2), some (.int l3), some (.int l4), some (.int l5)], [], σ) [¬ sy_cc .ge l5 l3] (by decide +kernel) rfl ⟨c1, trivial⟩ ?_
    refine sy_bk [(.iload 4, 0, 0, 0, 0), (.aload_n 0, 0, 0, 0, 0), (.aload_n 0, 0, 0, 0, 0), (.getfield 53, 12, 22, 0, 0), (.iload_n 2, 0, 0, 0, 0)] (61, [some (.ref 0), none, some (.int l2), some (.int l3), some (.int l4), some (.int l5)], [.int l2, .ref 12, .ref 0, .int l4], σ) [] (by decide +kernel) rfl trivial ?_
    refine sy_drop [some (.ref 0), none, some (.int l2), some (.int l3), none, some (.int l5)] ⟨rfl, rfl, rfl, rfl, trivial⟩ ?_
    refine sy_callV mX12_goes 0 [.ref 12, .int l2] [.int l4] kX12_goes jX12_245 (by decide +kernel) rfl rfl (Nat.le_of_ble_eq_true rfl) (Nat.le_of_ble_eq_true rfl) (by decide) rfl ?_
    exact k2 c1

set_option maxRecDepth 20000 in
theorem w_M_common_64 {Q : Option Value → sy_S → Prop} {σ : sy_S} {l2 : Int32} {l3 : Int32} {l5 : Int32} {s0 : Int32} {v : Int32}  (b1 : vp_in l5 60) (k1 : ¬ v = (σ.1 15 l5.toNatClampNeg) → sy_E shM mX12_common (47, [some (.ref 0), none, some (.int l2), some (.int l3), some (.int (s0 + 0)), some (.int (l5 + 1))], [], σ) Q) (k2 : ¬ (¬ v = (σ.1 15 l5.toNatClampNeg)) → sy_E shM mX12_common (47, [some (.ref 0), none, some (.int l2), some (.int l3), some (.int (s0 + 1)), some (.int (l5 + 1))], [], σ) Q) : sy_E shM mX12_common (64, [some (.ref 0), none, some (.int l2), some (.int l3), none, some (.int l5)], [.int v, .int s0], σ) Q := by
  refine sy_bk [(.aload_n 0, 0, 0, 0, 0), (.getfield 62, 12, 26, 0, 0), (.iload 5, 0, 0, 0, 0), (.iaload, 0, 0, 0, 0)] (71, [some (.ref 0), none, some (.int l2), some (.int l3), none, some (.int l5)], [.int (σ.1 15 l5.toNatClampNeg), .int v, .int s0], σ) [sy_okA shM 0 15 l5] (by decide +kernel) rfl ⟨⟨60, _, rfl, b1⟩, trivial⟩ ?_
  by_cases c1 : ¬ v = (σ.1 15 l5.toNatClampNeg)
  · refine sy_bk [(.if_icmp .ne 7, 1, 78, 0, 0)] (78, [some (.ref 0), none, some (.int l2), some (.int l3), none, some (.int l5)], [.int s0], σ) [sy_cc .ne v (σ.1 15 l5.toNatClampNeg)] (by decide +kernel) rfl ⟨c1, trivial⟩ ?_
    refine sy_bk [(.iconst 0, 0, 0, 0, 0), (.iadd, 0, 0, 0, 0), (.istore 4, 0, 0, 0, 0), (.iinc 5 1, 0, 0, 1, 0), (.goto (-38), 0, 47, 0, 0)] (47, [some (.ref 0), none, some (.int l2), some (.int l3), some (.int (s0 + 0)), some (.int (l5 + 1))], [], σ) [] (by decide +kernel) rfl trivial ?_
    exact k1 c1
  · refine sy_bk [(.if_icmp .ne 7, 0, 78, 0, 0)] (74, [some (.ref 0), none, some (.int l2), some (.int l3), none, some (.int l5)], [.int s0], σ) [¬ sy_cc .ne v (σ.1 15 l5.toNatClampNeg)] (by decide +kernel) rfl ⟨c1, trivial⟩ ?_
    refine sy_bk [(.iconst 1, 0, 0, 1, 0), (.goto 4, 0, 79, 0, 0), (.iadd, 0, 0, 0, 0), (.istore 4, 0, 0, 0, 0), (.iinc 5 1, 0, 0, 1, 0), (.goto (-38), 0, 47, 0, 0)] (47, [some (.ref 0), none, some (.int l2), some (.int l3), some (.int (s0 + 1)), some (.int (l5 + 1))], [], σ) [] (by decide +kernel) rfl trivial ?_
    exact k2 c1

set_option maxRecDepth 20000 in
theorem w_M_takes_0 {Q : Option Value → sy_S → Prop} {σ : sy_S} {p : Int32} {t : Nat}   (k1 : sy_E shM mX12_takes (2, [some (.ref 0), some (.int p), some (.ref t), some (.int 0)], [], σ) Q) : sy_E shM mX12_takes (0, sy_ent [.ref 0, .int p, .ref t] 4, [], σ) Q := by
  show sy_E shM mX12_takes (0, [some (.ref 0), some (.int p), some (.ref t), none], [], σ) _
  refine sy_bk [(.iconst 0, 0, 0, 0, 0), (.istore_n 3, 0, 0, 0, 0)] (2, [some (.ref 0), some (.int p), some (.ref t), some (.int 0)], [], σ) [] (by decide +kernel) rfl trivial ?_
  exact k1

set_option maxRecDepth 20000 in
theorem w_M_takes_2 {Q : Option Value → sy_S → Prop} {σ : sy_S} {t : Nat} {l1 : Int32} {l3 : Int32} (ht : shM[t]? = some (0, 16, [])) (b1 : ¬ (16 ≤ l3) → vp_in ((16 * l1) + l3) 96) (b2 : ¬ (16 ≤ l3) → vp_in l3 16) (k1 : 16 ≤ l3 → Q none σ) (k2 : ¬ (16 ≤ l3) → sy_E shM mX12_takes (2, [some (.ref 0), some (.int l1), some (.ref t), some (.int (l3 + 1))], [], (sy_up σ.1 t l3.toNatClampNeg (σ.1 7 (((16 * l1) + l3).toNatClampNeg)), σ.2)) Q) : sy_E shM mX12_takes (2, [some (.ref 0), some (.int l1), some (.ref t), some (.int l3)], [], σ) Q := by
  refine sy_bk [(.iload_n 3, 0, 0, 0, 0), (.bipush 16, 0, 0, 16, 0)] (5, [some (.ref 0), some (.int l1), some (.ref t), some (.int l3)], [.int 16, .int l3], σ) [] (by decide +kernel) rfl trivial ?_
  by_cases c1 : 16 ≤ l3
  · refine sy_bk [(.if_icmp .ge 23, 1, 28, 0, 0)] (28, [some (.ref 0), some (.int l1), some (.ref t), some (.int l3)], [], σ) [sy_cc .ge l3 16] (by decide +kernel) rfl ⟨c1, trivial⟩ ?_
    exact sy_retv rfl (by decide +kernel) (k1 c1)
  · refine sy_bk [(.if_icmp .ge 23, 0, 28, 0, 0)] (8, [some (.ref 0), some (.int l1), some (.ref t), some (.int l3)], [], σ) [¬ sy_cc .ge l3 16] (by decide +kernel) rfl ⟨c1, trivial⟩ ?_
    refine sy_bk [(.aload_n 2, 0, 0, 0, 0), (.iload_n 3, 0, 0, 0, 0), (.aload_n 0, 0, 0, 0, 0), (.getfield 38, 12, 9, 0, 0), (.bipush 16, 0, 0, 16, 0), (.iload_n 1, 0, 0, 0, 0), (.imul, 0, 0, 0, 0), (.iload_n 3, 0, 0, 0, 0), (.iadd, 0, 0, 0, 0), (.iaload, 0, 0, 0, 0), (.iastore, 0, 0, 0, 0), (.iinc 3 1, 0, 0, 1, 0), (.goto (-23), 0, 2, 0, 0)] (2, [some (.ref 0), some (.int l1), some (.ref t), some (.int (l3 + 1))], [], (sy_up σ.1 t l3.toNatClampNeg (σ.1 7 (((16 * l1) + l3).toNatClampNeg)), σ.2)) [sy_okA shM 0 7 ((16 * l1) + l3), sy_okA shM 0 t l3] (by decide +kernel) rfl ⟨⟨96, _, rfl, (b1 c1)⟩, ⟨16, _, ht, (b2 c1)⟩, trivial⟩ ?_
    exact k2 c1

set_option maxRecDepth 20000 in
theorem w_M_lays_0 {Q : Option Value → sy_S → Prop} {σ : sy_S} {p : Int32} {t : Nat}   (k1 : sy_E shM mX12_lays (2, [some (.ref 0), some (.int p), some (.ref t), some (.int 0)], [], σ) Q) : sy_E shM mX12_lays (0, sy_ent [.ref 0, .int p, .ref t] 4, [], σ) Q := by
  show sy_E shM mX12_lays (0, [some (.ref 0), some (.int p), some (.ref t), none], [], σ) _
  refine sy_bk [(.iconst 0, 0, 0, 0, 0), (.istore_n 3, 0, 0, 0, 0)] (2, [some (.ref 0), some (.int p), some (.ref t), some (.int 0)], [], σ) [] (by decide +kernel) rfl trivial ?_
  exact k1

set_option maxRecDepth 20000 in
theorem w_M_lays_2 {Q : Option Value → sy_S → Prop} {σ : sy_S} {t : Nat} {l1 : Int32} {l3 : Int32} (ht : shM[t]? = some (0, 16, [])) (b1 : 16 ≤ l3 → vp_in l1 6) (b2 : ¬ (16 ≤ l3) → vp_in l3 16) (b3 : ¬ (16 ≤ l3) → vp_in ((16 * l1) + l3) 96) (k1 : 16 ≤ l3 → sy_E shM mX12_grains (0, sy_ent [.ref 0, .ref t] 4, [], (sy_up σ.1 8 l1.toNatClampNeg (vp_nar .boolean 1), σ.2)) (fun r9 σ9 => sy_E shM mX12_lays (40, [none, none, none, none], r9.toList ++ [], σ9) Q)) (k2 : ¬ (16 ≤ l3) → sy_E shM mX12_lays (2, [some (.ref 0), some (.int l1), some (.ref t), some (.int (l3 + 1))], [], (sy_up σ.1 7 (((16 * l1) + l3).toNatClampNeg) (σ.1 t l3.toNatClampNeg), σ.2)) Q) : sy_E shM mX12_lays (2, [some (.ref 0), some (.int l1), some (.ref t), some (.int l3)], [], σ) Q := by
  refine sy_bk [(.iload_n 3, 0, 0, 0, 0), (.bipush 16, 0, 0, 16, 0)] (5, [some (.ref 0), some (.int l1), some (.ref t), some (.int l3)], [.int 16, .int l3], σ) [] (by decide +kernel) rfl trivial ?_
  by_cases c1 : 16 ≤ l3
  · refine sy_bk [(.if_icmp .ge 23, 1, 28, 0, 0)] (28, [some (.ref 0), some (.int l1), some (.ref t), some (.int l3)], [], σ) [sy_cc .ge l3 16] (by decide +kernel) rfl ⟨c1, trivial⟩ ?_
    refine sy_bk [(.aload_n 0, 0, 0, 0, 0), (.getfield 41, 12, 10, 0, 0), (.iload_n 1, 0, 0, 0, 0), (.iconst 1, 0, 0, 1, 0), (.bastore, 0, 0, 0, 0), (.aload_n 0, 0, 0, 0, 0), (.aload_n 2, 0, 0, 0, 0)] (37, [some (.ref 0), some (.int l1), some (.ref t), some (.int l3)], [.ref t, .ref 0], (sy_up σ.1 8 l1.toNatClampNeg (vp_nar .boolean 1), σ.2)) [sy_okA shM 1 8 l1] (by decide +kernel) rfl ⟨⟨6, _, rfl, (b1 c1)⟩, trivial⟩ ?_
    refine sy_drop [none, none, none, none] trivial ?_
    refine sy_callV mX12_grains 0 [.ref t] [] kX12_grains jX12_206 (by decide +kernel) rfl rfl (Nat.le_of_ble_eq_true rfl) (Nat.le_of_ble_eq_true rfl) (by decide) rfl ?_
    exact k1 c1
  · refine sy_bk [(.if_icmp .ge 23, 0, 28, 0, 0)] (8, [some (.ref 0), some (.int l1), some (.ref t), some (.int l3)], [], σ) [¬ sy_cc .ge l3 16] (by decide +kernel) rfl ⟨c1, trivial⟩ ?_
    refine sy_bk [(.aload_n 0, 0, 0, 0, 0), (.getfield 38, 12, 9, 0, 0), (.bipush 16, 0, 0, 16, 0), (.iload_n 1, 0, 0, 0, 0), (.imul, 0, 0, 0, 0), (.iload_n 3, 0, 0, 0, 0), (.iadd, 0, 0, 0, 0), (.aload_n 2, 0, 0, 0, 0), (.iload_n 3, 0, 0, 0, 0), (.iaload, 0, 0, 0, 0), (.iastore, 0, 0, 0, 0), (.iinc 3 1, 0, 0, 1, 0), (.goto (-23), 0, 2, 0, 0)] (2, [some (.ref 0), some (.int l1), some (.ref t), some (.int (l3 + 1))], [], (sy_up σ.1 7 (((16 * l1) + l3).toNatClampNeg) (σ.1 t l3.toNatClampNeg), σ.2)) [sy_okA shM 0 t l3, sy_okA shM 0 7 ((16 * l1) + l3)] (by decide +kernel) rfl ⟨⟨16, _, ht, (b2 c1)⟩, ⟨96, _, rfl, (b3 c1)⟩, trivial⟩ ?_
    exact k2 c1

set_option maxRecDepth 20000 in
theorem w_M_lays_40 {Q : Option Value → sy_S → Prop} {σ : sy_S} {v : Int32}   (k1 : Q (some (.int v)) σ) : sy_E shM mX12_lays (40, [none, none, none, none], [.int v], σ) Q := by
  exact sy_reti rfl (by decide +kernel) (k1)

set_option maxRecDepth 20000 in
theorem w_M_keep_0 {Q : Option Value → sy_S → Prop} {σ : sy_S} {p : Int32}   (k1 : ∀ (m_1 : Nat), px p6 p = some m_1 → sy_E shM mX12_copies (0, sy_ent [.ref 2, .ref 12] 3, [], σ) (fun r9 σ9 => sy_E shM mX12_keep (20, [some (.ref 0), some (.int p), none, none], r9.toList ++ [], σ9) Q)) (k2 : px p6 p = none → Q (some (.int (-1))) σ) : sy_E shM mX12_keep (0, sy_ent [.ref 0, .int p] 4, [], σ) Q := by
  show sy_E shM mX12_keep (0, [some (.ref 0), some (.int p), none, none], [], σ) _
  refine sy_bk [(.iload_n 1, 0, 0, 0, 0)] (1, [some (.ref 0), some (.int p), none, none], [.int p], σ) [] (by decide +kernel) rfl trivial ?_
  refine sy_callS mX12_isPile [.int p] [] kX12_isPile jX12_254 (by decide +kernel) rfl rfl (Nat.le_of_ble_eq_true rfl) (Nat.le_of_ble_eq_true rfl) (by decide) ?_
  refine e_m_isPile (σ := σ) (i := p) ?_ ?_
  · intro m_1 c2
    show sy_E shM mX12_keep (4, [some (.ref 0), some (.int p), none, none], [.int 1], σ) _
    refine sy_bk [(.ifCond .ne 5, 1, 9, 0, 0), (.aload_n 0, 0, 0, 0, 0), (.getfield 22, 12, 3, 0, 0), (.aload_n 0, 0, 0, 0, 0), (.getfield 53, 12, 22, 0, 0)] (17, [some (.ref 0), some (.int p), none, none], [.ref 12, .ref 2], σ) [sy_cc .ne 1 0] (by decide +kernel) rfl ⟨(by decide : (¬ (1 : Int32) = 0)), trivial⟩ ?_
    refine sy_callS mX12_copies [.ref 2, .ref 12] [] kX12_copies jX12_209 (by decide +kernel) rfl rfl (Nat.le_of_ble_eq_true rfl) (Nat.le_of_ble_eq_true rfl) (by decide) ?_
    exact k1 m_1 c2
  · intro c3
    show sy_E shM mX12_keep (4, [some (.ref 0), some (.int p), none, none], [.int 0], σ) _
    refine sy_bk [(.ifCond .ne 5, 0, 9, 0, 0), (.iconst (-1), 0, 0, (-1), 0)] (8, [some (.ref 0), some (.int p), none, none], [.int (-1)], σ) [¬ sy_cc .ne 0 0] (by decide +kernel) rfl ⟨(by decide : ¬ (¬ (0 : Int32) = 0)), trivial⟩ ?_
    exact sy_reti rfl (by decide +kernel) (k2 c3)

set_option maxRecDepth 20000 in
theorem w_M_keep_20 {Q : Option Value → sy_S → Prop} {σ : sy_S} {l1 : Int32}   (k1 : sy_E shM mX12_settles (0, sy_ent [.ref 0, .ref 12] 3, [], σ) (fun r9 σ9 => sy_E shM mX12_keep (28, [some (.ref 0), some (.int l1), none, none], r9.toList ++ [], σ9) Q)) : sy_E shM mX12_keep (20, [some (.ref 0), some (.int l1), none, none], [], σ) Q := by
  refine sy_bk [(.aload_n 0, 0, 0, 0, 0), (.aload_n 0, 0, 0, 0, 0), (.getfield 53, 12, 22, 0, 0)] (25, [some (.ref 0), some (.int l1), none, none], [.ref 12, .ref 0], σ) [] (by decide +kernel) rfl trivial ?_
  refine sy_callV mX12_settles 0 [.ref 12] [] kX12_settles jX12_163 (by decide +kernel) rfl rfl (Nat.le_of_ble_eq_true rfl) (Nat.le_of_ble_eq_true rfl) (by decide) rfl ?_
  exact k1

set_option maxRecDepth 20000 in
theorem w_M_keep_28 {Q : Option Value → sy_S → Prop} {σ : sy_S} {l1 : Int32} {v : Int32}   (k1 : sy_E shM mX12_lays (0, sy_ent [.ref 0, .int l1, .ref 12] 4, [], σ) (fun r9 σ9 => sy_E shM mX12_keep (38, [none, none, some (.int v), none], r9.toList ++ [], σ9) Q)) : sy_E shM mX12_keep (28, [some (.ref 0), some (.int l1), none, none], [.int v], σ) Q := by
  refine sy_bk [(.istore_n 2, 0, 0, 0, 0), (.aload_n 0, 0, 0, 0, 0), (.iload_n 1, 0, 0, 0, 0), (.aload_n 0, 0, 0, 0, 0), (.getfield 53, 12, 22, 0, 0)] (35, [some (.ref 0), some (.int l1), some (.int v), none], [.ref 12, .int l1, .ref 0], σ) [] (by decide +kernel) rfl trivial ?_
  refine sy_drop [none, none, some (.int v), none] ⟨rfl, trivial⟩ ?_
  refine sy_callV mX12_lays 0 [.int l1, .ref 12] [] kX12_lays jX12_257 (by decide +kernel) rfl rfl (Nat.le_of_ble_eq_true rfl) (Nat.le_of_ble_eq_true rfl) (by decide) rfl ?_
  exact k1

set_option maxRecDepth 20000 in
theorem w_M_keep_38 {Q : Option Value → sy_S → Prop} {σ : sy_S} {l2 : Int32} {v : Int32}   (k1 : Q (some (.int l2)) σ) : sy_E shM mX12_keep (38, [none, none, some (.int l2), none], [.int v], σ) Q := by
  refine sy_bk [(.istore_n 3, 0, 0, 0, 0), (.iload_n 2, 0, 0, 0, 0)] (40, [none, none, some (.int l2), some (.int v)], [.int l2], σ) [] (by decide +kernel) rfl trivial ?_
  exact sy_reti rfl (by decide +kernel) (k1)

set_option maxRecDepth 20000 in
theorem w_M_load_0 {Q : Option Value → sy_S → Prop} {σ : sy_S} {p : Int32}  (b1 : ∀ (m_1 : Nat), px p6 p = some m_1 → vp_in p 6) (k1 : ∀ (m_1 : Nat), px p6 p = some m_1 → ¬ (σ.1 8 p.toNatClampNeg) = 0 → sy_E shM mX12_changes (0, sy_ent [.ref 0] 1, [], σ) (fun r9 σ9 => sy_E shM mX12_load (25, [some (.ref 0), some (.int p)], r9.toList ++ [], σ9) Q)) (k2 : ∀ (m_1 : Nat), px p6 p = some m_1 → ¬ (¬ (σ.1 8 p.toNatClampNeg) = 0) → Q (some (.int (-6))) σ) (k3 : px p6 p = none → Q (some (.int (-1))) σ) : sy_E shM mX12_load (0, sy_ent [.ref 0, .int p] 2, [], σ) Q := by
  show sy_E shM mX12_load (0, [some (.ref 0), some (.int p)], [], σ) _
  refine sy_bk [(.iload_n 1, 0, 0, 0, 0)] (1, [some (.ref 0), some (.int p)], [.int p], σ) [] (by decide +kernel) rfl trivial ?_
  refine sy_callS mX12_isPile [.int p] [] kX12_isPile jX12_254 (by decide +kernel) rfl rfl (Nat.le_of_ble_eq_true rfl) (Nat.le_of_ble_eq_true rfl) (by decide) ?_
  refine e_m_isPile (σ := σ) (i := p) ?_ ?_
  · intro m_1 c2
    show sy_E shM mX12_load (4, [some (.ref 0), some (.int p)], [.int 1], σ) _
    refine sy_bk [(.ifCond .ne 5, 1, 9, 0, 0), (.aload_n 0, 0, 0, 0, 0), (.getfield 41, 12, 10, 0, 0), (.iload_n 1, 0, 0, 0, 0), (.baload, 0, 0, 0, 0)] (15, [some (.ref 0), some (.int p)], [.int (σ.1 8 p.toNatClampNeg)], σ) [sy_cc .ne 1 0, sy_okA shM 1 8 p] (by decide +kernel) rfl ⟨(by decide : (¬ (1 : Int32) = 0)), ⟨6, _, rfl, (b1 m_1 c2)⟩, trivial⟩ ?_
    by_cases c3 : ¬ (σ.1 8 p.toNatClampNeg) = 0
    · refine sy_bk [(.ifCond .ne 6, 1, 21, 0, 0)] (21, [some (.ref 0), some (.int p)], [], σ) [sy_cc .ne (σ.1 8 p.toNatClampNeg) 0] (by decide +kernel) rfl ⟨c3, trivial⟩ ?_
      refine sy_bk [(.aload_n 0, 0, 0, 0, 0)] (22, [some (.ref 0), some (.int p)], [.ref 0], σ) [] (by decide +kernel) rfl trivial ?_
      refine sy_callV mX12_changes 0 [] [] kX12_changes jX12_158 (by decide +kernel) rfl rfl (Nat.le_of_ble_eq_true rfl) (Nat.le_of_ble_eq_true rfl) (by decide) rfl ?_
      exact k1 m_1 c2 c3
    · refine sy_bk [(.ifCond .ne 6, 0, 21, 0, 0)] (18, [some (.ref 0), some (.int p)], [], σ) [¬ sy_cc .ne (σ.1 8 p.toNatClampNeg) 0] (by decide +kernel) rfl ⟨c3, trivial⟩ ?_
      refine sy_bk [(.bipush (-6), 0, 0, (-6), 0)] (20, [some (.ref 0), some (.int p)], [.int (-6)], σ) [] (by decide +kernel) rfl trivial ?_
      exact sy_reti rfl (by decide +kernel) (k2 m_1 c2 c3)
  · intro c4
    show sy_E shM mX12_load (4, [some (.ref 0), some (.int p)], [.int 0], σ) _
    refine sy_bk [(.ifCond .ne 5, 0, 9, 0, 0), (.iconst (-1), 0, 0, (-1), 0)] (8, [some (.ref 0), some (.int p)], [.int (-1)], σ) [¬ sy_cc .ne 0 0] (by decide +kernel) rfl ⟨(by decide : ¬ (¬ (0 : Int32) = 0)), trivial⟩ ?_
    exact sy_reti rfl (by decide +kernel) (k3 c4)

set_option maxRecDepth 20000 in
theorem w_M_load_25 {Q : Option Value → sy_S → Prop} {σ : sy_S} {l1 : Int32}   (k1 : sy_E shM mX12_takes (0, sy_ent [.ref 0, .int l1, .ref 2] 4, [], σ) (fun r9 σ9 => sy_E shM mX12_load (34, [some (.ref 0), none], r9.toList ++ [], σ9) Q)) : sy_E shM mX12_load (25, [some (.ref 0), some (.int l1)], [], σ) Q := by
  refine sy_bk [(.aload_n 0, 0, 0, 0, 0), (.iload_n 1, 0, 0, 0, 0), (.aload_n 0, 0, 0, 0, 0), (.getfield 22, 12, 3, 0, 0)] (31, [some (.ref 0), some (.int l1)], [.ref 2, .int l1, .ref 0], σ) [] (by decide +kernel) rfl trivial ?_
  refine sy_drop [some (.ref 0), none] ⟨rfl, trivial⟩ ?_
  refine sy_callV mX12_takes 0 [.int l1, .ref 2] [] kX12_takes jX12_261 (by decide +kernel) rfl rfl (Nat.le_of_ble_eq_true rfl) (Nat.le_of_ble_eq_true rfl) (by decide) rfl ?_
  exact k1

set_option maxRecDepth 20000 in
theorem w_M_load_34 {Q : Option Value → sy_S → Prop} {σ : sy_S}    (k1 : sy_E shM mX12_grains (0, sy_ent [.ref 0, .ref 2] 4, [], σ) (fun r9 σ9 => sy_E shM mX12_load (42, [none, none], r9.toList ++ [], σ9) Q)) : sy_E shM mX12_load (34, [some (.ref 0), none], [], σ) Q := by
  refine sy_bk [(.aload_n 0, 0, 0, 0, 0), (.aload_n 0, 0, 0, 0, 0), (.getfield 22, 12, 3, 0, 0)] (39, [some (.ref 0), none], [.ref 2, .ref 0], σ) [] (by decide +kernel) rfl trivial ?_
  refine sy_drop [none, none] trivial ?_
  refine sy_callV mX12_grains 0 [.ref 2] [] kX12_grains jX12_206 (by decide +kernel) rfl rfl (Nat.le_of_ble_eq_true rfl) (Nat.le_of_ble_eq_true rfl) (by decide) rfl ?_
  exact k1

set_option maxRecDepth 20000 in
theorem w_M_load_42 {Q : Option Value → sy_S → Prop} {σ : sy_S} {v : Int32}   (k1 : Q (some (.int v)) σ) : sy_E shM mX12_load (42, [none, none], [.int v], σ) Q := by
  exact sy_reti rfl (by decide +kernel) (k1)

set_option maxRecDepth 20000 in
theorem w_M_pile_0 {Q : Option Value → sy_S → Prop} {σ : sy_S} {p : Int32} {cell : Int32} {G : sg_G}  (b1 : ∀ (m_1 : Nat), px p6 p = some m_1 → gm G σ.1) (b2 : ∀ (m_1 : Nat), px p6 p = some m_1 → ∀ (m_3 : Nat), px (sg_p G) cell = some m_3 → vp_in p 6) (b3 : ∀ (m_1 : Nat), px p6 p = some m_1 → ∀ (m_3 : Nat), px (sg_p G) cell = some m_3 → ¬ ((σ.1 8 p.toNatClampNeg) = 0) → vp_in ((16 * p) + cell) 96) (k1 : ∀ (m_1 : Nat), px p6 p = some m_1 → ∀ (m_3 : Nat), px (sg_p G) cell = some m_3 → (σ.1 8 p.toNatClampNeg) = 0 → Q (some (.int (-6))) σ) (k2 : ∀ (m_1 : Nat), px p6 p = some m_1 → ∀ (m_3 : Nat), px (sg_p G) cell = some m_3 → ¬ ((σ.1 8 p.toNatClampNeg) = 0) → Q (some (.int (σ.1 7 (((16 * p) + cell).toNatClampNeg)))) σ) (k3 : ∀ (m_1 : Nat), px p6 p = some m_1 → px (sg_p G) cell = none → Q (some (.int (-1))) σ) (k4 : px p6 p = none → Q (some (.int (-1))) σ) : sy_E shM mX12_pile (0, sy_ent [.ref 0, .int p, .int cell] 3, [], σ) Q := by
  show sy_E shM mX12_pile (0, [some (.ref 0), some (.int p), some (.int cell)], [], σ) _
  refine sy_bk [(.iload_n 1, 0, 0, 0, 0)] (1, [some (.ref 0), some (.int p), some (.int cell)], [.int p], σ) [] (by decide +kernel) rfl trivial ?_
  refine sy_callS mX12_isPile [.int p] [] kX12_isPile jX12_254 (by decide +kernel) rfl rfl (Nat.le_of_ble_eq_true rfl) (Nat.le_of_ble_eq_true rfl) (by decide) ?_
  refine e_m_isPile (σ := σ) (i := p) ?_ ?_
  · intro m_1 c2
    show sy_E shM mX12_pile (4, [some (.ref 0), some (.int p), some (.int cell)], [.int 1], σ) _
    refine sy_bk [(.ifCond .eq 11, 0, 15, 0, 0), (.aload_n 0, 0, 0, 0, 0), (.iload_n 2, 0, 0, 0, 0)] (9, [some (.ref 0), some (.int p), some (.int cell)], [.int cell, .ref 0], σ) [¬ sy_cc .eq 1 0] (by decide +kernel) rfl ⟨(by decide : ¬ ((1 : Int32) = 0)), trivial⟩ ?_
    refine sy_callV mX12_isPlace 0 [.int cell] [] kX12_isPlace jX12_152 (by decide +kernel) rfl rfl (Nat.le_of_ble_eq_true rfl) (Nat.le_of_ble_eq_true rfl) (by decide) rfl ?_
    refine e_m_isPl (σ := σ) (cell := cell) (b1 m_1 c2) ?_ ?_
    · intro m_3 c4
      show sy_E shM mX12_pile (12, [some (.ref 0), some (.int p), some (.int cell)], [.int 1], σ) _
      refine sy_bk [(.ifCond .ne 5, 1, 17, 0, 0), (.aload_n 0, 0, 0, 0, 0), (.getfield 41, 12, 10, 0, 0), (.iload_n 1, 0, 0, 0, 0), (.baload, 0, 0, 0, 0)] (23, [some (.ref 0), some (.int p), some (.int cell)], [.int (σ.1 8 p.toNatClampNeg)], σ) [sy_cc .ne 1 0, sy_okA shM 1 8 p] (by decide +kernel) rfl ⟨(by decide : (¬ (1 : Int32) = 0)), ⟨6, _, rfl, (b2 m_1 c2 m_3 c4)⟩, trivial⟩ ?_
      by_cases c5 : (σ.1 8 p.toNatClampNeg) = 0
      · refine sy_bk [(.ifCond .eq 17, 1, 40, 0, 0)] (40, [some (.ref 0), some (.int p), some (.int cell)], [], σ) [sy_cc .eq (σ.1 8 p.toNatClampNeg) 0] (by decide +kernel) rfl ⟨c5, trivial⟩ ?_
        refine sy_bk [(.bipush (-6), 0, 0, (-6), 0)] (42, [some (.ref 0), some (.int p), some (.int cell)], [.int (-6)], σ) [] (by decide +kernel) rfl trivial ?_
        exact sy_reti rfl (by decide +kernel) (k1 m_1 c2 m_3 c4 c5)
      · refine sy_bk [(.ifCond .eq 17, 0, 40, 0, 0)] (26, [some (.ref 0), some (.int p), some (.int cell)], [], σ) [¬ sy_cc .eq (σ.1 8 p.toNatClampNeg) 0] (by decide +kernel) rfl ⟨c5, trivial⟩ ?_
        refine sy_bk [(.aload_n 0, 0, 0, 0, 0), (.getfield 38, 12, 9, 0, 0), (.bipush 16, 0, 0, 16, 0), (.iload_n 1, 0, 0, 0, 0), (.imul, 0, 0, 0, 0), (.iload_n 2, 0, 0, 0, 0), (.iadd, 0, 0, 0, 0), (.iaload, 0, 0, 0, 0), (.goto 5, 0, 42, 0, 0)] (42, [some (.ref 0), some (.int p), some (.int cell)], [.int (σ.1 7 (((16 * p) + cell).toNatClampNeg))], σ) [sy_okA shM 0 7 ((16 * p) + cell)] (by decide +kernel) rfl ⟨⟨96, _, rfl, (b3 m_1 c2 m_3 c4 c5)⟩, trivial⟩ ?_
        exact sy_reti rfl (by decide +kernel) (k2 m_1 c2 m_3 c4 c5)
    · intro c6
      show sy_E shM mX12_pile (12, [some (.ref 0), some (.int p), some (.int cell)], [.int 0], σ) _
      refine sy_bk [(.ifCond .ne 5, 0, 17, 0, 0), (.iconst (-1), 0, 0, (-1), 0)] (16, [some (.ref 0), some (.int p), some (.int cell)], [.int (-1)], σ) [¬ sy_cc .ne 0 0] (by decide +kernel) rfl ⟨(by decide : ¬ (¬ (0 : Int32) = 0)), trivial⟩ ?_
      exact sy_reti rfl (by decide +kernel) (k3 m_1 c2 c6)
  · intro c7
    show sy_E shM mX12_pile (4, [some (.ref 0), some (.int p), some (.int cell)], [.int 0], σ) _
    refine sy_bk [(.ifCond .eq 11, 1, 15, 0, 0), (.iconst (-1), 0, 0, (-1), 0)] (16, [some (.ref 0), some (.int p), some (.int cell)], [.int (-1)], σ) [sy_cc .eq 0 0] (by decide +kernel) rfl ⟨(by decide : ((0 : Int32) = 0)), trivial⟩ ?_
    exact sy_reti rfl (by decide +kernel) (k4 c7)

set_option maxRecDepth 20000 in
theorem w_M_addsTo_0 {Q : Option Value → sy_S → Prop} {σ : sy_S} {a : Nat} {b : Nat}   (k1 : sy_E shM mX12_addsTo (2, [some (.ref 0), some (.ref a), some (.ref b), some (.int 0)], [], σ) Q) : sy_E shM mX12_addsTo (0, sy_ent [.ref 0, .ref a, .ref b] 4, [], σ) Q := by
  show sy_E shM mX12_addsTo (0, [some (.ref 0), some (.ref a), some (.ref b), none], [], σ) _
  refine sy_bk [(.iconst 0, 0, 0, 0, 0), (.istore_n 3, 0, 0, 0, 0)] (2, [some (.ref 0), some (.ref a), some (.ref b), some (.int 0)], [], σ) [] (by decide +kernel) rfl trivial ?_
  exact k1

set_option maxRecDepth 20000 in
theorem w_M_addsTo_2 {Q : Option Value → sy_S → Prop} {σ : sy_S} {a : Nat} {b : Nat} {l3 : Int32} (ha : shM[a]? = some (0, 16, [])) (hb : shM[b]? = some (0, 16, [])) (b1 : ¬ (16 ≤ l3) → vp_in l3 16) (k1 : 16 ≤ l3 → sy_E shM mX12_settles (0, sy_ent [.ref 0, .ref a] 3, [], σ) (fun r9 σ9 => sy_E shM mX12_addsTo (28, [none, none, none, none], r9.toList ++ [], σ9) Q)) (k2 : ¬ (16 ≤ l3) → sy_E shM mX12_addsTo (2, [some (.ref 0), some (.ref a), some (.ref b), some (.int (l3 + 1))], [], (sy_up σ.1 a l3.toNatClampNeg ((σ.1 a l3.toNatClampNeg) + (σ.1 b l3.toNatClampNeg)), σ.2)) Q) : sy_E shM mX12_addsTo (2, [some (.ref 0), some (.ref a), some (.ref b), some (.int l3)], [], σ) Q := by
  refine sy_bk [(.iload_n 3, 0, 0, 0, 0), (.bipush 16, 0, 0, 16, 0)] (5, [some (.ref 0), some (.ref a), some (.ref b), some (.int l3)], [.int 16, .int l3], σ) [] (by decide +kernel) rfl trivial ?_
  by_cases c1 : 16 ≤ l3
  · refine sy_bk [(.if_icmp .ge 18, 1, 23, 0, 0)] (23, [some (.ref 0), some (.ref a), some (.ref b), some (.int l3)], [], σ) [sy_cc .ge l3 16] (by decide +kernel) rfl ⟨c1, trivial⟩ ?_
    refine sy_bk [(.aload_n 0, 0, 0, 0, 0), (.aload_n 1, 0, 0, 0, 0)] (25, [some (.ref 0), some (.ref a), some (.ref b), some (.int l3)], [.ref a, .ref 0], σ) [] (by decide +kernel) rfl trivial ?_
    refine sy_drop [none, none, none, none] trivial ?_
    refine sy_callV mX12_settles 0 [.ref a] [] kX12_settles jX12_163 (by decide +kernel) rfl rfl (Nat.le_of_ble_eq_true rfl) (Nat.le_of_ble_eq_true rfl) (by decide) rfl ?_
    exact k1 c1
  · refine sy_bk [(.if_icmp .ge 18, 0, 23, 0, 0)] (8, [some (.ref 0), some (.ref a), some (.ref b), some (.int l3)], [], σ) [¬ sy_cc .ge l3 16] (by decide +kernel) rfl ⟨c1, trivial⟩ ?_
    refine sy_bk [(.aload_n 1, 0, 0, 0, 0), (.iload_n 3, 0, 0, 0, 0), (.dup2, 0, 0, 0, 0), (.iaload, 0, 0, 0, 0), (.aload_n 2, 0, 0, 0, 0), (.iload_n 3, 0, 0, 0, 0), (.iaload, 0, 0, 0, 0), (.iadd, 0, 0, 0, 0), (.iastore, 0, 0, 0, 0), (.iinc 3 1, 0, 0, 1, 0), (.goto (-18), 0, 2, 0, 0)] (2, [some (.ref 0), some (.ref a), some (.ref b), some (.int (l3 + 1))], [], (sy_up σ.1 a l3.toNatClampNeg ((σ.1 a l3.toNatClampNeg) + (σ.1 b l3.toNatClampNeg)), σ.2)) [sy_okA shM 0 a l3, sy_okA shM 0 b l3, sy_okA shM 0 a l3] (by decide +kernel) rfl ⟨⟨16, _, ha, (b1 c1)⟩, ⟨16, _, hb, (b1 c1)⟩, ⟨16, _, ha, (b1 c1)⟩, trivial⟩ ?_
    exact k2 c1

set_option maxRecDepth 20000 in
theorem w_M_addsTo_28 {Q : Option Value → sy_S → Prop} {σ : sy_S} {v : Int32}   (k1 : Q (some (.int v)) σ) : sy_E shM mX12_addsTo (28, [none, none, none, none], [.int v], σ) Q := by
  exact sy_reti rfl (by decide +kernel) (k1)

set_option maxRecDepth 20000 in
theorem w_M_sum_0 {Q : Option Value → sy_S → Prop} {σ : sy_S} {p : Int32} {a : Int32} {b : Int32}  (b1 : ∀ (m_1 : Nat), px p6 p = some m_1 → ∀ (m_3 : Nat), px p6 a = some m_3 → ∀ (m_5 : Nat), px p6 b = some m_5 → vp_in a 6) (b2 : ∀ (m_1 : Nat), px p6 p = some m_1 → ∀ (m_3 : Nat), px p6 a = some m_3 → ∀ (m_5 : Nat), px p6 b = some m_5 → ¬ ((σ.1 8 a.toNatClampNeg) = 0) → vp_in b 6) (k1 : ∀ (m_1 : Nat), px p6 p = some m_1 → ∀ (m_3 : Nat), px p6 a = some m_3 → ∀ (m_5 : Nat), px p6 b = some m_5 → (σ.1 8 a.toNatClampNeg) = 0 → Q (some (.int (-6))) σ) (k2 : ∀ (m_1 : Nat), px p6 p = some m_1 → ∀ (m_3 : Nat), px p6 a = some m_3 → ∀ (m_5 : Nat), px p6 b = some m_5 → ¬ ((σ.1 8 a.toNatClampNeg) = 0) → ¬ (σ.1 8 b.toNatClampNeg) = 0 → sy_E shM mX12_takes (0, sy_ent [.ref 0, .int a, .ref 12] 4, [], σ) (fun r9 σ9 => sy_E shM mX12_sum (53, [some (.ref 0), some (.int p), none, some (.int b), none, none], r9.toList ++ [], σ9) Q)) (k3 : ∀ (m_1 : Nat), px p6 p = some m_1 → ∀ (m_3 : Nat), px p6 a = some m_3 → ∀ (m_5 : Nat), px p6 b = some m_5 → ¬ ((σ.1 8 a.toNatClampNeg) = 0) → ¬ (¬ (σ.1 8 b.toNatClampNeg) = 0) → Q (some (.int (-6))) σ) (k4 : ∀ (m_1 : Nat), px p6 p = some m_1 → ∀ (m_3 : Nat), px p6 a = some m_3 → px p6 b = none → Q (some (.int (-1))) σ) (k5 : ∀ (m_1 : Nat), px p6 p = some m_1 → px p6 a = none → Q (some (.int (-1))) σ) (k6 : px p6 p = none → Q (some (.int (-1))) σ) : sy_E shM mX12_sum (0, sy_ent [.ref 0, .int p, .int a, .int b] 6, [], σ) Q := by
  show sy_E shM mX12_sum (0, [some (.ref 0), some (.int p), some (.int a), some (.int b), none, none], [], σ) _
  refine sy_bk [(.iload_n 1, 0, 0, 0, 0)] (1, [some (.ref 0), some (.int p), some (.int a), some (.int b), none, none], [.int p], σ) [] (by decide +kernel) rfl trivial ?_
  refine sy_callS mX12_isPile [.int p] [] kX12_isPile jX12_254 (by decide +kernel) rfl rfl (Nat.le_of_ble_eq_true rfl) (Nat.le_of_ble_eq_true rfl) (by decide) ?_
  refine e_m_isPile (σ := σ) (i := p) ?_ ?_
  · intro m_1 c2
    show sy_E shM mX12_sum (4, [some (.ref 0), some (.int p), some (.int a), some (.int b), none, none], [.int 1], σ) _
    refine sy_bk [(.ifCond .eq 17, 0, 21, 0, 0), (.iload_n 2, 0, 0, 0, 0)] (8, [some (.ref 0), some (.int p), some (.int a), some (.int b), none, none], [.int a], σ) [¬ sy_cc .eq 1 0] (by decide +kernel) rfl ⟨(by decide : ¬ ((1 : Int32) = 0)), trivial⟩ ?_
    refine sy_callS mX12_isPile [.int a] [] kX12_isPile jX12_254 (by decide +kernel) rfl rfl (Nat.le_of_ble_eq_true rfl) (Nat.le_of_ble_eq_true rfl) (by decide) ?_
    refine e_m_isPile (σ := σ) (i := a) ?_ ?_
    · intro m_3 c4
      show sy_E shM mX12_sum (11, [some (.ref 0), some (.int p), some (.int a), some (.int b), none, none], [.int 1], σ) _
      refine sy_bk [(.ifCond .eq 10, 0, 21, 0, 0), (.iload_n 3, 0, 0, 0, 0)] (15, [some (.ref 0), some (.int p), some (.int a), some (.int b), none, none], [.int b], σ) [¬ sy_cc .eq 1 0] (by decide +kernel) rfl ⟨(by decide : ¬ ((1 : Int32) = 0)), trivial⟩ ?_
      refine sy_callS mX12_isPile [.int b] [] kX12_isPile jX12_254 (by decide +kernel) rfl rfl (Nat.le_of_ble_eq_true rfl) (Nat.le_of_ble_eq_true rfl) (by decide) ?_
      refine e_m_isPile (σ := σ) (i := b) ?_ ?_
      · intro m_5 c6
        show sy_E shM mX12_sum (18, [some (.ref 0), some (.int p), some (.int a), some (.int b), none, none], [.int 1], σ) _
        refine sy_bk [(.ifCond .ne 5, 1, 23, 0, 0), (.aload_n 0, 0, 0, 0, 0), (.getfield 41, 12, 10, 0, 0), (.iload_n 2, 0, 0, 0, 0), (.baload, 0, 0, 0, 0)] (29, [some (.ref 0), some (.int p), some (.int a), some (.int b), none, none], [.int (σ.1 8 a.toNatClampNeg)], σ) [sy_cc .ne 1 0, sy_okA shM 1 8 a] (by decide +kernel) rfl ⟨(by decide : (¬ (1 : Int32) = 0)), ⟨6, _, rfl, (b1 m_1 c2 m_3 c4 m_5 c6)⟩, trivial⟩ ?_
        by_cases c7 : (σ.1 8 a.toNatClampNeg) = 0
        · refine sy_bk [(.ifCond .eq 12, 1, 41, 0, 0)] (41, [some (.ref 0), some (.int p), some (.int a), some (.int b), none, none], [], σ) [sy_cc .eq (σ.1 8 a.toNatClampNeg) 0] (by decide +kernel) rfl ⟨c7, trivial⟩ ?_
          refine sy_bk [(.bipush (-6), 0, 0, (-6), 0)] (43, [some (.ref 0), some (.int p), some (.int a), some (.int b), none, none], [.int (-6)], σ) [] (by decide +kernel) rfl trivial ?_
          exact sy_reti rfl (by decide +kernel) (k1 m_1 c2 m_3 c4 m_5 c6 c7)
        · refine sy_bk [(.ifCond .eq 12, 0, 41, 0, 0)] (32, [some (.ref 0), some (.int p), some (.int a), some (.int b), none, none], [], σ) [¬ sy_cc .eq (σ.1 8 a.toNatClampNeg) 0] (by decide +kernel) rfl ⟨c7, trivial⟩ ?_
          refine sy_bk [(.aload_n 0, 0, 0, 0, 0), (.getfield 41, 12, 10, 0, 0), (.iload_n 3, 0, 0, 0, 0), (.baload, 0, 0, 0, 0)] (38, [some (.ref 0), some (.int p), some (.int a), some (.int b), none, none], [.int (σ.1 8 b.toNatClampNeg)], σ) [sy_okA shM 1 8 b] (by decide +kernel) rfl ⟨⟨6, _, rfl, (b2 m_1 c2 m_3 c4 m_5 c6 c7)⟩, trivial⟩ ?_
          by_cases c8 : ¬ (σ.1 8 b.toNatClampNeg) = 0
          · refine sy_bk [(.ifCond .ne 6, 1, 44, 0, 0)] (44, [some (.ref 0), some (.int p), some (.int a), some (.int b), none, none], [], σ) [sy_cc .ne (σ.1 8 b.toNatClampNeg) 0] (by decide +kernel) rfl ⟨c8, trivial⟩ ?_
            refine sy_bk [(.aload_n 0, 0, 0, 0, 0), (.iload_n 2, 0, 0, 0, 0), (.aload_n 0, 0, 0, 0, 0), (.getfield 53, 12, 22, 0, 0)] (50, [some (.ref 0), some (.int p), some (.int a), some (.int b), none, none], [.ref 12, .int a, .ref 0], σ) [] (by decide +kernel) rfl trivial ?_
            refine sy_drop [some (.ref 0), some (.int p), none, some (.int b), none, none] ⟨rfl, rfl, rfl, trivial⟩ ?_
            refine sy_callV mX12_takes 0 [.int a, .ref 12] [] kX12_takes jX12_261 (by decide +kernel) rfl rfl (Nat.le_of_ble_eq_true rfl) (Nat.le_of_ble_eq_true rfl) (by decide) rfl ?_
            exact k2 m_1 c2 m_3 c4 m_5 c6 c7 c8
          · refine sy_bk [(.ifCond .ne 6, 0, 44, 0, 0)] (41, [some (.ref 0), some (.int p), some (.int a), some (.int b), none, none], [], σ) [¬ sy_cc .ne (σ.1 8 b.toNatClampNeg) 0] (by decide +kernel) rfl ⟨c8, trivial⟩ ?_
            refine sy_bk [(.bipush (-6), 0, 0, (-6), 0)] (43, [some (.ref 0), some (.int p), some (.int a), some (.int b), none, none], [.int (-6)], σ) [] (by decide +kernel) rfl trivial ?_
            exact sy_reti rfl (by decide +kernel) (k3 m_1 c2 m_3 c4 m_5 c6 c7 c8)
      · intro c9
        show sy_E shM mX12_sum (18, [some (.ref 0), some (.int p), some (.int a), some (.int b), none, none], [.int 0], σ) _
        refine sy_bk [(.ifCond .ne 5, 0, 23, 0, 0), (.iconst (-1), 0, 0, (-1), 0)] (22, [some (.ref 0), some (.int p), some (.int a), some (.int b), none, none], [.int (-1)], σ) [¬ sy_cc .ne 0 0] (by decide +kernel) rfl ⟨(by decide : ¬ (¬ (0 : Int32) = 0)), trivial⟩ ?_
        exact sy_reti rfl (by decide +kernel) (k4 m_1 c2 m_3 c4 c9)
    · intro c10
      show sy_E shM mX12_sum (11, [some (.ref 0), some (.int p), some (.int a), some (.int b), none, none], [.int 0], σ) _
      refine sy_bk [(.ifCond .eq 10, 1, 21, 0, 0), (.iconst (-1), 0, 0, (-1), 0)] (22, [some (.ref 0), some (.int p), some (.int a), some (.int b), none, none], [.int (-1)], σ) [sy_cc .eq 0 0] (by decide +kernel) rfl ⟨(by decide : ((0 : Int32) = 0)), trivial⟩ ?_
      exact sy_reti rfl (by decide +kernel) (k5 m_1 c2 c10)
  · intro c11
    show sy_E shM mX12_sum (4, [some (.ref 0), some (.int p), some (.int a), some (.int b), none, none], [.int 0], σ) _
    refine sy_bk [(.ifCond .eq 17, 1, 21, 0, 0), (.iconst (-1), 0, 0, (-1), 0)] (22, [some (.ref 0), some (.int p), some (.int a), some (.int b), none, none], [.int (-1)], σ) [sy_cc .eq 0 0] (by decide +kernel) rfl ⟨(by decide : ((0 : Int32) = 0)), trivial⟩ ?_
    exact sy_reti rfl (by decide +kernel) (k6 c11)

set_option maxRecDepth 20000 in
theorem w_M_sum_53 {Q : Option Value → sy_S → Prop} {σ : sy_S} {l1 : Int32} {l3 : Int32}   (k1 : sy_E shM mX12_takes (0, sy_ent [.ref 0, .int l3, .ref 16] 4, [], σ) (fun r9 σ9 => sy_E shM mX12_sum (62, [some (.ref 0), some (.int l1), none, none, none, none], r9.toList ++ [], σ9) Q)) : sy_E shM mX12_sum (53, [some (.ref 0), some (.int l1), none, some (.int l3), none, none], [], σ) Q := by
  refine sy_bk [(.aload_n 0, 0, 0, 0, 0), (.iload_n 3, 0, 0, 0, 0), (.aload_n 0, 0, 0, 0, 0), (.getfield 65, 12, 27, 0, 0)] (59, [some (.ref 0), some (.int l1), none, some (.int l3), none, none], [.ref 16, .int l3, .ref 0], σ) [] (by decide +kernel) rfl trivial ?_
  refine sy_drop [some (.ref 0), some (.int l1), none, none, none, none] ⟨rfl, rfl, trivial⟩ ?_
  refine sy_callV mX12_takes 0 [.int l3, .ref 16] [] kX12_takes jX12_261 (by decide +kernel) rfl rfl (Nat.le_of_ble_eq_true rfl) (Nat.le_of_ble_eq_true rfl) (by decide) rfl ?_
  exact k1

set_option maxRecDepth 20000 in
theorem w_M_sum_62 {Q : Option Value → sy_S → Prop} {σ : sy_S} {l1 : Int32}   (k1 : sy_E shM mX12_addsTo (0, sy_ent [.ref 0, .ref 12, .ref 16] 4, [], σ) (fun r9 σ9 => sy_E shM mX12_sum (74, [some (.ref 0), some (.int l1), none, none, none, none], r9.toList ++ [], σ9) Q)) : sy_E shM mX12_sum (62, [some (.ref 0), some (.int l1), none, none, none, none], [], σ) Q := by
  refine sy_bk [(.aload_n 0, 0, 0, 0, 0), (.aload_n 0, 0, 0, 0, 0), (.getfield 53, 12, 22, 0, 0), (.aload_n 0, 0, 0, 0, 0), (.getfield 65, 12, 27, 0, 0)] (71, [some (.ref 0), some (.int l1), none, none, none, none], [.ref 16, .ref 12, .ref 0], σ) [] (by decide +kernel) rfl trivial ?_
  refine sy_callV mX12_addsTo 0 [.ref 12, .ref 16] [] kX12_addsTo jX12_265 (by decide +kernel) rfl rfl (Nat.le_of_ble_eq_true rfl) (Nat.le_of_ble_eq_true rfl) (by decide) rfl ?_
  exact k1

set_option maxRecDepth 20000 in
theorem w_M_sum_74 {Q : Option Value → sy_S → Prop} {σ : sy_S} {l1 : Int32} {v : Int32}   (k1 : sy_E shM mX12_lays (0, sy_ent [.ref 0, .int l1, .ref 12] 4, [], σ) (fun r9 σ9 => sy_E shM mX12_sum (85, [none, none, none, none, some (.int v), none], r9.toList ++ [], σ9) Q)) : sy_E shM mX12_sum (74, [some (.ref 0), some (.int l1), none, none, none, none], [.int v], σ) Q := by
  refine sy_bk [(.istore 4, 0, 0, 0, 0), (.aload_n 0, 0, 0, 0, 0), (.iload_n 1, 0, 0, 0, 0), (.aload_n 0, 0, 0, 0, 0), (.getfield 53, 12, 22, 0, 0)] (82, [some (.ref 0), some (.int l1), none, none, some (.int v), none], [.ref 12, .int l1, .ref 0], σ) [] (by decide +kernel) rfl trivial ?_
  refine sy_drop [none, none, none, none, some (.int v), none] ⟨rfl, trivial⟩ ?_
  refine sy_callV mX12_lays 0 [.int l1, .ref 12] [] kX12_lays jX12_257 (by decide +kernel) rfl rfl (Nat.le_of_ble_eq_true rfl) (Nat.le_of_ble_eq_true rfl) (by decide) rfl ?_
  exact k1

set_option maxRecDepth 20000 in
theorem w_M_sum_85 {Q : Option Value → sy_S → Prop} {σ : sy_S} {l4 : Int32} {v : Int32}   (k1 : Q (some (.int l4)) σ) : sy_E shM mX12_sum (85, [none, none, none, none, some (.int l4), none], [.int v], σ) Q := by
  refine sy_bk [(.istore 5, 0, 0, 0, 0), (.iload 4, 0, 0, 0, 0)] (89, [none, none, none, none, some (.int l4), some (.int v)], [.int l4], σ) [] (by decide +kernel) rfl trivial ?_
  exact sy_reti rfl (by decide +kernel) (k1)
