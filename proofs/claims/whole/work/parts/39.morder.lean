/-! walks of the model's orders (by program: wip/whole/gen/p39.py) -/
set_option maxRecDepth 20000 in
theorem w_m_comes_0 {Q : Option Value → sy_S → Prop} {σ : sy_S} {c : Int32}   (k1 : sy_E shM mX12_may (0, sy_ent [.ref 0, .ref 12, .int c] 3, [], σ) (fun r9 σ9 => sy_E shM mX12_comesBehind (6, [some (.ref 0), none, some (.int c)], r9.toList ++ [], σ9) Q)) : sy_E shM mX12_comesBehind (0, sy_ent [.ref 0, .ref 12, .int c] 3, [], σ) Q := by
  show sy_E shM mX12_comesBehind (0, [some (.ref 0), some (.ref 12), some (.int c)], [], σ) _
  refine sy_bk [(.aload_n 0, 0, 0, 0, 0), (.aload_n 1, 0, 0, 0, 0), (.iload_n 2, 0, 0, 0, 0)] (3, [some (.ref 0), some (.ref 12), some (.int c)], [.int c, .ref 12, .ref 0], σ) [] (by decide +kernel) rfl trivial ?_
  refine sy_drop [some (.ref 0), none, some (.int c)] ⟨rfl, rfl, trivial⟩ ?_
  refine sy_callV mX12_may 0 [.ref 12, .int c] [] kX12_may jX12_120 (by decide +kernel) rfl rfl (Nat.le_of_ble_eq_true rfl) (Nat.le_of_ble_eq_true rfl) (by decide) rfl ?_
  exact k1

set_option maxRecDepth 20000 in
theorem w_m_comes_6 {Q : Option Value → sy_S → Prop} {σ : sy_S} {c : Int32} {v : Int32}  (b1 : ¬ (v = 0) → vp_in c 16) (b2 : ¬ (v = 0) → ¬ (¬ (σ.1 14 c.toNatClampNeg) = 0) → vp_in (σ.1 0 24) 16) (k1 : v = 0 → Q none σ) (k2 : ¬ (v = 0) → ¬ (σ.1 14 c.toNatClampNeg) = 0 → Q none σ) (k3 : ¬ (v = 0) → ¬ (¬ (σ.1 14 c.toNatClampNeg) = 0) → Q none (sy_up (sy_up (sy_up σ.1 13 ((σ.1 0 24).toNatClampNeg) c) 0 24 ((σ.1 0 24) + 1)) 14 c.toNatClampNeg (vp_nar .boolean 1), σ.2)) : sy_E shM mX12_comesBehind (6, [some (.ref 0), none, some (.int c)], [.int v], σ) Q := by
  by_cases c1 : v = 0
  · refine sy_bk [(.ifCond .eq 39, 1, 45, 0, 0)] (45, [some (.ref 0), none, some (.int c)], [], σ) [sy_cc .eq v 0] (by decide +kernel) rfl ⟨c1, trivial⟩ ?_
    exact sy_retv rfl (by decide +kernel) (k1 c1)
  · refine sy_bk [(.ifCond .eq 39, 0, 45, 0, 0)] (9, [some (.ref 0), none, some (.int c)], [], σ) [¬ sy_cc .eq v 0] (by decide +kernel) rfl ⟨c1, trivial⟩ ?_
    refine sy_bk [(.aload_n 0, 0, 0, 0, 0), (.getfield 59, 12, 25, 0, 0), (.iload_n 2, 0, 0, 0, 0), (.baload, 0, 0, 0, 0)] (15, [some (.ref 0), none, some (.int c)], [.int (σ.1 14 c.toNatClampNeg)], σ) [sy_okA shM 1 14 c] (by decide +kernel) rfl ⟨⟨16, _, rfl, (b1 c1)⟩, trivial⟩ ?_
    by_cases c2 : ¬ (σ.1 14 c.toNatClampNeg) = 0
    · refine sy_bk [(.ifCond .ne 30, 1, 45, 0, 0)] (45, [some (.ref 0), none, some (.int c)], [], σ) [sy_cc .ne (σ.1 14 c.toNatClampNeg) 0] (by decide +kernel) rfl ⟨c2, trivial⟩ ?_
      exact sy_retv rfl (by decide +kernel) (k2 c1 c2)
    · refine sy_bk [(.ifCond .ne 30, 0, 45, 0, 0)] (18, [some (.ref 0), none, some (.int c)], [], σ) [¬ sy_cc .ne (σ.1 14 c.toNatClampNeg) 0] (by decide +kernel) rfl ⟨c2, trivial⟩ ?_
      refine sy_bk [(.aload_n 0, 0, 0, 0, 0), (.getfield 56, 12, 23, 0, 0), (.aload_n 0, 0, 0, 0, 0), (.getfield 219, 12, 24, 0, 0), (.iload_n 2, 0, 0, 0, 0), (.iastore, 0, 0, 0, 0), (.aload_n 0, 0, 0, 0, 0), (.dup, 0, 0, 0, 0), (.getfield 219, 12, 24, 0, 0), (.iconst 1, 0, 0, 1, 0), (.iadd, 0, 0, 0, 0), (.putfield 219, 12, 24, 0, 0), (.aload_n 0, 0, 0, 0, 0), (.getfield 59, 12, 25, 0, 0), (.iload_n 2, 0, 0, 0, 0), (.iconst 1, 0, 0, 1, 0), (.bastore, 0, 0, 0, 0)] (45, [some (.ref 0), none, some (.int c)], [], (sy_up (sy_up (sy_up σ.1 13 ((σ.1 0 24).toNatClampNeg) c) 0 24 ((σ.1 0 24) + 1)) 14 c.toNatClampNeg (vp_nar .boolean 1), σ.2)) [sy_okA shM 0 13 (σ.1 0 24), sy_okA shM 1 14 c] (by decide +kernel) rfl ⟨⟨16, _, rfl, (b2 c1 c2)⟩, ⟨16, _, rfl, (b1 c1)⟩, trivial⟩ ?_
      exact sy_retv rfl (by decide +kernel) (k3 c1 c2)

set_option maxRecDepth 20000 in
theorem w_m_border_0 {Q : Option Value → sy_S → Prop} {σ : sy_S}    (k1 : sy_E shM mX12_beginsOrder (7, [some (.ref 0), some (.ref 12), some (.int 0)], [], (sy_up σ.1 0 24 0, σ.2)) Q) : sy_E shM mX12_beginsOrder (0, sy_ent [.ref 0, .ref 12] 3, [], σ) Q := by
  show sy_E shM mX12_beginsOrder (0, [some (.ref 0), some (.ref 12), none], [], σ) _
  refine sy_bk [(.aload_n 0, 0, 0, 0, 0), (.iconst 0, 0, 0, 0, 0), (.putfield 219, 12, 24, 0, 0), (.iconst 0, 0, 0, 0, 0), (.istore_n 2, 0, 0, 0, 0)] (7, [some (.ref 0), some (.ref 12), some (.int 0)], [], (sy_up σ.1 0 24 0, σ.2)) [] (by decide +kernel) rfl trivial ?_
  exact k1

set_option maxRecDepth 20000 in
theorem w_m_border_7 {Q : Option Value → sy_S → Prop} {σ : sy_S} {i : Int32}  (b1 : ¬ (((σ.1 0 0) * (σ.1 0 1)) ≤ i) → vp_in i 16) (k1 : ((σ.1 0 0) * (σ.1 0 1)) ≤ i → sy_E shM mX12_beginsOrder (30, [some (.ref 0), some (.ref 12), some (.int 0)], [], σ) Q) (k2 : ¬ (((σ.1 0 0) * (σ.1 0 1)) ≤ i) → sy_E shM mX12_beginsOrder (7, [some (.ref 0), some (.ref 12), some (.int (i + 1))], [], (sy_up σ.1 14 i.toNatClampNeg (vp_nar .boolean 0), σ.2)) Q) : sy_E shM mX12_beginsOrder (7, [some (.ref 0), some (.ref 12), some (.int i)], [], σ) Q := by
  refine sy_bk [(.iload_n 2, 0, 0, 0, 0), (.aload_n 0, 0, 0, 0, 0)] (9, [some (.ref 0), some (.ref 12), some (.int i)], [.ref 0, .int i], σ) [] (by decide +kernel) rfl trivial ?_
  refine sy_callV mX12_cells 0 [] [.int i] kX12_cells jX12_105 (by decide +kernel) rfl rfl (Nat.le_of_ble_eq_true rfl) (Nat.le_of_ble_eq_true rfl) (by decide) rfl ?_
  refine w_m_cells (σ := σ) ?_
  show sy_E shM mX12_beginsOrder (12, [some (.ref 0), some (.ref 12), some (.int i)], [.int ((σ.1 0 0) * (σ.1 0 1)), .int i], σ) _
  by_cases c1 : ((σ.1 0 0) * (σ.1 0 1)) ≤ i
  · refine sy_bk [(.if_icmp .ge 16, 1, 28, 0, 0)] (28, [some (.ref 0), some (.ref 12), some (.int i)], [], σ) [sy_cc .ge i ((σ.1 0 0) * (σ.1 0 1))] (by decide +kernel) rfl ⟨c1, trivial⟩ ?_
    refine sy_bk [(.iconst 0, 0, 0, 0, 0), (.istore_n 2, 0, 0, 0, 0)] (30, [some (.ref 0), some (.ref 12), some (.int 0)], [], σ) [] (by decide +kernel) rfl trivial ?_
    exact k1 c1
  · refine sy_bk [(.if_icmp .ge 16, 0, 28, 0, 0)] (15, [some (.ref 0), some (.ref 12), some (.int i)], [], σ) [¬ sy_cc .ge i ((σ.1 0 0) * (σ.1 0 1))] (by decide +kernel) rfl ⟨c1, trivial⟩ ?_
    refine sy_bk [(.aload_n 0, 0, 0, 0, 0), (.getfield 59, 12, 25, 0, 0), (.iload_n 2, 0, 0, 0, 0), (.iconst 0, 0, 0, 0, 0), (.bastore, 0, 0, 0, 0), (.iinc 2 1, 0, 0, 1, 0), (.goto (-18), 0, 7, 0, 0)] (7, [some (.ref 0), some (.ref 12), some (.int (i + 1))], [], (sy_up σ.1 14 i.toNatClampNeg (vp_nar .boolean 0), σ.2)) [sy_okA shM 1 14 i] (by decide +kernel) rfl ⟨⟨16, _, rfl, (b1 c1)⟩, trivial⟩ ?_
    exact k2 c1

set_option maxRecDepth 20000 in
theorem w_m_border_30 {Q : Option Value → sy_S → Prop} {σ : sy_S} {i : Int32}   (k1 : ((σ.1 0 0) * (σ.1 0 1)) ≤ i → Q none σ) (k2 : ¬ (((σ.1 0 0) * (σ.1 0 1)) ≤ i) → sy_E shM mX12_comesBehind (0, sy_ent [.ref 0, .ref 12, .int i] 3, [], σ) (fun r9 σ9 => sy_E shM mX12_beginsOrder (44, [some (.ref 0), some (.ref 12), some (.int i)], r9.toList ++ [], σ9) Q)) : sy_E shM mX12_beginsOrder (30, [some (.ref 0), some (.ref 12), some (.int i)], [], σ) Q := by
  refine sy_bk [(.iload_n 2, 0, 0, 0, 0), (.aload_n 0, 0, 0, 0, 0)] (32, [some (.ref 0), some (.ref 12), some (.int i)], [.ref 0, .int i], σ) [] (by decide +kernel) rfl trivial ?_
  refine sy_callV mX12_cells 0 [] [.int i] kX12_cells jX12_105 (by decide +kernel) rfl rfl (Nat.le_of_ble_eq_true rfl) (Nat.le_of_ble_eq_true rfl) (by decide) rfl ?_
  refine w_m_cells (σ := σ) ?_
  show sy_E shM mX12_beginsOrder (35, [some (.ref 0), some (.ref 12), some (.int i)], [.int ((σ.1 0 0) * (σ.1 0 1)), .int i], σ) _
  by_cases c1 : ((σ.1 0 0) * (σ.1 0 1)) ≤ i
  · refine sy_bk [(.if_icmp .ge 15, 1, 50, 0, 0)] (50, [some (.ref 0), some (.ref 12), some (.int i)], [], σ) [sy_cc .ge i ((σ.1 0 0) * (σ.1 0 1))] (by decide +kernel) rfl ⟨c1, trivial⟩ ?_
    exact sy_retv rfl (by decide +kernel) (k1 c1)
  · refine sy_bk [(.if_icmp .ge 15, 0, 50, 0, 0)] (38, [some (.ref 0), some (.ref 12), some (.int i)], [], σ) [¬ sy_cc .ge i ((σ.1 0 0) * (σ.1 0 1))] (by decide +kernel) rfl ⟨c1, trivial⟩ ?_
    refine sy_bk [(.aload_n 0, 0, 0, 0, 0), (.aload_n 1, 0, 0, 0, 0), (.iload_n 2, 0, 0, 0, 0)] (41, [some (.ref 0), some (.ref 12), some (.int i)], [.int i, .ref 12, .ref 0], σ) [] (by decide +kernel) rfl trivial ?_
    refine sy_callV mX12_comesBehind 0 [.ref 12, .int i] [] kX12_comesBehind jX12_222 (by decide +kernel) rfl rfl (Nat.le_of_ble_eq_true rfl) (Nat.le_of_ble_eq_true rfl) (by decide) rfl ?_
    exact k2 c1

set_option maxRecDepth 20000 in
theorem w_m_border_44 {Q : Option Value → sy_S → Prop} {σ : sy_S} {i : Int32}   (k1 : sy_E shM mX12_beginsOrder (30, [some (.ref 0), some (.ref 12), some (.int (i + 1))], [], σ) Q) : sy_E shM mX12_beginsOrder (44, [some (.ref 0), some (.ref 12), some (.int i)], [], σ) Q := by
  refine sy_bk [(.iinc 2 1, 0, 0, 1, 0), (.goto (-17), 0, 30, 0, 0)] (30, [some (.ref 0), some (.ref 12), some (.int (i + 1))], [], σ) [] (by decide +kernel) rfl trivial ?_
  exact k1

set_option maxRecDepth 20000 in
theorem w_m_least_0 {Q : Option Value → sy_S → Prop} {σ : sy_S}    (k1 : sy_E shM mX12_least (2, [some (.ref 0), some (.ref 12), some (.int 0)], [], σ) Q) : sy_E shM mX12_least (0, sy_ent [.ref 0, .ref 12] 3, [], σ) Q := by
  show sy_E shM mX12_least (0, [some (.ref 0), some (.ref 12), none], [], σ) _
  refine sy_bk [(.iconst 0, 0, 0, 0, 0), (.istore_n 2, 0, 0, 0, 0)] (2, [some (.ref 0), some (.ref 12), some (.int 0)], [], σ) [] (by decide +kernel) rfl trivial ?_
  exact k1

set_option maxRecDepth 20000 in
theorem w_m_least_2 {Q : Option Value → sy_S → Prop} {σ : sy_S} {i : Int32}   (k1 : ((σ.1 0 0) * (σ.1 0 1)) ≤ i → Q (some (.int (-1))) σ) (k2 : ¬ (((σ.1 0 0) * (σ.1 0 1)) ≤ i) → sy_E shM mX12_may (0, sy_ent [.ref 0, .ref 12, .int i] 3, [], σ) (fun r9 σ9 => sy_E shM mX12_least (16, [some (.ref 0), some (.ref 12), some (.int i)], r9.toList ++ [], σ9) Q)) : sy_E shM mX12_least (2, [some (.ref 0), some (.ref 12), some (.int i)], [], σ) Q := by
  refine sy_bk [(.iload_n 2, 0, 0, 0, 0), (.aload_n 0, 0, 0, 0, 0)] (4, [some (.ref 0), some (.ref 12), some (.int i)], [.ref 0, .int i], σ) [] (by decide +kernel) rfl trivial ?_
  refine sy_callV mX12_cells 0 [] [.int i] kX12_cells jX12_105 (by decide +kernel) rfl rfl (Nat.le_of_ble_eq_true rfl) (Nat.le_of_ble_eq_true rfl) (by decide) rfl ?_
  refine w_m_cells (σ := σ) ?_
  show sy_E shM mX12_least (7, [some (.ref 0), some (.ref 12), some (.int i)], [.int ((σ.1 0 0) * (σ.1 0 1)), .int i], σ) _
  by_cases c1 : ((σ.1 0 0) * (σ.1 0 1)) ≤ i
  · refine sy_bk [(.if_icmp .ge 20, 1, 27, 0, 0)] (27, [some (.ref 0), some (.ref 12), some (.int i)], [], σ) [sy_cc .ge i ((σ.1 0 0) * (σ.1 0 1))] (by decide +kernel) rfl ⟨c1, trivial⟩ ?_
    refine sy_bk [(.iconst (-1), 0, 0, (-1), 0)] (28, [some (.ref 0), some (.ref 12), some (.int i)], [.int (-1)], σ) [] (by decide +kernel) rfl trivial ?_
    exact sy_reti rfl (by decide +kernel) (k1 c1)
  · refine sy_bk [(.if_icmp .ge 20, 0, 27, 0, 0)] (10, [some (.ref 0), some (.ref 12), some (.int i)], [], σ) [¬ sy_cc .ge i ((σ.1 0 0) * (σ.1 0 1))] (by decide +kernel) rfl ⟨c1, trivial⟩ ?_
    refine sy_bk [(.aload_n 0, 0, 0, 0, 0), (.aload_n 1, 0, 0, 0, 0), (.iload_n 2, 0, 0, 0, 0)] (13, [some (.ref 0), some (.ref 12), some (.int i)], [.int i, .ref 12, .ref 0], σ) [] (by decide +kernel) rfl trivial ?_
    refine sy_callV mX12_may 0 [.ref 12, .int i] [] kX12_may jX12_120 (by decide +kernel) rfl rfl (Nat.le_of_ble_eq_true rfl) (Nat.le_of_ble_eq_true rfl) (by decide) rfl ?_
    exact k2 c1

set_option maxRecDepth 20000 in
theorem w_m_least_16 {Q : Option Value → sy_S → Prop} {σ : sy_S} {i : Int32} {v : Int32}   (k1 : v = 0 → sy_E shM mX12_least (2, [some (.ref 0), some (.ref 12), some (.int (i + 1))], [], σ) Q) (k2 : ¬ (v = 0) → Q (some (.int i)) σ) : sy_E shM mX12_least (16, [some (.ref 0), some (.ref 12), some (.int i)], [.int v], σ) Q := by
  by_cases c1 : v = 0
  · refine sy_bk [(.ifCond .eq 5, 1, 21, 0, 0)] (21, [some (.ref 0), some (.ref 12), some (.int i)], [], σ) [sy_cc .eq v 0] (by decide +kernel) rfl ⟨c1, trivial⟩ ?_
    refine sy_bk [(.iinc 2 1, 0, 0, 1, 0), (.goto (-22), 0, 2, 0, 0)] (2, [some (.ref 0), some (.ref 12), some (.int (i + 1))], [], σ) [] (by decide +kernel) rfl trivial ?_
    exact k1 c1
  · refine sy_bk [(.ifCond .eq 5, 0, 21, 0, 0)] (19, [some (.ref 0), some (.ref 12), some (.int i)], [], σ) [¬ sy_cc .eq v 0] (by decide +kernel) rfl ⟨c1, trivial⟩ ?_
    refine sy_bk [(.iload_n 2, 0, 0, 0, 0)] (20, [some (.ref 0), some (.ref 12), some (.int i)], [.int i], σ) [] (by decide +kernel) rfl trivial ?_
    exact sy_reti rfl (by decide +kernel) (k2 c1)

set_option maxRecDepth 20000 in
theorem w_m_tall_0 {Q : Option Value → sy_S → Prop} {σ : sy_S}    (k1 : sy_E shM mX12_tallest (4, [some (.ref 0), some (.ref 12), some (.int (-1)), some (.int 0)], [], σ) Q) : sy_E shM mX12_tallest (0, sy_ent [.ref 0, .ref 12] 4, [], σ) Q := by
  show sy_E shM mX12_tallest (0, [some (.ref 0), some (.ref 12), none, none], [], σ) _
  refine sy_bk [(.iconst (-1), 0, 0, (-1), 0), (.istore_n 2, 0, 0, 0, 0), (.iconst 0, 0, 0, 0, 0), (.istore_n 3, 0, 0, 0, 0)] (4, [some (.ref 0), some (.ref 12), some (.int (-1)), some (.int 0)], [], σ) [] (by decide +kernel) rfl trivial ?_
  exact k1

set_option maxRecDepth 20000 in
theorem w_m_tall_4 {Q : Option Value → sy_S → Prop} {σ : sy_S} {best : Int32} {i : Int32}   (k1 : ((σ.1 0 0) * (σ.1 0 1)) ≤ i → Q (some (.int best)) σ) (k2 : ¬ (((σ.1 0 0) * (σ.1 0 1)) ≤ i) → sy_E shM mX12_may (0, sy_ent [.ref 0, .ref 12, .int i] 3, [], σ) (fun r9 σ9 => sy_E shM mX12_tallest (18, [some (.ref 0), some (.ref 12), some (.int best), some (.int i)], r9.toList ++ [], σ9) Q)) : sy_E shM mX12_tallest (4, [some (.ref 0), some (.ref 12), some (.int best), some (.int i)], [], σ) Q := by
  refine sy_bk [(.iload_n 3, 0, 0, 0, 0), (.aload_n 0, 0, 0, 0, 0)] (6, [some (.ref 0), some (.ref 12), some (.int best), some (.int i)], [.ref 0, .int i], σ) [] (by decide +kernel) rfl trivial ?_
  refine sy_callV mX12_cells 0 [] [.int i] kX12_cells jX12_105 (by decide +kernel) rfl rfl (Nat.le_of_ble_eq_true rfl) (Nat.le_of_ble_eq_true rfl) (by decide) rfl ?_
  refine w_m_cells (σ := σ) ?_
  show sy_E shM mX12_tallest (9, [some (.ref 0), some (.ref 12), some (.int best), some (.int i)], [.int ((σ.1 0 0) * (σ.1 0 1)), .int i], σ) _
  by_cases c1 : ((σ.1 0 0) * (σ.1 0 1)) ≤ i
  · refine sy_bk [(.if_icmp .ge 37, 1, 46, 0, 0)] (46, [some (.ref 0), some (.ref 12), some (.int best), some (.int i)], [], σ) [sy_cc .ge i ((σ.1 0 0) * (σ.1 0 1))] (by decide +kernel) rfl ⟨c1, trivial⟩ ?_
    refine sy_bk [(.iload_n 2, 0, 0, 0, 0)] (47, [some (.ref 0), some (.ref 12), some (.int best), some (.int i)], [.int best], σ) [] (by decide +kernel) rfl trivial ?_
    exact sy_reti rfl (by decide +kernel) (k1 c1)
  · refine sy_bk [(.if_icmp .ge 37, 0, 46, 0, 0)] (12, [some (.ref 0), some (.ref 12), some (.int best), some (.int i)], [], σ) [¬ sy_cc .ge i ((σ.1 0 0) * (σ.1 0 1))] (by decide +kernel) rfl ⟨c1, trivial⟩ ?_
    refine sy_bk [(.aload_n 0, 0, 0, 0, 0), (.aload_n 1, 0, 0, 0, 0), (.iload_n 3, 0, 0, 0, 0)] (15, [some (.ref 0), some (.ref 12), some (.int best), some (.int i)], [.int i, .ref 12, .ref 0], σ) [] (by decide +kernel) rfl trivial ?_
    refine sy_callV mX12_may 0 [.ref 12, .int i] [] kX12_may jX12_120 (by decide +kernel) rfl rfl (Nat.le_of_ble_eq_true rfl) (Nat.le_of_ble_eq_true rfl) (by decide) rfl ?_
    exact k2 c1

set_option maxRecDepth 20000 in
theorem w_m_tall_18 {Q : Option Value → sy_S → Prop} {σ : sy_S} {best : Int32} {i : Int32} {v : Int32}  (b1 : ¬ (v = 0) → ¬ (best < 0) → vp_in i 16) (b2 : ¬ (v = 0) → ¬ (best < 0) → vp_in best 16) (k1 : v = 0 → sy_E shM mX12_tallest (4, [some (.ref 0), some (.ref 12), some (.int best), some (.int (i + 1))], [], σ) Q) (k2 : ¬ (v = 0) → best < 0 → sy_E shM mX12_tallest (4, [some (.ref 0), some (.ref 12), some (.int i), some (.int (i + 1))], [], σ) Q) (k3 : ¬ (v = 0) → ¬ (best < 0) → (σ.1 12 i.toNatClampNeg) ≤ (σ.1 12 best.toNatClampNeg) → sy_E shM mX12_tallest (4, [some (.ref 0), some (.ref 12), some (.int best), some (.int (i + 1))], [], σ) Q) (k4 : ¬ (v = 0) → ¬ (best < 0) → ¬ ((σ.1 12 i.toNatClampNeg) ≤ (σ.1 12 best.toNatClampNeg)) → sy_E shM mX12_tallest (4, [some (.ref 0), some (.ref 12), some (.int i), some (.int (i + 1))], [], σ) Q) : sy_E shM mX12_tallest (18, [some (.ref 0), some (.ref 12), some (.int best), some (.int i)], [.int v], σ) Q := by
  by_cases c1 : v = 0
  · refine sy_bk [(.ifCond .eq 20, 1, 38, 0, 0)] (38, [some (.ref 0), some (.ref 12), some (.int best), some (.int i)], [], σ) [sy_cc .eq v 0] (by decide +kernel) rfl ⟨c1, trivial⟩ ?_
    refine sy_bk [(.iload_n 2, 0, 0, 0, 0), (.istore_n 2, 0, 0, 0, 0), (.iinc 3 1, 0, 0, 1, 0), (.goto (-39), 0, 4, 0, 0)] (4, [some (.ref 0), some (.ref 12), some (.int best), some (.int (i + 1))], [], σ) [] (by decide +kernel) rfl trivial ?_
    exact k1 c1
  · refine sy_bk [(.ifCond .eq 20, 0, 38, 0, 0)] (21, [some (.ref 0), some (.ref 12), some (.int best), some (.int i)], [], σ) [¬ sy_cc .eq v 0] (by decide +kernel) rfl ⟨c1, trivial⟩ ?_
    refine sy_bk [(.iload_n 2, 0, 0, 0, 0)] (22, [some (.ref 0), some (.ref 12), some (.int best), some (.int i)], [.int best], σ) [] (by decide +kernel) rfl trivial ?_
    by_cases c2 : best < 0
    · refine sy_bk [(.ifCond .lt 12, 1, 34, 0, 0)] (34, [some (.ref 0), some (.ref 12), some (.int best), some (.int i)], [], σ) [sy_cc .lt best 0] (by decide +kernel) rfl ⟨c2, trivial⟩ ?_
      refine sy_bk [(.iload_n 3, 0, 0, 0, 0), (.goto 4, 0, 39, 0, 0), (.istore_n 2, 0, 0, 0, 0), (.iinc 3 1, 0, 0, 1, 0), (.goto (-39), 0, 4, 0, 0)] (4, [some (.ref 0), some (.ref 12), some (.int i), some (.int (i + 1))], [], σ) [] (by decide +kernel) rfl trivial ?_
      exact k2 c1 c2
    · refine sy_bk [(.ifCond .lt 12, 0, 34, 0, 0)] (25, [some (.ref 0), some (.ref 12), some (.int best), some (.int i)], [], σ) [¬ sy_cc .lt best 0] (by decide +kernel) rfl ⟨c2, trivial⟩ ?_
      refine sy_bk [(.aload_n 1, 0, 0, 0, 0), (.iload_n 3, 0, 0, 0, 0), (.iaload, 0, 0, 0, 0), (.aload_n 1, 0, 0, 0, 0), (.iload_n 2, 0, 0, 0, 0), (.iaload, 0, 0, 0, 0)] (31, [some (.ref 0), some (.ref 12), some (.int best), some (.int i)], [.int (σ.1 12 best.toNatClampNeg), .int (σ.1 12 i.toNatClampNeg)], σ) [sy_okA shM 0 12 i, sy_okA shM 0 12 best] (by decide +kernel) rfl ⟨⟨16, _, rfl, (b1 c1 c2)⟩, ⟨16, _, rfl, (b2 c1 c2)⟩, trivial⟩ ?_
      by_cases c3 : (σ.1 12 i.toNatClampNeg) ≤ (σ.1 12 best.toNatClampNeg)
      · refine sy_bk [(.if_icmp .le 7, 1, 38, 0, 0)] (38, [some (.ref 0), some (.ref 12), some (.int best), some (.int i)], [], σ) [sy_cc .le (σ.1 12 i.toNatClampNeg) (σ.1 12 best.toNatClampNeg)] (by decide +kernel) rfl ⟨c3, trivial⟩ ?_
        refine sy_bk [(.iload_n 2, 0, 0, 0, 0), (.istore_n 2, 0, 0, 0, 0), (.iinc 3 1, 0, 0, 1, 0), (.goto (-39), 0, 4, 0, 0)] (4, [some (.ref 0), some (.ref 12), some (.int best), some (.int (i + 1))], [], σ) [] (by decide +kernel) rfl trivial ?_
        exact k3 c1 c2 c3
      · refine sy_bk [(.if_icmp .le 7, 0, 38, 0, 0)] (34, [some (.ref 0), some (.ref 12), some (.int best), some (.int i)], [], σ) [¬ sy_cc .le (σ.1 12 i.toNatClampNeg) (σ.1 12 best.toNatClampNeg)] (by decide +kernel) rfl ⟨c3, trivial⟩ ?_
        refine sy_bk [(.iload_n 3, 0, 0, 0, 0), (.goto 4, 0, 39, 0, 0), (.istore_n 2, 0, 0, 0, 0), (.iinc 3 1, 0, 0, 1, 0), (.goto (-39), 0, 4, 0, 0)] (4, [some (.ref 0), some (.ref 12), some (.int i), some (.int (i + 1))], [], σ) [] (by decide +kernel) rfl trivial ?_
        exact k4 c1 c2 c3

set_option maxRecDepth 20000 in
theorem w_m_leaves1_0 {Q : Option Value → sy_S → Prop} {σ : sy_S}    (k1 : ¬ (σ.1 0 24) = 0 → sy_E shM mX12_leaves (39, [some (.ref 0), some (.int 1), some (.int (σ.1 13 0)), some (.int 0)], [], (sy_up σ.1 0 24 ((σ.1 0 24) - 1), σ.2)) Q) (k2 : ¬ (¬ (σ.1 0 24) = 0) → Q (some (.int (-1))) σ) : sy_E shM mX12_leaves (0, sy_ent [.ref 0, .int 1] 4, [], σ) Q := by
  show sy_E shM mX12_leaves (0, [some (.ref 0), some (.int 1), none, none], [], σ) _
  refine sy_bk [(.aload_n 0, 0, 0, 0, 0), (.getfield 219, 12, 24, 0, 0)] (4, [some (.ref 0), some (.int 1), none, none], [.int (σ.1 0 24)], σ) [] (by decide +kernel) rfl trivial ?_
  by_cases c1 : ¬ (σ.1 0 24) = 0
  · refine sy_bk [(.ifCond .ne 5, 1, 9, 0, 0)] (9, [some (.ref 0), some (.int 1), none, none], [], σ) [sy_cc .ne (σ.1 0 24) 0] (by decide +kernel) rfl ⟨c1, trivial⟩ ?_
    refine sy_bk [(.aload_n 0, 0, 0, 0, 0), (.dup, 0, 0, 0, 0), (.getfield 219, 12, 24, 0, 0), (.iconst 1, 0, 0, 1, 0), (.isub, 0, 0, 0, 0), (.putfield 219, 12, 24, 0, 0), (.aload_n 0, 0, 0, 0, 0), (.getfield 56, 12, 23, 0, 0), (.iload_n 1, 0, 0, 0, 0), (.ifCond .eq 7, 0, 31, 0, 0), (.iconst 0, 0, 0, 0, 0), (.goto 7, 0, 35, 0, 0), (.iaload, 0, 0, 0, 0), (.istore_n 2, 0, 0, 0, 0), (.iconst 0, 0, 0, 0, 0), (.istore_n 3, 0, 0, 0, 0)] (39, [some (.ref 0), some (.int 1), some (.int (σ.1 13 0)), some (.int 0)], [], (sy_up σ.1 0 24 ((σ.1 0 24) - 1), σ.2)) [¬ sy_cc .eq 1 0, sy_okA shM 0 13 0] (by decide +kernel) rfl ⟨(by decide : ¬ ((1 : Int32) = 0)), ⟨16, _, rfl, vp_in_nI (n := 0) (by decide) (by decide)⟩, trivial⟩ ?_
    exact k1 c1
  · refine sy_bk [(.ifCond .ne 5, 0, 9, 0, 0)] (7, [some (.ref 0), some (.int 1), none, none], [], σ) [¬ sy_cc .ne (σ.1 0 24) 0] (by decide +kernel) rfl ⟨c1, trivial⟩ ?_
    refine sy_bk [(.iconst (-1), 0, 0, (-1), 0)] (8, [some (.ref 0), some (.int 1), none, none], [.int (-1)], σ) [] (by decide +kernel) rfl trivial ?_
    exact sy_reti rfl (by decide +kernel) (k2 c1)

set_option maxRecDepth 20000 in
theorem w_m_leaves1_39 {Q : Option Value → sy_S → Prop} {σ : sy_S} {c : Int32} {i : Int32}  (b1 : (σ.1 0 24) ≤ i → vp_in c 16) (b2 : ¬ ((σ.1 0 24) ≤ i) → vp_in (i + 1) 16) (b3 : ¬ ((σ.1 0 24) ≤ i) → vp_in i 16) (k1 : (σ.1 0 24) ≤ i → Q (some (.int c)) (sy_up σ.1 14 c.toNatClampNeg (vp_nar .boolean 0), σ.2)) (k2 : ¬ ((σ.1 0 24) ≤ i) → sy_E shM mX12_leaves (39, [some (.ref 0), some (.int 1), some (.int c), some (.int (i + 1))], [], (sy_up σ.1 13 i.toNatClampNeg (σ.1 13 ((i + 1).toNatClampNeg)), σ.2)) Q) : sy_E shM mX12_leaves (39, [some (.ref 0), some (.int 1), some (.int c), some (.int i)], [], σ) Q := by
  refine sy_bk [(.iload_n 3, 0, 0, 0, 0), (.aload_n 0, 0, 0, 0, 0), (.getfield 219, 12, 24, 0, 0)] (44, [some (.ref 0), some (.int 1), some (.int c), some (.int i)], [.int (σ.1 0 24), .int i], σ) [] (by decide +kernel) rfl trivial ?_
  by_cases c1 : (σ.1 0 24) ≤ i
  · refine sy_bk [(.if_icmp .ge 27, 1, 71, 0, 0)] (71, [some (.ref 0), some (.int 1), some (.int c), some (.int i)], [], σ) [sy_cc .ge i (σ.1 0 24)] (by decide +kernel) rfl ⟨c1, trivial⟩ ?_
    refine sy_bk [(.aload_n 0, 0, 0, 0, 0), (.getfield 59, 12, 25, 0, 0), (.iload_n 2, 0, 0, 0, 0), (.iconst 0, 0, 0, 0, 0), (.bastore, 0, 0, 0, 0), (.iload_n 2, 0, 0, 0, 0)] (79, [some (.ref 0), some (.int 1), some (.int c), some (.int i)], [.int c], (sy_up σ.1 14 c.toNatClampNeg (vp_nar .boolean 0), σ.2)) [sy_okA shM 1 14 c] (by decide +kernel) rfl ⟨⟨16, _, rfl, (b1 c1)⟩, trivial⟩ ?_
    exact sy_reti rfl (by decide +kernel) (k1 c1)
  · refine sy_bk [(.if_icmp .ge 27, 0, 71, 0, 0)] (47, [some (.ref 0), some (.int 1), some (.int c), some (.int i)], [], σ) [¬ sy_cc .ge i (σ.1 0 24)] (by decide +kernel) rfl ⟨c1, trivial⟩ ?_
    refine sy_bk [(.iload_n 1, 0, 0, 0, 0), (.ifCond .eq 23, 0, 71, 0, 0), (.aload_n 0, 0, 0, 0, 0), (.getfield 56, 12, 23, 0, 0), (.iload_n 3, 0, 0, 0, 0), (.aload_n 0, 0, 0, 0, 0), (.getfield 56, 12, 23, 0, 0), (.iload_n 3, 0, 0, 0, 0), (.iconst 1, 0, 0, 1, 0), (.iadd, 0, 0, 0, 0), (.iaload, 0, 0, 0, 0), (.iastore, 0, 0, 0, 0), (.iinc 3 1, 0, 0, 1, 0), (.goto (-29), 0, 39, 0, 0)] (39, [some (.ref 0), some (.int 1), some (.int c), some (.int (i + 1))], [], (sy_up σ.1 13 i.toNatClampNeg (σ.1 13 ((i + 1).toNatClampNeg)), σ.2)) [¬ sy_cc .eq 1 0, sy_okA shM 0 13 (i + 1), sy_okA shM 0 13 i] (by decide +kernel) rfl ⟨(by decide : ¬ ((1 : Int32) = 0)), ⟨16, _, rfl, (b2 c1)⟩, ⟨16, _, rfl, (b3 c1)⟩, trivial⟩ ?_
    exact k2 c1

set_option maxRecDepth 20000 in
theorem w_m_leaves0_0 {Q : Option Value → sy_S → Prop} {σ : sy_S}   (b1 : ¬ (σ.1 0 24) = 0 → vp_in ((σ.1 0 24) - 1) 16) (k1 : ¬ (σ.1 0 24) = 0 → sy_E shM mX12_leaves (39, [some (.ref 0), some (.int 0), some (.int (σ.1 13 (((σ.1 0 24) - 1).toNatClampNeg))), some (.int 0)], [], (sy_up σ.1 0 24 ((σ.1 0 24) - 1), σ.2)) Q) (k2 : ¬ (¬ (σ.1 0 24) = 0) → Q (some (.int (-1))) σ) : sy_E shM mX12_leaves (0, sy_ent [.ref 0, .int 0] 4, [], σ) Q := by
  show sy_E shM mX12_leaves (0, [some (.ref 0), some (.int 0), none, none], [], σ) _
  refine sy_bk [(.aload_n 0, 0, 0, 0, 0), (.getfield 219, 12, 24, 0, 0)] (4, [some (.ref 0), some (.int 0), none, none], [.int (σ.1 0 24)], σ) [] (by decide +kernel) rfl trivial ?_
  by_cases c1 : ¬ (σ.1 0 24) = 0
  · refine sy_bk [(.ifCond .ne 5, 1, 9, 0, 0)] (9, [some (.ref 0), some (.int 0), none, none], [], σ) [sy_cc .ne (σ.1 0 24) 0] (by decide +kernel) rfl ⟨c1, trivial⟩ ?_
    refine sy_bk [(.aload_n 0, 0, 0, 0, 0), (.dup, 0, 0, 0, 0), (.getfield 219, 12, 24, 0, 0), (.iconst 1, 0, 0, 1, 0), (.isub, 0, 0, 0, 0), (.putfield 219, 12, 24, 0, 0), (.aload_n 0, 0, 0, 0, 0), (.getfield 56, 12, 23, 0, 0), (.iload_n 1, 0, 0, 0, 0), (.ifCond .eq 7, 1, 31, 0, 0), (.aload_n 0, 0, 0, 0, 0), (.getfield 219, 12, 24, 0, 0), (.iaload, 0, 0, 0, 0), (.istore_n 2, 0, 0, 0, 0), (.iconst 0, 0, 0, 0, 0), (.istore_n 3, 0, 0, 0, 0)] (39, [some (.ref 0), some (.int 0), some (.int (σ.1 13 (((σ.1 0 24) - 1).toNatClampNeg))), some (.int 0)], [], (sy_up σ.1 0 24 ((σ.1 0 24) - 1), σ.2)) [sy_cc .eq 0 0, sy_okA shM 0 13 ((σ.1 0 24) - 1)] (by decide +kernel) rfl ⟨(by decide : ((0 : Int32) = 0)), ⟨16, _, rfl, (b1 c1)⟩, trivial⟩ ?_
    exact k1 c1
  · refine sy_bk [(.ifCond .ne 5, 0, 9, 0, 0)] (7, [some (.ref 0), some (.int 0), none, none], [], σ) [¬ sy_cc .ne (σ.1 0 24) 0] (by decide +kernel) rfl ⟨c1, trivial⟩ ?_
    refine sy_bk [(.iconst (-1), 0, 0, (-1), 0)] (8, [some (.ref 0), some (.int 0), none, none], [.int (-1)], σ) [] (by decide +kernel) rfl trivial ?_
    exact sy_reti rfl (by decide +kernel) (k2 c1)

set_option maxRecDepth 20000 in
theorem w_m_leaves0_39 {Q : Option Value → sy_S → Prop} {σ : sy_S} {c : Int32} {i : Int32}  (b1 : (σ.1 0 24) ≤ i → vp_in c 16) (b2 : ¬ ((σ.1 0 24) ≤ i) → vp_in c 16) (k1 : (σ.1 0 24) ≤ i → Q (some (.int c)) (sy_up σ.1 14 c.toNatClampNeg (vp_nar .boolean 0), σ.2)) (k2 : ¬ ((σ.1 0 24) ≤ i) → Q (some (.int c)) (sy_up σ.1 14 c.toNatClampNeg (vp_nar .boolean 0), σ.2)) : sy_E shM mX12_leaves (39, [some (.ref 0), some (.int 0), some (.int c), some (.int i)], [], σ) Q := by
  refine sy_bk [(.iload_n 3, 0, 0, 0, 0), (.aload_n 0, 0, 0, 0, 0), (.getfield 219, 12, 24, 0, 0)] (44, [some (.ref 0), some (.int 0), some (.int c), some (.int i)], [.int (σ.1 0 24), .int i], σ) [] (by decide +kernel) rfl trivial ?_
  by_cases c1 : (σ.1 0 24) ≤ i
  · refine sy_bk [(.if_icmp .ge 27, 1, 71, 0, 0)] (71, [some (.ref 0), some (.int 0), some (.int c), some (.int i)], [], σ) [sy_cc .ge i (σ.1 0 24)] (by decide +kernel) rfl ⟨c1, trivial⟩ ?_
    refine sy_bk [(.aload_n 0, 0, 0, 0, 0), (.getfield 59, 12, 25, 0, 0), (.iload_n 2, 0, 0, 0, 0), (.iconst 0, 0, 0, 0, 0), (.bastore, 0, 0, 0, 0), (.iload_n 2, 0, 0, 0, 0)] (79, [some (.ref 0), some (.int 0), some (.int c), some (.int i)], [.int c], (sy_up σ.1 14 c.toNatClampNeg (vp_nar .boolean 0), σ.2)) [sy_okA shM 1 14 c] (by decide +kernel) rfl ⟨⟨16, _, rfl, (b1 c1)⟩, trivial⟩ ?_
    exact sy_reti rfl (by decide +kernel) (k1 c1)
  · refine sy_bk [(.if_icmp .ge 27, 0, 71, 0, 0)] (47, [some (.ref 0), some (.int 0), some (.int c), some (.int i)], [], σ) [¬ sy_cc .ge i (σ.1 0 24)] (by decide +kernel) rfl ⟨c1, trivial⟩ ?_
    refine sy_bk [(.iload_n 1, 0, 0, 0, 0), (.ifCond .eq 23, 1, 71, 0, 0), (.aload_n 0, 0, 0, 0, 0), (.getfield 59, 12, 25, 0, 0), (.iload_n 2, 0, 0, 0, 0), (.iconst 0, 0, 0, 0, 0), (.bastore, 0, 0, 0, 0), (.iload_n 2, 0, 0, 0, 0)] (79, [some (.ref 0), some (.int 0), some (.int c), some (.int i)], [.int c], (sy_up σ.1 14 c.toNatClampNeg (vp_nar .boolean 0), σ.2)) [sy_cc .eq 0 0, sy_okA shM 1 14 c] (by decide +kernel) rfl ⟨(by decide : ((0 : Int32) = 0)), ⟨16, _, rfl, (b2 c1)⟩, trivial⟩ ?_
    exact sy_reti rfl (by decide +kernel) (k2 c1)

set_option maxRecDepth 20000 in
theorem w_m_goes_0 {Q : Option Value → sy_S → Prop} {σ : sy_S} {o : Int32}   (k1 : ¬ o = 0 → ¬ o = 3 → ¬ o = 1 → sy_E shM mX12_leaves (0, sy_ent [.ref 0, .int 0] 4, [], σ) (fun r9 σ9 => sy_E shM mX12_goes (39, [some (.ref 0), some (.ref 12), some (.int o), none, none], r9.toList ++ [], σ9) Q)) (k2 : ¬ o = 0 → ¬ o = 3 → ¬ (¬ o = 1) → sy_E shM mX12_leaves (0, sy_ent [.ref 0, .int 1] 4, [], σ) (fun r9 σ9 => sy_E shM mX12_goes (39, [some (.ref 0), some (.ref 12), some (.int o), none, none], r9.toList ++ [], σ9) Q)) (k3 : ¬ o = 0 → ¬ (¬ o = 3) → sy_E shM mX12_tallest (0, sy_ent [.ref 0, .ref 12] 4, [], σ) (fun r9 σ9 => sy_E shM mX12_goes (22, [some (.ref 0), some (.ref 12), some (.int o), none, none], r9.toList ++ [], σ9) Q)) (k4 : ¬ (¬ o = 0) → sy_E shM mX12_least (0, sy_ent [.ref 0, .ref 12] 3, [], σ) (fun r9 σ9 => sy_E shM mX12_goes (9, [some (.ref 0), some (.ref 12), some (.int o), none, none], r9.toList ++ [], σ9) Q)) : sy_E shM mX12_goes (0, sy_ent [.ref 0, .ref 12, .int o] 5, [], σ) Q := by
  show sy_E shM mX12_goes (0, [some (.ref 0), some (.ref 12), some (.int o), none, none], [], σ) _
  refine sy_bk [(.iload_n 2, 0, 0, 0, 0)] (1, [some (.ref 0), some (.ref 12), some (.int o), none, none], [.int o], σ) [] (by decide +kernel) rfl trivial ?_
  by_cases c1 : ¬ o = 0
  · refine sy_bk [(.ifCond .ne 11, 1, 12, 0, 0)] (12, [some (.ref 0), some (.ref 12), some (.int o), none, none], [], σ) [sy_cc .ne o 0] (by decide +kernel) rfl ⟨c1, trivial⟩ ?_
    refine sy_bk [(.iload_n 2, 0, 0, 0, 0), (.iconst 3, 0, 0, 3, 0)] (14, [some (.ref 0), some (.ref 12), some (.int o), none, none], [.int 3, .int o], σ) [] (by decide +kernel) rfl trivial ?_
    by_cases c2 : ¬ o = 3
    · refine sy_bk [(.if_icmp .ne 11, 1, 25, 0, 0)] (25, [some (.ref 0), some (.ref 12), some (.int o), none, none], [], σ) [sy_cc .ne o 3] (by decide +kernel) rfl ⟨c2, trivial⟩ ?_
      refine sy_bk [(.aload_n 0, 0, 0, 0, 0), (.iload_n 2, 0, 0, 0, 0), (.iconst 1, 0, 0, 1, 0)] (28, [some (.ref 0), some (.ref 12), some (.int o), none, none], [.int 1, .int o, .ref 0], σ) [] (by decide +kernel) rfl trivial ?_
      by_cases c3 : ¬ o = 1
      · refine sy_bk [(.if_icmp .ne 7, 1, 35, 0, 0)] (35, [some (.ref 0), some (.ref 12), some (.int o), none, none], [.ref 0], σ) [sy_cc .ne o 1] (by decide +kernel) rfl ⟨c3, trivial⟩ ?_
        refine sy_bk [(.iconst 0, 0, 0, 0, 0)] (36, [some (.ref 0), some (.ref 12), some (.int o), none, none], [.int 0, .ref 0], σ) [] (by decide +kernel) rfl trivial ?_
        refine sy_callV mX12_leaves 0 [.int 0] [] kX12_leaves jX12_232 (by decide +kernel) rfl rfl (Nat.le_of_ble_eq_true rfl) (Nat.le_of_ble_eq_true rfl) (by decide) rfl ?_
        exact k1 c1 c2 c3
      · refine sy_bk [(.if_icmp .ne 7, 0, 35, 0, 0)] (31, [some (.ref 0), some (.ref 12), some (.int o), none, none], [.ref 0], σ) [¬ sy_cc .ne o 1] (by decide +kernel) rfl ⟨c3, trivial⟩ ?_
        refine sy_bk [(.iconst 1, 0, 0, 1, 0), (.goto 4, 0, 36, 0, 0)] (36, [some (.ref 0), some (.ref 12), some (.int o), none, none], [.int 1, .ref 0], σ) [] (by decide +kernel) rfl trivial ?_
        refine sy_callV mX12_leaves 0 [.int 1] [] kX12_leaves jX12_232 (by decide +kernel) rfl rfl (Nat.le_of_ble_eq_true rfl) (Nat.le_of_ble_eq_true rfl) (by decide) rfl ?_
        exact k2 c1 c2 c3
    · refine sy_bk [(.if_icmp .ne 11, 0, 25, 0, 0)] (17, [some (.ref 0), some (.ref 12), some (.int o), none, none], [], σ) [¬ sy_cc .ne o 3] (by decide +kernel) rfl ⟨c2, trivial⟩ ?_
      refine sy_bk [(.aload_n 0, 0, 0, 0, 0), (.aload_n 1, 0, 0, 0, 0)] (19, [some (.ref 0), some (.ref 12), some (.int o), none, none], [.ref 12, .ref 0], σ) [] (by decide +kernel) rfl trivial ?_
      refine sy_callV mX12_tallest 0 [.ref 12] [] kX12_tallest jX12_229 (by decide +kernel) rfl rfl (Nat.le_of_ble_eq_true rfl) (Nat.le_of_ble_eq_true rfl) (by decide) rfl ?_
      exact k3 c1 c2
  · refine sy_bk [(.ifCond .ne 11, 0, 12, 0, 0)] (4, [some (.ref 0), some (.ref 12), some (.int o), none, none], [], σ) [¬ sy_cc .ne o 0] (by decide +kernel) rfl ⟨c1, trivial⟩ ?_
    refine sy_bk [(.aload_n 0, 0, 0, 0, 0), (.aload_n 1, 0, 0, 0, 0)] (6, [some (.ref 0), some (.ref 12), some (.int o), none, none], [.ref 12, .ref 0], σ) [] (by decide +kernel) rfl trivial ?_
    refine sy_callV mX12_least 0 [.ref 12] [] kX12_least jX12_226 (by decide +kernel) rfl rfl (Nat.le_of_ble_eq_true rfl) (Nat.le_of_ble_eq_true rfl) (by decide) rfl ?_
    exact k4 c1

set_option maxRecDepth 20000 in
theorem w_m_goes_9 {Q : Option Value → sy_S → Prop} {σ : sy_S} {o : Int32} {c : Int32}   (k1 : 0 ≤ c → sy_E shM mX12_topples (0, sy_ent [.ref 0, .ref 12, .int c, .int 1] 5, [], σ) (fun r9 σ9 => sy_E shM mX12_goes (53, [some (.ref 0), some (.ref 12), some (.int o), some (.int c), none], r9.toList ++ [], σ9) Q)) (k2 : ¬ (0 ≤ c) → Q (some (.int (-1))) σ) : sy_E shM mX12_goes (9, [some (.ref 0), some (.ref 12), some (.int o), none, none], [.int c], σ) Q := by
  refine sy_bk [(.goto 30, 0, 39, 0, 0), (.istore_n 3, 0, 0, 0, 0), (.iload_n 3, 0, 0, 0, 0)] (41, [some (.ref 0), some (.ref 12), some (.int o), some (.int c), none], [.int c], σ) [] (by decide +kernel) rfl trivial ?_
  by_cases c1 : 0 ≤ c
  · refine sy_bk [(.ifCond .ge 5, 1, 46, 0, 0)] (46, [some (.ref 0), some (.ref 12), some (.int o), some (.int c), none], [], σ) [sy_cc .ge c 0] (by decide +kernel) rfl ⟨c1, trivial⟩ ?_
    refine sy_bk [(.aload_n 0, 0, 0, 0, 0), (.aload_n 1, 0, 0, 0, 0), (.iload_n 3, 0, 0, 0, 0), (.iconst 1, 0, 0, 1, 0)] (50, [some (.ref 0), some (.ref 12), some (.int o), some (.int c), none], [.int 1, .int c, .ref 12, .ref 0], σ) [] (by decide +kernel) rfl trivial ?_
    refine sy_callV mX12_topples 0 [.ref 12, .int c, .int 1] [] kX12_topples jX12_131 (by decide +kernel) rfl rfl (Nat.le_of_ble_eq_true rfl) (Nat.le_of_ble_eq_true rfl) (by decide) rfl ?_
    exact k1 c1
  · refine sy_bk [(.ifCond .ge 5, 0, 46, 0, 0)] (44, [some (.ref 0), some (.ref 12), some (.int o), some (.int c), none], [], σ) [¬ sy_cc .ge c 0] (by decide +kernel) rfl ⟨c1, trivial⟩ ?_
    refine sy_bk [(.iconst (-1), 0, 0, (-1), 0)] (45, [some (.ref 0), some (.ref 12), some (.int o), some (.int c), none], [.int (-1)], σ) [] (by decide +kernel) rfl trivial ?_
    exact sy_reti rfl (by decide +kernel) (k2 c1)

set_option maxRecDepth 20000 in
theorem w_m_goes_22 {Q : Option Value → sy_S → Prop} {σ : sy_S} {o : Int32} {c : Int32}   (k1 : 0 ≤ c → sy_E shM mX12_topples (0, sy_ent [.ref 0, .ref 12, .int c, .int 1] 5, [], σ) (fun r9 σ9 => sy_E shM mX12_goes (53, [some (.ref 0), some (.ref 12), some (.int o), some (.int c), none], r9.toList ++ [], σ9) Q)) (k2 : ¬ (0 ≤ c) → Q (some (.int (-1))) σ) : sy_E shM mX12_goes (22, [some (.ref 0), some (.ref 12), some (.int o), none, none], [.int c], σ) Q := by
  refine sy_bk [(.goto 17, 0, 39, 0, 0), (.istore_n 3, 0, 0, 0, 0), (.iload_n 3, 0, 0, 0, 0)] (41, [some (.ref 0), some (.ref 12), some (.int o), some (.int c), none], [.int c], σ) [] (by decide +kernel) rfl trivial ?_
  by_cases c1 : 0 ≤ c
  · refine sy_bk [(.ifCond .ge 5, 1, 46, 0, 0)] (46, [some (.ref 0), some (.ref 12), some (.int o), some (.int c), none], [], σ) [sy_cc .ge c 0] (by decide +kernel) rfl ⟨c1, trivial⟩ ?_
    refine sy_bk [(.aload_n 0, 0, 0, 0, 0), (.aload_n 1, 0, 0, 0, 0), (.iload_n 3, 0, 0, 0, 0), (.iconst 1, 0, 0, 1, 0)] (50, [some (.ref 0), some (.ref 12), some (.int o), some (.int c), none], [.int 1, .int c, .ref 12, .ref 0], σ) [] (by decide +kernel) rfl trivial ?_
    refine sy_callV mX12_topples 0 [.ref 12, .int c, .int 1] [] kX12_topples jX12_131 (by decide +kernel) rfl rfl (Nat.le_of_ble_eq_true rfl) (Nat.le_of_ble_eq_true rfl) (by decide) rfl ?_
    exact k1 c1
  · refine sy_bk [(.ifCond .ge 5, 0, 46, 0, 0)] (44, [some (.ref 0), some (.ref 12), some (.int o), some (.int c), none], [], σ) [¬ sy_cc .ge c 0] (by decide +kernel) rfl ⟨c1, trivial⟩ ?_
    refine sy_bk [(.iconst (-1), 0, 0, (-1), 0)] (45, [some (.ref 0), some (.ref 12), some (.int o), some (.int c), none], [.int (-1)], σ) [] (by decide +kernel) rfl trivial ?_
    exact sy_reti rfl (by decide +kernel) (k2 c1)

set_option maxRecDepth 20000 in
theorem w_m_goes_39 {Q : Option Value → sy_S → Prop} {σ : sy_S} {o : Int32} {c : Int32}   (k1 : 0 ≤ c → sy_E shM mX12_topples (0, sy_ent [.ref 0, .ref 12, .int c, .int 1] 5, [], σ) (fun r9 σ9 => sy_E shM mX12_goes (53, [some (.ref 0), some (.ref 12), some (.int o), some (.int c), none], r9.toList ++ [], σ9) Q)) (k2 : ¬ (0 ≤ c) → Q (some (.int (-1))) σ) : sy_E shM mX12_goes (39, [some (.ref 0), some (.ref 12), some (.int o), none, none], [.int c], σ) Q := by
  refine sy_bk [(.istore_n 3, 0, 0, 0, 0), (.iload_n 3, 0, 0, 0, 0)] (41, [some (.ref 0), some (.ref 12), some (.int o), some (.int c), none], [.int c], σ) [] (by decide +kernel) rfl trivial ?_
  by_cases c1 : 0 ≤ c
  · refine sy_bk [(.ifCond .ge 5, 1, 46, 0, 0)] (46, [some (.ref 0), some (.ref 12), some (.int o), some (.int c), none], [], σ) [sy_cc .ge c 0] (by decide +kernel) rfl ⟨c1, trivial⟩ ?_
    refine sy_bk [(.aload_n 0, 0, 0, 0, 0), (.aload_n 1, 0, 0, 0, 0), (.iload_n 3, 0, 0, 0, 0), (.iconst 1, 0, 0, 1, 0)] (50, [some (.ref 0), some (.ref 12), some (.int o), some (.int c), none], [.int 1, .int c, .ref 12, .ref 0], σ) [] (by decide +kernel) rfl trivial ?_
    refine sy_callV mX12_topples 0 [.ref 12, .int c, .int 1] [] kX12_topples jX12_131 (by decide +kernel) rfl rfl (Nat.le_of_ble_eq_true rfl) (Nat.le_of_ble_eq_true rfl) (by decide) rfl ?_
    exact k1 c1
  · refine sy_bk [(.ifCond .ge 5, 0, 46, 0, 0)] (44, [some (.ref 0), some (.ref 12), some (.int o), some (.int c), none], [], σ) [¬ sy_cc .ge c 0] (by decide +kernel) rfl ⟨c1, trivial⟩ ?_
    refine sy_bk [(.iconst (-1), 0, 0, (-1), 0)] (45, [some (.ref 0), some (.ref 12), some (.int o), some (.int c), none], [.int (-1)], σ) [] (by decide +kernel) rfl trivial ?_
    exact sy_reti rfl (by decide +kernel) (k2 c1)

set_option maxRecDepth 20000 in
theorem w_m_goes_53 {Q : Option Value → sy_S → Prop} {σ : sy_S} {o : Int32} {c : Int32}   (k1 : sy_E shM mX12_goes (56, [some (.ref 0), some (.ref 12), some (.int o), some (.int c), some (.int 0)], [], σ) Q) : sy_E shM mX12_goes (53, [some (.ref 0), some (.ref 12), some (.int o), some (.int c), none], [], σ) Q := by
  refine sy_bk [(.iconst 0, 0, 0, 0, 0), (.istore 4, 0, 0, 0, 0)] (56, [some (.ref 0), some (.ref 12), some (.int o), some (.int c), some (.int 0)], [], σ) [] (by decide +kernel) rfl trivial ?_
  exact k1

set_option maxRecDepth 20000 in
theorem w_m_goes_56 {Q : Option Value → sy_S → Prop} {σ : sy_S} {o : Int32} {c : Int32} {i : Int32}  (b1 : vp_in c 16) (b2 : ¬ ((σ.1 4 c.toNatClampNeg) ≤ i) → o = 1 → vp_in ((4 * c) + i) 64) (b3 : ¬ ((σ.1 4 c.toNatClampNeg) ≤ i) → ¬ (o = 1) → ¬ (¬ o = 2) → vp_in ((4 * c) + i) 64) (k1 : (σ.1 4 c.toNatClampNeg) ≤ i → sy_E shM mX12_goes (99, [some (.ref 0), some (.ref 12), some (.int o), some (.int c), none], [], σ) Q) (k2 : ¬ ((σ.1 4 c.toNatClampNeg) ≤ i) → o = 1 → sy_E shM mX12_comesBehind (0, sy_ent [.ref 0, .ref 12, .int (σ.1 3 (((4 * c) + i).toNatClampNeg))] 3, [], σ) (fun r9 σ9 => sy_E shM mX12_goes (93, [some (.ref 0), some (.ref 12), some (.int o), some (.int c), some (.int i)], r9.toList ++ [], σ9) Q)) (k3 : ¬ ((σ.1 4 c.toNatClampNeg) ≤ i) → ¬ (o = 1) → ¬ o = 2 → sy_E shM mX12_goes (99, [some (.ref 0), some (.ref 12), some (.int o), some (.int c), none], [], σ) Q) (k4 : ¬ ((σ.1 4 c.toNatClampNeg) ≤ i) → ¬ (o = 1) → ¬ (¬ o = 2) → sy_E shM mX12_comesBehind (0, sy_ent [.ref 0, .ref 12, .int (σ.1 3 (((4 * c) + i).toNatClampNeg))] 3, [], σ) (fun r9 σ9 => sy_E shM mX12_goes (93, [some (.ref 0), some (.ref 12), some (.int o), some (.int c), some (.int i)], r9.toList ++ [], σ9) Q)) : sy_E shM mX12_goes (56, [some (.ref 0), some (.ref 12), some (.int o), some (.int c), some (.int i)], [], σ) Q := by
  refine sy_bk [(.iload 4, 0, 0, 0, 0), (.aload_n 0, 0, 0, 0, 0), (.getfield 29, 12, 5, 0, 0), (.iload_n 3, 0, 0, 0, 0), (.iaload, 0, 0, 0, 0)] (64, [some (.ref 0), some (.ref 12), some (.int o), some (.int c), some (.int i)], [.int (σ.1 4 c.toNatClampNeg), .int i], σ) [sy_okA shM 0 4 c] (by decide +kernel) rfl ⟨⟨16, _, rfl, b1⟩, trivial⟩ ?_
  by_cases c1 : (σ.1 4 c.toNatClampNeg) ≤ i
  · refine sy_bk [(.if_icmp .ge 35, 1, 99, 0, 0)] (99, [some (.ref 0), some (.ref 12), some (.int o), some (.int c), some (.int i)], [], σ) [sy_cc .ge i (σ.1 4 c.toNatClampNeg)] (by decide +kernel) rfl ⟨c1, trivial⟩ ?_
    refine sy_drop [some (.ref 0), some (.ref 12), some (.int o), some (.int c), none] ⟨rfl, rfl, rfl, rfl, trivial⟩ ?_
    exact k1 c1
  · refine sy_bk [(.if_icmp .ge 35, 0, 99, 0, 0)] (67, [some (.ref 0), some (.ref 12), some (.int o), some (.int c), some (.int i)], [], σ) [¬ sy_cc .ge i (σ.1 4 c.toNatClampNeg)] (by decide +kernel) rfl ⟨c1, trivial⟩ ?_
    refine sy_bk [(.iload_n 2, 0, 0, 0, 0), (.iconst 1, 0, 0, 1, 0)] (69, [some (.ref 0), some (.ref 12), some (.int o), some (.int c), some (.int i)], [.int 1, .int o], σ) [] (by decide +kernel) rfl trivial ?_
    by_cases c2 : o = 1
    · refine sy_bk [(.if_icmp .eq 8, 1, 77, 0, 0)] (77, [some (.ref 0), some (.ref 12), some (.int o), some (.int c), some (.int i)], [], σ) [sy_cc .eq o 1] (by decide +kernel) rfl ⟨c2, trivial⟩ ?_
      refine sy_bk [(.aload_n 0, 0, 0, 0, 0), (.aload_n 1, 0, 0, 0, 0), (.aload_n 0, 0, 0, 0, 0), (.getfield 26, 12, 4, 0, 0), (.iconst 4, 0, 0, 4, 0), (.iload_n 3, 0, 0, 0, 0), (.imul, 0, 0, 0, 0), (.iload 4, 0, 0, 0, 0), (.iadd, 0, 0, 0, 0), (.iaload, 0, 0, 0, 0)] (90, [some (.ref 0), some (.ref 12), some (.int o), some (.int c), some (.int i)], [.int (σ.1 3 (((4 * c) + i).toNatClampNeg)), .ref 12, .ref 0], σ) [sy_okA shM 0 3 ((4 * c) + i)] (by decide +kernel) rfl ⟨⟨64, _, rfl, (b2 c1 c2)⟩, trivial⟩ ?_
      refine sy_callV mX12_comesBehind 0 [.ref 12, .int (σ.1 3 (((4 * c) + i).toNatClampNeg))] [] kX12_comesBehind jX12_222 (by decide +kernel) rfl rfl (Nat.le_of_ble_eq_true rfl) (Nat.le_of_ble_eq_true rfl) (by decide) rfl ?_
      exact k2 c1 c2
    · refine sy_bk [(.if_icmp .eq 8, 0, 77, 0, 0)] (72, [some (.ref 0), some (.ref 12), some (.int o), some (.int c), some (.int i)], [], σ) [¬ sy_cc .eq o 1] (by decide +kernel) rfl ⟨c2, trivial⟩ ?_
      refine sy_bk [(.iload_n 2, 0, 0, 0, 0), (.iconst 2, 0, 0, 2, 0)] (74, [some (.ref 0), some (.ref 12), some (.int o), some (.int c), some (.int i)], [.int 2, .int o], σ) [] (by decide +kernel) rfl trivial ?_
      by_cases c3 : ¬ o = 2
      · refine sy_bk [(.if_icmp .ne 25, 1, 99, 0, 0)] (99, [some (.ref 0), some (.ref 12), some (.int o), some (.int c), some (.int i)], [], σ) [sy_cc .ne o 2] (by decide +kernel) rfl ⟨c3, trivial⟩ ?_
        refine sy_drop [some (.ref 0), some (.ref 12), some (.int o), some (.int c), none] ⟨rfl, rfl, rfl, rfl, trivial⟩ ?_
        exact k3 c1 c2 c3
      · refine sy_bk [(.if_icmp .ne 25, 0, 99, 0, 0)] (77, [some (.ref 0), some (.ref 12), some (.int o), some (.int c), some (.int i)], [], σ) [¬ sy_cc .ne o 2] (by decide +kernel) rfl ⟨c3, trivial⟩ ?_
        refine sy_bk [(.aload_n 0, 0, 0, 0, 0), (.aload_n 1, 0, 0, 0, 0), (.aload_n 0, 0, 0, 0, 0), (.getfield 26, 12, 4, 0, 0), (.iconst 4, 0, 0, 4, 0), (.iload_n 3, 0, 0, 0, 0), (.imul, 0, 0, 0, 0), (.iload 4, 0, 0, 0, 0), (.iadd, 0, 0, 0, 0), (.iaload, 0, 0, 0, 0)] (90, [some (.ref 0), some (.ref 12), some (.int o), some (.int c), some (.int i)], [.int (σ.1 3 (((4 * c) + i).toNatClampNeg)), .ref 12, .ref 0], σ) [sy_okA shM 0 3 ((4 * c) + i)] (by decide +kernel) rfl ⟨⟨64, _, rfl, (b3 c1 c2 c3)⟩, trivial⟩ ?_
        refine sy_callV mX12_comesBehind 0 [.ref 12, .int (σ.1 3 (((4 * c) + i).toNatClampNeg))] [] kX12_comesBehind jX12_222 (by decide +kernel) rfl rfl (Nat.le_of_ble_eq_true rfl) (Nat.le_of_ble_eq_true rfl) (by decide) rfl ?_
        exact k4 c1 c2 c3

set_option maxRecDepth 20000 in
theorem w_m_goes_93 {Q : Option Value → sy_S → Prop} {σ : sy_S} {o : Int32} {c : Int32} {i : Int32}   (k1 : sy_E shM mX12_goes (56, [some (.ref 0), some (.ref 12), some (.int o), some (.int c), some (.int (i + 1))], [], σ) Q) : sy_E shM mX12_goes (93, [some (.ref 0), some (.ref 12), some (.int o), some (.int c), some (.int i)], [], σ) Q := by
  refine sy_bk [(.iinc 4 1, 0, 0, 1, 0), (.goto (-40), 0, 56, 0, 0)] (56, [some (.ref 0), some (.ref 12), some (.int o), some (.int c), some (.int (i + 1))], [], σ) [] (by decide +kernel) rfl trivial ?_
  exact k1

set_option maxRecDepth 20000 in
theorem w_m_goes_99 {Q : Option Value → sy_S → Prop} {σ : sy_S} {o : Int32} {c : Int32}   (k1 : o = 1 → sy_E shM mX12_comesBehind (0, sy_ent [.ref 0, .ref 12, .int c] 3, [], σ) (fun r9 σ9 => sy_E shM mX12_goes (115, [none, none, none, some (.int c), none], r9.toList ++ [], σ9) Q)) (k2 : ¬ (o = 1) → ¬ o = 2 → Q (some (.int c)) σ) (k3 : ¬ (o = 1) → ¬ (¬ o = 2) → sy_E shM mX12_comesBehind (0, sy_ent [.ref 0, .ref 12, .int c] 3, [], σ) (fun r9 σ9 => sy_E shM mX12_goes (115, [none, none, none, some (.int c), none], r9.toList ++ [], σ9) Q)) : sy_E shM mX12_goes (99, [some (.ref 0), some (.ref 12), some (.int o), some (.int c), none], [], σ) Q := by
  refine sy_bk [(.iload_n 2, 0, 0, 0, 0), (.iconst 1, 0, 0, 1, 0)] (101, [some (.ref 0), some (.ref 12), some (.int o), some (.int c), none], [.int 1, .int o], σ) [] (by decide +kernel) rfl trivial ?_
  by_cases c1 : o = 1
  · refine sy_bk [(.if_icmp .eq 8, 1, 109, 0, 0)] (109, [some (.ref 0), some (.ref 12), some (.int o), some (.int c), none], [], σ) [sy_cc .eq o 1] (by decide +kernel) rfl ⟨c1, trivial⟩ ?_
    refine sy_bk [(.aload_n 0, 0, 0, 0, 0), (.aload_n 1, 0, 0, 0, 0), (.iload_n 3, 0, 0, 0, 0)] (112, [some (.ref 0), some (.ref 12), some (.int o), some (.int c), none], [.int c, .ref 12, .ref 0], σ) [] (by decide +kernel) rfl trivial ?_
    refine sy_drop [none, none, none, some (.int c), none] ⟨rfl, trivial⟩ ?_
    refine sy_callV mX12_comesBehind 0 [.ref 12, .int c] [] kX12_comesBehind jX12_222 (by decide +kernel) rfl rfl (Nat.le_of_ble_eq_true rfl) (Nat.le_of_ble_eq_true rfl) (by decide) rfl ?_
    exact k1 c1
  · refine sy_bk [(.if_icmp .eq 8, 0, 109, 0, 0)] (104, [some (.ref 0), some (.ref 12), some (.int o), some (.int c), none], [], σ) [¬ sy_cc .eq o 1] (by decide +kernel) rfl ⟨c1, trivial⟩ ?_
    refine sy_bk [(.iload_n 2, 0, 0, 0, 0), (.iconst 2, 0, 0, 2, 0)] (106, [some (.ref 0), some (.ref 12), some (.int o), some (.int c), none], [.int 2, .int o], σ) [] (by decide +kernel) rfl trivial ?_
    by_cases c2 : ¬ o = 2
    · refine sy_bk [(.if_icmp .ne 9, 1, 115, 0, 0)] (115, [some (.ref 0), some (.ref 12), some (.int o), some (.int c), none], [], σ) [sy_cc .ne o 2] (by decide +kernel) rfl ⟨c2, trivial⟩ ?_
      refine sy_bk [(.iload_n 3, 0, 0, 0, 0)] (116, [some (.ref 0), some (.ref 12), some (.int o), some (.int c), none], [.int c], σ) [] (by decide +kernel) rfl trivial ?_
      exact sy_reti rfl (by decide +kernel) (k2 c1 c2)
    · refine sy_bk [(.if_icmp .ne 9, 0, 115, 0, 0)] (109, [some (.ref 0), some (.ref 12), some (.int o), some (.int c), none], [], σ) [¬ sy_cc .ne o 2] (by decide +kernel) rfl ⟨c2, trivial⟩ ?_
      refine sy_bk [(.aload_n 0, 0, 0, 0, 0), (.aload_n 1, 0, 0, 0, 0), (.iload_n 3, 0, 0, 0, 0)] (112, [some (.ref 0), some (.ref 12), some (.int o), some (.int c), none], [.int c, .ref 12, .ref 0], σ) [] (by decide +kernel) rfl trivial ?_
      refine sy_drop [none, none, none, some (.int c), none] ⟨rfl, trivial⟩ ?_
      refine sy_callV mX12_comesBehind 0 [.ref 12, .int c] [] kX12_comesBehind jX12_222 (by decide +kernel) rfl rfl (Nat.le_of_ble_eq_true rfl) (Nat.le_of_ble_eq_true rfl) (by decide) rfl ?_
      exact k3 c1 c2

set_option maxRecDepth 20000 in
theorem w_m_goes_115 {Q : Option Value → sy_S → Prop} {σ : sy_S} {c : Int32}   (k1 : Q (some (.int c)) σ) : sy_E shM mX12_goes (115, [none, none, none, some (.int c), none], [], σ) Q := by
  refine sy_bk [(.iload_n 3, 0, 0, 0, 0)] (116, [none, none, none, some (.int c), none], [.int c], σ) [] (by decide +kernel) rfl trivial ?_
  exact sy_reti rfl (by decide +kernel) (k1)
