/-! walks of the model's methods (by program: wip/whole/gen/p71.py) -/
set_option maxRecDepth 20000 in
theorem w_M_judge_0 {Q : Option Value → sy_S → Prop} {σ : sy_S} {q : Int32}  (b1 : ∀ (m_1 : Nat), px p4 q = some m_1 → vp_in q 4) (k1 : ∀ (m_1 : Nat), px p4 q = some m_1 → 0 ≤ (σ.1 25 q.toNatClampNeg) → sy_E shM mX12_copies (0, sy_ent [.ref 2, .ref 12] 3, [], σ) (fun r9 σ9 => sy_E shM mX12_judge (32, [some (.ref 0), some (.int q), none, none], r9.toList ++ [], σ9) Q)) (k2 : ∀ (m_1 : Nat), px p4 q = some m_1 → ¬ (0 ≤ (σ.1 25 q.toNatClampNeg)) → Q (some (.int (-11))) σ) (k3 : px p4 q = none → Q (some (.int (-1))) σ) : sy_E shM mX12_judge (0, sy_ent [.ref 0, .int q] 4, [], σ) Q := by
  show sy_E shM mX12_judge (0, [some (.ref 0), some (.int q), none, none], [], σ) _
  refine sy_bk [(.iload_n 1, 0, 0, 0, 0)] (1, [some (.ref 0), some (.int q), none, none], [.int q], σ) [] (by decide +kernel) rfl trivial ?_
  refine sy_callS mX12_isList [.int q] [] kX12_isList jX12_326 (by decide +kernel) rfl rfl (Nat.le_of_ble_eq_true rfl) (Nat.le_of_ble_eq_true rfl) (by decide) ?_
  refine e_m_isList (σ := σ) (i := q) ?_ ?_
  · intro m_1 c2
    show sy_E shM mX12_judge (4, [some (.ref 0), some (.int q), none, none], [.int 1], σ) _
    refine sy_bk [(.ifCond .ne 5, 1, 9, 0, 0), (.aload_n 0, 0, 0, 0, 0), (.getfield 93, 12, 37, 0, 0), (.iload_n 1, 0, 0, 0, 0), (.iaload, 0, 0, 0, 0)] (15, [some (.ref 0), some (.int q), none, none], [.int (σ.1 25 q.toNatClampNeg)], σ) [sy_cc .ne 1 0, sy_okA shM 0 25 q] (by decide +kernel) rfl ⟨(by decide : (¬ (1 : Int32) = 0)), ⟨4, _, rfl, (b1 m_1 c2)⟩, trivial⟩ ?_
    by_cases c3 : 0 ≤ (σ.1 25 q.toNatClampNeg)
    · refine sy_bk [(.ifCond .ge 6, 1, 21, 0, 0)] (21, [some (.ref 0), some (.int q), none, none], [], σ) [sy_cc .ge (σ.1 25 q.toNatClampNeg) 0] (by decide +kernel) rfl ⟨c3, trivial⟩ ?_
      refine sy_bk [(.aload_n 0, 0, 0, 0, 0), (.getfield 22, 12, 3, 0, 0), (.aload_n 0, 0, 0, 0, 0), (.getfield 53, 12, 22, 0, 0)] (29, [some (.ref 0), some (.int q), none, none], [.ref 12, .ref 2], σ) [] (by decide +kernel) rfl trivial ?_
      refine sy_callS mX12_copies [.ref 2, .ref 12] [] kX12_copies jX12_209 (by decide +kernel) rfl rfl (Nat.le_of_ble_eq_true rfl) (Nat.le_of_ble_eq_true rfl) (by decide) ?_
      exact k1 m_1 c2 c3
    · refine sy_bk [(.ifCond .ge 6, 0, 21, 0, 0)] (18, [some (.ref 0), some (.int q), none, none], [], σ) [¬ sy_cc .ge (σ.1 25 q.toNatClampNeg) 0] (by decide +kernel) rfl ⟨c3, trivial⟩ ?_
      refine sy_bk [(.bipush (-11), 0, 0, (-11), 0)] (20, [some (.ref 0), some (.int q), none, none], [.int (-11)], σ) [] (by decide +kernel) rfl trivial ?_
      exact sy_reti rfl (by decide +kernel) (k2 m_1 c2 c3)
  · intro c4
    show sy_E shM mX12_judge (4, [some (.ref 0), some (.int q), none, none], [.int 0], σ) _
    refine sy_bk [(.ifCond .ne 5, 0, 9, 0, 0), (.iconst (-1), 0, 0, (-1), 0)] (8, [some (.ref 0), some (.int q), none, none], [.int (-1)], σ) [¬ sy_cc .ne 0 0] (by decide +kernel) rfl ⟨(by decide : ¬ (¬ (0 : Int32) = 0)), trivial⟩ ?_
    exact sy_reti rfl (by decide +kernel) (k3 c4)

set_option maxRecDepth 20000 in
theorem w_M_judge_32 {Q : Option Value → sy_S → Prop} {σ : sy_S} {l1 : Int32}   (k1 : sy_E shM mX12_judge (34, [some (.ref 0), some (.int l1), some (.int 0), none], [], σ) Q) : sy_E shM mX12_judge (32, [some (.ref 0), some (.int l1), none, none], [], σ) Q := by
  refine sy_bk [(.iconst 0, 0, 0, 0, 0), (.istore_n 2, 0, 0, 0, 0)] (34, [some (.ref 0), some (.int l1), some (.int 0), none], [], σ) [] (by decide +kernel) rfl trivial ?_
  exact k1

set_option maxRecDepth 20000 in
theorem w_M_judge_34 {Q : Option Value → sy_S → Prop} {σ : sy_S} {l1 : Int32} {l2 : Int32} {G : sg_G}  (b1 : vp_in l1 4) (b2 : ¬ ((σ.1 25 l1.toNatClampNeg) ≤ l2) → vp_in ((40 * l1) + l2) 160) (b3 : ¬ ((σ.1 25 l1.toNatClampNeg) ≤ l2) → gm G σ.1) (k1 : (σ.1 25 l1.toNatClampNeg) ≤ l2 → Q (some (.int (-5))) σ) (k2 : ¬ ((σ.1 25 l1.toNatClampNeg) ≤ l2) → ∀ (m_2 : Nat), px (sg_p G) (σ.1 26 (((40 * l1) + l2).toNatClampNeg)) = some m_2 → sy_E shM mX12_may (0, sy_ent [.ref 0, .ref 12, .int (σ.1 26 (((40 * l1) + l2).toNatClampNeg))] 3, [], σ) (fun r9 σ9 => sy_E shM mX12_judge (73, [some (.ref 0), some (.int l1), some (.int l2), some (.int (σ.1 26 (((40 * l1) + l2).toNatClampNeg)))], r9.toList ++ [], σ9) Q)) (k3 : ¬ ((σ.1 25 l1.toNatClampNeg) ≤ l2) → px (sg_p G) (σ.1 26 (((40 * l1) + l2).toNatClampNeg)) = none → Q (some (.int l2)) σ) : sy_E shM mX12_judge (34, [some (.ref 0), some (.int l1), some (.int l2), none], [], σ) Q := by
  refine sy_bk [(.iload_n 2, 0, 0, 0, 0), (.aload_n 0, 0, 0, 0, 0), (.getfield 93, 12, 37, 0, 0), (.iload_n 1, 0, 0, 0, 0), (.iaload, 0, 0, 0, 0)] (41, [some (.ref 0), some (.int l1), some (.int l2), none], [.int (σ.1 25 l1.toNatClampNeg), .int l2], σ) [sy_okA shM 0 25 l1] (by decide +kernel) rfl ⟨⟨4, _, rfl, b1⟩, trivial⟩ ?_
  by_cases c1 : (σ.1 25 l1.toNatClampNeg) ≤ l2
  · refine sy_bk [(.if_icmp .ge 53, 1, 94, 0, 0)] (94, [some (.ref 0), some (.int l1), some (.int l2), none], [], σ) [sy_cc .ge l2 (σ.1 25 l1.toNatClampNeg)] (by decide +kernel) rfl ⟨c1, trivial⟩ ?_
    refine sy_bk [(.bipush (-5), 0, 0, (-5), 0)] (96, [some (.ref 0), some (.int l1), some (.int l2), none], [.int (-5)], σ) [] (by decide +kernel) rfl trivial ?_
    exact sy_reti rfl (by decide +kernel) (k1 c1)
  · refine sy_bk [(.if_icmp .ge 53, 0, 94, 0, 0)] (44, [some (.ref 0), some (.int l1), some (.int l2), none], [], σ) [¬ sy_cc .ge l2 (σ.1 25 l1.toNatClampNeg)] (by decide +kernel) rfl ⟨c1, trivial⟩ ?_
    refine sy_bk [(.aload_n 0, 0, 0, 0, 0), (.getfield 96, 12, 38, 0, 0), (.bipush 40, 0, 0, 40, 0), (.iload_n 1, 0, 0, 0, 0), (.imul, 0, 0, 0, 0), (.iload_n 2, 0, 0, 0, 0), (.iadd, 0, 0, 0, 0), (.iaload, 0, 0, 0, 0), (.istore_n 3, 0, 0, 0, 0), (.aload_n 0, 0, 0, 0, 0), (.iload_n 3, 0, 0, 0, 0)] (58, [some (.ref 0), some (.int l1), some (.int l2), some (.int (σ.1 26 (((40 * l1) + l2).toNatClampNeg)))], [.int (σ.1 26 (((40 * l1) + l2).toNatClampNeg)), .ref 0], σ) [sy_okA shM 0 26 ((40 * l1) + l2)] (by decide +kernel) rfl ⟨⟨160, _, rfl, (b2 c1)⟩, trivial⟩ ?_
    refine sy_callV mX12_isPlace 0 [.int (σ.1 26 (((40 * l1) + l2).toNatClampNeg))] [] kX12_isPlace jX12_152 (by decide +kernel) rfl rfl (Nat.le_of_ble_eq_true rfl) (Nat.le_of_ble_eq_true rfl) (by decide) rfl ?_
    refine e_m_isPl (σ := σ) (cell := (σ.1 26 (((40 * l1) + l2).toNatClampNeg))) (b3 c1) ?_ ?_
    · intro m_2 c3
      show sy_E shM mX12_judge (61, [some (.ref 0), some (.int l1), some (.int l2), some (.int (σ.1 26 (((40 * l1) + l2).toNatClampNeg)))], [.int 1], σ) _
      refine sy_bk [(.ifCond .eq 15, 0, 76, 0, 0), (.aload_n 0, 0, 0, 0, 0), (.aload_n 0, 0, 0, 0, 0), (.getfield 53, 12, 22, 0, 0), (.iload_n 3, 0, 0, 0, 0)] (70, [some (.ref 0), some (.int l1), some (.int l2), some (.int (σ.1 26 (((40 * l1) + l2).toNatClampNeg)))], [.int (σ.1 26 (((40 * l1) + l2).toNatClampNeg)), .ref 12, .ref 0], σ) [¬ sy_cc .eq 1 0] (by decide +kernel) rfl ⟨(by decide : ¬ ((1 : Int32) = 0)), trivial⟩ ?_
      refine sy_callV mX12_may 0 [.ref 12, .int (σ.1 26 (((40 * l1) + l2).toNatClampNeg))] [] kX12_may jX12_120 (by decide +kernel) rfl rfl (Nat.le_of_ble_eq_true rfl) (Nat.le_of_ble_eq_true rfl) (by decide) rfl ?_
      exact k2 c1 m_2 c3
    · intro c4
      show sy_E shM mX12_judge (61, [some (.ref 0), some (.int l1), some (.int l2), some (.int (σ.1 26 (((40 * l1) + l2).toNatClampNeg)))], [.int 0], σ) _
      refine sy_bk [(.ifCond .eq 15, 1, 76, 0, 0), (.iload_n 2, 0, 0, 0, 0)] (77, [some (.ref 0), some (.int l1), some (.int l2), some (.int (σ.1 26 (((40 * l1) + l2).toNatClampNeg)))], [.int l2], σ) [sy_cc .eq 0 0] (by decide +kernel) rfl ⟨(by decide : ((0 : Int32) = 0)), trivial⟩ ?_
      exact sy_reti rfl (by decide +kernel) (k3 c1 c4)

set_option maxRecDepth 20000 in
theorem w_M_judge_73 {Q : Option Value → sy_S → Prop} {σ : sy_S} {l1 : Int32} {l2 : Int32} {l3 : Int32} {v : Int32}   (k1 : ¬ v = 0 → sy_E shM mX12_topples (0, sy_ent [.ref 0, .ref 12, .int l3, .int 1] 5, [], σ) (fun r9 σ9 => sy_E shM mX12_judge (88, [some (.ref 0), some (.int l1), some (.int l2), none], r9.toList ++ [], σ9) Q)) (k2 : ¬ (¬ v = 0) → Q (some (.int l2)) σ) : sy_E shM mX12_judge (73, [some (.ref 0), some (.int l1), some (.int l2), some (.int l3)], [.int v], σ) Q := by
  by_cases c1 : ¬ v = 0
  · refine sy_bk [(.ifCond .ne 5, 1, 78, 0, 0)] (78, [some (.ref 0), some (.int l1), some (.int l2), some (.int l3)], [], σ) [sy_cc .ne v 0] (by decide +kernel) rfl ⟨c1, trivial⟩ ?_
    refine sy_bk [(.aload_n 0, 0, 0, 0, 0), (.aload_n 0, 0, 0, 0, 0), (.getfield 53, 12, 22, 0, 0), (.iload_n 3, 0, 0, 0, 0), (.iconst 1, 0, 0, 1, 0)] (85, [some (.ref 0), some (.int l1), some (.int l2), some (.int l3)], [.int 1, .int l3, .ref 12, .ref 0], σ) [] (by decide +kernel) rfl trivial ?_
    refine sy_drop [some (.ref 0), some (.int l1), some (.int l2), none] ⟨rfl, rfl, rfl, trivial⟩ ?_
    refine sy_callV mX12_topples 0 [.ref 12, .int l3, .int 1] [] kX12_topples jX12_131 (by decide +kernel) rfl rfl (Nat.le_of_ble_eq_true rfl) (Nat.le_of_ble_eq_true rfl) (by decide) rfl ?_
    exact k1 c1
  · refine sy_bk [(.ifCond .ne 5, 0, 78, 0, 0)] (76, [some (.ref 0), some (.int l1), some (.int l2), some (.int l3)], [], σ) [¬ sy_cc .ne v 0] (by decide +kernel) rfl ⟨c1, trivial⟩ ?_
    refine sy_bk [(.iload_n 2, 0, 0, 0, 0)] (77, [some (.ref 0), some (.int l1), some (.int l2), some (.int l3)], [.int l2], σ) [] (by decide +kernel) rfl trivial ?_
    exact sy_reti rfl (by decide +kernel) (k2 c1)

set_option maxRecDepth 20000 in
theorem w_M_judge_88 {Q : Option Value → sy_S → Prop} {σ : sy_S} {l1 : Int32} {l2 : Int32}   (k1 : sy_E shM mX12_judge (34, [some (.ref 0), some (.int l1), some (.int (l2 + 1)), none], [], σ) Q) : sy_E shM mX12_judge (88, [some (.ref 0), some (.int l1), some (.int l2), none], [], σ) Q := by
  refine sy_bk [(.iinc 2 1, 0, 0, 1, 0), (.goto (-57), 0, 34, 0, 0)] (34, [some (.ref 0), some (.int l1), some (.int (l2 + 1)), none], [], σ) [] (by decide +kernel) rfl trivial ?_
  exact k1

set_option maxRecDepth 20000 in
theorem w_M_firstUntold_0 {Q : Option Value → sy_S → Prop} {σ : sy_S} {q : Int32}   (k1 : sy_E shM mX12_firstUntold (4, [some (.ref 0), some (.int q), some (.int 0), some (.int 0)], [], σ) Q) : sy_E shM mX12_firstUntold (0, sy_ent [.ref 0, .int q] 4, [], σ) Q := by
  show sy_E shM mX12_firstUntold (0, [some (.ref 0), some (.int q), none, none], [], σ) _
  refine sy_bk [(.iconst 0, 0, 0, 0, 0), (.istore_n 2, 0, 0, 0, 0), (.iconst 0, 0, 0, 0, 0), (.istore_n 3, 0, 0, 0, 0)] (4, [some (.ref 0), some (.int q), some (.int 0), some (.int 0)], [], σ) [] (by decide +kernel) rfl trivial ?_
  exact k1

set_option maxRecDepth 20000 in
theorem w_M_firstUntold_4 {Q : Option Value → sy_S → Prop} {σ : sy_S} {l1 : Int32} {l2 : Int32} {l3 : Int32}  (b1 : ¬ (((σ.1 0 0) * (σ.1 0 1)) ≤ l3) → vp_in l3 16) (b2 : ¬ (((σ.1 0 0) * (σ.1 0 1)) ≤ l3) → ¬ (¬ (σ.1 1 l3.toNatClampNeg) = 0) → vp_in l1 4) (b3 : ¬ (((σ.1 0 0) * (σ.1 0 1)) ≤ l3) → ¬ (¬ (σ.1 1 l3.toNatClampNeg) = 0) → ¬ ((σ.1 25 l1.toNatClampNeg) ≤ l2) → vp_in ((40 * l1) + l2) 160) (k1 : ((σ.1 0 0) * (σ.1 0 1)) ≤ l3 → Q (some (.int (-5))) σ) (k2 : ¬ (((σ.1 0 0) * (σ.1 0 1)) ≤ l3) → ¬ (σ.1 1 l3.toNatClampNeg) = 0 → sy_E shM mX12_firstUntold (4, [some (.ref 0), some (.int l1), some (.int l2), some (.int (l3 + 1))], [], (σ.1, sy_upL σ.2 27 l3.toNatClampNeg 0)) Q) (k3 : ¬ (((σ.1 0 0) * (σ.1 0 1)) ≤ l3) → ¬ (¬ (σ.1 1 l3.toNatClampNeg) = 0) → (σ.1 25 l1.toNatClampNeg) ≤ l2 → Q (some (.int l2)) (σ.1, sy_upL σ.2 27 l3.toNatClampNeg 0)) (k4 : ¬ (((σ.1 0 0) * (σ.1 0 1)) ≤ l3) → ¬ (¬ (σ.1 1 l3.toNatClampNeg) = 0) → ¬ ((σ.1 25 l1.toNatClampNeg) ≤ l2) → (0 ≤ ((σ.1 26 (((40 * l1) + l2).toNatClampNeg)).toInt64) ∧ ((σ.1 26 (((40 * l1) + l2).toNatClampNeg)).toInt64) ≤ 1000000) → sy_E shM mX12_firstUntold (4, [some (.ref 0), some (.int l1), some (.int (l2 + 1)), some (.int (l3 + 1))], [], (σ.1, sy_upL (sy_upL σ.2 27 l3.toNatClampNeg 0) 27 l3.toNatClampNeg ((σ.1 26 (((40 * l1) + l2).toNatClampNeg)).toInt64))) Q) (k5 : ¬ (((σ.1 0 0) * (σ.1 0 1)) ≤ l3) → ¬ (¬ (σ.1 1 l3.toNatClampNeg) = 0) → ¬ ((σ.1 25 l1.toNatClampNeg) ≤ l2) → (¬ (0 ≤ ((σ.1 26 (((40 * l1) + l2).toNatClampNeg)).toInt64) ∧ ((σ.1 26 (((40 * l1) + l2).toNatClampNeg)).toInt64) ≤ 1000000)) → Q (some (.int l2)) (σ.1, sy_upL σ.2 27 l3.toNatClampNeg 0)) : sy_E shM mX12_firstUntold (4, [some (.ref 0), some (.int l1), some (.int l2), some (.int l3)], [], σ) Q := by
  refine sy_bk [(.iload_n 3, 0, 0, 0, 0), (.aload_n 0, 0, 0, 0, 0)] (6, [some (.ref 0), some (.int l1), some (.int l2), some (.int l3)], [.ref 0, .int l3], σ) [] (by decide +kernel) rfl trivial ?_
  refine sy_callV mX12_cells 0 [] [.int l3] kX12_cells jX12_105 (by decide +kernel) rfl rfl (Nat.le_of_ble_eq_true rfl) (Nat.le_of_ble_eq_true rfl) (by decide) rfl ?_
  refine w_m_cells (σ := σ) ?_
  show sy_E shM mX12_firstUntold (9, [some (.ref 0), some (.int l1), some (.int l2), some (.int l3)], [.int ((σ.1 0 0) * (σ.1 0 1)), .int l3], σ) _
  by_cases c1 : ((σ.1 0 0) * (σ.1 0 1)) ≤ l3
  · refine sy_bk [(.if_icmp .ge 80, 1, 89, 0, 0)] (89, [some (.ref 0), some (.int l1), some (.int l2), some (.int l3)], [], σ) [sy_cc .ge l3 ((σ.1 0 0) * (σ.1 0 1))] (by decide +kernel) rfl ⟨c1, trivial⟩ ?_
    refine sy_bk [(.bipush (-5), 0, 0, (-5), 0)] (91, [some (.ref 0), some (.int l1), some (.int l2), some (.int l3)], [.int (-5)], σ) [] (by decide +kernel) rfl trivial ?_
    exact sy_reti rfl (by decide +kernel) (k1 c1)
  · refine sy_bk [(.if_icmp .ge 80, 0, 89, 0, 0)] (12, [some (.ref 0), some (.int l1), some (.int l2), some (.int l3)], [], σ) [¬ sy_cc .ge l3 ((σ.1 0 0) * (σ.1 0 1))] (by decide +kernel) rfl ⟨c1, trivial⟩ ?_
    refine sy_bk [(.aload_n 0, 0, 0, 0, 0), (.getfield 99, 12, 39, 0, 0), (.iload_n 3, 0, 0, 0, 0), (.lconst 0, 0, 0, 0, 0), (.lastore, 0, 0, 0, 0), (.aload_n 0, 0, 0, 0, 0), (.getfield 18, 12, 2, 0, 0), (.iload_n 3, 0, 0, 0, 0), (.baload, 0, 0, 0, 0)] (25, [some (.ref 0), some (.int l1), some (.int l2), some (.int l3)], [.int (σ.1 1 l3.toNatClampNeg)], (σ.1, sy_upL σ.2 27 l3.toNatClampNeg 0)) [sy_okA shM 2 27 l3, sy_okA shM 1 1 l3] (by decide +kernel) rfl ⟨⟨16, _, rfl, (b1 c1)⟩, ⟨16, _, rfl, (b1 c1)⟩, trivial⟩ ?_
    by_cases c2 : ¬ (σ.1 1 l3.toNatClampNeg) = 0
    · refine sy_bk [(.ifCond .ne 58, 1, 83, 0, 0)] (83, [some (.ref 0), some (.int l1), some (.int l2), some (.int l3)], [], (σ.1, sy_upL σ.2 27 l3.toNatClampNeg 0)) [sy_cc .ne (σ.1 1 l3.toNatClampNeg) 0] (by decide +kernel) rfl ⟨c2, trivial⟩ ?_
      refine sy_bk [(.iinc 3 1, 0, 0, 1, 0), (.goto (-82), 0, 4, 0, 0)] (4, [some (.ref 0), some (.int l1), some (.int l2), some (.int (l3 + 1))], [], (σ.1, sy_upL σ.2 27 l3.toNatClampNeg 0)) [] (by decide +kernel) rfl trivial ?_
      exact k2 c1 c2
    · refine sy_bk [(.ifCond .ne 58, 0, 83, 0, 0)] (28, [some (.ref 0), some (.int l1), some (.int l2), some (.int l3)], [], (σ.1, sy_upL σ.2 27 l3.toNatClampNeg 0)) [¬ sy_cc .ne (σ.1 1 l3.toNatClampNeg) 0] (by decide +kernel) rfl ⟨c2, trivial⟩ ?_
      refine sy_bk [(.iload_n 2, 0, 0, 0, 0), (.aload_n 0, 0, 0, 0, 0), (.getfield 93, 12, 37, 0, 0), (.iload_n 1, 0, 0, 0, 0), (.iaload, 0, 0, 0, 0)] (35, [some (.ref 0), some (.int l1), some (.int l2), some (.int l3)], [.int (σ.1 25 l1.toNatClampNeg), .int l2], (σ.1, sy_upL σ.2 27 l3.toNatClampNeg 0)) [sy_okA shM 0 25 l1] (by decide +kernel) rfl ⟨⟨4, _, rfl, (b2 c1 c2)⟩, trivial⟩ ?_
      by_cases c3 : (σ.1 25 l1.toNatClampNeg) ≤ l2
      · refine sy_bk [(.if_icmp .ge 25, 1, 60, 0, 0)] (60, [some (.ref 0), some (.int l1), some (.int l2), some (.int l3)], [], (σ.1, sy_upL σ.2 27 l3.toNatClampNeg 0)) [sy_cc .ge l2 (σ.1 25 l1.toNatClampNeg)] (by decide +kernel) rfl ⟨c3, trivial⟩ ?_
        refine sy_bk [(.iload_n 2, 0, 0, 0, 0)] (61, [some (.ref 0), some (.int l1), some (.int l2), some (.int l3)], [.int l2], (σ.1, sy_upL σ.2 27 l3.toNatClampNeg 0)) [] (by decide +kernel) rfl trivial ?_
        exact sy_reti rfl (by decide +kernel) (k3 c1 c2 c3)
      · refine sy_bk [(.if_icmp .ge 25, 0, 60, 0, 0)] (38, [some (.ref 0), some (.int l1), some (.int l2), some (.int l3)], [], (σ.1, sy_upL σ.2 27 l3.toNatClampNeg 0)) [¬ sy_cc .ge l2 (σ.1 25 l1.toNatClampNeg)] (by decide +kernel) rfl ⟨c3, trivial⟩ ?_
        refine sy_bk [(.aload_n 0, 0, 0, 0, 0), (.getfield 96, 12, 38, 0, 0), (.bipush 40, 0, 0, 40, 0), (.iload_n 1, 0, 0, 0, 0), (.imul, 0, 0, 0, 0), (.iload_n 2, 0, 0, 0, 0), (.iadd, 0, 0, 0, 0), (.iaload, 0, 0, 0, 0), (.i2l, 0, 0, 0, 0), (.lconst 0, 0, 0, 0, 0), (.ldc2_w 329, 0, 0, 0, 1000000)] (54, [some (.ref 0), some (.int l1), some (.int l2), some (.int l3)], [.long 1000000, .long 0, .long ((σ.1 26 (((40 * l1) + l2).toNatClampNeg)).toInt64)], (σ.1, sy_upL σ.2 27 l3.toNatClampNeg 0)) [sy_okA shM 0 26 ((40 * l1) + l2)] (by decide +kernel) rfl ⟨⟨160, _, rfl, (b3 c1 c2 c3)⟩, trivial⟩ ?_
        refine sy_callS mX12_in [.long ((σ.1 26 (((40 * l1) + l2).toNatClampNeg)).toInt64), .long 0, .long 1000000] [] kX12_in jX12_109 (by decide +kernel) rfl rfl (Nat.le_of_ble_eq_true rfl) (Nat.le_of_ble_eq_true rfl) (by decide) ?_
        refine e_m_in (σ := (σ.1, sy_upL σ.2 27 l3.toNatClampNeg 0)) (v := ((σ.1 26 (((40 * l1) + l2).toNatClampNeg)).toInt64)) (lo := 0) (hi := 1000000) ?_ ?_
        · intro c4
          show sy_E shM mX12_firstUntold (57, [some (.ref 0), some (.int l1), some (.int l2), some (.int l3)], [.int 1], (σ.1, sy_upL σ.2 27 l3.toNatClampNeg 0)) _
          refine sy_bk [(.ifCond .ne 5, 1, 62, 0, 0), (.aload_n 0, 0, 0, 0, 0), (.getfield 99, 12, 39, 0, 0), (.iload_n 3, 0, 0, 0, 0), (.aload_n 0, 0, 0, 0, 0), (.getfield 96, 12, 38, 0, 0), (.bipush 40, 0, 0, 40, 0), (.iload_n 1, 0, 0, 0, 0), (.imul, 0, 0, 0, 0), (.iload_n 2, 0, 0, 0, 0), (.iadd, 0, 0, 0, 0), (.iaload, 0, 0, 0, 0), (.i2l, 0, 0, 0, 0), (.lastore, 0, 0, 0, 0), (.iinc 2 1, 0, 0, 1, 0), (.iinc 3 1, 0, 0, 1, 0), (.goto (-82), 0, 4, 0, 0)] (4, [some (.ref 0), some (.int l1), some (.int (l2 + 1)), some (.int (l3 + 1))], [], (σ.1, sy_upL (sy_upL σ.2 27 l3.toNatClampNeg 0) 27 l3.toNatClampNeg ((σ.1 26 (((40 * l1) + l2).toNatClampNeg)).toInt64))) [sy_cc .ne 1 0, sy_okA shM 0 26 ((40 * l1) + l2), sy_okA shM 2 27 l3] (by decide +kernel) rfl ⟨(by decide : (¬ (1 : Int32) = 0)), ⟨160, _, rfl, (b3 c1 c2 c3)⟩, ⟨16, _, rfl, (b1 c1)⟩, trivial⟩ ?_
          exact k4 c1 c2 c3 c4
        · intro c5
          show sy_E shM mX12_firstUntold (57, [some (.ref 0), some (.int l1), some (.int l2), some (.int l3)], [.int 0], (σ.1, sy_upL σ.2 27 l3.toNatClampNeg 0)) _
          refine sy_bk [(.ifCond .ne 5, 0, 62, 0, 0), (.iload_n 2, 0, 0, 0, 0)] (61, [some (.ref 0), some (.int l1), some (.int l2), some (.int l3)], [.int l2], (σ.1, sy_upL σ.2 27 l3.toNatClampNeg 0)) [¬ sy_cc .ne 0 0] (by decide +kernel) rfl ⟨(by decide : ¬ (¬ (0 : Int32) = 0)), trivial⟩ ?_
          exact sy_reti rfl (by decide +kernel) (k5 c1 c2 c3 c5)

set_option maxRecDepth 20000 in
theorem w_M_then_0 {Q : Option Value → sy_S → Prop} {σ : sy_S} {c : Int32}  (b1 : vp_in c 16) (k1 : sy_E shM mX12_then (22, [some (.ref 0), some (.int c), some (.long (((σ.1 2 c.toNatClampNeg).toInt64) - (4 * (σ.2 27 c.toNatClampNeg)))), none, some (.int 0)], [], σ) Q) : sy_E shM mX12_then (0, sy_ent [.ref 0, .int c] 5, [], σ) Q := by
  show sy_E shM mX12_then (0, [some (.ref 0), some (.int c), none, none, none], [], σ) _
  refine sy_bk [(.aload_n 0, 0, 0, 0, 0), (.getfield 22, 12, 3, 0, 0), (.iload_n 1, 0, 0, 0, 0), (.iaload, 0, 0, 0, 0), (.i2l, 0, 0, 0, 0), (.ldc2_w 147, 0, 0, 0, 4), (.aload_n 0, 0, 0, 0, 0), (.getfield 99, 12, 39, 0, 0), (.iload_n 1, 0, 0, 0, 0), (.laload, 0, 0, 0, 0), (.lmul, 0, 0, 0, 0), (.lsub, 0, 0, 0, 0), (.lstore_n 2, 0, 0, 0, 0), (.iconst 0, 0, 0, 0, 0), (.istore 4, 0, 0, 0, 0)] (22, [some (.ref 0), some (.int c), some (.long (((σ.1 2 c.toNatClampNeg).toInt64) - (4 * (σ.2 27 c.toNatClampNeg)))), none, some (.int 0)], [], σ) [sy_okA shM 0 2 c, sy_okA shM 2 27 c] (by decide +kernel) rfl ⟨⟨16, _, rfl, b1⟩, ⟨16, _, rfl, b1⟩, trivial⟩ ?_
  exact k1

set_option maxRecDepth 20000 in
theorem w_M_then_22 {Q : Option Value → sy_S → Prop} {σ : sy_S} {l1 : Int32} {l2 : Int64} {l4 : Int32}  (b1 : vp_in l1 16) (b2 : ¬ ((σ.1 4 l1.toNatClampNeg) ≤ l4) → vp_in ((4 * l1) + l4) 64) (b3 : ¬ ((σ.1 4 l1.toNatClampNeg) ≤ l4) → vp_in (σ.1 3 (((4 * l1) + l4).toNatClampNeg)) 16) (k1 : (σ.1 4 l1.toNatClampNeg) ≤ l4 → Q (some (.long l2)) σ) (k2 : ¬ ((σ.1 4 l1.toNatClampNeg) ≤ l4) → sy_E shM mX12_then (22, [some (.ref 0), some (.int l1), some (.long (l2 + (σ.2 27 ((σ.1 3 (((4 * l1) + l4).toNatClampNeg)).toNatClampNeg)))), none, some (.int (l4 + 1))], [], σ) Q) : sy_E shM mX12_then (22, [some (.ref 0), some (.int l1), some (.long l2), none, some (.int l4)], [], σ) Q := by
  refine sy_bk [(.iload 4, 0, 0, 0, 0), (.aload_n 0, 0, 0, 0, 0), (.getfield 29, 12, 5, 0, 0), (.iload_n 1, 0, 0, 0, 0), (.iaload, 0, 0, 0, 0)] (30, [some (.ref 0), some (.int l1), some (.long l2), none, some (.int l4)], [.int (σ.1 4 l1.toNatClampNeg), .int l4], σ) [sy_okA shM 0 4 l1] (by decide +kernel) rfl ⟨⟨16, _, rfl, b1⟩, trivial⟩ ?_
  by_cases c1 : (σ.1 4 l1.toNatClampNeg) ≤ l4
  · refine sy_bk [(.if_icmp .ge 28, 1, 58, 0, 0)] (58, [some (.ref 0), some (.int l1), some (.long l2), none, some (.int l4)], [], σ) [sy_cc .ge l4 (σ.1 4 l1.toNatClampNeg)] (by decide +kernel) rfl ⟨c1, trivial⟩ ?_
    refine sy_bk [(.lload_n 2, 0, 0, 0, 0)] (59, [some (.ref 0), some (.int l1), some (.long l2), none, some (.int l4)], [.long l2], σ) [] (by decide +kernel) rfl trivial ?_
    exact sy_retl rfl (by decide +kernel) (k1 c1)
  · refine sy_bk [(.if_icmp .ge 28, 0, 58, 0, 0)] (33, [some (.ref 0), some (.int l1), some (.long l2), none, some (.int l4)], [], σ) [¬ sy_cc .ge l4 (σ.1 4 l1.toNatClampNeg)] (by decide +kernel) rfl ⟨c1, trivial⟩ ?_
    refine sy_bk [(.lload_n 2, 0, 0, 0, 0), (.aload_n 0, 0, 0, 0, 0), (.getfield 99, 12, 39, 0, 0), (.aload_n 0, 0, 0, 0, 0), (.getfield 26, 12, 4, 0, 0), (.iconst 4, 0, 0, 4, 0), (.iload_n 1, 0, 0, 0, 0), (.imul, 0, 0, 0, 0), (.iload 4, 0, 0, 0, 0), (.iadd, 0, 0, 0, 0), (.iaload, 0, 0, 0, 0), (.laload, 0, 0, 0, 0), (.ladd, 0, 0, 0, 0), (.lstore_n 2, 0, 0, 0, 0), (.iinc 4 1, 0, 0, 1, 0), (.goto (-33), 0, 22, 0, 0)] (22, [some (.ref 0), some (.int l1), some (.long (l2 + (σ.2 27 ((σ.1 3 (((4 * l1) + l4).toNatClampNeg)).toNatClampNeg)))), none, some (.int (l4 + 1))], [], σ) [sy_okA shM 0 3 ((4 * l1) + l4), sy_okA shM 2 27 (σ.1 3 (((4 * l1) + l4).toNatClampNeg))] (by decide +kernel) rfl ⟨⟨64, _, rfl, (b2 c1)⟩, ⟨16, _, rfl, (b3 c1)⟩, trivial⟩ ?_
    exact k2 c1

set_option maxRecDepth 20000 in
theorem w_M_steadies_0 {Q : Option Value → sy_S → Prop} {σ : sy_S} {q : Int32}  (b1 : ∀ (m_1 : Nat), px p4 q = some m_1 → vp_in q 4) (k1 : ∀ (m_1 : Nat), px p4 q = some m_1 → 0 ≤ (σ.1 25 q.toNatClampNeg) → sy_E shM mX12_firstUntold (0, sy_ent [.ref 0, .int q] 4, [], σ) (fun r9 σ9 => sy_E shM mX12_steadies (26, [some (.ref 0), none, none, none, none], r9.toList ++ [], σ9) Q)) (k2 : ∀ (m_1 : Nat), px p4 q = some m_1 → ¬ (0 ≤ (σ.1 25 q.toNatClampNeg)) → Q (some (.int (-11))) σ) (k3 : px p4 q = none → Q (some (.int (-1))) σ) : sy_E shM mX12_steadies (0, sy_ent [.ref 0, .int q] 5, [], σ) Q := by
  show sy_E shM mX12_steadies (0, [some (.ref 0), some (.int q), none, none, none], [], σ) _
  refine sy_bk [(.iload_n 1, 0, 0, 0, 0)] (1, [some (.ref 0), some (.int q), none, none, none], [.int q], σ) [] (by decide +kernel) rfl trivial ?_
  refine sy_callS mX12_isList [.int q] [] kX12_isList jX12_326 (by decide +kernel) rfl rfl (Nat.le_of_ble_eq_true rfl) (Nat.le_of_ble_eq_true rfl) (by decide) ?_
  refine e_m_isList (σ := σ) (i := q) ?_ ?_
  · intro m_1 c2
    show sy_E shM mX12_steadies (4, [some (.ref 0), some (.int q), none, none, none], [.int 1], σ) _
    refine sy_bk [(.ifCond .ne 5, 1, 9, 0, 0), (.aload_n 0, 0, 0, 0, 0), (.getfield 93, 12, 37, 0, 0), (.iload_n 1, 0, 0, 0, 0), (.iaload, 0, 0, 0, 0)] (15, [some (.ref 0), some (.int q), none, none, none], [.int (σ.1 25 q.toNatClampNeg)], σ) [sy_cc .ne 1 0, sy_okA shM 0 25 q] (by decide +kernel) rfl ⟨(by decide : (¬ (1 : Int32) = 0)), ⟨4, _, rfl, (b1 m_1 c2)⟩, trivial⟩ ?_
    by_cases c3 : 0 ≤ (σ.1 25 q.toNatClampNeg)
    · refine sy_bk [(.ifCond .ge 6, 1, 21, 0, 0)] (21, [some (.ref 0), some (.int q), none, none, none], [], σ) [sy_cc .ge (σ.1 25 q.toNatClampNeg) 0] (by decide +kernel) rfl ⟨c3, trivial⟩ ?_
      refine sy_bk [(.aload_n 0, 0, 0, 0, 0), (.iload_n 1, 0, 0, 0, 0)] (23, [some (.ref 0), some (.int q), none, none, none], [.int q, .ref 0], σ) [] (by decide +kernel) rfl trivial ?_
      refine sy_drop [some (.ref 0), none, none, none, none] ⟨rfl, trivial⟩ ?_
      refine sy_callV mX12_firstUntold 0 [.int q] [] kX12_firstUntold jX12_331 (by decide +kernel) rfl rfl (Nat.le_of_ble_eq_true rfl) (Nat.le_of_ble_eq_true rfl) (by decide) rfl ?_
      exact k1 m_1 c2 c3
    · refine sy_bk [(.ifCond .ge 6, 0, 21, 0, 0)] (18, [some (.ref 0), some (.int q), none, none, none], [], σ) [¬ sy_cc .ge (σ.1 25 q.toNatClampNeg) 0] (by decide +kernel) rfl ⟨c3, trivial⟩ ?_
      refine sy_bk [(.bipush (-11), 0, 0, (-11), 0)] (20, [some (.ref 0), some (.int q), none, none, none], [.int (-11)], σ) [] (by decide +kernel) rfl trivial ?_
      exact sy_reti rfl (by decide +kernel) (k2 m_1 c2 c3)
  · intro c4
    show sy_E shM mX12_steadies (4, [some (.ref 0), some (.int q), none, none, none], [.int 0], σ) _
    refine sy_bk [(.ifCond .ne 5, 0, 9, 0, 0), (.iconst (-1), 0, 0, (-1), 0)] (8, [some (.ref 0), some (.int q), none, none, none], [.int (-1)], σ) [¬ sy_cc .ne 0 0] (by decide +kernel) rfl ⟨(by decide : ¬ (¬ (0 : Int32) = 0)), trivial⟩ ?_
    exact sy_reti rfl (by decide +kernel) (k3 c4)

set_option maxRecDepth 20000 in
theorem w_M_steadies_26 {Q : Option Value → sy_S → Prop} {σ : sy_S} {v : Int32}   (k1 : v < 0 → sy_E shM mX12_steadies (38, [some (.ref 0), none, none, some (.int 0), some (.int 0)], [], σ) Q) (k2 : ¬ (v < 0) → Q (some (.int v)) σ) : sy_E shM mX12_steadies (26, [some (.ref 0), none, none, none, none], [.int v], σ) Q := by
  refine sy_bk [(.istore_n 2, 0, 0, 0, 0), (.iload_n 2, 0, 0, 0, 0)] (28, [some (.ref 0), none, some (.int v), none, none], [.int v], σ) [] (by decide +kernel) rfl trivial ?_
  by_cases c1 : v < 0
  · refine sy_bk [(.ifCond .lt 5, 1, 33, 0, 0)] (33, [some (.ref 0), none, some (.int v), none, none], [], σ) [sy_cc .lt v 0] (by decide +kernel) rfl ⟨c1, trivial⟩ ?_
    refine sy_bk [(.iconst 0, 0, 0, 0, 0), (.istore_n 3, 0, 0, 0, 0), (.iconst 0, 0, 0, 0, 0), (.istore 4, 0, 0, 0, 0)] (38, [some (.ref 0), none, some (.int v), some (.int 0), some (.int 0)], [], σ) [] (by decide +kernel) rfl trivial ?_
    refine sy_drop [some (.ref 0), none, none, some (.int 0), some (.int 0)] ⟨rfl, rfl, rfl, trivial⟩ ?_
    exact k1 c1
  · refine sy_bk [(.ifCond .lt 5, 0, 33, 0, 0)] (31, [some (.ref 0), none, some (.int v), none, none], [], σ) [¬ sy_cc .lt v 0] (by decide +kernel) rfl ⟨c1, trivial⟩ ?_
    refine sy_bk [(.iload_n 2, 0, 0, 0, 0)] (32, [some (.ref 0), none, some (.int v), none, none], [.int v], σ) [] (by decide +kernel) rfl trivial ?_
    exact sy_reti rfl (by decide +kernel) (k2 c1)

set_option maxRecDepth 20000 in
theorem w_M_steadies_38 {Q : Option Value → sy_S → Prop} {σ : sy_S} {l3 : Int32} {l4 : Int32}  (b1 : ¬ (((σ.1 0 0) * (σ.1 0 1)) ≤ l4) → vp_in l4 16) (k1 : ((σ.1 0 0) * (σ.1 0 1)) ≤ l4 → Q (some (.int (-5))) σ) (k2 : ¬ (((σ.1 0 0) * (σ.1 0 1)) ≤ l4) → ¬ (σ.1 1 l4.toNatClampNeg) = 0 → sy_E shM mX12_steadies (38, [some (.ref 0), none, none, some (.int l3), some (.int (l4 + 1))], [], σ) Q) (k3 : ¬ (((σ.1 0 0) * (σ.1 0 1)) ≤ l4) → ¬ (¬ (σ.1 1 l4.toNatClampNeg) = 0) → sy_E shM mX12_then (0, sy_ent [.ref 0, .int l4] 5, [], σ) (fun r9 σ9 => sy_E shM mX12_steadies (63, [some (.ref 0), none, none, some (.int l3), some (.int l4)], r9.toList ++ [], σ9) Q)) : sy_E shM mX12_steadies (38, [some (.ref 0), none, none, some (.int l3), some (.int l4)], [], σ) Q := by
  refine sy_bk [(.iload 4, 0, 0, 0, 0), (.aload_n 0, 0, 0, 0, 0)] (41, [some (.ref 0), none, none, some (.int l3), some (.int l4)], [.ref 0, .int l4], σ) [] (by decide +kernel) rfl trivial ?_
  refine sy_callV mX12_cells 0 [] [.int l4] kX12_cells jX12_105 (by decide +kernel) rfl rfl (Nat.le_of_ble_eq_true rfl) (Nat.le_of_ble_eq_true rfl) (by decide) rfl ?_
  refine w_m_cells (σ := σ) ?_
  show sy_E shM mX12_steadies (44, [some (.ref 0), none, none, some (.int l3), some (.int l4)], [.int ((σ.1 0 0) * (σ.1 0 1)), .int l4], σ) _
  by_cases c1 : ((σ.1 0 0) * (σ.1 0 1)) ≤ l4
  · refine sy_bk [(.if_icmp .ge 37, 1, 81, 0, 0)] (81, [some (.ref 0), none, none, some (.int l3), some (.int l4)], [], σ) [sy_cc .ge l4 ((σ.1 0 0) * (σ.1 0 1))] (by decide +kernel) rfl ⟨c1, trivial⟩ ?_
    refine sy_bk [(.bipush (-5), 0, 0, (-5), 0)] (83, [some (.ref 0), none, none, some (.int l3), some (.int l4)], [.int (-5)], σ) [] (by decide +kernel) rfl trivial ?_
    exact sy_reti rfl (by decide +kernel) (k1 c1)
  · refine sy_bk [(.if_icmp .ge 37, 0, 81, 0, 0)] (47, [some (.ref 0), none, none, some (.int l3), some (.int l4)], [], σ) [¬ sy_cc .ge l4 ((σ.1 0 0) * (σ.1 0 1))] (by decide +kernel) rfl ⟨c1, trivial⟩ ?_
    refine sy_bk [(.aload_n 0, 0, 0, 0, 0), (.getfield 18, 12, 2, 0, 0), (.iload 4, 0, 0, 0, 0), (.baload, 0, 0, 0, 0)] (54, [some (.ref 0), none, none, some (.int l3), some (.int l4)], [.int (σ.1 1 l4.toNatClampNeg)], σ) [sy_okA shM 1 1 l4] (by decide +kernel) rfl ⟨⟨16, _, rfl, (b1 c1)⟩, trivial⟩ ?_
    by_cases c2 : ¬ (σ.1 1 l4.toNatClampNeg) = 0
    · refine sy_bk [(.ifCond .ne 21, 1, 75, 0, 0)] (75, [some (.ref 0), none, none, some (.int l3), some (.int l4)], [], σ) [sy_cc .ne (σ.1 1 l4.toNatClampNeg) 0] (by decide +kernel) rfl ⟨c2, trivial⟩ ?_
      refine sy_bk [(.iinc 4 1, 0, 0, 1, 0), (.goto (-40), 0, 38, 0, 0)] (38, [some (.ref 0), none, none, some (.int l3), some (.int (l4 + 1))], [], σ) [] (by decide +kernel) rfl trivial ?_
      exact k2 c1 c2
    · refine sy_bk [(.ifCond .ne 21, 0, 75, 0, 0)] (57, [some (.ref 0), none, none, some (.int l3), some (.int l4)], [], σ) [¬ sy_cc .ne (σ.1 1 l4.toNatClampNeg) 0] (by decide +kernel) rfl ⟨c2, trivial⟩ ?_
      refine sy_bk [(.aload_n 0, 0, 0, 0, 0), (.iload 4, 0, 0, 0, 0)] (60, [some (.ref 0), none, none, some (.int l3), some (.int l4)], [.int l4, .ref 0], σ) [] (by decide +kernel) rfl trivial ?_
      refine sy_callV mX12_then 0 [.int l4] [] kX12_then jX12_334 (by decide +kernel) rfl rfl (Nat.le_of_ble_eq_true rfl) (Nat.le_of_ble_eq_true rfl) (by decide) rfl ?_
      exact k3 c1 c2

set_option maxRecDepth 20000 in
theorem w_M_steadies_63 {Q : Option Value → sy_S → Prop} {σ : sy_S} {l3 : Int32} {l4 : Int32} {v : Int64}   (k1 : v ≤ 3 → sy_E shM mX12_steadies (38, [some (.ref 0), none, none, some (.int (l3 + 1)), some (.int (l4 + 1))], [], σ) Q) (k2 : ¬ (v ≤ 3) → Q (some (.int l3)) σ) : sy_E shM mX12_steadies (63, [some (.ref 0), none, none, some (.int l3), some (.int l4)], [.long v], σ) Q := by
  refine sy_bk [(.ldc2_w 236, 0, 0, 0, 3), (.lcmp, 0, 0, 0, 0)] (67, [some (.ref 0), none, none, some (.int l3), some (.int l4)], [.int (lg_cmp v 3)], σ) [] (by decide +kernel) rfl trivial ?_
  by_cases c1 : v ≤ 3
  · refine sy_bk [(.ifCond .le 5, 1, 72, 0, 0)] (72, [some (.ref 0), none, none, some (.int l3), some (.int l4)], [], σ) [sy_cc .le (lg_cmp v 3) 0] (by decide +kernel) rfl ⟨(sy_lc_le.mpr c1), trivial⟩ ?_
    refine sy_bk [(.iinc 3 1, 0, 0, 1, 0), (.iinc 4 1, 0, 0, 1, 0), (.goto (-40), 0, 38, 0, 0)] (38, [some (.ref 0), none, none, some (.int (l3 + 1)), some (.int (l4 + 1))], [], σ) [] (by decide +kernel) rfl trivial ?_
    exact k1 c1
  · refine sy_bk [(.ifCond .le 5, 0, 72, 0, 0)] (70, [some (.ref 0), none, none, some (.int l3), some (.int l4)], [], σ) [¬ sy_cc .le (lg_cmp v 3) 0] (by decide +kernel) rfl ⟨(fun q => c1 (sy_lc_le.mp q)), trivial⟩ ?_
    refine sy_bk [(.iload_n 3, 0, 0, 0, 0)] (71, [some (.ref 0), none, none, some (.int l3), some (.int l4)], [.int l3], σ) [] (by decide +kernel) rfl trivial ?_
    exact sy_reti rfl (by decide +kernel) (k2 c1)

set_option maxRecDepth 20000 in
theorem w_M_film_0 {Q : Option Value → sy_S → Prop} {σ : sy_S} {q : Int32}   (k1 : ∀ (m_1 : Nat), px p4 q = some m_1 → sy_E shM mX12_copies (0, sy_ent [.ref 2, .ref 12] 3, [], σ) (fun r9 σ9 => sy_E shM mX12_film (20, [some (.ref 0), some (.int q), none, none, none], r9.toList ++ [], σ9) Q)) (k2 : px p4 q = none → Q (some (.int (-1))) σ) : sy_E shM mX12_film (0, sy_ent [.ref 0, .int q] 5, [], σ) Q := by
  show sy_E shM mX12_film (0, [some (.ref 0), some (.int q), none, none, none], [], σ) _
  refine sy_bk [(.iload_n 1, 0, 0, 0, 0)] (1, [some (.ref 0), some (.int q), none, none, none], [.int q], σ) [] (by decide +kernel) rfl trivial ?_
  refine sy_callS mX12_isList [.int q] [] kX12_isList jX12_326 (by decide +kernel) rfl rfl (Nat.le_of_ble_eq_true rfl) (Nat.le_of_ble_eq_true rfl) (by decide) ?_
  refine e_m_isList (σ := σ) (i := q) ?_ ?_
  · intro m_1 c2
    show sy_E shM mX12_film (4, [some (.ref 0), some (.int q), none, none, none], [.int 1], σ) _
    refine sy_bk [(.ifCond .ne 5, 1, 9, 0, 0), (.aload_n 0, 0, 0, 0, 0), (.getfield 22, 12, 3, 0, 0), (.aload_n 0, 0, 0, 0, 0), (.getfield 53, 12, 22, 0, 0)] (17, [some (.ref 0), some (.int q), none, none, none], [.ref 12, .ref 2], σ) [sy_cc .ne 1 0] (by decide +kernel) rfl ⟨(by decide : (¬ (1 : Int32) = 0)), trivial⟩ ?_
    refine sy_callS mX12_copies [.ref 2, .ref 12] [] kX12_copies jX12_209 (by decide +kernel) rfl rfl (Nat.le_of_ble_eq_true rfl) (Nat.le_of_ble_eq_true rfl) (by decide) ?_
    exact k1 m_1 c2
  · intro c3
    show sy_E shM mX12_film (4, [some (.ref 0), some (.int q), none, none, none], [.int 0], σ) _
    refine sy_bk [(.ifCond .ne 5, 0, 9, 0, 0), (.iconst (-1), 0, 0, (-1), 0)] (8, [some (.ref 0), some (.int q), none, none, none], [.int (-1)], σ) [¬ sy_cc .ne 0 0] (by decide +kernel) rfl ⟨(by decide : ¬ (¬ (0 : Int32) = 0)), trivial⟩ ?_
    exact sy_reti rfl (by decide +kernel) (k2 c3)

set_option maxRecDepth 20000 in
theorem w_M_film_20 {Q : Option Value → sy_S → Prop} {σ : sy_S} {l1 : Int32}   (k1 : sy_E shM mX12_settles (0, sy_ent [.ref 0, .ref 12] 3, [], σ) (fun r9 σ9 => sy_E shM mX12_film (28, [some (.ref 0), some (.int l1), none, none, none], r9.toList ++ [], σ9) Q)) : sy_E shM mX12_film (20, [some (.ref 0), some (.int l1), none, none, none], [], σ) Q := by
  refine sy_bk [(.aload_n 0, 0, 0, 0, 0), (.aload_n 0, 0, 0, 0, 0), (.getfield 53, 12, 22, 0, 0)] (25, [some (.ref 0), some (.int l1), none, none, none], [.ref 12, .ref 0], σ) [] (by decide +kernel) rfl trivial ?_
  refine sy_callV mX12_settles 0 [.ref 12] [] kX12_settles jX12_163 (by decide +kernel) rfl rfl (Nat.le_of_ble_eq_true rfl) (Nat.le_of_ble_eq_true rfl) (by decide) rfl ?_
  exact k1

set_option maxRecDepth 20000 in
theorem w_M_film_28 {Q : Option Value → sy_S → Prop} {σ : sy_S} {l1 : Int32} {v : Int32}   (k1 : sy_E shM mX12_film (34, [some (.ref 0), some (.int l1), none, some (.int 0), some (.int 0)], [], σ) Q) : sy_E shM mX12_film (28, [some (.ref 0), some (.int l1), none, none, none], [.int v], σ) Q := by
  refine sy_bk [(.istore_n 2, 0, 0, 0, 0), (.iconst 0, 0, 0, 0, 0), (.istore_n 3, 0, 0, 0, 0), (.iconst 0, 0, 0, 0, 0), (.istore 4, 0, 0, 0, 0)] (34, [some (.ref 0), some (.int l1), some (.int v), some (.int 0), some (.int 0)], [], σ) [] (by decide +kernel) rfl trivial ?_
  refine sy_drop [some (.ref 0), some (.int l1), none, some (.int 0), some (.int 0)] ⟨rfl, rfl, rfl, rfl, trivial⟩ ?_
  exact k1

set_option maxRecDepth 20000 in
theorem w_M_film_34 {Q : Option Value → sy_S → Prop} {σ : sy_S} {l1 : Int32} {l3 : Int32} {l4 : Int32}  (b1 : ((σ.1 0 0) * (σ.1 0 1)) ≤ l4 → vp_in l1 4) (b2 : ¬ (((σ.1 0 0) * (σ.1 0 1)) ≤ l4) → vp_in l4 16) (b3 : ¬ (((σ.1 0 0) * (σ.1 0 1)) ≤ l4) → ¬ (¬ (σ.1 1 l4.toNatClampNeg) = 0) → vp_in ((40 * l1) + l3) 160) (k1 : ((σ.1 0 0) * (σ.1 0 1)) ≤ l4 → Q (some (.int l3)) (sy_up σ.1 25 l1.toNatClampNeg l3, σ.2)) (k2 : ¬ (((σ.1 0 0) * (σ.1 0 1)) ≤ l4) → ¬ (σ.1 1 l4.toNatClampNeg) = 0 → sy_E shM mX12_film (34, [some (.ref 0), some (.int l1), none, some (.int l3), some (.int (l4 + 1))], [], σ) Q) (k3 : ¬ (((σ.1 0 0) * (σ.1 0 1)) ≤ l4) → ¬ (¬ (σ.1 1 l4.toNatClampNeg) = 0) → sy_E shM mX12_film (34, [some (.ref 0), some (.int l1), none, some (.int (l3 + 1)), some (.int (l4 + 1))], [], (sy_up σ.1 26 (((40 * l1) + l3).toNatClampNeg) (σ.1 5 l4.toNatClampNeg), σ.2)) Q) : sy_E shM mX12_film (34, [some (.ref 0), some (.int l1), none, some (.int l3), some (.int l4)], [], σ) Q := by
  refine sy_bk [(.iload 4, 0, 0, 0, 0), (.aload_n 0, 0, 0, 0, 0)] (37, [some (.ref 0), some (.int l1), none, some (.int l3), some (.int l4)], [.ref 0, .int l4], σ) [] (by decide +kernel) rfl trivial ?_
  refine sy_callV mX12_cells 0 [] [.int l4] kX12_cells jX12_105 (by decide +kernel) rfl rfl (Nat.le_of_ble_eq_true rfl) (Nat.le_of_ble_eq_true rfl) (by decide) rfl ?_
  refine w_m_cells (σ := σ) ?_
  show sy_E shM mX12_film (40, [some (.ref 0), some (.int l1), none, some (.int l3), some (.int l4)], [.int ((σ.1 0 0) * (σ.1 0 1)), .int l4], σ) _
  by_cases c1 : ((σ.1 0 0) * (σ.1 0 1)) ≤ l4
  · refine sy_bk [(.if_icmp .ge 40, 1, 80, 0, 0)] (80, [some (.ref 0), some (.int l1), none, some (.int l3), some (.int l4)], [], σ) [sy_cc .ge l4 ((σ.1 0 0) * (σ.1 0 1))] (by decide +kernel) rfl ⟨c1, trivial⟩ ?_
    refine sy_bk [(.aload_n 0, 0, 0, 0, 0), (.getfield 93, 12, 37, 0, 0), (.iload_n 1, 0, 0, 0, 0), (.iload_n 3, 0, 0, 0, 0), (.iastore, 0, 0, 0, 0), (.iload_n 3, 0, 0, 0, 0)] (88, [some (.ref 0), some (.int l1), none, some (.int l3), some (.int l4)], [.int l3], (sy_up σ.1 25 l1.toNatClampNeg l3, σ.2)) [sy_okA shM 0 25 l1] (by decide +kernel) rfl ⟨⟨4, _, rfl, (b1 c1)⟩, trivial⟩ ?_
    exact sy_reti rfl (by decide +kernel) (k1 c1)
  · refine sy_bk [(.if_icmp .ge 40, 0, 80, 0, 0)] (43, [some (.ref 0), some (.int l1), none, some (.int l3), some (.int l4)], [], σ) [¬ sy_cc .ge l4 ((σ.1 0 0) * (σ.1 0 1))] (by decide +kernel) rfl ⟨c1, trivial⟩ ?_
    refine sy_bk [(.aload_n 0, 0, 0, 0, 0), (.getfield 18, 12, 2, 0, 0), (.iload 4, 0, 0, 0, 0), (.baload, 0, 0, 0, 0)] (50, [some (.ref 0), some (.int l1), none, some (.int l3), some (.int l4)], [.int (σ.1 1 l4.toNatClampNeg)], σ) [sy_okA shM 1 1 l4] (by decide +kernel) rfl ⟨⟨16, _, rfl, (b2 c1)⟩, trivial⟩ ?_
    by_cases c2 : ¬ (σ.1 1 l4.toNatClampNeg) = 0
    · refine sy_bk [(.ifCond .ne 24, 1, 74, 0, 0)] (74, [some (.ref 0), some (.int l1), none, some (.int l3), some (.int l4)], [], σ) [sy_cc .ne (σ.1 1 l4.toNatClampNeg) 0] (by decide +kernel) rfl ⟨c2, trivial⟩ ?_
      refine sy_bk [(.iinc 4 1, 0, 0, 1, 0), (.goto (-43), 0, 34, 0, 0)] (34, [some (.ref 0), some (.int l1), none, some (.int l3), some (.int (l4 + 1))], [], σ) [] (by decide +kernel) rfl trivial ?_
      exact k2 c1 c2
    · refine sy_bk [(.ifCond .ne 24, 0, 74, 0, 0)] (53, [some (.ref 0), some (.int l1), none, some (.int l3), some (.int l4)], [], σ) [¬ sy_cc .ne (σ.1 1 l4.toNatClampNeg) 0] (by decide +kernel) rfl ⟨c2, trivial⟩ ?_
      refine sy_bk [(.aload_n 0, 0, 0, 0, 0), (.getfield 96, 12, 38, 0, 0), (.bipush 40, 0, 0, 40, 0), (.iload_n 1, 0, 0, 0, 0), (.imul, 0, 0, 0, 0), (.iload_n 3, 0, 0, 0, 0), (.iadd, 0, 0, 0, 0), (.aload_n 0, 0, 0, 0, 0), (.getfield 32, 12, 6, 0, 0), (.iload 4, 0, 0, 0, 0), (.iaload, 0, 0, 0, 0), (.iastore, 0, 0, 0, 0), (.iinc 3 1, 0, 0, 1, 0), (.iinc 4 1, 0, 0, 1, 0), (.goto (-43), 0, 34, 0, 0)] (34, [some (.ref 0), some (.int l1), none, some (.int (l3 + 1)), some (.int (l4 + 1))], [], (sy_up σ.1 26 (((40 * l1) + l3).toNatClampNeg) (σ.1 5 l4.toNatClampNeg), σ.2)) [sy_okA shM 0 5 l4, sy_okA shM 0 26 ((40 * l1) + l3)] (by decide +kernel) rfl ⟨⟨16, _, rfl, (b2 c1)⟩, ⟨160, _, rfl, (b3 c1 c2)⟩, trivial⟩ ?_
      exact k3 c1 c2

set_option maxRecDepth 20000 in
theorem w_M_list_0 {Q : Option Value → sy_S → Prop} {σ : sy_S} {q : Int32} {n : Int32}  (b1 : ∀ (m_1 : Nat), px p4 q = some m_1 → n ≤ 40 → 0 ≤ n → vp_in q 4) (k1 : ∀ (m_1 : Nat), px p4 q = some m_1 → n ≤ 40 → 0 ≤ n → sy_E shM mX12_list (34, [some (.ref 0), some (.int q), none, some (.int 0)], [], (sy_up σ.1 25 q.toNatClampNeg n, σ.2)) Q) (k2 : ∀ (m_1 : Nat), px p4 q = some m_1 → n ≤ 40 → ¬ (0 ≤ n) → Q (some (.int (-14))) σ) (k3 : ∀ (m_1 : Nat), px p4 q = some m_1 → ¬ (n ≤ 40) → Q (some (.int (-2))) σ) (k4 : px p4 q = none → Q (some (.int (-1))) σ) : sy_E shM mX12_list (0, sy_ent [.ref 0, .int q, .int n] 4, [], σ) Q := by
  show sy_E shM mX12_list (0, [some (.ref 0), some (.int q), some (.int n), none], [], σ) _
  refine sy_bk [(.iload_n 1, 0, 0, 0, 0)] (1, [some (.ref 0), some (.int q), some (.int n), none], [.int q], σ) [] (by decide +kernel) rfl trivial ?_
  refine sy_callS mX12_isList [.int q] [] kX12_isList jX12_326 (by decide +kernel) rfl rfl (Nat.le_of_ble_eq_true rfl) (Nat.le_of_ble_eq_true rfl) (by decide) ?_
  refine e_m_isList (σ := σ) (i := q) ?_ ?_
  · intro m_1 c2
    show sy_E shM mX12_list (4, [some (.ref 0), some (.int q), some (.int n), none], [.int 1], σ) _
    refine sy_bk [(.ifCond .ne 5, 1, 9, 0, 0), (.iload_n 2, 0, 0, 0, 0), (.bipush 40, 0, 0, 40, 0)] (12, [some (.ref 0), some (.int q), some (.int n), none], [.int 40, .int n], σ) [sy_cc .ne 1 0] (by decide +kernel) rfl ⟨(by decide : (¬ (1 : Int32) = 0)), trivial⟩ ?_
    by_cases c3 : n ≤ 40
    · refine sy_bk [(.if_icmp .le 6, 1, 18, 0, 0)] (18, [some (.ref 0), some (.int q), some (.int n), none], [], σ) [sy_cc .le n 40] (by decide +kernel) rfl ⟨c3, trivial⟩ ?_
      refine sy_bk [(.iload_n 2, 0, 0, 0, 0)] (19, [some (.ref 0), some (.int q), some (.int n), none], [.int n], σ) [] (by decide +kernel) rfl trivial ?_
      by_cases c4 : 0 ≤ n
      · refine sy_bk [(.ifCond .ge 6, 1, 25, 0, 0)] (25, [some (.ref 0), some (.int q), some (.int n), none], [], σ) [sy_cc .ge n 0] (by decide +kernel) rfl ⟨c4, trivial⟩ ?_
        refine sy_bk [(.aload_n 0, 0, 0, 0, 0), (.getfield 93, 12, 37, 0, 0), (.iload_n 1, 0, 0, 0, 0), (.iload_n 2, 0, 0, 0, 0), (.iastore, 0, 0, 0, 0), (.iconst 0, 0, 0, 0, 0), (.istore_n 3, 0, 0, 0, 0)] (34, [some (.ref 0), some (.int q), some (.int n), some (.int 0)], [], (sy_up σ.1 25 q.toNatClampNeg n, σ.2)) [sy_okA shM 0 25 q] (by decide +kernel) rfl ⟨⟨4, _, rfl, (b1 m_1 c2 c3 c4)⟩, trivial⟩ ?_
        refine sy_drop [some (.ref 0), some (.int q), none, some (.int 0)] ⟨rfl, rfl, rfl, trivial⟩ ?_
        exact k1 m_1 c2 c3 c4
      · refine sy_bk [(.ifCond .ge 6, 0, 25, 0, 0)] (22, [some (.ref 0), some (.int q), some (.int n), none], [], σ) [¬ sy_cc .ge n 0] (by decide +kernel) rfl ⟨c4, trivial⟩ ?_
        refine sy_bk [(.bipush (-14), 0, 0, (-14), 0)] (24, [some (.ref 0), some (.int q), some (.int n), none], [.int (-14)], σ) [] (by decide +kernel) rfl trivial ?_
        exact sy_reti rfl (by decide +kernel) (k2 m_1 c2 c3 c4)
    · refine sy_bk [(.if_icmp .le 6, 0, 18, 0, 0)] (15, [some (.ref 0), some (.int q), some (.int n), none], [], σ) [¬ sy_cc .le n 40] (by decide +kernel) rfl ⟨c3, trivial⟩ ?_
      refine sy_bk [(.bipush (-2), 0, 0, (-2), 0)] (17, [some (.ref 0), some (.int q), some (.int n), none], [.int (-2)], σ) [] (by decide +kernel) rfl trivial ?_
      exact sy_reti rfl (by decide +kernel) (k3 m_1 c2 c3)
  · intro c5
    show sy_E shM mX12_list (4, [some (.ref 0), some (.int q), some (.int n), none], [.int 0], σ) _
    refine sy_bk [(.ifCond .ne 5, 0, 9, 0, 0), (.iconst (-1), 0, 0, (-1), 0)] (8, [some (.ref 0), some (.int q), some (.int n), none], [.int (-1)], σ) [¬ sy_cc .ne 0 0] (by decide +kernel) rfl ⟨(by decide : ¬ (¬ (0 : Int32) = 0)), trivial⟩ ?_
    exact sy_reti rfl (by decide +kernel) (k4 c5)

set_option maxRecDepth 20000 in
theorem w_M_list_34 {Q : Option Value → sy_S → Prop} {σ : sy_S} {l1 : Int32} {l3 : Int32}  (b1 : ¬ (40 ≤ l3) → vp_in ((40 * l1) + l3) 160) (k1 : 40 ≤ l3 → Q (some (.int 1)) σ) (k2 : ¬ (40 ≤ l3) → sy_E shM mX12_list (34, [some (.ref 0), some (.int l1), none, some (.int (l3 + 1))], [], (sy_up σ.1 26 (((40 * l1) + l3).toNatClampNeg) 0, σ.2)) Q) : sy_E shM mX12_list (34, [some (.ref 0), some (.int l1), none, some (.int l3)], [], σ) Q := by
  refine sy_bk [(.iload_n 3, 0, 0, 0, 0), (.bipush 40, 0, 0, 40, 0)] (37, [some (.ref 0), some (.int l1), none, some (.int l3)], [.int 40, .int l3], σ) [] (by decide +kernel) rfl trivial ?_
  by_cases c1 : 40 ≤ l3
  · refine sy_bk [(.if_icmp .ge 21, 1, 58, 0, 0)] (58, [some (.ref 0), some (.int l1), none, some (.int l3)], [], σ) [sy_cc .ge l3 40] (by decide +kernel) rfl ⟨c1, trivial⟩ ?_
    refine sy_bk [(.iconst 1, 0, 0, 1, 0)] (59, [some (.ref 0), some (.int l1), none, some (.int l3)], [.int 1], σ) [] (by decide +kernel) rfl trivial ?_
    exact sy_reti rfl (by decide +kernel) (k1 c1)
  · refine sy_bk [(.if_icmp .ge 21, 0, 58, 0, 0)] (40, [some (.ref 0), some (.int l1), none, some (.int l3)], [], σ) [¬ sy_cc .ge l3 40] (by decide +kernel) rfl ⟨c1, trivial⟩ ?_
    refine sy_bk [(.aload_n 0, 0, 0, 0, 0), (.getfield 96, 12, 38, 0, 0), (.bipush 40, 0, 0, 40, 0), (.iload_n 1, 0, 0, 0, 0), (.imul, 0, 0, 0, 0), (.iload_n 3, 0, 0, 0, 0), (.iadd, 0, 0, 0, 0), (.iconst 0, 0, 0, 0, 0), (.iastore, 0, 0, 0, 0), (.iinc 3 1, 0, 0, 1, 0), (.goto (-21), 0, 34, 0, 0)] (34, [some (.ref 0), some (.int l1), none, some (.int (l3 + 1))], [], (sy_up σ.1 26 (((40 * l1) + l3).toNatClampNeg) 0, σ.2)) [sy_okA shM 0 26 ((40 * l1) + l3)] (by decide +kernel) rfl ⟨⟨160, _, rfl, (b1 c1)⟩, trivial⟩ ?_
    exact k2 c1

set_option maxRecDepth 20000 in
theorem w_M_put_0 {Q : Option Value → sy_S → Prop} {σ : sy_S} {q : Int32} {i : Int32} {v : Int32}  (b1 : ∀ (m_1 : Nat), px p4 q = some m_1 → vp_in q 4) (b2 : ∀ (m_1 : Nat), px p4 q = some m_1 → 0 ≤ (σ.1 25 q.toNatClampNeg) → (0 ≤ i.toInt64 ∧ i.toInt64 ≤ (((σ.1 25 q.toNatClampNeg) - 1).toInt64)) → vp_in ((40 * q) + i) 160) (k1 : ∀ (m_1 : Nat), px p4 q = some m_1 → 0 ≤ (σ.1 25 q.toNatClampNeg) → (0 ≤ i.toInt64 ∧ i.toInt64 ≤ (((σ.1 25 q.toNatClampNeg) - 1).toInt64)) → Q (some (.int 1)) (sy_up σ.1 26 (((40 * q) + i).toNatClampNeg) v, σ.2)) (k2 : ∀ (m_1 : Nat), px p4 q = some m_1 → 0 ≤ (σ.1 25 q.toNatClampNeg) → (¬ (0 ≤ i.toInt64 ∧ i.toInt64 ≤ (((σ.1 25 q.toNatClampNeg) - 1).toInt64))) → Q (some (.int (-13))) σ) (k3 : ∀ (m_1 : Nat), px p4 q = some m_1 → ¬ (0 ≤ (σ.1 25 q.toNatClampNeg)) → Q (some (.int (-11))) σ) (k4 : px p4 q = none → Q (some (.int (-1))) σ) : sy_E shM mX12_put (0, sy_ent [.ref 0, .int q, .int i, .int v] 4, [], σ) Q := by
  show sy_E shM mX12_put (0, [some (.ref 0), some (.int q), some (.int i), some (.int v)], [], σ) _
  refine sy_bk [(.iload_n 1, 0, 0, 0, 0)] (1, [some (.ref 0), some (.int q), some (.int i), some (.int v)], [.int q], σ) [] (by decide +kernel) rfl trivial ?_
  refine sy_callS mX12_isList [.int q] [] kX12_isList jX12_326 (by decide +kernel) rfl rfl (Nat.le_of_ble_eq_true rfl) (Nat.le_of_ble_eq_true rfl) (by decide) ?_
  refine e_m_isList (σ := σ) (i := q) ?_ ?_
  · intro m_1 c2
    show sy_E shM mX12_put (4, [some (.ref 0), some (.int q), some (.int i), some (.int v)], [.int 1], σ) _
    refine sy_bk [(.ifCond .ne 5, 1, 9, 0, 0), (.aload_n 0, 0, 0, 0, 0), (.getfield 93, 12, 37, 0, 0), (.iload_n 1, 0, 0, 0, 0), (.iaload, 0, 0, 0, 0)] (15, [some (.ref 0), some (.int q), some (.int i), some (.int v)], [.int (σ.1 25 q.toNatClampNeg)], σ) [sy_cc .ne 1 0, sy_okA shM 0 25 q] (by decide +kernel) rfl ⟨(by decide : (¬ (1 : Int32) = 0)), ⟨4, _, rfl, (b1 m_1 c2)⟩, trivial⟩ ?_
    by_cases c3 : 0 ≤ (σ.1 25 q.toNatClampNeg)
    · refine sy_bk [(.ifCond .ge 6, 1, 21, 0, 0)] (21, [some (.ref 0), some (.int q), some (.int i), some (.int v)], [], σ) [sy_cc .ge (σ.1 25 q.toNatClampNeg) 0] (by decide +kernel) rfl ⟨c3, trivial⟩ ?_
      refine sy_bk [(.iload_n 2, 0, 0, 0, 0), (.i2l, 0, 0, 0, 0), (.lconst 0, 0, 0, 0, 0), (.aload_n 0, 0, 0, 0, 0), (.getfield 93, 12, 37, 0, 0), (.iload_n 1, 0, 0, 0, 0), (.iaload, 0, 0, 0, 0), (.iconst 1, 0, 0, 1, 0), (.isub, 0, 0, 0, 0), (.i2l, 0, 0, 0, 0)] (33, [some (.ref 0), some (.int q), some (.int i), some (.int v)], [.long (((σ.1 25 q.toNatClampNeg) - 1).toInt64), .long 0, .long i.toInt64], σ) [sy_okA shM 0 25 q] (by decide +kernel) rfl ⟨⟨4, _, rfl, (b1 m_1 c2)⟩, trivial⟩ ?_
      refine sy_callS mX12_in [.long i.toInt64, .long 0, .long (((σ.1 25 q.toNatClampNeg) - 1).toInt64)] [] kX12_in jX12_109 (by decide +kernel) rfl rfl (Nat.le_of_ble_eq_true rfl) (Nat.le_of_ble_eq_true rfl) (by decide) ?_
      refine e_m_in (σ := σ) (v := i.toInt64) (lo := 0) (hi := (((σ.1 25 q.toNatClampNeg) - 1).toInt64)) ?_ ?_
      · intro c4
        show sy_E shM mX12_put (36, [some (.ref 0), some (.int q), some (.int i), some (.int v)], [.int 1], σ) _
        refine sy_bk [(.ifCond .ne 6, 1, 42, 0, 0), (.aload_n 0, 0, 0, 0, 0), (.getfield 96, 12, 38, 0, 0), (.bipush 40, 0, 0, 40, 0), (.iload_n 1, 0, 0, 0, 0), (.imul, 0, 0, 0, 0), (.iload_n 2, 0, 0, 0, 0), (.iadd, 0, 0, 0, 0), (.iload_n 3, 0, 0, 0, 0), (.iastore, 0, 0, 0, 0), (.iconst 1, 0, 0, 1, 0)] (55, [some (.ref 0), some (.int q), some (.int i), some (.int v)], [.int 1], (sy_up σ.1 26 (((40 * q) + i).toNatClampNeg) v, σ.2)) [sy_cc .ne 1 0, sy_okA shM 0 26 ((40 * q) + i)] (by decide +kernel) rfl ⟨(by decide : (¬ (1 : Int32) = 0)), ⟨160, _, rfl, (b2 m_1 c2 c3 c4)⟩, trivial⟩ ?_
        exact sy_reti rfl (by decide +kernel) (k1 m_1 c2 c3 c4)
      · intro c5
        show sy_E shM mX12_put (36, [some (.ref 0), some (.int q), some (.int i), some (.int v)], [.int 0], σ) _
        refine sy_bk [(.ifCond .ne 6, 0, 42, 0, 0), (.bipush (-13), 0, 0, (-13), 0)] (41, [some (.ref 0), some (.int q), some (.int i), some (.int v)], [.int (-13)], σ) [¬ sy_cc .ne 0 0] (by decide +kernel) rfl ⟨(by decide : ¬ (¬ (0 : Int32) = 0)), trivial⟩ ?_
        exact sy_reti rfl (by decide +kernel) (k2 m_1 c2 c3 c5)
    · refine sy_bk [(.ifCond .ge 6, 0, 21, 0, 0)] (18, [some (.ref 0), some (.int q), some (.int i), some (.int v)], [], σ) [¬ sy_cc .ge (σ.1 25 q.toNatClampNeg) 0] (by decide +kernel) rfl ⟨c3, trivial⟩ ?_
      refine sy_bk [(.bipush (-11), 0, 0, (-11), 0)] (20, [some (.ref 0), some (.int q), some (.int i), some (.int v)], [.int (-11)], σ) [] (by decide +kernel) rfl trivial ?_
      exact sy_reti rfl (by decide +kernel) (k3 m_1 c2 c3)
  · intro c6
    show sy_E shM mX12_put (4, [some (.ref 0), some (.int q), some (.int i), some (.int v)], [.int 0], σ) _
    refine sy_bk [(.ifCond .ne 5, 0, 9, 0, 0), (.iconst (-1), 0, 0, (-1), 0)] (8, [some (.ref 0), some (.int q), some (.int i), some (.int v)], [.int (-1)], σ) [¬ sy_cc .ne 0 0] (by decide +kernel) rfl ⟨(by decide : ¬ (¬ (0 : Int32) = 0)), trivial⟩ ?_
    exact sy_reti rfl (by decide +kernel) (k4 c6)

set_option maxRecDepth 20000 in
theorem w_M_get_0 {Q : Option Value → sy_S → Prop} {σ : sy_S} {q : Int32} {i : Int32}  (b1 : ∀ (m_1 : Nat), px p4 q = some m_1 → vp_in q 4) (b2 : ∀ (m_1 : Nat), px p4 q = some m_1 → (0 ≤ i.toInt64 ∧ i.toInt64 ≤ (((σ.1 25 q.toNatClampNeg) - 1).toInt64)) → vp_in ((40 * q) + i) 160) (k1 : ∀ (m_1 : Nat), px p4 q = some m_1 → (0 ≤ i.toInt64 ∧ i.toInt64 ≤ (((σ.1 25 q.toNatClampNeg) - 1).toInt64)) → Q (some (.long ((σ.1 26 (((40 * q) + i).toNatClampNeg)).toInt64))) σ) (k2 : ∀ (m_1 : Nat), px p4 q = some m_1 → (¬ (0 ≤ i.toInt64 ∧ i.toInt64 ≤ (((σ.1 25 q.toNatClampNeg) - 1).toInt64))) → Q (some (.long (-9223372036854775808))) σ) (k3 : px p4 q = none → Q (some (.long (-9223372036854775808))) σ) : sy_E shM mX12_get (0, sy_ent [.ref 0, .int q, .int i] 3, [], σ) Q := by
  show sy_E shM mX12_get (0, [some (.ref 0), some (.int q), some (.int i)], [], σ) _
  refine sy_bk [(.iload_n 1, 0, 0, 0, 0)] (1, [some (.ref 0), some (.int q), some (.int i)], [.int q], σ) [] (by decide +kernel) rfl trivial ?_
  refine sy_callS mX12_isList [.int q] [] kX12_isList jX12_326 (by decide +kernel) rfl rfl (Nat.le_of_ble_eq_true rfl) (Nat.le_of_ble_eq_true rfl) (by decide) ?_
  refine e_m_isList (σ := σ) (i := q) ?_ ?_
  · intro m_1 c2
    show sy_E shM mX12_get (4, [some (.ref 0), some (.int q), some (.int i)], [.int 1], σ) _
    refine sy_bk [(.ifCond .eq 36, 0, 40, 0, 0), (.iload_n 2, 0, 0, 0, 0), (.i2l, 0, 0, 0, 0), (.lconst 0, 0, 0, 0, 0), (.aload_n 0, 0, 0, 0, 0), (.getfield 93, 12, 37, 0, 0), (.iload_n 1, 0, 0, 0, 0), (.iaload, 0, 0, 0, 0), (.iconst 1, 0, 0, 1, 0), (.isub, 0, 0, 0, 0), (.i2l, 0, 0, 0, 0)] (19, [some (.ref 0), some (.int q), some (.int i)], [.long (((σ.1 25 q.toNatClampNeg) - 1).toInt64), .long 0, .long i.toInt64], σ) [¬ sy_cc .eq 1 0, sy_okA shM 0 25 q] (by decide +kernel) rfl ⟨(by decide : ¬ ((1 : Int32) = 0)), ⟨4, _, rfl, (b1 m_1 c2)⟩, trivial⟩ ?_
    refine sy_callS mX12_in [.long i.toInt64, .long 0, .long (((σ.1 25 q.toNatClampNeg) - 1).toInt64)] [] kX12_in jX12_109 (by decide +kernel) rfl rfl (Nat.le_of_ble_eq_true rfl) (Nat.le_of_ble_eq_true rfl) (by decide) ?_
    refine e_m_in (σ := σ) (v := i.toInt64) (lo := 0) (hi := (((σ.1 25 q.toNatClampNeg) - 1).toInt64)) ?_ ?_
    · intro c3
      show sy_E shM mX12_get (22, [some (.ref 0), some (.int q), some (.int i)], [.int 1], σ) _
      refine sy_bk [(.ifCond .eq 18, 0, 40, 0, 0), (.aload_n 0, 0, 0, 0, 0), (.getfield 96, 12, 38, 0, 0), (.bipush 40, 0, 0, 40, 0), (.iload_n 1, 0, 0, 0, 0), (.imul, 0, 0, 0, 0), (.iload_n 2, 0, 0, 0, 0), (.iadd, 0, 0, 0, 0), (.iaload, 0, 0, 0, 0), (.i2l, 0, 0, 0, 0), (.goto 6, 0, 43, 0, 0)] (43, [some (.ref 0), some (.int q), some (.int i)], [.long ((σ.1 26 (((40 * q) + i).toNatClampNeg)).toInt64)], σ) [¬ sy_cc .eq 1 0, sy_okA shM 0 26 ((40 * q) + i)] (by decide +kernel) rfl ⟨(by decide : ¬ ((1 : Int32) = 0)), ⟨160, _, rfl, (b2 m_1 c2 c3)⟩, trivial⟩ ?_
      exact sy_retl rfl (by decide +kernel) (k1 m_1 c2 c3)
    · intro c4
      show sy_E shM mX12_get (22, [some (.ref 0), some (.int q), some (.int i)], [.int 0], σ) _
      refine sy_bk [(.ifCond .eq 18, 1, 40, 0, 0), (.ldc2_w 338, 0, 0, 0, (-9223372036854775808))] (43, [some (.ref 0), some (.int q), some (.int i)], [.long (-9223372036854775808)], σ) [sy_cc .eq 0 0] (by decide +kernel) rfl ⟨(by decide : ((0 : Int32) = 0)), trivial⟩ ?_
      exact sy_retl rfl (by decide +kernel) (k2 m_1 c2 c4)
  · intro c5
    show sy_E shM mX12_get (4, [some (.ref 0), some (.int q), some (.int i)], [.int 0], σ) _
    refine sy_bk [(.ifCond .eq 36, 1, 40, 0, 0), (.ldc2_w 338, 0, 0, 0, (-9223372036854775808))] (43, [some (.ref 0), some (.int q), some (.int i)], [.long (-9223372036854775808)], σ) [sy_cc .eq 0 0] (by decide +kernel) rfl ⟨(by decide : ((0 : Int32) = 0)), trivial⟩ ?_
    exact sy_retl rfl (by decide +kernel) (k3 c5)

set_option maxRecDepth 20000 in
theorem w_M_holding_0 {Q : Option Value → sy_S → Prop} {σ : sy_S}    (k1 : sy_E shM mX12_holding (4, [some (.ref 0), some (.int 0), some (.int 0)], [], σ) Q) : sy_E shM mX12_holding (0, sy_ent [.ref 0] 3, [], σ) Q := by
  show sy_E shM mX12_holding (0, [some (.ref 0), none, none], [], σ) _
  refine sy_bk [(.iconst 0, 0, 0, 0, 0), (.istore_n 1, 0, 0, 0, 0), (.iconst 0, 0, 0, 0, 0), (.istore_n 2, 0, 0, 0, 0)] (4, [some (.ref 0), some (.int 0), some (.int 0)], [], σ) [] (by decide +kernel) rfl trivial ?_
  exact k1

set_option maxRecDepth 20000 in
theorem w_M_holding_4 {Q : Option Value → sy_S → Prop} {σ : sy_S} {l1 : Int32} {l2 : Int32}  (b1 : ¬ (6 ≤ l2) → vp_in l2 6) (k1 : 6 ≤ l2 → Q (some (.int l1)) σ) (k2 : ¬ (6 ≤ l2) → (σ.1 8 l2.toNatClampNeg) = 0 → sy_E shM mX12_holding (4, [some (.ref 0), some (.int (l1 + 0)), some (.int (l2 + 1))], [], σ) Q) (k3 : ¬ (6 ≤ l2) → ¬ ((σ.1 8 l2.toNatClampNeg) = 0) → sy_E shM mX12_holding (4, [some (.ref 0), some (.int (l1 + 1)), some (.int (l2 + 1))], [], σ) Q) : sy_E shM mX12_holding (4, [some (.ref 0), some (.int l1), some (.int l2)], [], σ) Q := by
  refine sy_bk [(.iload_n 2, 0, 0, 0, 0), (.bipush 6, 0, 0, 6, 0)] (7, [some (.ref 0), some (.int l1), some (.int l2)], [.int 6, .int l2], σ) [] (by decide +kernel) rfl trivial ?_
  by_cases c1 : 6 ≤ l2
  · refine sy_bk [(.if_icmp .ge 26, 1, 33, 0, 0)] (33, [some (.ref 0), some (.int l1), some (.int l2)], [], σ) [sy_cc .ge l2 6] (by decide +kernel) rfl ⟨c1, trivial⟩ ?_
    refine sy_bk [(.iload_n 1, 0, 0, 0, 0)] (34, [some (.ref 0), some (.int l1), some (.int l2)], [.int l1], σ) [] (by decide +kernel) rfl trivial ?_
    exact sy_reti rfl (by decide +kernel) (k1 c1)
  · refine sy_bk [(.if_icmp .ge 26, 0, 33, 0, 0)] (10, [some (.ref 0), some (.int l1), some (.int l2)], [], σ) [¬ sy_cc .ge l2 6] (by decide +kernel) rfl ⟨c1, trivial⟩ ?_
    refine sy_bk [(.iload_n 1, 0, 0, 0, 0), (.aload_n 0, 0, 0, 0, 0), (.getfield 41, 12, 10, 0, 0), (.iload_n 2, 0, 0, 0, 0), (.baload, 0, 0, 0, 0)] (17, [some (.ref 0), some (.int l1), some (.int l2)], [.int (σ.1 8 l2.toNatClampNeg), .int l1], σ) [sy_okA shM 1 8 l2] (by decide +kernel) rfl ⟨⟨6, _, rfl, (b1 c1)⟩, trivial⟩ ?_
    by_cases c2 : (σ.1 8 l2.toNatClampNeg) = 0
    · refine sy_bk [(.ifCond .eq 7, 1, 24, 0, 0)] (24, [some (.ref 0), some (.int l1), some (.int l2)], [.int l1], σ) [sy_cc .eq (σ.1 8 l2.toNatClampNeg) 0] (by decide +kernel) rfl ⟨c2, trivial⟩ ?_
      refine sy_bk [(.iconst 0, 0, 0, 0, 0), (.iadd, 0, 0, 0, 0), (.istore_n 1, 0, 0, 0, 0), (.iinc 2 1, 0, 0, 1, 0), (.goto (-26), 0, 4, 0, 0)] (4, [some (.ref 0), some (.int (l1 + 0)), some (.int (l2 + 1))], [], σ) [] (by decide +kernel) rfl trivial ?_
      exact k2 c1 c2
    · refine sy_bk [(.ifCond .eq 7, 0, 24, 0, 0)] (20, [some (.ref 0), some (.int l1), some (.int l2)], [.int l1], σ) [¬ sy_cc .eq (σ.1 8 l2.toNatClampNeg) 0] (by decide +kernel) rfl ⟨c2, trivial⟩ ?_
      refine sy_bk [(.iconst 1, 0, 0, 1, 0), (.goto 4, 0, 25, 0, 0), (.iadd, 0, 0, 0, 0), (.istore_n 1, 0, 0, 0, 0), (.iinc 2 1, 0, 0, 1, 0), (.goto (-26), 0, 4, 0, 0)] (4, [some (.ref 0), some (.int (l1 + 1)), some (.int (l2 + 1))], [], σ) [] (by decide +kernel) rfl trivial ?_
      exact k3 c1 c2

set_option maxRecDepth 20000 in
theorem w_M_count_0 {Q : Option Value → sy_S → Prop} {σ : sy_S} {w : Int32}   (k1 : w = 0 → Q (some (.int ((σ.1 0 0) * (σ.1 0 1)))) σ) (k2 : ¬ w = 0 → w = 1 → Q (some (.int (σ.1 0 1))) σ) (k3 : ¬ w = 0 → ¬ w = 1 → w = 2 → sy_E shM mX12_places (0, sy_ent [.ref 0] 3, [], σ) (fun r9 σ9 => sy_E shM mX12_count (66, [none, none], r9.toList ++ [], σ9) Q)) (k4 : ¬ w = 0 → ¬ w = 1 → ¬ w = 2 → w = 3 → sy_E shM mX12_grains (0, sy_ent [.ref 0, .ref 2] 4, [], σ) (fun r9 σ9 => sy_E shM mX12_count (75, [none, none], r9.toList ++ [], σ9) Q)) (k5 : ¬ w = 0 → ¬ w = 1 → ¬ w = 2 → ¬ w = 3 → w = 4 → sy_E shM mX12_holding (0, sy_ent [.ref 0] 3, [], σ) (fun r9 σ9 => sy_E shM mX12_count (80, [none, none], r9.toList ++ [], σ9) Q)) (k6 : ¬ w = 0 → ¬ w = 1 → ¬ w = 2 → ¬ w = 3 → ¬ w = 4 → w = 5 → Q (some (.int (σ.1 0 16))) σ) (k7 : ¬ w = 0 → ¬ w = 1 → ¬ w = 2 → ¬ w = 3 → ¬ w = 4 → ¬ w = 5 → w = 6 → ¬ (σ.1 0 18) = 0 → Q (some (.int 3)) σ) (k8 : ¬ w = 0 → ¬ w = 1 → ¬ w = 2 → ¬ w = 3 → ¬ w = 4 → ¬ w = 5 → w = 6 → ¬ (¬ (σ.1 0 18) = 0) → Q (some (.int 0)) σ) (k9 : ¬ w = 0 → ¬ w = 1 → ¬ w = 2 → ¬ w = 3 → ¬ w = 4 → ¬ w = 5 → ¬ w = 6 → w = 7 → Q (some (.int (σ.1 0 13))) σ) (k10 : ¬ w = 0 → ¬ w = 1 → ¬ w = 2 → ¬ w = 3 → ¬ w = 4 → ¬ w = 5 → ¬ w = 6 → ¬ w = 7 → w = 8 → Q (some (.int (σ.1 0 14))) σ) (k11 : ¬ w = 0 → ¬ w = 1 → ¬ w = 2 → ¬ w = 3 → ¬ w = 4 → ¬ w = 5 → ¬ w = 6 → ¬ w = 7 → ¬ w = 8 → Q (some (.int (-2))) σ) : sy_E shM mX12_count (0, sy_ent [.ref 0, .int w] 2, [], σ) Q := by
  show sy_E shM mX12_count (0, [some (.ref 0), some (.int w)], [], σ) _
  refine sy_bk [(.iload_n 1, 0, 0, 0, 0)] (1, [some (.ref 0), some (.int w)], [.int w], σ) [] (by decide +kernel) rfl trivial ?_
  by_cases c1 : w = 0
  · refine sy_bk [(.tableswitch 108 0 8 #[51, 56, 61, 66, 75, 80, 85, 98, 103], 1, 52, 0, 0)] (52, [some (.ref 0), some (.int w)], [], σ) [w = 0] (by decide +kernel) rfl ⟨c1, trivial⟩ ?_
    refine sy_bk [(.aload_n 0, 0, 0, 0, 0)] (53, [some (.ref 0), some (.int w)], [.ref 0], σ) [] (by decide +kernel) rfl trivial ?_
    refine sy_callV mX12_cells 0 [] [] kX12_cells jX12_105 (by decide +kernel) rfl rfl (Nat.le_of_ble_eq_true rfl) (Nat.le_of_ble_eq_true rfl) (by decide) rfl ?_
    refine w_m_cells (σ := σ) ?_
    show sy_E shM mX12_count (56, [some (.ref 0), some (.int w)], [.int ((σ.1 0 0) * (σ.1 0 1))], σ) _
    exact sy_reti rfl (by decide +kernel) (k1 c1)
  by_cases c2 : w = 1
  · refine sy_bk [(.tableswitch 108 0 8 #[51, 56, 61, 66, 75, 80, 85, 98, 103], 1, 57, 1, 0)] (57, [some (.ref 0), some (.int w)], [], σ) [w = 1] (by decide +kernel) rfl ⟨c2, trivial⟩ ?_
    refine sy_bk [(.aload_n 0, 0, 0, 0, 0), (.getfield 15, 12, 1, 0, 0)] (61, [some (.ref 0), some (.int w)], [.int (σ.1 0 1)], σ) [] (by decide +kernel) rfl trivial ?_
    exact sy_reti rfl (by decide +kernel) (k2 c1 c2)
  by_cases c3 : w = 2
  · refine sy_bk [(.tableswitch 108 0 8 #[51, 56, 61, 66, 75, 80, 85, 98, 103], 1, 62, 2, 0)] (62, [some (.ref 0), some (.int w)], [], σ) [w = 2] (by decide +kernel) rfl ⟨c3, trivial⟩ ?_
    refine sy_bk [(.aload_n 0, 0, 0, 0, 0)] (63, [some (.ref 0), some (.int w)], [.ref 0], σ) [] (by decide +kernel) rfl trivial ?_
    refine sy_drop [none, none] trivial ?_
    refine sy_callV mX12_places 0 [] [] kX12_places jX12_292 (by decide +kernel) rfl rfl (Nat.le_of_ble_eq_true rfl) (Nat.le_of_ble_eq_true rfl) (by decide) rfl ?_
    exact k3 c1 c2 c3
  by_cases c4 : w = 3
  · refine sy_bk [(.tableswitch 108 0 8 #[51, 56, 61, 66, 75, 80, 85, 98, 103], 1, 67, 3, 0)] (67, [some (.ref 0), some (.int w)], [], σ) [w = 3] (by decide +kernel) rfl ⟨c4, trivial⟩ ?_
    refine sy_bk [(.aload_n 0, 0, 0, 0, 0), (.aload_n 0, 0, 0, 0, 0), (.getfield 22, 12, 3, 0, 0)] (72, [some (.ref 0), some (.int w)], [.ref 2, .ref 0], σ) [] (by decide +kernel) rfl trivial ?_
    refine sy_drop [none, none] trivial ?_
    refine sy_callV mX12_grains 0 [.ref 2] [] kX12_grains jX12_206 (by decide +kernel) rfl rfl (Nat.le_of_ble_eq_true rfl) (Nat.le_of_ble_eq_true rfl) (by decide) rfl ?_
    exact k4 c1 c2 c3 c4
  by_cases c5 : w = 4
  · refine sy_bk [(.tableswitch 108 0 8 #[51, 56, 61, 66, 75, 80, 85, 98, 103], 1, 76, 4, 0)] (76, [some (.ref 0), some (.int w)], [], σ) [w = 4] (by decide +kernel) rfl ⟨c5, trivial⟩ ?_
    refine sy_bk [(.aload_n 0, 0, 0, 0, 0)] (77, [some (.ref 0), some (.int w)], [.ref 0], σ) [] (by decide +kernel) rfl trivial ?_
    refine sy_drop [none, none] trivial ?_
    refine sy_callV mX12_holding 0 [] [] kX12_holding jX12_340 (by decide +kernel) rfl rfl (Nat.le_of_ble_eq_true rfl) (Nat.le_of_ble_eq_true rfl) (by decide) rfl ?_
    exact k5 c1 c2 c3 c4 c5
  by_cases c6 : w = 5
  · refine sy_bk [(.tableswitch 108 0 8 #[51, 56, 61, 66, 75, 80, 85, 98, 103], 1, 81, 5, 0)] (81, [some (.ref 0), some (.int w)], [], σ) [w = 5] (by decide +kernel) rfl ⟨c6, trivial⟩ ?_
    refine sy_bk [(.aload_n 0, 0, 0, 0, 0), (.getfield 169, 12, 16, 0, 0)] (85, [some (.ref 0), some (.int w)], [.int (σ.1 0 16)], σ) [] (by decide +kernel) rfl trivial ?_
    exact sy_reti rfl (by decide +kernel) (k6 c1 c2 c3 c4 c5 c6)
  by_cases c7 : w = 6
  · refine sy_bk [(.tableswitch 108 0 8 #[51, 56, 61, 66, 75, 80, 85, 98, 103], 1, 86, 6, 0)] (86, [some (.ref 0), some (.int w)], [], σ) [w = 6] (by decide +kernel) rfl ⟨c7, trivial⟩ ?_
    refine sy_bk [(.aload_n 0, 0, 0, 0, 0), (.getfield 192, 12, 18, 0, 0)] (90, [some (.ref 0), some (.int w)], [.int (σ.1 0 18)], σ) [] (by decide +kernel) rfl trivial ?_
    by_cases c8 : ¬ (σ.1 0 18) = 0
    · refine sy_bk [(.ifCond .ne 7, 1, 97, 0, 0)] (97, [some (.ref 0), some (.int w)], [], σ) [sy_cc .ne (σ.1 0 18) 0] (by decide +kernel) rfl ⟨c8, trivial⟩ ?_
      refine sy_bk [(.iconst 3, 0, 0, 3, 0)] (98, [some (.ref 0), some (.int w)], [.int 3], σ) [] (by decide +kernel) rfl trivial ?_
      exact sy_reti rfl (by decide +kernel) (k7 c1 c2 c3 c4 c5 c6 c7 c8)
    · refine sy_bk [(.ifCond .ne 7, 0, 97, 0, 0)] (93, [some (.ref 0), some (.int w)], [], σ) [¬ sy_cc .ne (σ.1 0 18) 0] (by decide +kernel) rfl ⟨c8, trivial⟩ ?_
      refine sy_bk [(.iconst 0, 0, 0, 0, 0), (.goto 4, 0, 98, 0, 0)] (98, [some (.ref 0), some (.int w)], [.int 0], σ) [] (by decide +kernel) rfl trivial ?_
      exact sy_reti rfl (by decide +kernel) (k8 c1 c2 c3 c4 c5 c6 c7 c8)
  by_cases c9 : w = 7
  · refine sy_bk [(.tableswitch 108 0 8 #[51, 56, 61, 66, 75, 80, 85, 98, 103], 1, 99, 7, 0)] (99, [some (.ref 0), some (.int w)], [], σ) [w = 7] (by decide +kernel) rfl ⟨c9, trivial⟩ ?_
    refine sy_bk [(.aload_n 0, 0, 0, 0, 0), (.getfield 138, 12, 13, 0, 0)] (103, [some (.ref 0), some (.int w)], [.int (σ.1 0 13)], σ) [] (by decide +kernel) rfl trivial ?_
    exact sy_reti rfl (by decide +kernel) (k9 c1 c2 c3 c4 c5 c6 c7 c9)
  by_cases c10 : w = 8
  · refine sy_bk [(.tableswitch 108 0 8 #[51, 56, 61, 66, 75, 80, 85, 98, 103], 1, 104, 8, 0)] (104, [some (.ref 0), some (.int w)], [], σ) [w = 8] (by decide +kernel) rfl ⟨c10, trivial⟩ ?_
    refine sy_bk [(.aload_n 0, 0, 0, 0, 0), (.getfield 141, 12, 14, 0, 0)] (108, [some (.ref 0), some (.int w)], [.int (σ.1 0 14)], σ) [] (by decide +kernel) rfl trivial ?_
    exact sy_reti rfl (by decide +kernel) (k10 c1 c2 c3 c4 c5 c6 c7 c9 c10)
  refine sy_bk [(.tableswitch 108 0 8 #[51, 56, 61, 66, 75, 80, 85, 98, 103], 0, 109, 0, 0)] (109, [some (.ref 0), some (.int w)], [], σ) [w.toInt < 0 ∨ 8 < w.toInt] (by decide +kernel) rfl ⟨sy_sw9 c1 c2 c3 c4 c5 c6 c7 c9 c10, trivial⟩ ?_
  refine sy_bk [(.bipush (-2), 0, 0, (-2), 0)] (111, [some (.ref 0), some (.int w)], [.int (-2)], σ) [] (by decide +kernel) rfl trivial ?_
  exact sy_reti rfl (by decide +kernel) (k11 c1 c2 c3 c4 c5 c6 c7 c9 c10)

set_option maxRecDepth 20000 in
theorem w_M_count_66 {Q : Option Value → sy_S → Prop} {σ : sy_S} {v : Int32}   (k1 : Q (some (.int v)) σ) : sy_E shM mX12_count (66, [none, none], [.int v], σ) Q := by
  exact sy_reti rfl (by decide +kernel) (k1)

set_option maxRecDepth 20000 in
theorem w_M_count_75 {Q : Option Value → sy_S → Prop} {σ : sy_S} {v : Int32}   (k1 : Q (some (.int v)) σ) : sy_E shM mX12_count (75, [none, none], [.int v], σ) Q := by
  exact sy_reti rfl (by decide +kernel) (k1)

set_option maxRecDepth 20000 in
theorem w_M_count_80 {Q : Option Value → sy_S → Prop} {σ : sy_S} {v : Int32}   (k1 : Q (some (.int v)) σ) : sy_E shM mX12_count (80, [none, none], [.int v], σ) Q := by
  exact sy_reti rfl (by decide +kernel) (k1)
