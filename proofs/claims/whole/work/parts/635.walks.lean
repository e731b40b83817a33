/-! walk of Fall.toppleOnce (by program: wip/whole/gen/p635.py) -/
set_option maxRecDepth 20000 in
theorem w_x_tonce_0 {Q : Option Value → sy_S → Prop} {σ : sy_S} {cell : Int32} {G : sg_G}  (b1 : gx G σ.1) (b2 : ∀ (m_1 : Nat), px (sg_p G) cell = some m_1 → vp_in cell 16) (k1 : ∀ (m_1 : Nat), px (sg_p G) cell = some m_1 → 4 ≤ (σ.1 40 cell.toNatClampNeg) → sy_E shX mX3_spill (0, sy_ent [.ref 0, .ref 40, .int cell, .int 1] 7, [], σ) (fun r9 σ9 => sy_E shX mX1_toppleOnce (36, [none, none], r9.toList ++ [], σ9) Q)) (k2 : ∀ (m_1 : Nat), px (sg_p G) cell = some m_1 → ¬ (4 ≤ (σ.1 40 cell.toNatClampNeg)) → Q (some (.int 0)) σ) (k3 : px (sg_p G) cell = none → Q (some (.int 0)) σ) : sy_E shX mX1_toppleOnce (0, sy_ent [.ref 39, .int cell] 2, [], σ) Q := by
  show sy_E shX mX1_toppleOnce (0, [some (.ref 39), some (.int cell)], [], σ) _
  refine sy_bk [(.aload_n 0, 0, 0, 0, 0), (.getfield 18, 1, 0, 0, 0), (.iload_n 1, 0, 0, 0, 0)] (5, [some (.ref 39), some (.int cell)], [.int cell, .ref 0], σ) [] (by decide +kernel) rfl trivial ?_
  refine sy_callV mX3_isPlace 0 [.int cell] [] kX3_isPlace jX1_58 (by decide +kernel) rfl rfl (Nat.le_of_ble_eq_true rfl) (Nat.le_of_ble_eq_true rfl) (by decide) rfl ?_
  refine e_x_isPl (σ := σ) (cell := cell) b1 ?_ ?_
  · intro m_1 c2
    show sy_E shX mX1_toppleOnce (8, [some (.ref 39), some (.int cell)], [.int 1], σ) _
    refine sy_bk [(.ifCond .eq 13, 0, 21, 0, 0), (.aload_n 0, 0, 0, 0, 0), (.getfield 9, 1, 1, 0, 0), (.iload_n 1, 0, 0, 0, 0), (.iaload, 0, 0, 0, 0), (.iconst 4, 0, 0, 4, 0)] (18, [some (.ref 39), some (.int cell)], [.int 4, .int (σ.1 40 cell.toNatClampNeg)], σ) [¬ sy_cc .eq 1 0, sy_okA shX 0 40 cell] (by decide +kernel) rfl ⟨(by decide : ¬ ((1 : Int32) = 0)), ⟨16, _, rfl, (b2 m_1 c2)⟩, trivial⟩ ?_
    by_cases c3 : 4 ≤ (σ.1 40 cell.toNatClampNeg)
    · refine sy_bk [(.if_icmp .ge 5, 1, 23, 0, 0)] (23, [some (.ref 39), some (.int cell)], [], σ) [sy_cc .ge (σ.1 40 cell.toNatClampNeg) 4] (by decide +kernel) rfl ⟨c3, trivial⟩ ?_
      refine sy_bk [(.aload_n 0, 0, 0, 0, 0), (.getfield 18, 1, 0, 0, 0), (.aload_n 0, 0, 0, 0, 0), (.getfield 9, 1, 1, 0, 0), (.iload_n 1, 0, 0, 0, 0), (.iconst 1, 0, 0, 1, 0)] (33, [some (.ref 39), some (.int cell)], [.int 1, .int cell, .ref 40, .ref 0], σ) [] (by decide +kernel) rfl trivial ?_
      refine sy_drop [none, none] trivial ?_
      refine sy_callV mX3_spill 0 [.ref 40, .int cell, .int 1] [] kX3_spill jX1_44 (by decide +kernel) rfl rfl (Nat.le_of_ble_eq_true rfl) (Nat.le_of_ble_eq_true rfl) (by decide) rfl ?_
      exact k1 m_1 c2 c3
    · refine sy_bk [(.if_icmp .ge 5, 0, 23, 0, 0)] (21, [some (.ref 39), some (.int cell)], [], σ) [¬ sy_cc .ge (σ.1 40 cell.toNatClampNeg) 4] (by decide +kernel) rfl ⟨c3, trivial⟩ ?_
      refine sy_bk [(.iconst 0, 0, 0, 0, 0)] (22, [some (.ref 39), some (.int cell)], [.int 0], σ) [] (by decide +kernel) rfl trivial ?_
      exact sy_retz rfl (by decide +kernel) (Or.inl rfl) (k2 m_1 c2 c3)
  · intro c4
    show sy_E shX mX1_toppleOnce (8, [some (.ref 39), some (.int cell)], [.int 0], σ) _
    refine sy_bk [(.ifCond .eq 13, 1, 21, 0, 0), (.iconst 0, 0, 0, 0, 0)] (22, [some (.ref 39), some (.int cell)], [.int 0], σ) [sy_cc .eq 0 0] (by decide +kernel) rfl ⟨(by decide : ((0 : Int32) = 0)), trivial⟩ ?_
    exact sy_retz rfl (by decide +kernel) (Or.inl rfl) (k3 c4)

set_option maxRecDepth 20000 in
theorem w_x_tonce_36 {Q : Option Value → sy_S → Prop} {σ : sy_S}    (k1 : Q (some (.int 1)) σ) : sy_E shX mX1_toppleOnce (36, [none, none], [], σ) Q := by
  refine sy_bk [(.iconst 1, 0, 0, 1, 0)] (37, [none, none], [.int 1], σ) [] (by decide +kernel) rfl trivial ?_
  exact sy_retz rfl (by decide +kernel) (Or.inr rfl) (k1)
