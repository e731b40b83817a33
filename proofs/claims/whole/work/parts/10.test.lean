set_option maxRecDepth 20000 in
theorem wX3_cellCount {Q : Option Value → sy_S → Prop} {σ : sy_S}    (k1 : Q (some (.int ((σ.1 0 5) * (σ.1 0 6)))) σ) : sy_E shX mX3_cellCount (0, sy_ent [.ref 0] 1, [], σ) Q := by
  show sy_E shX mX3_cellCount (0, [some (.ref 0)], [], σ) _
  refine sy_bk [(.aload_n 0, 0, 0, 0, 0), (.getfield 31, 3, 5, 0, 0), (.aload_n 0, 0, 0, 0, 0), (.getfield 35, 3, 6, 0, 0), (.imul, 0, 0, 0, 0)] (9, [some (.ref 0)], [.int ((σ.1 0 5) * (σ.1 0 6))], σ) [] (by decide +kernel) rfl trivial ?_
  exact sy_reti rfl (by decide +kernel) (k1)

set_option maxRecDepth 20000 in
theorem wX3_isCell {Q : Option Value → sy_S → Prop} {σ : sy_S} {cell : Int32}   (k1 : cell < 0 → Q (some (.int 0)) σ) (k2 : ¬ (cell < 0) → ((σ.1 0 5) * (σ.1 0 6)) ≤ cell → Q (some (.int 0)) σ) (k3 : ¬ (cell < 0) → ¬ (((σ.1 0 5) * (σ.1 0 6)) ≤ cell) → Q (some (.int 1)) σ) : sy_E shX mX3_isCell (0, sy_ent [.ref 0, .int cell] 2, [], σ) Q := by
  show sy_E shX mX3_isCell (0, [some (.ref 0), some (.int cell)], [], σ) _
  refine sy_bk [(.iload_n 1, 0, 0, 0, 0)] (1, [some (.ref 0), some (.int cell)], [.int cell], σ) [] (by decide +kernel) rfl trivial ?_
  by_cases c1 : cell < 0
  · refine sy_bk [(.ifCond .lt 20, 1, 21, 0, 0)] (21, [some (.ref 0), some (.int cell)], [], σ) [sy_cc .lt cell 0] (by decide +kernel) rfl ⟨c1, trivial⟩ ?_
    refine sy_bk [(.iconst 0, 0, 0, 0, 0)] (22, [some (.ref 0), some (.int cell)], [.int 0], σ) [] (by decide +kernel) rfl trivial ?_
    exact sy_retz rfl (by decide +kernel) (Or.inl rfl) (k1 c1)
  · refine sy_bk [(.ifCond .lt 20, 0, 21, 0, 0)] (4, [some (.ref 0), some (.int cell)], [], σ) [¬ sy_cc .lt cell 0] (by decide +kernel) rfl ⟨c1, trivial⟩ ?_
    refine sy_bk [(.iload_n 1, 0, 0, 0, 0), (.aload_n 0, 0, 0, 0, 0), (.getfield 31, 3, 5, 0, 0), (.aload_n 0, 0, 0, 0, 0), (.getfield 35, 3, 6, 0, 0), (.imul, 0, 0, 0, 0)] (14, [some (.ref 0), some (.int cell)], [.int ((σ.1 0 5) * (σ.1 0 6)), .int cell], σ) [] (by decide +kernel) rfl trivial ?_
    by_cases c2 : ((σ.1 0 5) * (σ.1 0 6)) ≤ cell
    · refine sy_bk [(.if_icmp .ge 7, 1, 21, 0, 0)] (21, [some (.ref 0), some (.int cell)], [], σ) [sy_cc .ge cell ((σ.1 0 5) * (σ.1 0 6))] (by decide +kernel) rfl ⟨c2, trivial⟩ ?_
      refine sy_bk [(.iconst 0, 0, 0, 0, 0)] (22, [some (.ref 0), some (.int cell)], [.int 0], σ) [] (by decide +kernel) rfl trivial ?_
      exact sy_retz rfl (by decide +kernel) (Or.inl rfl) (k2 c1 c2)
    · refine sy_bk [(.if_icmp .ge 7, 0, 21, 0, 0)] (17, [some (.ref 0), some (.int cell)], [], σ) [¬ sy_cc .ge cell ((σ.1 0 5) * (σ.1 0 6))] (by decide +kernel) rfl ⟨c2, trivial⟩ ?_
      refine sy_bk [(.iconst 1, 0, 0, 1, 0), (.goto 4, 0, 22, 0, 0)] (22, [some (.ref 0), some (.int cell)], [.int 1], σ) [] (by decide +kernel) rfl trivial ?_
      exact sy_retz rfl (by decide +kernel) (Or.inr rfl) (k3 c1 c2)

set_option maxRecDepth 20000 in
theorem wX3_isPlace {Q : Option Value → sy_S → Prop} {σ : sy_S} {cell : Int32}  (b1 : ¬ (cell < 0) → ¬ (((σ.1 0 5) * (σ.1 0 6)) ≤ cell) → vp_in cell 16) (k1 : cell < 0 → Q (some (.int 0)) σ) (k2 : ¬ (cell < 0) → ((σ.1 0 5) * (σ.1 0 6)) ≤ cell → Q (some (.int 0)) σ) (k3 : ¬ (cell < 0) → ¬ (((σ.1 0 5) * (σ.1 0 6)) ≤ cell) → ¬ (σ.1 1 cell.toNatClampNeg) = 0 → Q (some (.int 0)) σ) (k4 : ¬ (cell < 0) → ¬ (((σ.1 0 5) * (σ.1 0 6)) ≤ cell) → ¬ (¬ (σ.1 1 cell.toNatClampNeg) = 0) → Q (some (.int 1)) σ) : sy_E shX mX3_isPlace (0, sy_ent [.ref 0, .int cell] 2, [], σ) Q := by
  show sy_E shX mX3_isPlace (0, [some (.ref 0), some (.int cell)], [], σ) _
  refine sy_bk [(.aload_n 0, 0, 0, 0, 0), (.iload_n 1, 0, 0, 0, 0)] (2, [some (.ref 0), some (.int cell)], [.int cell, .ref 0], σ) [] (by decide +kernel) rfl trivial ?_
  refine sy_callV mX3_isCell 0 [.int cell] [] kX3_isCell jX3_57 (by decide +kernel) rfl rfl (Nat.le_of_ble_eq_true rfl) (Nat.le_of_ble_eq_true rfl) (by decide) rfl ?_
  refine wX3_isCell (σ := σ) (cell := cell) ?_ ?_ ?_
  · intro c1
    show sy_E shX mX3_isPlace (5, [some (.ref 0), some (.int cell)], [.int 0], σ) _
    refine sy_bk [(.ifCond .eq 16, 1, 21, 0, 0), (.iconst 0, 0, 0, 0, 0)] (22, [some (.ref 0), some (.int cell)], [.int 0], σ) [sy_cc .eq 0 0] (by decide +kernel) rfl ⟨(by decide : ((0 : Int32) = 0)), trivial⟩ ?_
    exact sy_retz rfl (by decide +kernel) (Or.inl rfl) (k1 c1)
  · intro c2 c3
    show sy_E shX mX3_isPlace (5, [some (.ref 0), some (.int cell)], [.int 0], σ) _
    refine sy_bk [(.ifCond .eq 16, 1, 21, 0, 0), (.iconst 0, 0, 0, 0, 0)] (22, [some (.ref 0), some (.int cell)], [.int 0], σ) [sy_cc .eq 0 0] (by decide +kernel) rfl ⟨(by decide : ((0 : Int32) = 0)), trivial⟩ ?_
    exact sy_retz rfl (by decide +kernel) (Or.inl rfl) (k2 c2 c3)
  · intro c4 c5
    show sy_E shX mX3_isPlace (5, [some (.ref 0), some (.int cell)], [.int 1], σ) _
    refine sy_bk [(.ifCond .eq 16, 0, 21, 0, 0), (.aload_n 0, 0, 0, 0, 0), (.getfield 9, 3, 0, 0, 0), (.iload_n 1, 0, 0, 0, 0), (.iaload, 0, 0, 0, 0)] (14, [some (.ref 0), some (.int cell)], [.int (σ.1 1 cell.toNatClampNeg)], σ) [¬ sy_cc .eq 1 0, sy_okA shX 0 1 cell] (by decide +kernel) rfl ⟨(by decide : ¬ ((1 : Int32) = 0)), ⟨16, _, rfl, (b1 c4 c5)⟩, trivial⟩ ?_
    by_cases c6 : ¬ (σ.1 1 cell.toNatClampNeg) = 0
    · refine sy_bk [(.ifCond .ne 7, 1, 21, 0, 0)] (21, [some (.ref 0), some (.int cell)], [], σ) [sy_cc .ne (σ.1 1 cell.toNatClampNeg) 0] (by decide +kernel) rfl ⟨c6, trivial⟩ ?_
      refine sy_bk [(.iconst 0, 0, 0, 0, 0)] (22, [some (.ref 0), some (.int cell)], [.int 0], σ) [] (by decide +kernel) rfl trivial ?_
      exact sy_retz rfl (by decide +kernel) (Or.inl rfl) (k3 c4 c5 c6)
    · refine sy_bk [(.ifCond .ne 7, 0, 21, 0, 0)] (17, [some (.ref 0), some (.int cell)], [], σ) [¬ sy_cc .ne (σ.1 1 cell.toNatClampNeg) 0] (by decide +kernel) rfl ⟨c6, trivial⟩ ?_
      refine sy_bk [(.iconst 1, 0, 0, 1, 0), (.goto 4, 0, 22, 0, 0)] (22, [some (.ref 0), some (.int cell)], [.int 1], σ) [] (by decide +kernel) rfl trivial ?_
      exact sy_retz rfl (by decide +kernel) (Or.inr rfl) (k4 c4 c5 c6)

set_option maxRecDepth 20000 in
theorem wX3_spill_a {Q : Option Value → sy_S → Prop} {σ : sy_S} {k : Nat} {cell : Int32} {times : Int32} (hk : shX[k]? = some (0, 16, [])) (b1 : vp_in cell 16) (k1 : sy_E shX mX3_spill (29, [some (.ref 0), some (.ref k), some (.int cell), some (.int times), some (.int (cell * 4)), some (.int ((cell * 4) + ((sy_up σ.1 k cell.toNatClampNeg ((σ.1 k cell.toNatClampNeg) - (4 * times))) 5 cell.toNatClampNeg))), some (.int (cell * 4))], [], (sy_up σ.1 k cell.toNatClampNeg ((σ.1 k cell.toNatClampNeg) - (4 * times)), σ.2)) Q) : sy_E shX mX3_spill (0, sy_ent [.ref 0, .ref k, .int cell, .int times] 7, [], σ) Q := by
  show sy_E shX mX3_spill (0, [some (.ref 0), some (.ref k), some (.int cell), some (.int times), none, none, none], [], σ) _
  refine sy_bk [(.aload_n 1, 0, 0, 0, 0), (.iload_n 2, 0, 0, 0, 0), (.dup2, 0, 0, 0, 0), (.iaload, 0, 0, 0, 0), (.iconst 4, 0, 0, 4, 0), (.iload_n 3, 0, 0, 0, 0), (.imul, 0, 0, 0, 0), (.isub, 0, 0, 0, 0), (.iastore, 0, 0, 0, 0), (.iload_n 2, 0, 0, 0, 0), (.iconst 4, 0, 0, 4, 0), (.imul, 0, 0, 0, 0), (.istore 4, 0, 0, 0, 0), (.iload 4, 0, 0, 0, 0), (.aload_n 0, 0, 0, 0, 0), (.getfield 24, 3, 4, 0, 0), (.iload_n 2, 0, 0, 0, 0), (.iaload, 0, 0, 0, 0), (.iadd, 0, 0, 0, 0), (.istore 5, 0, 0, 0, 0), (.iload 4, 0, 0, 0, 0), (.istore 6, 0, 0, 0, 0)] (29, [some (.ref 0), some (.ref k), some (.int cell), some (.int times), some (.int (cell * 4)), some (.int ((cell * 4) + ((sy_up σ.1 k cell.toNatClampNeg ((σ.1 k cell.toNatClampNeg) - (4 * times))) 5 cell.toNatClampNeg))), some (.int (cell * 4))], [], (sy_up σ.1 k cell.toNatClampNeg ((σ.1 k cell.toNatClampNeg) - (4 * times)), σ.2)) [sy_okA shX 0 k cell, sy_okA shX 0 k cell, sy_okA shX 0 5 cell] (by decide +kernel) rfl ⟨⟨16, _, hk, b1⟩, ⟨16, _, hk, b1⟩, ⟨16, _, rfl, b1⟩, trivial⟩ ?_
  exact k1

set_option maxRecDepth 20000 in
theorem wX3_spill_29 {Q : Option Value → sy_S → Prop} {σ : sy_S} {k : Nat} {cell : Int32} {times : Int32} {f : Int32} {b : Int32} {i : Int32} (hk : shX[k]? = some (0, 16, [])) (b1 : ¬ (b ≤ i) → vp_in i 64) (b2 : ¬ (b ≤ i) → vp_in (σ.1 4 i.toNatClampNeg) 16) (k1 : b ≤ i → Q none σ) (k2 : ¬ (b ≤ i) → sy_E shX mX3_spill (29, [some (.ref 0), some (.ref k), some (.int cell), some (.int times), some (.int f), some (.int b), some (.int (i + 1))], [], (sy_up σ.1 k ((σ.1 4 i.toNatClampNeg).toNatClampNeg) ((σ.1 k ((σ.1 4 i.toNatClampNeg).toNatClampNeg)) + times), σ.2)) Q) : sy_E shX mX3_spill (29, [some (.ref 0), some (.ref k), some (.int cell), some (.int times), some (.int f), some (.int b), some (.int i)], [], σ) Q := by
  refine sy_bk [(.iload 6, 0, 0, 0, 0), (.iload 5, 0, 0, 0, 0)] (33, [some (.ref 0), some (.ref k), some (.int cell), some (.int times), some (.int f), some (.int b), some (.int i)], [.int b, .int i], σ) [] (by decide +kernel) rfl trivial ?_
  by_cases c1 : b ≤ i
  · refine sy_bk [(.if_icmp .ge 22, 1, 55, 0, 0)] (55, [some (.ref 0), some (.ref k), some (.int cell), some (.int times), some (.int f), some (.int b), some (.int i)], [], σ) [sy_cc .ge i b] (by decide +kernel) rfl ⟨c1, trivial⟩ ?_
    exact sy_retv rfl (by decide +kernel) (k1 c1)
  · refine sy_bk [(.if_icmp .ge 22, 0, 55, 0, 0)] (36, [some (.ref 0), some (.ref k), some (.int cell), some (.int times), some (.int f), some (.int b), some (.int i)], [], σ) [¬ sy_cc .ge i b] (by decide +kernel) rfl ⟨c1, trivial⟩ ?_
    refine sy_bk [(.aload_n 1, 0, 0, 0, 0), (.aload_n 0, 0, 0, 0, 0), (.getfield 21, 3, 3, 0, 0), (.iload 6, 0, 0, 0, 0), (.iaload, 0, 0, 0, 0), (.dup2, 0, 0, 0, 0), (.iaload, 0, 0, 0, 0), (.iload_n 3, 0, 0, 0, 0), (.iadd, 0, 0, 0, 0), (.iastore, 0, 0, 0, 0), (.iinc 6 1, 0, 0, 1, 0), (.goto (-23), 0, 29, 0, 0)] (29, [some (.ref 0), some (.ref k), some (.int cell), some (.int times), some (.int f), some (.int b), some (.int (i + 1))], [], (sy_up σ.1 k ((σ.1 4 i.toNatClampNeg).toNatClampNeg) ((σ.1 k ((σ.1 4 i.toNatClampNeg).toNatClampNeg)) + times), σ.2)) [sy_okA shX 0 4 i, sy_okA shX 0 k (σ.1 4 i.toNatClampNeg), sy_okA shX 0 k (σ.1 4 i.toNatClampNeg)] (by decide +kernel) rfl ⟨⟨64, _, rfl, (b1 c1)⟩, ⟨16, _, hk, (b2 c1)⟩, ⟨16, _, hk, (b2 c1)⟩, trivial⟩ ?_
    exact k2 c1
