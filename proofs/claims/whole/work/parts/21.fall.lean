/-! walks of Grid's reads and of Fall (by program: wip/whole/gen/p21.py) -/
set_option maxRecDepth 20000 in
theorem w_x_cellCount {Q : Option Value → sy_S → Prop} {σ : sy_S}    (k1 : Q (some (.int ((σ.1 0 5) * (σ.1 0 6)))) σ) : sy_E shX mX3_cellCount (0, sy_ent [.ref 0] 1, [], σ) Q := by
  show sy_E shX mX3_cellCount (0, [some (.ref 0)], [], σ) _
  refine sy_bk [(.aload_n 0, 0, 0, 0, 0), (.getfield 31, 3, 5, 0, 0), (.aload_n 0, 0, 0, 0, 0), (.getfield 35, 3, 6, 0, 0), (.imul, 0, 0, 0, 0)] (9, [some (.ref 0)], [.int ((σ.1 0 5) * (σ.1 0 6))], σ) [] (by decide +kernel) rfl trivial ?_
  exact sy_reti rfl (by decide +kernel) (k1)

set_option maxRecDepth 20000 in
theorem w_x_columnCount {Q : Option Value → sy_S → Prop} {σ : sy_S}    (k1 : Q (some (.int (σ.1 0 6))) σ) : sy_E shX mX3_columnCount (0, sy_ent [.ref 0] 1, [], σ) Q := by
  show sy_E shX mX3_columnCount (0, [some (.ref 0)], [], σ) _
  refine sy_bk [(.aload_n 0, 0, 0, 0, 0), (.getfield 35, 3, 6, 0, 0)] (4, [some (.ref 0)], [.int (σ.1 0 6)], σ) [] (by decide +kernel) rfl trivial ?_
  exact sy_reti rfl (by decide +kernel) (k1)

set_option maxRecDepth 20000 in
theorem w_x_placeCount {Q : Option Value → sy_S → Prop} {σ : sy_S}    (k1 : Q (some (.int (σ.1 0 7))) σ) : sy_E shX mX3_placeCount (0, sy_ent [.ref 0] 1, [], σ) Q := by
  show sy_E shX mX3_placeCount (0, [some (.ref 0)], [], σ) _
  refine sy_bk [(.aload_n 0, 0, 0, 0, 0), (.getfield 47, 3, 7, 0, 0)] (4, [some (.ref 0)], [.int (σ.1 0 7)], σ) [] (by decide +kernel) rfl trivial ?_
  exact sy_reti rfl (by decide +kernel) (k1)

set_option maxRecDepth 20000 in
theorem w_x_placeAt {Q : Option Value → sy_S → Prop} {σ : sy_S} {cell : Int32}  (b1 : vp_in cell 16) (k1 : Q (some (.int (σ.1 2 cell.toNatClampNeg))) σ) : sy_E shX mX3_placeAt (0, sy_ent [.ref 0, .int cell] 2, [], σ) Q := by
  show sy_E shX mX3_placeAt (0, [some (.ref 0), some (.int cell)], [], σ) _
  refine sy_bk [(.aload_n 0, 0, 0, 0, 0), (.getfield 15, 3, 1, 0, 0), (.iload_n 1, 0, 0, 0, 0), (.iaload, 0, 0, 0, 0)] (6, [some (.ref 0), some (.int cell)], [.int (σ.1 2 cell.toNatClampNeg)], σ) [sy_okA shX 0 2 cell] (by decide +kernel) rfl ⟨⟨16, _, rfl, b1⟩, trivial⟩ ?_
  exact sy_reti rfl (by decide +kernel) (k1)

set_option maxRecDepth 20000 in
theorem w_x_numberOf {Q : Option Value → sy_S → Prop} {σ : sy_S} {cell : Int32}  (b1 : vp_in cell 16) (k1 : Q (some (.int (σ.1 3 cell.toNatClampNeg))) σ) : sy_E shX mX3_numberOf (0, sy_ent [.ref 0, .int cell] 2, [], σ) Q := by
  show sy_E shX mX3_numberOf (0, [some (.ref 0), some (.int cell)], [], σ) _
  refine sy_bk [(.aload_n 0, 0, 0, 0, 0), (.getfield 18, 3, 2, 0, 0), (.iload_n 1, 0, 0, 0, 0), (.iaload, 0, 0, 0, 0)] (6, [some (.ref 0), some (.int cell)], [.int (σ.1 3 cell.toNatClampNeg)], σ) [sy_okA shX 0 3 cell] (by decide +kernel) rfl ⟨⟨16, _, rfl, b1⟩, trivial⟩ ?_
  exact sy_reti rfl (by decide +kernel) (k1)

set_option maxRecDepth 20000 in
theorem w_x_nextCount {Q : Option Value → sy_S → Prop} {σ : sy_S} {cell : Int32}  (b1 : vp_in cell 16) (k1 : Q (some (.int (σ.1 5 cell.toNatClampNeg))) σ) : sy_E shX mX3_nextCount (0, sy_ent [.ref 0, .int cell] 2, [], σ) Q := by
  show sy_E shX mX3_nextCount (0, [some (.ref 0), some (.int cell)], [], σ) _
  refine sy_bk [(.aload_n 0, 0, 0, 0, 0), (.getfield 24, 3, 4, 0, 0), (.iload_n 1, 0, 0, 0, 0), (.iaload, 0, 0, 0, 0)] (6, [some (.ref 0), some (.int cell)], [.int (σ.1 5 cell.toNatClampNeg)], σ) [sy_okA shX 0 5 cell] (by decide +kernel) rfl ⟨⟨16, _, rfl, b1⟩, trivial⟩ ?_
  exact sy_reti rfl (by decide +kernel) (k1)

set_option maxRecDepth 20000 in
theorem w_x_lossAt {Q : Option Value → sy_S → Prop} {σ : sy_S} {cell : Int32}  (b1 : vp_in cell 16) (k1 : Q (some (.int (4 - (σ.1 5 cell.toNatClampNeg)))) σ) : sy_E shX mX3_lossAt (0, sy_ent [.ref 0, .int cell] 2, [], σ) Q := by
  show sy_E shX mX3_lossAt (0, [some (.ref 0), some (.int cell)], [], σ) _
  refine sy_bk [(.iconst 4, 0, 0, 4, 0), (.aload_n 0, 0, 0, 0, 0), (.getfield 24, 3, 4, 0, 0), (.iload_n 1, 0, 0, 0, 0), (.iaload, 0, 0, 0, 0), (.isub, 0, 0, 0, 0)] (8, [some (.ref 0), some (.int cell)], [.int (4 - (σ.1 5 cell.toNatClampNeg))], σ) [sy_okA shX 0 5 cell] (by decide +kernel) rfl ⟨⟨16, _, rfl, b1⟩, trivial⟩ ?_
  exact sy_reti rfl (by decide +kernel) (k1)

set_option maxRecDepth 20000 in
theorem w_x_nextAt {Q : Option Value → sy_S → Prop} {σ : sy_S} {cell : Int32} {side : Int32}  (b1 : vp_in ((cell * 4) + side) 64) (k1 : Q (some (.int (σ.1 4 (((cell * 4) + side).toNatClampNeg)))) σ) : sy_E shX mX3_nextAt (0, sy_ent [.ref 0, .int cell, .int side] 3, [], σ) Q := by
  show sy_E shX mX3_nextAt (0, [some (.ref 0), some (.int cell), some (.int side)], [], σ) _
  refine sy_bk [(.aload_n 0, 0, 0, 0, 0), (.getfield 21, 3, 3, 0, 0), (.iload_n 1, 0, 0, 0, 0), (.iconst 4, 0, 0, 4, 0), (.imul, 0, 0, 0, 0), (.iload_n 2, 0, 0, 0, 0), (.iadd, 0, 0, 0, 0), (.iaload, 0, 0, 0, 0)] (10, [some (.ref 0), some (.int cell), some (.int side)], [.int (σ.1 4 (((cell * 4) + side).toNatClampNeg))], σ) [sy_okA shX 0 4 ((cell * 4) + side)] (by decide +kernel) rfl ⟨⟨64, _, rfl, b1⟩, trivial⟩ ?_
  exact sy_reti rfl (by decide +kernel) (k1)

set_option maxRecDepth 20000 in
theorem w_x_isCell {Q : Option Value → sy_S → Prop} {σ : sy_S} {cell : Int32}   (k1 : cell < 0 → Q (some (.int 0)) σ) (k2 : ¬ (cell < 0) → ((σ.1 0 5) * (σ.1 0 6)) ≤ cell → Q (some (.int 0)) σ) (k3 : ¬ (cell < 0) → ¬ (((σ.1 0 5) * (σ.1 0 6)) ≤ cell) → Q (some (.int 1)) σ) : sy_E shX mX3_isCell (0, sy_ent [.ref 0, .int cell] 2, [], σ) Q := by
  show sy_E shX mX3_isCell (0, [some (.ref 0), some (.int cell)], [], σ) _
  refine sy_bk [(.iload_n 1, 0, 0, 0, 0)] (1, [some (.ref 0), some (.int cell)], [.int cell], σ) [] (by decide +kernel) rfl trivial ?_
  by_cases c1 : cell < 0
  · refine sy_bk [(.ifCond .lt 20, 1, 21, 0, 0)] (21, [some (.ref 0), some (.int cell)], [], σ) [sy_cc .lt cell 0] (by decide +kernel) rfl ⟨c1, trivial⟩ ?_
    refine sy_bk [(.iconst 0, 0, 0, 0, 0)] (22, [some (.ref 0), some (.int cell)], [.int 0], σ) [] (by decide +kernel) rfl trivial ?_
    exact sy_retz rfl (by decide +kernel) (Or.inl rfl) (k1 c1)
  · refine sy_bk [(.ifCond .lt 20, 0, 21, 0, 0)] (4, [some (.ref 0), some (.int cell)], [], σ) [¬ sy_cc .lt cell 0] (by decide +kernel) rfl ⟨c1, trivial⟩ ?_
    refine sy_bk [(.iload_n 1, 0, 0, 0, 0), (.aload_n 0, 0, 0, 0, 0), (.getfield 31, 3, 5, 0, 0), (.aload_n 0, 0, 0, 0, 0), (.getfield 35, 3, 6, 0, 0), (.imul, 0, 0, 0, 0)] (14, [some (.ref 0), some (.int cell)], [.int ((σ.1 0 5) * (σ.1 0 6)), .int cell], σ) [] (by decide +kernel) rfl trivial ?_
    by_cases c2 : ((σ.1 0 5) * (σ.1 0 6)) ≤ cell
    · refine sy_bk [(.if_icmp .ge 7, 1, 21, 0, 0)] (21, [some (.ref 0), some (.int cell)], [], σ) [sy_cc .ge cell ((σ.1 0 5) * (σ.1 0 6))] (by decide +kernel) rfl ⟨c2, trivial⟩ ?_
      refine sy_bk [(.iconst 0, 0, 0, 0, 0)] (22, [some (.ref 0), some (.int cell)], [.int 0], σ) [] (by decide +kernel) rfl trivial ?_
      exact sy_retz rfl (by decide +kernel) (Or.inl rfl) (k2 c1 c2)
    · refine sy_bk [(.if_icmp .ge 7, 0, 21, 0, 0)] (17, [some (.ref 0), some (.int cell)], [], σ) [¬ sy_cc .ge cell ((σ.1 0 5) * (σ.1 0 6))] (by decide +kernel) rfl ⟨c2, trivial⟩ ?_
      refine sy_bk [(.iconst 1, 0, 0, 1, 0), (.goto 4, 0, 22, 0, 0)] (22, [some (.ref 0), some (.int cell)], [.int 1], σ) [] (by decide +kernel) rfl trivial ?_
      exact sy_retz rfl (by decide +kernel) (Or.inr rfl) (k3 c1 c2)

set_option maxRecDepth 20000 in
theorem w_x_isPlace {Q : Option Value → sy_S → Prop} {σ : sy_S} {cell : Int32}  (b1 : ¬ (cell < 0) → ¬ (((σ.1 0 5) * (σ.1 0 6)) ≤ cell) → vp_in cell 16) (k1 : cell < 0 → Q (some (.int 0)) σ) (k2 : ¬ (cell < 0) → ((σ.1 0 5) * (σ.1 0 6)) ≤ cell → Q (some (.int 0)) σ) (k3 : ¬ (cell < 0) → ¬ (((σ.1 0 5) * (σ.1 0 6)) ≤ cell) → ¬ (σ.1 1 cell.toNatClampNeg) = 0 → Q (some (.int 0)) σ) (k4 : ¬ (cell < 0) → ¬ (((σ.1 0 5) * (σ.1 0 6)) ≤ cell) → ¬ (¬ (σ.1 1 cell.toNatClampNeg) = 0) → Q (some (.int 1)) σ) : sy_E shX mX3_isPlace (0, sy_ent [.ref 0, .int cell] 2, [], σ) Q := by
  show sy_E shX mX3_isPlace (0, [some (.ref 0), some (.int cell)], [], σ) _
  refine sy_bk [(.aload_n 0, 0, 0, 0, 0), (.iload_n 1, 0, 0, 0, 0)] (2, [some (.ref 0), some (.int cell)], [.int cell, .ref 0], σ) [] (by decide +kernel) rfl trivial ?_
  refine sy_callV mX3_isCell 0 [.int cell] [] kX3_isCell jX3_57 (by decide +kernel) rfl rfl (Nat.le_of_ble_eq_true rfl) (Nat.le_of_ble_eq_true rfl) (by decide) rfl ?_
  refine w_x_isCell (σ := σ) (cell := cell) ?_ ?_ ?_
  · intro c1
    show sy_E shX mX3_isPlace (5, [some (.ref 0), some (.int cell)], [.int 0], σ) _
    refine sy_bk [(.ifCond .eq 16, 1, 21, 0, 0), (.iconst 0, 0, 0, 0, 0)] (22, [some (.ref 0), some (.int cell)], [.int 0], σ) [sy_cc .eq 0 0] (by decide +kernel) rfl ⟨(by decide : ((0 : Int32) = 0)), trivial⟩ ?_
    exact sy_retz rfl (by decide +kernel) (Or.inl rfl) (k1 c1)
  · intro c2 c3
    show sy_E shX mX3_isPlace (5, [some (.ref 0), some (.int cell)], [.int 0], σ) _
    refine sy_bk [(.ifCond .eq 16, 1, 21, 0, 0), (.iconst 0, 0, 0, 0, 0)] (22, [some (.ref 0), some (.int cell)], [.int 0], σ) [sy_cc .eq 0 0] (by decide +kernel) rfl ⟨(by decide : ((0 : Int32) = 0)), trivial⟩ ?_
    exact sy_retz rfl (by decide +kernel) (Or.inl rfl) (k2 c2 c3)
  · intro c4 c5
    show sy_E shX mX3_isPlace (5, [some (.ref 0), some (.int cell)], [.int 1], σ) _
    refine sy_bk [(.ifCond .eq 16, 0, 21, 0, 0), (.aload_n 0, 0, 0, 0, 0), (.getfield 9, 3, 0, 0, 0), (.iload_n 1, 0, 0, 0, 0), (.iaload, 0, 0, 0, 0)] (14, [some (.ref 0), some (.int cell)], [.int (σ.1 1 cell.toNatClampNeg)], σ) [¬ sy_cc .eq 1 0, sy_okA shX 0 1 cell] (by decide +kernel) rfl ⟨(by decide : ¬ ((1 : Int32) = 0)), ⟨16, _, rfl, (b1 c4 c5)⟩, trivial⟩ ?_
    by_cases c6 : ¬ (σ.1 1 cell.toNatClampNeg) = 0
    · refine sy_bk [(.ifCond .ne 7, 1, 21, 0, 0)] (21, [some (.ref 0), some (.int cell)], [], σ) [sy_cc .ne (σ.1 1 cell.toNatClampNeg) 0] (by decide +kernel) rfl ⟨c6, trivial⟩ ?_
      refine sy_bk [(.iconst 0, 0, 0, 0, 0)] (22, [some (.ref 0), some (.int cell)], [.int 0], σ) [] (by decide +kernel) rfl trivial ?_
      exact sy_retz rfl (by decide +kernel) (Or.inl rfl) (k3 c4 c5 c6)
    · refine sy_bk [(.ifCond .ne 7, 0, 21, 0, 0)] (17, [some (.ref 0), some (.int cell)], [], σ) [¬ sy_cc .ne (σ.1 1 cell.toNatClampNeg) 0] (by decide +kernel) rfl ⟨c6, trivial⟩ ?_
      refine sy_bk [(.iconst 1, 0, 0, 1, 0), (.goto 4, 0, 22, 0, 0)] (22, [some (.ref 0), some (.int cell)], [.int 1], σ) [] (by decide +kernel) rfl trivial ?_
      exact sy_retz rfl (by decide +kernel) (Or.inr rfl) (k4 c4 c5 c6)

set_option maxRecDepth 20000 in
theorem w_x_spill_0 {Q : Option Value → sy_S → Prop} {σ : sy_S} {k : Nat} {cell : Int32} {times : Int32} (hk : shX[k]? = some (0, 16, [])) (b1 : vp_in cell 16) (k1 : sy_E shX mX3_spill (29, [some (.ref 0), some (.ref k), none, some (.int times), none, some (.int ((cell * 4) + ((sy_up σ.1 k cell.toNatClampNeg ((σ.1 k cell.toNatClampNeg) - (4 * times))) 5 cell.toNatClampNeg))), some (.int (cell * 4))], [], (sy_up σ.1 k cell.toNatClampNeg ((σ.1 k cell.toNatClampNeg) - (4 * times)), σ.2)) Q) : sy_E shX mX3_spill (0, sy_ent [.ref 0, .ref k, .int cell, .int times] 7, [], σ) Q := by
  show sy_E shX mX3_spill (0, [some (.ref 0), some (.ref k), some (.int cell), some (.int times), none, none, none], [], σ) _
  refine sy_bk [(.aload_n 1, 0, 0, 0, 0), (.iload_n 2, 0, 0, 0, 0), (.dup2, 0, 0, 0, 0), (.iaload, 0, 0, 0, 0), (.iconst 4, 0, 0, 4, 0), (.iload_n 3, 0, 0, 0, 0), (.imul, 0, 0, 0, 0), (.isub, 0, 0, 0, 0), (.iastore, 0, 0, 0, 0), (.iload_n 2, 0, 0, 0, 0), (.iconst 4, 0, 0, 4, 0), (.imul, 0, 0, 0, 0), (.istore 4, 0, 0, 0, 0), (.iload 4, 0, 0, 0, 0), (.aload_n 0, 0, 0, 0, 0), (.getfield 24, 3, 4, 0, 0), (.iload_n 2, 0, 0, 0, 0), (.iaload, 0, 0, 0, 0), (.iadd, 0, 0, 0, 0), (.istore 5, 0, 0, 0, 0), (.iload 4, 0, 0, 0, 0), (.istore 6, 0, 0, 0, 0)] (29, [some (.ref 0), some (.ref k), some (.int cell), some (.int times), some (.int (cell * 4)), some (.int ((cell * 4) + ((sy_up σ.1 k cell.toNatClampNeg ((σ.1 k cell.toNatClampNeg) - (4 * times))) 5 cell.toNatClampNeg))), some (.int (cell * 4))], [], (sy_up σ.1 k cell.toNatClampNeg ((σ.1 k cell.toNatClampNeg) - (4 * times)), σ.2)) [sy_okA shX 0 k cell, sy_okA shX 0 k cell, sy_okA shX 0 5 cell] (by decide +kernel) rfl ⟨⟨16, _, hk, b1⟩, ⟨16, _, hk, b1⟩, ⟨16, _, rfl, b1⟩, trivial⟩ ?_
  refine sy_drop [some (.ref 0), some (.ref k), none, some (.int times), none, some (.int ((cell * 4) + ((sy_up σ.1 k cell.toNatClampNeg ((σ.1 k cell.toNatClampNeg) - (4 * times))) 5 cell.toNatClampNeg))), some (.int (cell * 4))] ⟨rfl, rfl, rfl, rfl, rfl, trivial⟩ ?_
  exact k1

set_option maxRecDepth 20000 in
theorem w_x_spill_29 {Q : Option Value → sy_S → Prop} {σ : sy_S} {k : Nat} {times : Int32} {b : Int32} {i : Int32} (hk : shX[k]? = some (0, 16, [])) (b1 : ¬ (b ≤ i) → vp_in i 64) (b2 : ¬ (b ≤ i) → vp_in (σ.1 4 i.toNatClampNeg) 16) (k1 : b ≤ i → Q none σ) (k2 : ¬ (b ≤ i) → sy_E shX mX3_spill (29, [some (.ref 0), some (.ref k), none, some (.int times), none, some (.int b), some (.int (i + 1))], [], (sy_up σ.1 k ((σ.1 4 i.toNatClampNeg).toNatClampNeg) ((σ.1 k ((σ.1 4 i.toNatClampNeg).toNatClampNeg)) + times), σ.2)) Q) : sy_E shX mX3_spill (29, [some (.ref 0), some (.ref k), none, some (.int times), none, some (.int b), some (.int i)], [], σ) Q := by
  refine sy_bk [(.iload 6, 0, 0, 0, 0), (.iload 5, 0, 0, 0, 0)] (33, [some (.ref 0), some (.ref k), none, some (.int times), none, some (.int b), some (.int i)], [.int b, .int i], σ) [] (by decide +kernel) rfl trivial ?_
  by_cases c1 : b ≤ i
  · refine sy_bk [(.if_icmp .ge 22, 1, 55, 0, 0)] (55, [some (.ref 0), some (.ref k), none, some (.int times), none, some (.int b), some (.int i)], [], σ) [sy_cc .ge i b] (by decide +kernel) rfl ⟨c1, trivial⟩ ?_
    exact sy_retv rfl (by decide +kernel) (k1 c1)
  · refine sy_bk [(.if_icmp .ge 22, 0, 55, 0, 0)] (36, [some (.ref 0), some (.ref k), none, some (.int times), none, some (.int b), some (.int i)], [], σ) [¬ sy_cc .ge i b] (by decide +kernel) rfl ⟨c1, trivial⟩ ?_
    refine sy_bk [(.aload_n 1, 0, 0, 0, 0), (.aload_n 0, 0, 0, 0, 0), (.getfield 21, 3, 3, 0, 0), (.iload 6, 0, 0, 0, 0), (.iaload, 0, 0, 0, 0), (.dup2, 0, 0, 0, 0), (.iaload, 0, 0, 0, 0), (.iload_n 3, 0, 0, 0, 0), (.iadd, 0, 0, 0, 0), (.iastore, 0, 0, 0, 0), (.iinc 6 1, 0, 0, 1, 0), (.goto (-23), 0, 29, 0, 0)] (29, [some (.ref 0), some (.ref k), none, some (.int times), none, some (.int b), some (.int (i + 1))], [], (sy_up σ.1 k ((σ.1 4 i.toNatClampNeg).toNatClampNeg) ((σ.1 k ((σ.1 4 i.toNatClampNeg).toNatClampNeg)) + times), σ.2)) [sy_okA shX 0 4 i, sy_okA shX 0 k (σ.1 4 i.toNatClampNeg), sy_okA shX 0 k (σ.1 4 i.toNatClampNeg)] (by decide +kernel) rfl ⟨⟨64, _, rfl, (b1 c1)⟩, ⟨16, _, hk, (b2 c1)⟩, ⟨16, _, hk, (b2 c1)⟩, trivial⟩ ?_
    exact k2 c1

set_option maxRecDepth 20000 in
theorem w_x_grainsOf_0 {Q : Option Value → sy_S → Prop} {σ : sy_S} {k : Nat} (hk : shX[k]? = some (0, 16, []))  (k1 : sy_E shX mX3_grainsOf (4, [some (.ref 0), some (.ref k), some (.int 0), some (.int 0)], [], σ) Q) : sy_E shX mX3_grainsOf (0, sy_ent [.ref 0, .ref k] 4, [], σ) Q := by
  show sy_E shX mX3_grainsOf (0, [some (.ref 0), some (.ref k), none, none], [], σ) _
  refine sy_bk [(.iconst 0, 0, 0, 0, 0), (.istore_n 2, 0, 0, 0, 0), (.iconst 0, 0, 0, 0, 0), (.istore_n 3, 0, 0, 0, 0)] (4, [some (.ref 0), some (.ref k), some (.int 0), some (.int 0)], [], σ) [] (by decide +kernel) rfl trivial ?_
  exact k1

set_option maxRecDepth 20000 in
theorem w_x_grainsOf_4 {Q : Option Value → sy_S → Prop} {σ : sy_S} {k : Nat} {s : Int32} {i : Int32} (hk : shX[k]? = some (0, 16, [])) (b1 : ¬ ((σ.1 0 7) ≤ i) → vp_in i 16) (b2 : ¬ ((σ.1 0 7) ≤ i) → vp_in (σ.1 2 i.toNatClampNeg) 16) (k1 : (σ.1 0 7) ≤ i → Q (some (.int s)) σ) (k2 : ¬ ((σ.1 0 7) ≤ i) → sy_E shX mX3_grainsOf (4, [some (.ref 0), some (.ref k), some (.int (s + (σ.1 k ((σ.1 2 i.toNatClampNeg).toNatClampNeg)))), some (.int (i + 1))], [], σ) Q) : sy_E shX mX3_grainsOf (4, [some (.ref 0), some (.ref k), some (.int s), some (.int i)], [], σ) Q := by
  refine sy_bk [(.iload_n 3, 0, 0, 0, 0), (.aload_n 0, 0, 0, 0, 0), (.getfield 47, 3, 7, 0, 0)] (9, [some (.ref 0), some (.ref k), some (.int s), some (.int i)], [.int (σ.1 0 7), .int i], σ) [] (by decide +kernel) rfl trivial ?_
  by_cases c1 : (σ.1 0 7) ≤ i
  · refine sy_bk [(.if_icmp .ge 20, 1, 29, 0, 0)] (29, [some (.ref 0), some (.ref k), some (.int s), some (.int i)], [], σ) [sy_cc .ge i (σ.1 0 7)] (by decide +kernel) rfl ⟨c1, trivial⟩ ?_
    refine sy_bk [(.iload_n 2, 0, 0, 0, 0)] (30, [some (.ref 0), some (.ref k), some (.int s), some (.int i)], [.int s], σ) [] (by decide +kernel) rfl trivial ?_
    exact sy_reti rfl (by decide +kernel) (k1 c1)
  · refine sy_bk [(.if_icmp .ge 20, 0, 29, 0, 0)] (12, [some (.ref 0), some (.ref k), some (.int s), some (.int i)], [], σ) [¬ sy_cc .ge i (σ.1 0 7)] (by decide +kernel) rfl ⟨c1, trivial⟩ ?_
    refine sy_bk [(.iload_n 2, 0, 0, 0, 0), (.aload_n 1, 0, 0, 0, 0), (.aload_n 0, 0, 0, 0, 0), (.getfield 15, 3, 1, 0, 0), (.iload_n 3, 0, 0, 0, 0), (.iaload, 0, 0, 0, 0), (.iaload, 0, 0, 0, 0), (.iadd, 0, 0, 0, 0), (.istore_n 2, 0, 0, 0, 0), (.iinc 3 1, 0, 0, 1, 0), (.goto (-22), 0, 4, 0, 0)] (4, [some (.ref 0), some (.ref k), some (.int (s + (σ.1 k ((σ.1 2 i.toNatClampNeg).toNatClampNeg)))), some (.int (i + 1))], [], σ) [sy_okA shX 0 2 i, sy_okA shX 0 k (σ.1 2 i.toNatClampNeg)] (by decide +kernel) rfl ⟨⟨16, _, rfl, (b1 c1)⟩, ⟨16, _, hk, (b2 c1)⟩, trivial⟩ ?_
    exact k2 c1

set_option maxRecDepth 20000 in
theorem w_x_isStable_0 {Q : Option Value → sy_S → Prop} {σ : sy_S} {k : Nat} (hk : shX[k]? = some (0, 16, []))  (k1 : sy_E shX mX3_isStable (2, [some (.ref 0), some (.ref k), some (.int 0)], [], σ) Q) : sy_E shX mX3_isStable (0, sy_ent [.ref 0, .ref k] 3, [], σ) Q := by
  show sy_E shX mX3_isStable (0, [some (.ref 0), some (.ref k), none], [], σ) _
  refine sy_bk [(.iconst 0, 0, 0, 0, 0), (.istore_n 2, 0, 0, 0, 0)] (2, [some (.ref 0), some (.ref k), some (.int 0)], [], σ) [] (by decide +kernel) rfl trivial ?_
  exact k1

set_option maxRecDepth 20000 in
theorem w_x_isStable_2 {Q : Option Value → sy_S → Prop} {σ : sy_S} {k : Nat} {i : Int32} (hk : shX[k]? = some (0, 16, [])) (b1 : ¬ ((σ.1 0 7) ≤ i) → vp_in i 16) (b2 : ¬ ((σ.1 0 7) ≤ i) → vp_in (σ.1 2 i.toNatClampNeg) 16) (k1 : (σ.1 0 7) ≤ i → Q (some (.int 1)) σ) (k2 : ¬ ((σ.1 0 7) ≤ i) → (σ.1 k ((σ.1 2 i.toNatClampNeg).toNatClampNeg)) ≤ 3 → sy_E shX mX3_isStable (2, [some (.ref 0), some (.ref k), some (.int (i + 1))], [], σ) Q) (k3 : ¬ ((σ.1 0 7) ≤ i) → ¬ ((σ.1 k ((σ.1 2 i.toNatClampNeg).toNatClampNeg)) ≤ 3) → Q (some (.int 0)) σ) : sy_E shX mX3_isStable (2, [some (.ref 0), some (.ref k), some (.int i)], [], σ) Q := by
  refine sy_bk [(.iload_n 2, 0, 0, 0, 0), (.aload_n 0, 0, 0, 0, 0), (.getfield 47, 3, 7, 0, 0)] (7, [some (.ref 0), some (.ref k), some (.int i)], [.int (σ.1 0 7), .int i], σ) [] (by decide +kernel) rfl trivial ?_
  by_cases c1 : (σ.1 0 7) ≤ i
  · refine sy_bk [(.if_icmp .ge 23, 1, 30, 0, 0)] (30, [some (.ref 0), some (.ref k), some (.int i)], [], σ) [sy_cc .ge i (σ.1 0 7)] (by decide +kernel) rfl ⟨c1, trivial⟩ ?_
    refine sy_bk [(.iconst 1, 0, 0, 1, 0)] (31, [some (.ref 0), some (.ref k), some (.int i)], [.int 1], σ) [] (by decide +kernel) rfl trivial ?_
    exact sy_retz rfl (by decide +kernel) (Or.inr rfl) (k1 c1)
  · refine sy_bk [(.if_icmp .ge 23, 0, 30, 0, 0)] (10, [some (.ref 0), some (.ref k), some (.int i)], [], σ) [¬ sy_cc .ge i (σ.1 0 7)] (by decide +kernel) rfl ⟨c1, trivial⟩ ?_
    refine sy_bk [(.aload_n 1, 0, 0, 0, 0), (.aload_n 0, 0, 0, 0, 0), (.getfield 15, 3, 1, 0, 0), (.iload_n 2, 0, 0, 0, 0), (.iaload, 0, 0, 0, 0), (.iaload, 0, 0, 0, 0), (.iconst 3, 0, 0, 3, 0)] (19, [some (.ref 0), some (.ref k), some (.int i)], [.int 3, .int (σ.1 k ((σ.1 2 i.toNatClampNeg).toNatClampNeg))], σ) [sy_okA shX 0 2 i, sy_okA shX 0 k (σ.1 2 i.toNatClampNeg)] (by decide +kernel) rfl ⟨⟨16, _, rfl, (b1 c1)⟩, ⟨16, _, hk, (b2 c1)⟩, trivial⟩ ?_
    by_cases c2 : (σ.1 k ((σ.1 2 i.toNatClampNeg).toNatClampNeg)) ≤ 3
    · refine sy_bk [(.if_icmp .le 5, 1, 24, 0, 0)] (24, [some (.ref 0), some (.ref k), some (.int i)], [], σ) [sy_cc .le (σ.1 k ((σ.1 2 i.toNatClampNeg).toNatClampNeg)) 3] (by decide +kernel) rfl ⟨c2, trivial⟩ ?_
      refine sy_bk [(.iinc 2 1, 0, 0, 1, 0), (.goto (-25), 0, 2, 0, 0)] (2, [some (.ref 0), some (.ref k), some (.int (i + 1))], [], σ) [] (by decide +kernel) rfl trivial ?_
      exact k2 c1 c2
    · refine sy_bk [(.if_icmp .le 5, 0, 24, 0, 0)] (22, [some (.ref 0), some (.ref k), some (.int i)], [], σ) [¬ sy_cc .le (σ.1 k ((σ.1 2 i.toNatClampNeg).toNatClampNeg)) 3] (by decide +kernel) rfl ⟨c2, trivial⟩ ?_
      refine sy_bk [(.iconst 0, 0, 0, 0, 0)] (23, [some (.ref 0), some (.ref k), some (.int i)], [.int 0], σ) [] (by decide +kernel) rfl trivial ?_
      exact sy_retz rfl (by decide +kernel) (Or.inl rfl) (k3 c1 c2)

set_option maxRecDepth 20000 in
theorem w_x_pack_0 {Q : Option Value → sy_S → Prop} {σ : sy_S} {k : Nat} (hk : shX[k]? = some (0, 16, []))  (k1 : sy_E shX mX3_pack (9, [some (.ref 0), some (.ref k), some (.int 0), some (.int ((σ.1 0 7) - 1))], [], σ) Q) : sy_E shX mX3_pack (0, sy_ent [.ref 0, .ref k] 4, [], σ) Q := by
  show sy_E shX mX3_pack (0, [some (.ref 0), some (.ref k), none, none], [], σ) _
  refine sy_bk [(.iconst 0, 0, 0, 0, 0), (.istore_n 2, 0, 0, 0, 0), (.aload_n 0, 0, 0, 0, 0), (.getfield 47, 3, 7, 0, 0), (.iconst 1, 0, 0, 1, 0), (.isub, 0, 0, 0, 0), (.istore_n 3, 0, 0, 0, 0)] (9, [some (.ref 0), some (.ref k), some (.int 0), some (.int ((σ.1 0 7) - 1))], [], σ) [] (by decide +kernel) rfl trivial ?_
  exact k1

set_option maxRecDepth 20000 in
theorem w_x_pack_9 {Q : Option Value → sy_S → Prop} {σ : sy_S} {k : Nat} {s : Int32} {i : Int32} (hk : shX[k]? = some (0, 16, [])) (b1 : ¬ (i < 0) → vp_in i 16) (b2 : ¬ (i < 0) → vp_in (σ.1 2 i.toNatClampNeg) 16) (k1 : i < 0 → Q (some (.int s)) σ) (k2 : ¬ (i < 0) → sy_E shX mX3_pack (9, [some (.ref 0), some (.ref k), some (.int ((s <<< (2 &&& 31)) ||| (σ.1 k ((σ.1 2 i.toNatClampNeg).toNatClampNeg)))), some (.int (i + (-1)))], [], σ) Q) : sy_E shX mX3_pack (9, [some (.ref 0), some (.ref k), some (.int s), some (.int i)], [], σ) Q := by
  refine sy_bk [(.iload_n 3, 0, 0, 0, 0)] (10, [some (.ref 0), some (.ref k), some (.int s), some (.int i)], [.int i], σ) [] (by decide +kernel) rfl trivial ?_
  by_cases c1 : i < 0
  · refine sy_bk [(.ifCond .lt 22, 1, 32, 0, 0)] (32, [some (.ref 0), some (.ref k), some (.int s), some (.int i)], [], σ) [sy_cc .lt i 0] (by decide +kernel) rfl ⟨c1, trivial⟩ ?_
    refine sy_bk [(.iload_n 2, 0, 0, 0, 0)] (33, [some (.ref 0), some (.ref k), some (.int s), some (.int i)], [.int s], σ) [] (by decide +kernel) rfl trivial ?_
    exact sy_reti rfl (by decide +kernel) (k1 c1)
  · refine sy_bk [(.ifCond .lt 22, 0, 32, 0, 0)] (13, [some (.ref 0), some (.ref k), some (.int s), some (.int i)], [], σ) [¬ sy_cc .lt i 0] (by decide +kernel) rfl ⟨c1, trivial⟩ ?_
    refine sy_bk [(.iload_n 2, 0, 0, 0, 0), (.iconst 2, 0, 0, 2, 0), (.ishl, 0, 0, 0, 0), (.aload_n 1, 0, 0, 0, 0), (.aload_n 0, 0, 0, 0, 0), (.getfield 15, 3, 1, 0, 0), (.iload_n 3, 0, 0, 0, 0), (.iaload, 0, 0, 0, 0), (.iaload, 0, 0, 0, 0), (.ior, 0, 0, 0, 0), (.istore_n 2, 0, 0, 0, 0), (.iinc 3 (-1), 0, 0, (-1), 0), (.goto (-20), 0, 9, 0, 0)] (9, [some (.ref 0), some (.ref k), some (.int ((s <<< (2 &&& 31)) ||| (σ.1 k ((σ.1 2 i.toNatClampNeg).toNatClampNeg)))), some (.int (i + (-1)))], [], σ) [sy_okA shX 0 2 i, sy_okA shX 0 k (σ.1 2 i.toNatClampNeg)] (by decide +kernel) rfl ⟨⟨16, _, rfl, (b1 c1)⟩, ⟨16, _, hk, (b2 c1)⟩, trivial⟩ ?_
    exact k2 c1

set_option maxRecDepth 20000 in
theorem w_x_unpack_0 {Q : Option Value → sy_S → Prop} {σ : sy_S} {k : Nat} {code : Int32} (hk : shX[k]? = some (0, 16, []))  (k1 : sy_E shX mX3_unpack (5, [some (.ref 0), none, some (.ref k), some (.int code), some (.int 0)], [], σ) Q) : sy_E shX mX3_unpack (0, sy_ent [.ref 0, .int code, .ref k] 5, [], σ) Q := by
  show sy_E shX mX3_unpack (0, [some (.ref 0), some (.int code), some (.ref k), none, none], [], σ) _
  refine sy_bk [(.iload_n 1, 0, 0, 0, 0), (.istore_n 3, 0, 0, 0, 0), (.iconst 0, 0, 0, 0, 0), (.istore 4, 0, 0, 0, 0)] (5, [some (.ref 0), some (.int code), some (.ref k), some (.int code), some (.int 0)], [], σ) [] (by decide +kernel) rfl trivial ?_
  refine sy_drop [some (.ref 0), none, some (.ref k), some (.int code), some (.int 0)] ⟨rfl, rfl, rfl, rfl, trivial⟩ ?_
  exact k1

set_option maxRecDepth 20000 in
theorem w_x_unpack_5 {Q : Option Value → sy_S → Prop} {σ : sy_S} {k : Nat} {s : Int32} {i : Int32} (hk : shX[k]? = some (0, 16, [])) (b1 : ¬ ((σ.1 0 7) ≤ i) → vp_in i 16) (b2 : ¬ ((σ.1 0 7) ≤ i) → vp_in (σ.1 2 i.toNatClampNeg) 16) (k1 : (σ.1 0 7) ≤ i → Q none σ) (k2 : ¬ ((σ.1 0 7) ≤ i) → sy_E shX mX3_unpack (5, [some (.ref 0), none, some (.ref k), some (.int ((s.toUInt32 >>> (Int32.toUInt32 2 &&& Int32.toUInt32 31)).toInt32)), some (.int (i + 1))], [], (sy_up σ.1 k ((σ.1 2 i.toNatClampNeg).toNatClampNeg) (s &&& 3), σ.2)) Q) : sy_E shX mX3_unpack (5, [some (.ref 0), none, some (.ref k), some (.int s), some (.int i)], [], σ) Q := by
  refine sy_bk [(.iload 4, 0, 0, 0, 0), (.aload_n 0, 0, 0, 0, 0), (.getfield 47, 3, 7, 0, 0)] (11, [some (.ref 0), none, some (.ref k), some (.int s), some (.int i)], [.int (σ.1 0 7), .int i], σ) [] (by decide +kernel) rfl trivial ?_
  by_cases c1 : (σ.1 0 7) ≤ i
  · refine sy_bk [(.if_icmp .ge 25, 1, 36, 0, 0)] (36, [some (.ref 0), none, some (.ref k), some (.int s), some (.int i)], [], σ) [sy_cc .ge i (σ.1 0 7)] (by decide +kernel) rfl ⟨c1, trivial⟩ ?_
    exact sy_retv rfl (by decide +kernel) (k1 c1)
  · refine sy_bk [(.if_icmp .ge 25, 0, 36, 0, 0)] (14, [some (.ref 0), none, some (.ref k), some (.int s), some (.int i)], [], σ) [¬ sy_cc .ge i (σ.1 0 7)] (by decide +kernel) rfl ⟨c1, trivial⟩ ?_
    refine sy_bk [(.aload_n 2, 0, 0, 0, 0), (.aload_n 0, 0, 0, 0, 0), (.getfield 15, 3, 1, 0, 0), (.iload 4, 0, 0, 0, 0), (.iaload, 0, 0, 0, 0), (.iload_n 3, 0, 0, 0, 0), (.iconst 3, 0, 0, 3, 0), (.iand, 0, 0, 0, 0), (.iastore, 0, 0, 0, 0), (.iload_n 3, 0, 0, 0, 0), (.iconst 2, 0, 0, 2, 0), (.iushr, 0, 0, 0, 0), (.istore_n 3, 0, 0, 0, 0), (.iinc 4 1, 0, 0, 1, 0), (.goto (-28), 0, 5, 0, 0)] (5, [some (.ref 0), none, some (.ref k), some (.int ((s.toUInt32 >>> (Int32.toUInt32 2 &&& Int32.toUInt32 31)).toInt32)), some (.int (i + 1))], [], (sy_up σ.1 k ((σ.1 2 i.toNatClampNeg).toNatClampNeg) (s &&& 3), σ.2)) [sy_okA shX 0 2 i, sy_okA shX 0 k (σ.1 2 i.toNatClampNeg)] (by decide +kernel) rfl ⟨⟨16, _, rfl, (b1 c1)⟩, ⟨16, _, hk, (b2 c1)⟩, trivial⟩ ?_
    exact k2 c1

set_option maxRecDepth 20000 in
theorem w_x_begin_0 {Q : Option Value → sy_S → Prop} {σ : sy_S} {k : Nat} (hk : shX[k]? = some (0, 16, []))  (k1 : sy_E shX mJ7_fill_53178 (0, sy_ent [.ref 41, .int 0] 4, [], (sy_cp σ.1 k 40 16, σ.2)) (fun r9 σ9 => sy_E shX mX1_begin (20, [none, none], r9.toList ++ [], σ9) Q)) : sy_E shX mX1_begin (0, sy_ent [.ref 39, .ref k] 2, [], σ) Q := by
  show sy_E shX mX1_begin (0, [some (.ref 39), some (.ref k)], [], σ) _
  refine sy_bk [(.aload_n 1, 0, 0, 0, 0), (.iconst 0, 0, 0, 0, 0), (.aload_n 0, 0, 0, 0, 0), (.getfield 9, 1, 1, 0, 0), (.iconst 0, 0, 0, 0, 0), (.bipush 16, 0, 0, 16, 0)] (9, [some (.ref 39), some (.ref k)], [.int 16, .int 0, .ref 40, .int 0, .ref k], σ) [] (by decide +kernel) rfl trivial ?_
  refine sy_copy [] jX1_22 (by decide +kernel) rfl hk rfl (by decide) (by decide) (Nat.le_of_ble_eq_true rfl) (by decide) (by decide) ?_
  show sy_E shX mX1_begin (12, [some (.ref 39), some (.ref k)], [], (sy_cp σ.1 k 40 16, σ.2)) _
  refine sy_bk [(.aload_n 0, 0, 0, 0, 0), (.getfield 15, 1, 2, 0, 0), (.iconst 0, 0, 0, 0, 0)] (17, [some (.ref 39), some (.ref k)], [.int 0, .ref 41], (sy_cp σ.1 k 40 16, σ.2)) [] (by decide +kernel) rfl trivial ?_
  refine sy_drop [none, none] trivial ?_
  refine sy_callS mJ7_fill_53178 [.ref 41, .int 0] [] kJ7_fill_53178 jX1_28 (by decide +kernel) rfl rfl (Nat.le_of_ble_eq_true rfl) (Nat.le_of_ble_eq_true rfl) (by decide) ?_
  exact k1

set_option maxRecDepth 20000 in
theorem w_x_begin_20 {Q : Option Value → sy_S → Prop} {σ : sy_S}    (k1 : Q none σ) : sy_E shX mX1_begin (20, [none, none], [], σ) Q := by
  exact sy_retv rfl (by decide +kernel) (k1)

set_option maxRecDepth 20000 in
theorem w_x_forget_0 {Q : Option Value → sy_S → Prop} {σ : sy_S}    (k1 : sy_E shX mJ7_fill_53178 (0, sy_ent [.ref 41, .int 0] 4, [], σ) (fun r9 σ9 => sy_E shX mX1_forgetCounts (8, [none], r9.toList ++ [], σ9) Q)) : sy_E shX mX1_forgetCounts (0, sy_ent [.ref 39] 1, [], σ) Q := by
  show sy_E shX mX1_forgetCounts (0, [some (.ref 39)], [], σ) _
  refine sy_bk [(.aload_n 0, 0, 0, 0, 0), (.getfield 15, 1, 2, 0, 0), (.iconst 0, 0, 0, 0, 0)] (5, [some (.ref 39)], [.int 0, .ref 41], σ) [] (by decide +kernel) rfl trivial ?_
  refine sy_drop [none] trivial ?_
  refine sy_callS mJ7_fill_53178 [.ref 41, .int 0] [] kJ7_fill_53178 jX1_28 (by decide +kernel) rfl rfl (Nat.le_of_ble_eq_true rfl) (Nat.le_of_ble_eq_true rfl) (by decide) ?_
  exact k1

set_option maxRecDepth 20000 in
theorem w_x_forget_8 {Q : Option Value → sy_S → Prop} {σ : sy_S}    (k1 : Q none σ) : sy_E shX mX1_forgetCounts (8, [none], [], σ) Q := by
  exact sy_retv rfl (by decide +kernel) (k1)

set_option maxRecDepth 20000 in
theorem w_x_addGrain {Q : Option Value → sy_S → Prop} {σ : sy_S} {cell : Int32}  (b1 : vp_in cell 16) (k1 : Q none (sy_up σ.1 40 cell.toNatClampNeg ((σ.1 40 cell.toNatClampNeg) + 1), σ.2)) : sy_E shX mX1_addGrain (0, sy_ent [.ref 39, .int cell] 2, [], σ) Q := by
  show sy_E shX mX1_addGrain (0, [some (.ref 39), some (.int cell)], [], σ) _
  refine sy_bk [(.aload_n 0, 0, 0, 0, 0), (.getfield 9, 1, 1, 0, 0), (.iload_n 1, 0, 0, 0, 0), (.dup2, 0, 0, 0, 0), (.iaload, 0, 0, 0, 0), (.iconst 1, 0, 0, 1, 0), (.iadd, 0, 0, 0, 0), (.iastore, 0, 0, 0, 0)] (10, [some (.ref 39), some (.int cell)], [], (sy_up σ.1 40 cell.toNatClampNeg ((σ.1 40 cell.toNatClampNeg) + 1), σ.2)) [sy_okA shX 0 40 cell, sy_okA shX 0 40 cell] (by decide +kernel) rfl ⟨⟨16, _, rfl, b1⟩, ⟨16, _, rfl, b1⟩, trivial⟩ ?_
  exact sy_retv rfl (by decide +kernel) (k1)

set_option maxRecDepth 20000 in
theorem w_x_level_0 {Q : Option Value → sy_S → Prop} {σ : sy_S}    (k1 : sy_E shX mX1_level (24, [some (.ref 39), some (.ref 2), some (.int (σ.1 0 7)), some (.int 0), some (.int 1), some (.int 0), none, none, none], [], σ) Q) : sy_E shX mX1_level (0, sy_ent [.ref 39] 9, [], σ) Q := by
  show sy_E shX mX1_level (0, [some (.ref 39), none, none, none, none, none, none, none, none], [], σ) _
  refine sy_bk [(.aload_n 0, 0, 0, 0, 0), (.getfield 18, 1, 0, 0, 0), (.getfield 34, 3, 1, 0, 0), (.astore_n 1, 0, 0, 0, 0), (.aload_n 0, 0, 0, 0, 0), (.getfield 18, 1, 0, 0, 0), (.getfield 39, 3, 7, 0, 0), (.istore_n 2, 0, 0, 0, 0), (.iconst 0, 0, 0, 0, 0), (.istore_n 3, 0, 0, 0, 0), (.iconst 1, 0, 0, 1, 0), (.istore 4, 0, 0, 0, 0), (.iconst 0, 0, 0, 0, 0), (.istore 5, 0, 0, 0, 0)] (24, [some (.ref 39), some (.ref 2), some (.int (σ.1 0 7)), some (.int 0), some (.int 1), some (.int 0), none, none, none], [], σ) [] (by decide +kernel) rfl trivial ?_
  exact k1

set_option maxRecDepth 20000 in
theorem w_x_level_24 {Q : Option Value → sy_S → Prop} {σ : sy_S} {n : Int32} {tot : Int32} {mv : Int32} {sw : Int32}   (k1 : mv = 0 → Q (some (.int tot)) σ) (k2 : ¬ (mv = 0) → 1000000 ≤ sw → Q (some (.int tot)) σ) (k3 : ¬ (mv = 0) → ¬ (1000000 ≤ sw) → sy_E shX mX1_level (42, [some (.ref 39), some (.ref 2), some (.int n), some (.int tot), some (.int 0), some (.int sw), some (.int 0), none, none], [], σ) Q) : sy_E shX mX1_level (24, [some (.ref 39), some (.ref 2), some (.int n), some (.int tot), some (.int mv), some (.int sw), none, none, none], [], σ) Q := by
  refine sy_bk [(.iload 4, 0, 0, 0, 0)] (26, [some (.ref 39), some (.ref 2), some (.int n), some (.int tot), some (.int mv), some (.int sw), none, none, none], [.int mv], σ) [] (by decide +kernel) rfl trivial ?_
  by_cases c1 : mv = 0
  · refine sy_bk [(.ifCond .eq 97, 1, 123, 0, 0)] (123, [some (.ref 39), some (.ref 2), some (.int n), some (.int tot), some (.int mv), some (.int sw), none, none, none], [], σ) [sy_cc .eq mv 0] (by decide +kernel) rfl ⟨c1, trivial⟩ ?_
    refine sy_bk [(.iload_n 3, 0, 0, 0, 0)] (124, [some (.ref 39), some (.ref 2), some (.int n), some (.int tot), some (.int mv), some (.int sw), none, none, none], [.int tot], σ) [] (by decide +kernel) rfl trivial ?_
    exact sy_reti rfl (by decide +kernel) (k1 c1)
  · refine sy_bk [(.ifCond .eq 97, 0, 123, 0, 0)] (29, [some (.ref 39), some (.ref 2), some (.int n), some (.int tot), some (.int mv), some (.int sw), none, none, none], [], σ) [¬ sy_cc .eq mv 0] (by decide +kernel) rfl ⟨c1, trivial⟩ ?_
    refine sy_bk [(.iload 5, 0, 0, 0, 0), (.ldc 43, 0, 0, 1000000, 0)] (33, [some (.ref 39), some (.ref 2), some (.int n), some (.int tot), some (.int mv), some (.int sw), none, none, none], [.int 1000000, .int sw], σ) [] (by decide +kernel) rfl trivial ?_
    by_cases c2 : 1000000 ≤ sw
    · refine sy_bk [(.if_icmp .ge 90, 1, 123, 0, 0)] (123, [some (.ref 39), some (.ref 2), some (.int n), some (.int tot), some (.int mv), some (.int sw), none, none, none], [], σ) [sy_cc .ge sw 1000000] (by decide +kernel) rfl ⟨c2, trivial⟩ ?_
      refine sy_bk [(.iload_n 3, 0, 0, 0, 0)] (124, [some (.ref 39), some (.ref 2), some (.int n), some (.int tot), some (.int mv), some (.int sw), none, none, none], [.int tot], σ) [] (by decide +kernel) rfl trivial ?_
      exact sy_reti rfl (by decide +kernel) (k2 c1 c2)
    · refine sy_bk [(.if_icmp .ge 90, 0, 123, 0, 0)] (36, [some (.ref 39), some (.ref 2), some (.int n), some (.int tot), some (.int mv), some (.int sw), none, none, none], [], σ) [¬ sy_cc .ge sw 1000000] (by decide +kernel) rfl ⟨c2, trivial⟩ ?_
      refine sy_bk [(.iconst 0, 0, 0, 0, 0), (.istore 4, 0, 0, 0, 0), (.iconst 0, 0, 0, 0, 0), (.istore 6, 0, 0, 0, 0)] (42, [some (.ref 39), some (.ref 2), some (.int n), some (.int tot), some (.int 0), some (.int sw), some (.int 0), none, none], [], σ) [] (by decide +kernel) rfl trivial ?_
      exact k3 c1 c2

set_option maxRecDepth 20000 in
theorem w_x_level_42 {Q : Option Value → sy_S → Prop} {σ : sy_S} {n : Int32} {tot : Int32} {mv : Int32} {sw : Int32} {i : Int32}  (b1 : ¬ (n ≤ i) → vp_in i 16) (b2 : ¬ (n ≤ i) → vp_in (σ.1 2 i.toNatClampNeg) 16) (k1 : n ≤ i → sy_E shX mX1_level (24, [some (.ref 39), some (.ref 2), some (.int n), some (.int tot), some (.int mv), some (.int (sw + 1)), none, none, none], [], σ) Q) (k2 : ¬ (n ≤ i) → (σ.1 40 ((σ.1 2 i.toNatClampNeg).toNatClampNeg)) ≤ 3 → sy_E shX mX1_level (42, [some (.ref 39), some (.ref 2), some (.int n), some (.int tot), some (.int mv), some (.int sw), some (.int (i + 1)), none, none], [], σ) Q) (k3 : ¬ (n ≤ i) → ¬ ((σ.1 40 ((σ.1 2 i.toNatClampNeg).toNatClampNeg)) ≤ 3) → sy_E shX mX3_spill (0, sy_ent [.ref 0, .ref 40, .int (σ.1 2 i.toNatClampNeg), .int ((σ.1 40 ((σ.1 2 i.toNatClampNeg).toNatClampNeg)) / 4)] 7, [], σ) (fun r9 σ9 => sy_E shX mX1_level (91, [some (.ref 39), some (.ref 2), some (.int n), some (.int tot), none, some (.int sw), some (.int i), some (.int (σ.1 2 i.toNatClampNeg)), some (.int ((σ.1 40 ((σ.1 2 i.toNatClampNeg).toNatClampNeg)) / 4))], r9.toList ++ [], σ9) Q)) : sy_E shX mX1_level (42, [some (.ref 39), some (.ref 2), some (.int n), some (.int tot), some (.int mv), some (.int sw), some (.int i), none, none], [], σ) Q := by
  refine sy_bk [(.iload 6, 0, 0, 0, 0), (.iload_n 2, 0, 0, 0, 0)] (45, [some (.ref 39), some (.ref 2), some (.int n), some (.int tot), some (.int mv), some (.int sw), some (.int i), none, none], [.int n, .int i], σ) [] (by decide +kernel) rfl trivial ?_
  by_cases c1 : n ≤ i
  · refine sy_bk [(.if_icmp .ge 72, 1, 117, 0, 0)] (117, [some (.ref 39), some (.ref 2), some (.int n), some (.int tot), some (.int mv), some (.int sw), some (.int i), none, none], [], σ) [sy_cc .ge i n] (by decide +kernel) rfl ⟨c1, trivial⟩ ?_
    refine sy_bk [(.iinc 5 1, 0, 0, 1, 0), (.goto (-96), 0, 24, 0, 0)] (24, [some (.ref 39), some (.ref 2), some (.int n), some (.int tot), some (.int mv), some (.int (sw + 1)), some (.int i), none, none], [], σ) [] (by decide +kernel) rfl trivial ?_
    refine sy_drop [some (.ref 39), some (.ref 2), some (.int n), some (.int tot), some (.int mv), some (.int (sw + 1)), none, none, none] ⟨rfl, rfl, rfl, rfl, rfl, rfl, trivial⟩ ?_
    exact k1 c1
  · refine sy_bk [(.if_icmp .ge 72, 0, 117, 0, 0)] (48, [some (.ref 39), some (.ref 2), some (.int n), some (.int tot), some (.int mv), some (.int sw), some (.int i), none, none], [], σ) [¬ sy_cc .ge i n] (by decide +kernel) rfl ⟨c1, trivial⟩ ?_
    refine sy_bk [(.aload_n 1, 0, 0, 0, 0), (.iload 6, 0, 0, 0, 0), (.iaload, 0, 0, 0, 0), (.istore 7, 0, 0, 0, 0), (.aload_n 0, 0, 0, 0, 0), (.getfield 9, 1, 1, 0, 0), (.iload 7, 0, 0, 0, 0), (.iaload, 0, 0, 0, 0), (.iconst 3, 0, 0, 3, 0)] (62, [some (.ref 39), some (.ref 2), some (.int n), some (.int tot), some (.int mv), some (.int sw), some (.int i), some (.int (σ.1 2 i.toNatClampNeg)), none], [.int 3, .int (σ.1 40 ((σ.1 2 i.toNatClampNeg).toNatClampNeg))], σ) [sy_okA shX 0 2 i, sy_okA shX 0 40 (σ.1 2 i.toNatClampNeg)] (by decide +kernel) rfl ⟨⟨16, _, rfl, (b1 c1)⟩, ⟨16, _, rfl, (b2 c1)⟩, trivial⟩ ?_
    by_cases c2 : (σ.1 40 ((σ.1 2 i.toNatClampNeg).toNatClampNeg)) ≤ 3
    · refine sy_bk [(.if_icmp .le 49, 1, 111, 0, 0)] (111, [some (.ref 39), some (.ref 2), some (.int n), some (.int tot), some (.int mv), some (.int sw), some (.int i), some (.int (σ.1 2 i.toNatClampNeg)), none], [], σ) [sy_cc .le (σ.1 40 ((σ.1 2 i.toNatClampNeg).toNatClampNeg)) 3] (by decide +kernel) rfl ⟨c2, trivial⟩ ?_
      refine sy_bk [(.iinc 6 1, 0, 0, 1, 0), (.goto (-72), 0, 42, 0, 0)] (42, [some (.ref 39), some (.ref 2), some (.int n), some (.int tot), some (.int mv), some (.int sw), some (.int (i + 1)), some (.int (σ.1 2 i.toNatClampNeg)), none], [], σ) [] (by decide +kernel) rfl trivial ?_
      refine sy_drop [some (.ref 39), some (.ref 2), some (.int n), some (.int tot), some (.int mv), some (.int sw), some (.int (i + 1)), none, none] ⟨rfl, rfl, rfl, rfl, rfl, rfl, rfl, trivial⟩ ?_
      exact k2 c1 c2
    · refine sy_bk [(.if_icmp .le 49, 0, 111, 0, 0)] (65, [some (.ref 39), some (.ref 2), some (.int n), some (.int tot), some (.int mv), some (.int sw), some (.int i), some (.int (σ.1 2 i.toNatClampNeg)), none], [], σ) [¬ sy_cc .le (σ.1 40 ((σ.1 2 i.toNatClampNeg).toNatClampNeg)) 3] (by decide +kernel) rfl ⟨c2, trivial⟩ ?_
      refine sy_bk [(.aload_n 0, 0, 0, 0, 0), (.getfield 9, 1, 1, 0, 0), (.iload 7, 0, 0, 0, 0), (.iaload, 0, 0, 0, 0), (.iconst 4, 0, 0, 4, 0), (.idiv, 0, 0, 0, 0), (.istore 8, 0, 0, 0, 0), (.aload_n 0, 0, 0, 0, 0), (.getfield 18, 1, 0, 0, 0), (.aload_n 0, 0, 0, 0, 0), (.getfield 9, 1, 1, 0, 0), (.iload 7, 0, 0, 0, 0), (.iload 8, 0, 0, 0, 0)] (88, [some (.ref 39), some (.ref 2), some (.int n), some (.int tot), some (.int mv), some (.int sw), some (.int i), some (.int (σ.1 2 i.toNatClampNeg)), some (.int ((σ.1 40 ((σ.1 2 i.toNatClampNeg).toNatClampNeg)) / 4))], [.int ((σ.1 40 ((σ.1 2 i.toNatClampNeg).toNatClampNeg)) / 4), .int (σ.1 2 i.toNatClampNeg), .ref 40, .ref 0], σ) [sy_okA shX 0 40 (σ.1 2 i.toNatClampNeg), ¬ (4 : Int32) = 0] (by decide +kernel) rfl ⟨⟨16, _, rfl, (b2 c1)⟩, (by decide), trivial⟩ ?_
      refine sy_drop [some (.ref 39), some (.ref 2), some (.int n), some (.int tot), none, some (.int sw), some (.int i), some (.int (σ.1 2 i.toNatClampNeg)), some (.int ((σ.1 40 ((σ.1 2 i.toNatClampNeg).toNatClampNeg)) / 4))] ⟨rfl, rfl, rfl, rfl, rfl, rfl, rfl, rfl, trivial⟩ ?_
      refine sy_callV mX3_spill 0 [.ref 40, .int (σ.1 2 i.toNatClampNeg), .int ((σ.1 40 ((σ.1 2 i.toNatClampNeg).toNatClampNeg)) / 4)] [] kX3_spill jX1_44 (by decide +kernel) rfl rfl (Nat.le_of_ble_eq_true rfl) (Nat.le_of_ble_eq_true rfl) (by decide) rfl ?_
      exact k3 c1 c2

set_option maxRecDepth 20000 in
theorem w_x_level_91 {Q : Option Value → sy_S → Prop} {σ : sy_S} {n : Int32} {tot : Int32} {sw : Int32} {i : Int32} {cell : Int32} {t : Int32}  (b1 : vp_in cell 16) (k1 : sy_E shX mX1_level (42, [some (.ref 39), some (.ref 2), some (.int n), some (.int (tot + t)), some (.int 1), some (.int sw), some (.int (i + 1)), none, none], [], (sy_up σ.1 41 cell.toNatClampNeg ((σ.1 41 cell.toNatClampNeg) + t), σ.2)) Q) : sy_E shX mX1_level (91, [some (.ref 39), some (.ref 2), some (.int n), some (.int tot), none, some (.int sw), some (.int i), some (.int cell), some (.int t)], [], σ) Q := by
  refine sy_bk [(.aload_n 0, 0, 0, 0, 0), (.getfield 15, 1, 2, 0, 0), (.iload 7, 0, 0, 0, 0), (.dup2, 0, 0, 0, 0), (.iaload, 0, 0, 0, 0), (.iload 8, 0, 0, 0, 0), (.iadd, 0, 0, 0, 0), (.iastore, 0, 0, 0, 0), (.iload_n 3, 0, 0, 0, 0), (.iload 8, 0, 0, 0, 0), (.iadd, 0, 0, 0, 0), (.istore_n 3, 0, 0, 0, 0), (.iconst 1, 0, 0, 1, 0), (.istore 4, 0, 0, 0, 0), (.iinc 6 1, 0, 0, 1, 0), (.goto (-72), 0, 42, 0, 0)] (42, [some (.ref 39), some (.ref 2), some (.int n), some (.int (tot + t)), some (.int 1), some (.int sw), some (.int (i + 1)), some (.int cell), some (.int t)], [], (sy_up σ.1 41 cell.toNatClampNeg ((σ.1 41 cell.toNatClampNeg) + t), σ.2)) [sy_okA shX 0 41 cell, sy_okA shX 0 41 cell] (by decide +kernel) rfl ⟨⟨16, _, rfl, b1⟩, ⟨16, _, rfl, b1⟩, trivial⟩ ?_
  refine sy_drop [some (.ref 39), some (.ref 2), some (.int n), some (.int (tot + t)), some (.int 1), some (.int sw), some (.int (i + 1)), none, none] ⟨rfl, rfl, rfl, rfl, rfl, rfl, rfl, trivial⟩ ?_
  exact k1

set_option maxRecDepth 20000 in
theorem w_x_ready_0 {Q : Option Value → sy_S → Prop} {σ : sy_S}    (k1 : sy_E shX mX1_readyBits (4, [some (.ref 39), some (.int 0), some (.int 0), none], [], σ) Q) : sy_E shX mX1_readyBits (0, sy_ent [.ref 39] 4, [], σ) Q := by
  show sy_E shX mX1_readyBits (0, [some (.ref 39), none, none, none], [], σ) _
  refine sy_bk [(.iconst 0, 0, 0, 0, 0), (.istore_n 1, 0, 0, 0, 0), (.iconst 0, 0, 0, 0, 0), (.istore_n 2, 0, 0, 0, 0)] (4, [some (.ref 39), some (.int 0), some (.int 0), none], [], σ) [] (by decide +kernel) rfl trivial ?_
  exact k1

set_option maxRecDepth 20000 in
theorem w_x_ready_4 {Q : Option Value → sy_S → Prop} {σ : sy_S} {s : Int32} {i : Int32}  (b1 : ¬ ((σ.1 0 7) ≤ i) → vp_in i 16) (b2 : ¬ ((σ.1 0 7) ≤ i) → vp_in (σ.1 2 i.toNatClampNeg) 16) (k1 : (σ.1 0 7) ≤ i → Q (some (.int s)) σ) (k2 : ¬ ((σ.1 0 7) ≤ i) → (σ.1 40 ((σ.1 2 i.toNatClampNeg).toNatClampNeg)) ≤ 3 → sy_E shX mX1_readyBits (4, [some (.ref 39), some (.int s), some (.int (i + 1)), none], [], σ) Q) (k3 : ¬ ((σ.1 0 7) ≤ i) → ¬ ((σ.1 40 ((σ.1 2 i.toNatClampNeg).toNatClampNeg)) ≤ 3) → sy_E shX mX1_readyBits (4, [some (.ref 39), some (.int (s ||| (1 <<< ((σ.1 2 i.toNatClampNeg) &&& 31)))), some (.int (i + 1)), none], [], σ) Q) : sy_E shX mX1_readyBits (4, [some (.ref 39), some (.int s), some (.int i), none], [], σ) Q := by
  refine sy_bk [(.iload_n 2, 0, 0, 0, 0), (.aload_n 0, 0, 0, 0, 0), (.getfield 18, 1, 0, 0, 0)] (9, [some (.ref 39), some (.int s), some (.int i), none], [.ref 0, .int i], σ) [] (by decide +kernel) rfl trivial ?_
  refine sy_callV mX3_placeCount 0 [] [.int i] kX3_placeCount jX1_52 (by decide +kernel) rfl rfl (Nat.le_of_ble_eq_true rfl) (Nat.le_of_ble_eq_true rfl) (by decide) rfl ?_
  refine w_x_placeCount (σ := σ) ?_
  show sy_E shX mX1_readyBits (12, [some (.ref 39), some (.int s), some (.int i), none], [.int (σ.1 0 7), .int i], σ) _
  by_cases c1 : (σ.1 0 7) ≤ i
  · refine sy_bk [(.if_icmp .ge 34, 1, 46, 0, 0)] (46, [some (.ref 39), some (.int s), some (.int i), none], [], σ) [sy_cc .ge i (σ.1 0 7)] (by decide +kernel) rfl ⟨c1, trivial⟩ ?_
    refine sy_bk [(.iload_n 1, 0, 0, 0, 0)] (47, [some (.ref 39), some (.int s), some (.int i), none], [.int s], σ) [] (by decide +kernel) rfl trivial ?_
    exact sy_reti rfl (by decide +kernel) (k1 c1)
  · refine sy_bk [(.if_icmp .ge 34, 0, 46, 0, 0)] (15, [some (.ref 39), some (.int s), some (.int i), none], [], σ) [¬ sy_cc .ge i (σ.1 0 7)] (by decide +kernel) rfl ⟨c1, trivial⟩ ?_
    refine sy_bk [(.aload_n 0, 0, 0, 0, 0), (.getfield 18, 1, 0, 0, 0), (.iload_n 2, 0, 0, 0, 0)] (20, [some (.ref 39), some (.int s), some (.int i), none], [.int i, .ref 0], σ) [] (by decide +kernel) rfl trivial ?_
    refine sy_callV mX3_placeAt 0 [.int i] [] kX3_placeAt jX1_54 (by decide +kernel) rfl rfl (Nat.le_of_ble_eq_true rfl) (Nat.le_of_ble_eq_true rfl) (by decide) rfl ?_
    refine w_x_placeAt (σ := σ) (cell := i) (b1 c1) ?_
    show sy_E shX mX1_readyBits (23, [some (.ref 39), some (.int s), some (.int i), none], [.int (σ.1 2 i.toNatClampNeg)], σ) _
    refine sy_bk [(.istore_n 3, 0, 0, 0, 0), (.aload_n 0, 0, 0, 0, 0), (.getfield 9, 1, 1, 0, 0), (.iload_n 3, 0, 0, 0, 0), (.iaload, 0, 0, 0, 0), (.iconst 3, 0, 0, 3, 0)] (31, [some (.ref 39), some (.int s), some (.int i), some (.int (σ.1 2 i.toNatClampNeg))], [.int 3, .int (σ.1 40 ((σ.1 2 i.toNatClampNeg).toNatClampNeg))], σ) [sy_okA shX 0 40 (σ.1 2 i.toNatClampNeg)] (by decide +kernel) rfl ⟨⟨16, _, rfl, (b2 c1)⟩, trivial⟩ ?_
    by_cases c2 : (σ.1 40 ((σ.1 2 i.toNatClampNeg).toNatClampNeg)) ≤ 3
    · refine sy_bk [(.if_icmp .le 9, 1, 40, 0, 0)] (40, [some (.ref 39), some (.int s), some (.int i), some (.int (σ.1 2 i.toNatClampNeg))], [], σ) [sy_cc .le (σ.1 40 ((σ.1 2 i.toNatClampNeg).toNatClampNeg)) 3] (by decide +kernel) rfl ⟨c2, trivial⟩ ?_
      refine sy_bk [(.iinc 2 1, 0, 0, 1, 0), (.goto (-39), 0, 4, 0, 0)] (4, [some (.ref 39), some (.int s), some (.int (i + 1)), some (.int (σ.1 2 i.toNatClampNeg))], [], σ) [] (by decide +kernel) rfl trivial ?_
      refine sy_drop [some (.ref 39), some (.int s), some (.int (i + 1)), none] ⟨rfl, rfl, rfl, trivial⟩ ?_
      exact k2 c1 c2
    · refine sy_bk [(.if_icmp .le 9, 0, 40, 0, 0)] (34, [some (.ref 39), some (.int s), some (.int i), some (.int (σ.1 2 i.toNatClampNeg))], [], σ) [¬ sy_cc .le (σ.1 40 ((σ.1 2 i.toNatClampNeg).toNatClampNeg)) 3] (by decide +kernel) rfl ⟨c2, trivial⟩ ?_
      refine sy_bk [(.iload_n 1, 0, 0, 0, 0), (.iconst 1, 0, 0, 1, 0), (.iload_n 3, 0, 0, 0, 0), (.ishl, 0, 0, 0, 0), (.ior, 0, 0, 0, 0), (.istore_n 1, 0, 0, 0, 0), (.iinc 2 1, 0, 0, 1, 0), (.goto (-39), 0, 4, 0, 0)] (4, [some (.ref 39), some (.int (s ||| (1 <<< ((σ.1 2 i.toNatClampNeg) &&& 31)))), some (.int (i + 1)), some (.int (σ.1 2 i.toNatClampNeg))], [], σ) [] (by decide +kernel) rfl trivial ?_
      refine sy_drop [some (.ref 39), some (.int (s ||| (1 <<< ((σ.1 2 i.toNatClampNeg) &&& 31)))), some (.int (i + 1)), none] ⟨rfl, rfl, rfl, trivial⟩ ?_
      exact k3 c1 c2

set_option maxRecDepth 20000 in
theorem w_x_inRounds_0 {Q : Option Value → sy_S → Prop} {σ : sy_S}    (k1 : sy_E shX mX1_readyBits (0, sy_ent [.ref 39] 4, [], σ) (fun r9 σ9 => sy_E shX mX1_inRounds (6, [some (.ref 39), some (.int 0), none, none], r9.toList ++ [], σ9) Q)) : sy_E shX mX1_inRounds (0, sy_ent [.ref 39] 4, [], σ) Q := by
  show sy_E shX mX1_inRounds (0, [some (.ref 39), none, none, none], [], σ) _
  refine sy_bk [(.iconst 0, 0, 0, 0, 0), (.istore_n 1, 0, 0, 0, 0), (.aload_n 0, 0, 0, 0, 0)] (3, [some (.ref 39), some (.int 0), none, none], [.ref 39], σ) [] (by decide +kernel) rfl trivial ?_
  refine sy_callV mX1_readyBits 39 [] [] kX1_readyBits jX1_48 (by decide +kernel) rfl rfl (Nat.le_of_ble_eq_true rfl) (Nat.le_of_ble_eq_true rfl) (by decide) rfl ?_
  exact k1

set_option maxRecDepth 20000 in
theorem w_x_inRounds_6 {Q : Option Value → sy_S → Prop} {σ : sy_S} {n : Int32} {rd : Int32}   (k1 : sy_E shX mX1_inRounds (7, [some (.ref 39), some (.int n), some (.int rd), none], [], σ) Q) : sy_E shX mX1_inRounds (6, [some (.ref 39), some (.int n), none, none], [.int rd], σ) Q := by
  refine sy_bk [(.istore_n 2, 0, 0, 0, 0)] (7, [some (.ref 39), some (.int n), some (.int rd), none], [], σ) [] (by decide +kernel) rfl trivial ?_
  exact k1

set_option maxRecDepth 20000 in
theorem w_x_inRounds_7 {Q : Option Value → sy_S → Prop} {σ : sy_S} {n : Int32} {rd : Int32}   (k1 : rd = 0 → Q (some (.int n)) σ) (k2 : ¬ (rd = 0) → 1000000 ≤ n → Q (some (.int n)) σ) (k3 : ¬ (rd = 0) → ¬ (1000000 ≤ n) → sy_E shX mX1_inRounds (19, [some (.ref 39), some (.int n), some (.int rd), some (.int 0)], [], σ) Q) : sy_E shX mX1_inRounds (7, [some (.ref 39), some (.int n), some (.int rd), none], [], σ) Q := by
  refine sy_bk [(.iload_n 2, 0, 0, 0, 0)] (8, [some (.ref 39), some (.int n), some (.int rd), none], [.int rd], σ) [] (by decide +kernel) rfl trivial ?_
  by_cases c1 : rd = 0
  · refine sy_bk [(.ifCond .eq 65, 1, 73, 0, 0)] (73, [some (.ref 39), some (.int n), some (.int rd), none], [], σ) [sy_cc .eq rd 0] (by decide +kernel) rfl ⟨c1, trivial⟩ ?_
    refine sy_bk [(.iload_n 1, 0, 0, 0, 0)] (74, [some (.ref 39), some (.int n), some (.int rd), none], [.int n], σ) [] (by decide +kernel) rfl trivial ?_
    exact sy_reti rfl (by decide +kernel) (k1 c1)
  · refine sy_bk [(.ifCond .eq 65, 0, 73, 0, 0)] (11, [some (.ref 39), some (.int n), some (.int rd), none], [], σ) [¬ sy_cc .eq rd 0] (by decide +kernel) rfl ⟨c1, trivial⟩ ?_
    refine sy_bk [(.iload_n 1, 0, 0, 0, 0), (.ldc 43, 0, 0, 1000000, 0)] (14, [some (.ref 39), some (.int n), some (.int rd), none], [.int 1000000, .int n], σ) [] (by decide +kernel) rfl trivial ?_
    by_cases c2 : 1000000 ≤ n
    · refine sy_bk [(.if_icmp .ge 59, 1, 73, 0, 0)] (73, [some (.ref 39), some (.int n), some (.int rd), none], [], σ) [sy_cc .ge n 1000000] (by decide +kernel) rfl ⟨c2, trivial⟩ ?_
      refine sy_bk [(.iload_n 1, 0, 0, 0, 0)] (74, [some (.ref 39), some (.int n), some (.int rd), none], [.int n], σ) [] (by decide +kernel) rfl trivial ?_
      exact sy_reti rfl (by decide +kernel) (k2 c1 c2)
    · refine sy_bk [(.if_icmp .ge 59, 0, 73, 0, 0)] (17, [some (.ref 39), some (.int n), some (.int rd), none], [], σ) [¬ sy_cc .ge n 1000000] (by decide +kernel) rfl ⟨c2, trivial⟩ ?_
      refine sy_bk [(.iconst 0, 0, 0, 0, 0), (.istore_n 3, 0, 0, 0, 0)] (19, [some (.ref 39), some (.int n), some (.int rd), some (.int 0)], [], σ) [] (by decide +kernel) rfl trivial ?_
      exact k3 c1 c2

set_option maxRecDepth 20000 in
theorem w_x_inRounds_19 {Q : Option Value → sy_S → Prop} {σ : sy_S} {n : Int32} {rd : Int32} {i : Int32}   (k1 : 16 ≤ i → sy_E shX mX1_readyBits (0, sy_ent [.ref 39] 4, [], σ) (fun r9 σ9 => sy_E shX mX1_inRounds (69, [some (.ref 39), some (.int (n + 1)), none, none], r9.toList ++ [], σ9) Q)) (k2 : ¬ (16 ≤ i) → ((rd >>> (i &&& 31)) &&& 1) = 0 → sy_E shX mX1_inRounds (19, [some (.ref 39), some (.int n), some (.int rd), some (.int (i + 1))], [], σ) Q) (k3 : ¬ (16 ≤ i) → ¬ (((rd >>> (i &&& 31)) &&& 1) = 0) → sy_E shX mX3_spill (0, sy_ent [.ref 0, .ref 40, .int i, .int 1] 7, [], σ) (fun r9 σ9 => sy_E shX mX1_inRounds (46, [some (.ref 39), some (.int n), some (.int rd), some (.int i)], r9.toList ++ [], σ9) Q)) : sy_E shX mX1_inRounds (19, [some (.ref 39), some (.int n), some (.int rd), some (.int i)], [], σ) Q := by
  refine sy_bk [(.iload_n 3, 0, 0, 0, 0), (.bipush 16, 0, 0, 16, 0)] (22, [some (.ref 39), some (.int n), some (.int rd), some (.int i)], [.int 16, .int i], σ) [] (by decide +kernel) rfl trivial ?_
  by_cases c1 : 16 ≤ i
  · refine sy_bk [(.if_icmp .ge 40, 1, 62, 0, 0)] (62, [some (.ref 39), some (.int n), some (.int rd), some (.int i)], [], σ) [sy_cc .ge i 16] (by decide +kernel) rfl ⟨c1, trivial⟩ ?_
    refine sy_bk [(.iinc 1 1, 0, 0, 1, 0), (.aload_n 0, 0, 0, 0, 0)] (66, [some (.ref 39), some (.int (n + 1)), some (.int rd), some (.int i)], [.ref 39], σ) [] (by decide +kernel) rfl trivial ?_
    refine sy_drop [some (.ref 39), some (.int (n + 1)), none, none] ⟨rfl, rfl, trivial⟩ ?_
    refine sy_callV mX1_readyBits 39 [] [] kX1_readyBits jX1_48 (by decide +kernel) rfl rfl (Nat.le_of_ble_eq_true rfl) (Nat.le_of_ble_eq_true rfl) (by decide) rfl ?_
    exact k1 c1
  · refine sy_bk [(.if_icmp .ge 40, 0, 62, 0, 0)] (25, [some (.ref 39), some (.int n), some (.int rd), some (.int i)], [], σ) [¬ sy_cc .ge i 16] (by decide +kernel) rfl ⟨c1, trivial⟩ ?_
    refine sy_bk [(.iload_n 2, 0, 0, 0, 0), (.iload_n 3, 0, 0, 0, 0), (.ishr, 0, 0, 0, 0), (.iconst 1, 0, 0, 1, 0), (.iand, 0, 0, 0, 0)] (30, [some (.ref 39), some (.int n), some (.int rd), some (.int i)], [.int ((rd >>> (i &&& 31)) &&& 1)], σ) [] (by decide +kernel) rfl trivial ?_
    by_cases c2 : ((rd >>> (i &&& 31)) &&& 1) = 0
    · refine sy_bk [(.ifCond .eq 26, 1, 56, 0, 0)] (56, [some (.ref 39), some (.int n), some (.int rd), some (.int i)], [], σ) [sy_cc .eq ((rd >>> (i &&& 31)) &&& 1) 0] (by decide +kernel) rfl ⟨c2, trivial⟩ ?_
      refine sy_bk [(.iinc 3 1, 0, 0, 1, 0), (.goto (-40), 0, 19, 0, 0)] (19, [some (.ref 39), some (.int n), some (.int rd), some (.int (i + 1))], [], σ) [] (by decide +kernel) rfl trivial ?_
      exact k2 c1 c2
    · refine sy_bk [(.ifCond .eq 26, 0, 56, 0, 0)] (33, [some (.ref 39), some (.int n), some (.int rd), some (.int i)], [], σ) [¬ sy_cc .eq ((rd >>> (i &&& 31)) &&& 1) 0] (by decide +kernel) rfl ⟨c2, trivial⟩ ?_
      refine sy_bk [(.aload_n 0, 0, 0, 0, 0), (.getfield 18, 1, 0, 0, 0), (.aload_n 0, 0, 0, 0, 0), (.getfield 9, 1, 1, 0, 0), (.iload_n 3, 0, 0, 0, 0), (.iconst 1, 0, 0, 1, 0)] (43, [some (.ref 39), some (.int n), some (.int rd), some (.int i)], [.int 1, .int i, .ref 40, .ref 0], σ) [] (by decide +kernel) rfl trivial ?_
      refine sy_callV mX3_spill 0 [.ref 40, .int i, .int 1] [] kX3_spill jX1_44 (by decide +kernel) rfl rfl (Nat.le_of_ble_eq_true rfl) (Nat.le_of_ble_eq_true rfl) (by decide) rfl ?_
      exact k3 c1 c2

set_option maxRecDepth 20000 in
theorem w_x_inRounds_46 {Q : Option Value → sy_S → Prop} {σ : sy_S} {n : Int32} {rd : Int32} {i : Int32}  (b1 : vp_in i 16) (k1 : sy_E shX mX1_inRounds (19, [some (.ref 39), some (.int n), some (.int rd), some (.int (i + 1))], [], (sy_up σ.1 41 i.toNatClampNeg ((σ.1 41 i.toNatClampNeg) + 1), σ.2)) Q) : sy_E shX mX1_inRounds (46, [some (.ref 39), some (.int n), some (.int rd), some (.int i)], [], σ) Q := by
  refine sy_bk [(.aload_n 0, 0, 0, 0, 0), (.getfield 15, 1, 2, 0, 0), (.iload_n 3, 0, 0, 0, 0), (.dup2, 0, 0, 0, 0), (.iaload, 0, 0, 0, 0), (.iconst 1, 0, 0, 1, 0), (.iadd, 0, 0, 0, 0), (.iastore, 0, 0, 0, 0), (.iinc 3 1, 0, 0, 1, 0), (.goto (-40), 0, 19, 0, 0)] (19, [some (.ref 39), some (.int n), some (.int rd), some (.int (i + 1))], [], (sy_up σ.1 41 i.toNatClampNeg ((σ.1 41 i.toNatClampNeg) + 1), σ.2)) [sy_okA shX 0 41 i, sy_okA shX 0 41 i] (by decide +kernel) rfl ⟨⟨16, _, rfl, b1⟩, ⟨16, _, rfl, b1⟩, trivial⟩ ?_
  exact k1

set_option maxRecDepth 20000 in
theorem w_x_inRounds_69 {Q : Option Value → sy_S → Prop} {σ : sy_S} {n : Int32} {rd : Int32}   (k1 : sy_E shX mX1_inRounds (7, [some (.ref 39), some (.int n), some (.int rd), none], [], σ) Q) : sy_E shX mX1_inRounds (69, [some (.ref 39), some (.int n), none, none], [.int rd], σ) Q := by
  refine sy_bk [(.istore_n 2, 0, 0, 0, 0), (.goto (-63), 0, 7, 0, 0)] (7, [some (.ref 39), some (.int n), some (.int rd), none], [], σ) [] (by decide +kernel) rfl trivial ?_
  exact k1

set_option maxRecDepth 20000 in
theorem w_x_copyTo {Q : Option Value → sy_S → Prop} {σ : sy_S} {k : Nat} (hk : shX[k]? = some (0, 16, []))  (k1 : Q none (sy_cp σ.1 40 k 16, σ.2)) : sy_E shX mX1_copyTo (0, sy_ent [.ref 39, .ref k] 2, [], σ) Q := by
  show sy_E shX mX1_copyTo (0, [some (.ref 39), some (.ref k)], [], σ) _
  refine sy_bk [(.aload_n 0, 0, 0, 0, 0), (.getfield 9, 1, 1, 0, 0), (.iconst 0, 0, 0, 0, 0), (.aload_n 1, 0, 0, 0, 0), (.iconst 0, 0, 0, 0, 0), (.bipush 16, 0, 0, 16, 0)] (9, [some (.ref 39), some (.ref k)], [.int 16, .int 0, .ref k, .int 0, .ref 40], σ) [] (by decide +kernel) rfl trivial ?_
  refine sy_copy [] jX1_22 (by decide +kernel) rfl rfl hk (by decide) (by decide) (Nat.le_of_ble_eq_true rfl) (by decide) (by decide) ?_
  show sy_E shX mX1_copyTo (12, [some (.ref 39), some (.ref k)], [], (sy_cp σ.1 40 k 16, σ.2)) _
  exact sy_retv rfl (by decide +kernel) (k1)

set_option maxRecDepth 20000 in
theorem w_x_code_0 {Q : Option Value → sy_S → Prop} {σ : sy_S}    (k1 : sy_E shX mX3_pack (0, sy_ent [.ref 0, .ref 40] 4, [], σ) (fun r9 σ9 => sy_E shX mX1_code (11, [none], r9.toList ++ [], σ9) Q)) : sy_E shX mX1_code (0, sy_ent [.ref 39] 1, [], σ) Q := by
  show sy_E shX mX1_code (0, [some (.ref 39)], [], σ) _
  refine sy_bk [(.aload_n 0, 0, 0, 0, 0), (.getfield 18, 1, 0, 0, 0), (.aload_n 0, 0, 0, 0, 0), (.getfield 9, 1, 1, 0, 0)] (8, [some (.ref 39)], [.ref 40, .ref 0], σ) [] (by decide +kernel) rfl trivial ?_
  refine sy_drop [none] trivial ?_
  refine sy_callV mX3_pack 0 [.ref 40] [] kX3_pack jX1_62 (by decide +kernel) rfl rfl (Nat.le_of_ble_eq_true rfl) (Nat.le_of_ble_eq_true rfl) (by decide) rfl ?_
  exact k1

set_option maxRecDepth 20000 in
theorem w_x_fgrains_0 {Q : Option Value → sy_S → Prop} {σ : sy_S}    (k1 : sy_E shX mX3_grainsOf (0, sy_ent [.ref 0, .ref 40] 4, [], σ) (fun r9 σ9 => sy_E shX mX1_grains (11, [none], r9.toList ++ [], σ9) Q)) : sy_E shX mX1_grains (0, sy_ent [.ref 39] 1, [], σ) Q := by
  show sy_E shX mX1_grains (0, [some (.ref 39)], [], σ) _
  refine sy_bk [(.aload_n 0, 0, 0, 0, 0), (.getfield 18, 1, 0, 0, 0), (.aload_n 0, 0, 0, 0, 0), (.getfield 9, 1, 1, 0, 0)] (8, [some (.ref 39)], [.ref 40, .ref 0], σ) [] (by decide +kernel) rfl trivial ?_
  refine sy_drop [none] trivial ?_
  refine sy_callV mX3_grainsOf 0 [.ref 40] [] kX3_grainsOf jX1_66 (by decide +kernel) rfl rfl (Nat.le_of_ble_eq_true rfl) (Nat.le_of_ble_eq_true rfl) (by decide) rfl ?_
  exact k1

set_option maxRecDepth 20000 in
theorem w_x_ftoppled_0 {Q : Option Value → sy_S → Prop} {σ : sy_S}    (k1 : sy_E shX mX3_grainsOf (0, sy_ent [.ref 0, .ref 41] 4, [], σ) (fun r9 σ9 => sy_E shX mX1_toppled (11, [none], r9.toList ++ [], σ9) Q)) : sy_E shX mX1_toppled (0, sy_ent [.ref 39] 1, [], σ) Q := by
  show sy_E shX mX1_toppled (0, [some (.ref 39)], [], σ) _
  refine sy_bk [(.aload_n 0, 0, 0, 0, 0), (.getfield 18, 1, 0, 0, 0), (.aload_n 0, 0, 0, 0, 0), (.getfield 15, 1, 2, 0, 0)] (8, [some (.ref 39)], [.ref 41, .ref 0], σ) [] (by decide +kernel) rfl trivial ?_
  refine sy_drop [none] trivial ?_
  refine sy_callV mX3_grainsOf 0 [.ref 41] [] kX3_grainsOf jX1_66 (by decide +kernel) rfl rfl (Nat.le_of_ble_eq_true rfl) (Nat.le_of_ble_eq_true rfl) (by decide) rfl ?_
  exact k1

set_option maxRecDepth 20000 in
theorem w_x_heightAt {Q : Option Value → sy_S → Prop} {σ : sy_S} {cell : Int32}  (b1 : vp_in cell 16) (k1 : Q (some (.int (σ.1 40 cell.toNatClampNeg))) σ) : sy_E shX mX1_heightAt (0, sy_ent [.ref 39, .int cell] 2, [], σ) Q := by
  show sy_E shX mX1_heightAt (0, [some (.ref 39), some (.int cell)], [], σ) _
  refine sy_bk [(.aload_n 0, 0, 0, 0, 0), (.getfield 9, 1, 1, 0, 0), (.iload_n 1, 0, 0, 0, 0), (.iaload, 0, 0, 0, 0)] (6, [some (.ref 39), some (.int cell)], [.int (σ.1 40 cell.toNatClampNeg)], σ) [sy_okA shX 0 40 cell] (by decide +kernel) rfl ⟨⟨16, _, rfl, b1⟩, trivial⟩ ?_
  exact sy_reti rfl (by decide +kernel) (k1)

set_option maxRecDepth 20000 in
theorem w_x_countAt {Q : Option Value → sy_S → Prop} {σ : sy_S} {cell : Int32}  (b1 : vp_in cell 16) (k1 : Q (some (.int (σ.1 41 cell.toNatClampNeg))) σ) : sy_E shX mX1_countAt (0, sy_ent [.ref 39, .int cell] 2, [], σ) Q := by
  show sy_E shX mX1_countAt (0, [some (.ref 39), some (.int cell)], [], σ) _
  refine sy_bk [(.aload_n 0, 0, 0, 0, 0), (.getfield 15, 1, 2, 0, 0), (.iload_n 1, 0, 0, 0, 0), (.iaload, 0, 0, 0, 0)] (6, [some (.ref 39), some (.int cell)], [.int (σ.1 41 cell.toNatClampNeg)], σ) [sy_okA shX 0 41 cell] (by decide +kernel) rfl ⟨⟨16, _, rfl, b1⟩, trivial⟩ ?_
  exact sy_reti rfl (by decide +kernel) (k1)

set_option maxRecDepth 20000 in
theorem w_x_lost_0 {Q : Option Value → sy_S → Prop} {σ : sy_S}    (k1 : sy_E shX mX1_lost (4, [some (.ref 39), some (.int 0), some (.int 0), none], [], σ) Q) : sy_E shX mX1_lost (0, sy_ent [.ref 39] 4, [], σ) Q := by
  show sy_E shX mX1_lost (0, [some (.ref 39), none, none, none], [], σ) _
  refine sy_bk [(.iconst 0, 0, 0, 0, 0), (.istore_n 1, 0, 0, 0, 0), (.iconst 0, 0, 0, 0, 0), (.istore_n 2, 0, 0, 0, 0)] (4, [some (.ref 39), some (.int 0), some (.int 0), none], [], σ) [] (by decide +kernel) rfl trivial ?_
  exact k1

set_option maxRecDepth 20000 in
theorem w_x_lost_4 {Q : Option Value → sy_S → Prop} {σ : sy_S} {s : Int32} {i : Int32}  (b1 : ¬ ((σ.1 0 7) ≤ i) → vp_in i 16) (b2 : ¬ ((σ.1 0 7) ≤ i) → vp_in (σ.1 2 i.toNatClampNeg) 16) (k1 : (σ.1 0 7) ≤ i → Q (some (.int s)) σ) (k2 : ¬ ((σ.1 0 7) ≤ i) → sy_E shX mX1_lost (4, [some (.ref 39), some (.int (s + ((σ.1 41 ((σ.1 2 i.toNatClampNeg).toNatClampNeg)) * (4 - (σ.1 5 (σ.1 2 i.toNatClampNeg).toNatClampNeg))))), some (.int (i + 1)), none], [], σ) Q) : sy_E shX mX1_lost (4, [some (.ref 39), some (.int s), some (.int i), none], [], σ) Q := by
  refine sy_bk [(.iload_n 2, 0, 0, 0, 0), (.aload_n 0, 0, 0, 0, 0), (.getfield 18, 1, 0, 0, 0)] (9, [some (.ref 39), some (.int s), some (.int i), none], [.ref 0, .int i], σ) [] (by decide +kernel) rfl trivial ?_
  refine sy_callV mX3_placeCount 0 [] [.int i] kX3_placeCount jX1_52 (by decide +kernel) rfl rfl (Nat.le_of_ble_eq_true rfl) (Nat.le_of_ble_eq_true rfl) (by decide) rfl ?_
  refine w_x_placeCount (σ := σ) ?_
  show sy_E shX mX1_lost (12, [some (.ref 39), some (.int s), some (.int i), none], [.int (σ.1 0 7), .int i], σ) _
  by_cases c1 : (σ.1 0 7) ≤ i
  · refine sy_bk [(.if_icmp .ge 36, 1, 48, 0, 0)] (48, [some (.ref 39), some (.int s), some (.int i), none], [], σ) [sy_cc .ge i (σ.1 0 7)] (by decide +kernel) rfl ⟨c1, trivial⟩ ?_
    refine sy_bk [(.iload_n 1, 0, 0, 0, 0)] (49, [some (.ref 39), some (.int s), some (.int i), none], [.int s], σ) [] (by decide +kernel) rfl trivial ?_
    exact sy_reti rfl (by decide +kernel) (k1 c1)
  · refine sy_bk [(.if_icmp .ge 36, 0, 48, 0, 0)] (15, [some (.ref 39), some (.int s), some (.int i), none], [], σ) [¬ sy_cc .ge i (σ.1 0 7)] (by decide +kernel) rfl ⟨c1, trivial⟩ ?_
    refine sy_bk [(.aload_n 0, 0, 0, 0, 0), (.getfield 18, 1, 0, 0, 0), (.iload_n 2, 0, 0, 0, 0)] (20, [some (.ref 39), some (.int s), some (.int i), none], [.int i, .ref 0], σ) [] (by decide +kernel) rfl trivial ?_
    refine sy_callV mX3_placeAt 0 [.int i] [] kX3_placeAt jX1_54 (by decide +kernel) rfl rfl (Nat.le_of_ble_eq_true rfl) (Nat.le_of_ble_eq_true rfl) (by decide) rfl ?_
    refine w_x_placeAt (σ := σ) (cell := i) (b1 c1) ?_
    show sy_E shX mX1_lost (23, [some (.ref 39), some (.int s), some (.int i), none], [.int (σ.1 2 i.toNatClampNeg)], σ) _
    refine sy_bk [(.istore_n 3, 0, 0, 0, 0), (.iload_n 1, 0, 0, 0, 0), (.aload_n 0, 0, 0, 0, 0), (.getfield 15, 1, 2, 0, 0), (.iload_n 3, 0, 0, 0, 0), (.iaload, 0, 0, 0, 0), (.aload_n 0, 0, 0, 0, 0), (.getfield 18, 1, 0, 0, 0), (.iload_n 3, 0, 0, 0, 0)] (36, [some (.ref 39), some (.int s), some (.int i), some (.int (σ.1 2 i.toNatClampNeg))], [.int (σ.1 2 i.toNatClampNeg), .ref 0, .int (σ.1 41 ((σ.1 2 i.toNatClampNeg).toNatClampNeg)), .int s], σ) [sy_okA shX 0 41 (σ.1 2 i.toNatClampNeg)] (by decide +kernel) rfl ⟨⟨16, _, rfl, (b2 c1)⟩, trivial⟩ ?_
    refine sy_callV mX3_lossAt 0 [.int (σ.1 2 i.toNatClampNeg)] [.int (σ.1 41 ((σ.1 2 i.toNatClampNeg).toNatClampNeg)), .int s] kX3_lossAt jX1_69 (by decide +kernel) rfl rfl (Nat.le_of_ble_eq_true rfl) (Nat.le_of_ble_eq_true rfl) (by decide) rfl ?_
    refine w_x_lossAt (σ := σ) (cell := (σ.1 2 i.toNatClampNeg)) (b2 c1) ?_
    show sy_E shX mX1_lost (39, [some (.ref 39), some (.int s), some (.int i), some (.int (σ.1 2 i.toNatClampNeg))], [.int (4 - (σ.1 5 (σ.1 2 i.toNatClampNeg).toNatClampNeg)), .int (σ.1 41 ((σ.1 2 i.toNatClampNeg).toNatClampNeg)), .int s], σ) _
    refine sy_bk [(.imul, 0, 0, 0, 0), (.iadd, 0, 0, 0, 0), (.istore_n 1, 0, 0, 0, 0), (.iinc 2 1, 0, 0, 1, 0), (.goto (-41), 0, 4, 0, 0)] (4, [some (.ref 39), some (.int (s + ((σ.1 41 ((σ.1 2 i.toNatClampNeg).toNatClampNeg)) * (4 - (σ.1 5 (σ.1 2 i.toNatClampNeg).toNatClampNeg))))), some (.int (i + 1)), some (.int (σ.1 2 i.toNatClampNeg))], [], σ) [] (by decide +kernel) rfl trivial ?_
    refine sy_drop [some (.ref 39), some (.int (s + ((σ.1 41 ((σ.1 2 i.toNatClampNeg).toNatClampNeg)) * (4 - (σ.1 5 (σ.1 2 i.toNatClampNeg).toNatClampNeg))))), some (.int (i + 1)), none] ⟨rfl, rfl, rfl, trivial⟩ ?_
    exact k2 c1

set_option maxRecDepth 20000 in
theorem w_x_area_0 {Q : Option Value → sy_S → Prop} {σ : sy_S}    (k1 : sy_E shX mX1_area (4, [some (.ref 39), some (.int 0), some (.int 0)], [], σ) Q) : sy_E shX mX1_area (0, sy_ent [.ref 39] 3, [], σ) Q := by
  show sy_E shX mX1_area (0, [some (.ref 39), none, none], [], σ) _
  refine sy_bk [(.iconst 0, 0, 0, 0, 0), (.istore_n 1, 0, 0, 0, 0), (.iconst 0, 0, 0, 0, 0), (.istore_n 2, 0, 0, 0, 0)] (4, [some (.ref 39), some (.int 0), some (.int 0)], [], σ) [] (by decide +kernel) rfl trivial ?_
  exact k1

set_option maxRecDepth 20000 in
theorem w_x_area_4 {Q : Option Value → sy_S → Prop} {σ : sy_S} {s : Int32} {i : Int32}  (b1 : ¬ (16 ≤ i) → vp_in i 16) (k1 : 16 ≤ i → Q (some (.int s)) σ) (k2 : ¬ (16 ≤ i) → (σ.1 41 i.toNatClampNeg) ≤ 0 → sy_E shX mX1_area (4, [some (.ref 39), some (.int s), some (.int (i + 1))], [], σ) Q) (k3 : ¬ (16 ≤ i) → ¬ ((σ.1 41 i.toNatClampNeg) ≤ 0) → sy_E shX mX1_area (4, [some (.ref 39), some (.int (s ||| (1 <<< (i &&& 31)))), some (.int (i + 1))], [], σ) Q) : sy_E shX mX1_area (4, [some (.ref 39), some (.int s), some (.int i)], [], σ) Q := by
  refine sy_bk [(.iload_n 2, 0, 0, 0, 0), (.bipush 16, 0, 0, 16, 0)] (7, [some (.ref 39), some (.int s), some (.int i)], [.int 16, .int i], σ) [] (by decide +kernel) rfl trivial ?_
  by_cases c1 : 16 ≤ i
  · refine sy_bk [(.if_icmp .ge 24, 1, 31, 0, 0)] (31, [some (.ref 39), some (.int s), some (.int i)], [], σ) [sy_cc .ge i 16] (by decide +kernel) rfl ⟨c1, trivial⟩ ?_
    refine sy_bk [(.iload_n 1, 0, 0, 0, 0)] (32, [some (.ref 39), some (.int s), some (.int i)], [.int s], σ) [] (by decide +kernel) rfl trivial ?_
    exact sy_reti rfl (by decide +kernel) (k1 c1)
  · refine sy_bk [(.if_icmp .ge 24, 0, 31, 0, 0)] (10, [some (.ref 39), some (.int s), some (.int i)], [], σ) [¬ sy_cc .ge i 16] (by decide +kernel) rfl ⟨c1, trivial⟩ ?_
    refine sy_bk [(.aload_n 0, 0, 0, 0, 0), (.getfield 15, 1, 2, 0, 0), (.iload_n 2, 0, 0, 0, 0), (.iaload, 0, 0, 0, 0)] (16, [some (.ref 39), some (.int s), some (.int i)], [.int (σ.1 41 i.toNatClampNeg)], σ) [sy_okA shX 0 41 i] (by decide +kernel) rfl ⟨⟨16, _, rfl, (b1 c1)⟩, trivial⟩ ?_
    by_cases c2 : (σ.1 41 i.toNatClampNeg) ≤ 0
    · refine sy_bk [(.ifCond .le 9, 1, 25, 0, 0)] (25, [some (.ref 39), some (.int s), some (.int i)], [], σ) [sy_cc .le (σ.1 41 i.toNatClampNeg) 0] (by decide +kernel) rfl ⟨c2, trivial⟩ ?_
      refine sy_bk [(.iinc 2 1, 0, 0, 1, 0), (.goto (-24), 0, 4, 0, 0)] (4, [some (.ref 39), some (.int s), some (.int (i + 1))], [], σ) [] (by decide +kernel) rfl trivial ?_
      exact k2 c1 c2
    · refine sy_bk [(.ifCond .le 9, 0, 25, 0, 0)] (19, [some (.ref 39), some (.int s), some (.int i)], [], σ) [¬ sy_cc .le (σ.1 41 i.toNatClampNeg) 0] (by decide +kernel) rfl ⟨c2, trivial⟩ ?_
      refine sy_bk [(.iload_n 1, 0, 0, 0, 0), (.iconst 1, 0, 0, 1, 0), (.iload_n 2, 0, 0, 0, 0), (.ishl, 0, 0, 0, 0), (.ior, 0, 0, 0, 0), (.istore_n 1, 0, 0, 0, 0), (.iinc 2 1, 0, 0, 1, 0), (.goto (-24), 0, 4, 0, 0)] (4, [some (.ref 39), some (.int (s ||| (1 <<< (i &&& 31)))), some (.int (i + 1))], [], σ) [] (by decide +kernel) rfl trivial ?_
      exact k3 c1 c2

set_option maxRecDepth 20000 in
theorem w_x_fcode_r {Q : Option Value → sy_S → Prop} {σ : sy_S} {v : Int32}   (k1 : Q (some (.int v)) σ) : sy_E shX mX1_code (11, [none], [.int v], σ) Q := by
  exact sy_reti rfl (by decide +kernel) (k1)

set_option maxRecDepth 20000 in
theorem w_x_fgrains_r {Q : Option Value → sy_S → Prop} {σ : sy_S} {v : Int32}   (k1 : Q (some (.int v)) σ) : sy_E shX mX1_grains (11, [none], [.int v], σ) Q := by
  exact sy_reti rfl (by decide +kernel) (k1)

set_option maxRecDepth 20000 in
theorem w_x_ftoppled_r {Q : Option Value → sy_S → Prop} {σ : sy_S} {v : Int32}   (k1 : Q (some (.int v)) σ) : sy_E shX mX1_toppled (11, [none], [.int v], σ) Q := by
  exact sy_reti rfl (by decide +kernel) (k1)
