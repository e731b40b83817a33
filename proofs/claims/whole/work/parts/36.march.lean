/-! walks of March (by program: wip/whole/gen/p36.py) -/
set_option maxRecDepth 20000 in
theorem w_a_lineUp {Q : Option Value → sy_S → Prop} {σ : sy_S} {cell : Int32}  (b1 : (((σ.1 42 6) >>> (cell &&& 31)) &&& 1) = 0 → vp_in cell 16) (b2 : (((σ.1 42 6) >>> (cell &&& 31)) &&& 1) = 0 → ¬ ((σ.1 43 cell.toNatClampNeg) ≤ 3) → vp_in (((σ.1 42 4) + (σ.1 42 5)) - ((σ.1 42 4) + (σ.1 42 5)) / 16 * 16) 16) (k1 : (((σ.1 42 6) >>> (cell &&& 31)) &&& 1) = 0 → (σ.1 43 cell.toNatClampNeg) ≤ 3 → Q none σ) (k2 : (((σ.1 42 6) >>> (cell &&& 31)) &&& 1) = 0 → ¬ ((σ.1 43 cell.toNatClampNeg) ≤ 3) → Q none (sy_up (sy_up (sy_up σ.1 44 ((((σ.1 42 4) + (σ.1 42 5)) - ((σ.1 42 4) + (σ.1 42 5)) / 16 * 16).toNatClampNeg) cell) 42 5 ((σ.1 42 5) + 1)) 42 6 ((σ.1 42 6) ||| (1 <<< (cell &&& 31))), σ.2)) (k3 : ¬ ((((σ.1 42 6) >>> (cell &&& 31)) &&& 1) = 0) → Q none σ) : sy_E shX mX4_lineUp (0, sy_ent [.ref 42, .int cell] 3, [], σ) Q := by
  show sy_E shX mX4_lineUp (0, [some (.ref 42), some (.int cell), none], [], σ) _
  refine sy_bk [(.aload_n 0, 0, 0, 0, 0), (.getfield 38, 4, 6, 0, 0), (.iload_n 1, 0, 0, 0, 0), (.ishr, 0, 0, 0, 0), (.iconst 1, 0, 0, 1, 0), (.iand, 0, 0, 0, 0)] (8, [some (.ref 42), some (.int cell), none], [.int (((σ.1 42 6) >>> (cell &&& 31)) &&& 1)], σ) [] (by decide +kernel) rfl trivial ?_
  by_cases c1 : (((σ.1 42 6) >>> (cell &&& 31)) &&& 1) = 0
  · refine sy_bk [(.ifCond .eq 7, 1, 15, 0, 0)] (15, [some (.ref 42), some (.int cell), none], [], σ) [sy_cc .eq (((σ.1 42 6) >>> (cell &&& 31)) &&& 1) 0] (by decide +kernel) rfl ⟨c1, trivial⟩ ?_
    refine sy_bk [(.iconst 0, 0, 0, 0, 0), (.istore_n 2, 0, 0, 0, 0), (.iload_n 2, 0, 0, 0, 0), (.ifCond .ne 53, 0, 71, 0, 0), (.aload_n 0, 0, 0, 0, 0), (.getfield 9, 4, 1, 0, 0), (.iload_n 1, 0, 0, 0, 0), (.iaload, 0, 0, 0, 0), (.iconst 3, 0, 0, 3, 0)] (28, [some (.ref 42), some (.int cell), some (.int 0)], [.int 3, .int (σ.1 43 cell.toNatClampNeg)], σ) [¬ sy_cc .ne 0 0, sy_okA shX 0 43 cell] (by decide +kernel) rfl ⟨(by decide : ¬ (¬ (0 : Int32) = 0)), ⟨16, _, rfl, (b1 c1)⟩, trivial⟩ ?_
    by_cases c2 : (σ.1 43 cell.toNatClampNeg) ≤ 3
    · refine sy_bk [(.if_icmp .le 43, 1, 71, 0, 0)] (71, [some (.ref 42), some (.int cell), some (.int 0)], [], σ) [sy_cc .le (σ.1 43 cell.toNatClampNeg) 3] (by decide +kernel) rfl ⟨c2, trivial⟩ ?_
      exact sy_retv rfl (by decide +kernel) (k1 c1 c2)
    · refine sy_bk [(.if_icmp .le 43, 0, 71, 0, 0)] (31, [some (.ref 42), some (.int cell), some (.int 0)], [], σ) [¬ sy_cc .le (σ.1 43 cell.toNatClampNeg) 3] (by decide +kernel) rfl ⟨c2, trivial⟩ ?_
      refine sy_bk [(.aload_n 0, 0, 0, 0, 0), (.getfield 15, 4, 2, 0, 0), (.aload_n 0, 0, 0, 0, 0), (.getfield 32, 4, 4, 0, 0), (.aload_n 0, 0, 0, 0, 0), (.getfield 35, 4, 5, 0, 0), (.iadd, 0, 0, 0, 0), (.bipush 16, 0, 0, 16, 0), (.irem, 0, 0, 0, 0), (.iload_n 1, 0, 0, 0, 0), (.iastore, 0, 0, 0, 0), (.aload_n 0, 0, 0, 0, 0), (.dup, 0, 0, 0, 0), (.getfield 35, 4, 5, 0, 0), (.iconst 1, 0, 0, 1, 0), (.iadd, 0, 0, 0, 0), (.putfield 35, 4, 5, 0, 0), (.aload_n 0, 0, 0, 0, 0), (.dup, 0, 0, 0, 0), (.getfield 38, 4, 6, 0, 0), (.iconst 1, 0, 0, 1, 0), (.iload_n 1, 0, 0, 0, 0), (.ishl, 0, 0, 0, 0), (.ior, 0, 0, 0, 0), (.putfield 38, 4, 6, 0, 0)] (71, [some (.ref 42), some (.int cell), some (.int 0)], [], (sy_up (sy_up (sy_up σ.1 44 ((((σ.1 42 4) + (σ.1 42 5)) - ((σ.1 42 4) + (σ.1 42 5)) / 16 * 16).toNatClampNeg) cell) 42 5 ((σ.1 42 5) + 1)) 42 6 ((σ.1 42 6) ||| (1 <<< (cell &&& 31))), σ.2)) [¬ (16 : Int32) = 0, sy_okA shX 0 44 (((σ.1 42 4) + (σ.1 42 5)) - ((σ.1 42 4) + (σ.1 42 5)) / 16 * 16)] (by decide +kernel) rfl ⟨(by decide), ⟨16, _, rfl, (b2 c1 c2)⟩, trivial⟩ ?_
      exact sy_retv rfl (by decide +kernel) (k2 c1 c2)
  · refine sy_bk [(.ifCond .eq 7, 0, 15, 0, 0)] (11, [some (.ref 42), some (.int cell), none], [], σ) [¬ sy_cc .eq (((σ.1 42 6) >>> (cell &&& 31)) &&& 1) 0] (by decide +kernel) rfl ⟨c1, trivial⟩ ?_
    refine sy_bk [(.iconst 1, 0, 0, 1, 0), (.goto 4, 0, 16, 0, 0), (.istore_n 2, 0, 0, 0, 0), (.iload_n 2, 0, 0, 0, 0), (.ifCond .ne 53, 1, 71, 0, 0)] (71, [some (.ref 42), some (.int cell), some (.int 1)], [], σ) [sy_cc .ne 1 0] (by decide +kernel) rfl ⟨(by decide : (¬ (1 : Int32) = 0)), trivial⟩ ?_
    exact sy_retv rfl (by decide +kernel) (k3 c1)

set_option maxRecDepth 20000 in
theorem w_a_leave1 {Q : Option Value → sy_S → Prop} {σ : sy_S}   (b1 : ¬ (σ.1 42 5) = 0 → vp_in (σ.1 42 4) 16) (k1 : ¬ (σ.1 42 5) = 0 → Q (some (.int (σ.1 44 ((σ.1 42 4).toNatClampNeg)))) (sy_up (sy_up (sy_up σ.1 42 4 (((σ.1 42 4) + 1) - ((σ.1 42 4) + 1) / 16 * 16)) 42 5 ((σ.1 42 5) - 1)) 42 6 ((σ.1 42 6) &&& ((1 <<< ((σ.1 44 ((σ.1 42 4).toNatClampNeg)) &&& 31)) ^^^ (-1))), σ.2)) (k2 : ¬ (¬ (σ.1 42 5) = 0) → Q (some (.int (-1))) σ) : sy_E shX mX4_leave (0, sy_ent [.ref 42, .int 1] 3, [], σ) Q := by
  show sy_E shX mX4_leave (0, [some (.ref 42), some (.int 1), none], [], σ) _
  refine sy_bk [(.aload_n 0, 0, 0, 0, 0), (.getfield 35, 4, 5, 0, 0)] (4, [some (.ref 42), some (.int 1), none], [.int (σ.1 42 5)], σ) [] (by decide +kernel) rfl trivial ?_
  by_cases c1 : ¬ (σ.1 42 5) = 0
  · refine sy_bk [(.ifCond .ne 5, 1, 9, 0, 0)] (9, [some (.ref 42), some (.int 1), none], [], σ) [sy_cc .ne (σ.1 42 5) 0] (by decide +kernel) rfl ⟨c1, trivial⟩ ?_
    refine sy_bk [(.iload_n 1, 0, 0, 0, 0), (.ifCond .eq 10, 0, 20, 0, 0), (.aload_n 0, 0, 0, 0, 0), (.getfield 32, 4, 4, 0, 0), (.goto 17, 0, 34, 0, 0), (.istore_n 2, 0, 0, 0, 0), (.iload_n 1, 0, 0, 0, 0), (.ifCond .eq 16, 0, 52, 0, 0), (.aload_n 0, 0, 0, 0, 0), (.aload_n 0, 0, 0, 0, 0), (.getfield 32, 4, 4, 0, 0), (.iconst 1, 0, 0, 1, 0), (.iadd, 0, 0, 0, 0), (.bipush 16, 0, 0, 16, 0), (.irem, 0, 0, 0, 0), (.putfield 32, 4, 4, 0, 0), (.aload_n 0, 0, 0, 0, 0), (.dup, 0, 0, 0, 0), (.getfield 35, 4, 5, 0, 0), (.iconst 1, 0, 0, 1, 0), (.isub, 0, 0, 0, 0), (.putfield 35, 4, 5, 0, 0), (.aload_n 0, 0, 0, 0, 0), (.dup, 0, 0, 0, 0), (.getfield 38, 4, 6, 0, 0), (.iconst 1, 0, 0, 1, 0), (.aload_n 0, 0, 0, 0, 0), (.getfield 15, 4, 2, 0, 0), (.iload_n 2, 0, 0, 0, 0), (.iaload, 0, 0, 0, 0), (.ishl, 0, 0, 0, 0), (.iconst (-1), 0, 0, (-1), 0), (.ixor, 0, 0, 0, 0), (.iand, 0, 0, 0, 0), (.putfield 38, 4, 6, 0, 0), (.aload_n 0, 0, 0, 0, 0), (.getfield 15, 4, 2, 0, 0), (.iload_n 2, 0, 0, 0, 0), (.iaload, 0, 0, 0, 0)] (87, [some (.ref 42), some (.int 1), some (.int (σ.1 42 4))], [.int (σ.1 44 ((σ.1 42 4).toNatClampNeg))], (sy_up (sy_up (sy_up σ.1 42 4 (((σ.1 42 4) + 1) - ((σ.1 42 4) + 1) / 16 * 16)) 42 5 ((σ.1 42 5) - 1)) 42 6 ((σ.1 42 6) &&& ((1 <<< ((σ.1 44 ((σ.1 42 4).toNatClampNeg)) &&& 31)) ^^^ (-1))), σ.2)) [¬ sy_cc .eq 1 0, ¬ sy_cc .eq 1 0, ¬ (16 : Int32) = 0, sy_okA shX 0 44 (σ.1 42 4), sy_okA shX 0 44 (σ.1 42 4)] (by decide +kernel) rfl ⟨(by decide : ¬ ((1 : Int32) = 0)), (by decide : ¬ ((1 : Int32) = 0)), (by decide), ⟨16, _, rfl, (b1 c1)⟩, ⟨16, _, rfl, (b1 c1)⟩, trivial⟩ ?_
    exact sy_reti rfl (by decide +kernel) (k1 c1)
  · refine sy_bk [(.ifCond .ne 5, 0, 9, 0, 0)] (7, [some (.ref 42), some (.int 1), none], [], σ) [¬ sy_cc .ne (σ.1 42 5) 0] (by decide +kernel) rfl ⟨c1, trivial⟩ ?_
    refine sy_bk [(.iconst (-1), 0, 0, (-1), 0)] (8, [some (.ref 42), some (.int 1), none], [.int (-1)], σ) [] (by decide +kernel) rfl trivial ?_
    exact sy_reti rfl (by decide +kernel) (k2 c1)

set_option maxRecDepth 20000 in
theorem w_a_leave0 {Q : Option Value → sy_S → Prop} {σ : sy_S}   (b1 : ¬ (σ.1 42 5) = 0 → vp_in ((((σ.1 42 4) + (σ.1 42 5)) - 1) - (((σ.1 42 4) + (σ.1 42 5)) - 1) / 16 * 16) 16) (k1 : ¬ (σ.1 42 5) = 0 → Q (some (.int (σ.1 44 (((((σ.1 42 4) + (σ.1 42 5)) - 1) - (((σ.1 42 4) + (σ.1 42 5)) - 1) / 16 * 16).toNatClampNeg)))) (sy_up (sy_up σ.1 42 5 ((σ.1 42 5) - 1)) 42 6 ((σ.1 42 6) &&& ((1 <<< ((σ.1 44 (((((σ.1 42 4) + (σ.1 42 5)) - 1) - (((σ.1 42 4) + (σ.1 42 5)) - 1) / 16 * 16).toNatClampNeg)) &&& 31)) ^^^ (-1))), σ.2)) (k2 : ¬ (¬ (σ.1 42 5) = 0) → Q (some (.int (-1))) σ) : sy_E shX mX4_leave (0, sy_ent [.ref 42, .int 0] 3, [], σ) Q := by
  show sy_E shX mX4_leave (0, [some (.ref 42), some (.int 0), none], [], σ) _
  refine sy_bk [(.aload_n 0, 0, 0, 0, 0), (.getfield 35, 4, 5, 0, 0)] (4, [some (.ref 42), some (.int 0), none], [.int (σ.1 42 5)], σ) [] (by decide +kernel) rfl trivial ?_
  by_cases c1 : ¬ (σ.1 42 5) = 0
  · refine sy_bk [(.ifCond .ne 5, 1, 9, 0, 0)] (9, [some (.ref 42), some (.int 0), none], [], σ) [sy_cc .ne (σ.1 42 5) 0] (by decide +kernel) rfl ⟨c1, trivial⟩ ?_
    refine sy_bk [(.iload_n 1, 0, 0, 0, 0), (.ifCond .eq 10, 1, 20, 0, 0), (.aload_n 0, 0, 0, 0, 0), (.getfield 32, 4, 4, 0, 0), (.aload_n 0, 0, 0, 0, 0), (.getfield 35, 4, 5, 0, 0), (.iadd, 0, 0, 0, 0), (.iconst 1, 0, 0, 1, 0), (.isub, 0, 0, 0, 0), (.bipush 16, 0, 0, 16, 0), (.irem, 0, 0, 0, 0), (.istore_n 2, 0, 0, 0, 0), (.iload_n 1, 0, 0, 0, 0), (.ifCond .eq 16, 1, 52, 0, 0), (.aload_n 0, 0, 0, 0, 0), (.dup, 0, 0, 0, 0), (.getfield 35, 4, 5, 0, 0), (.iconst 1, 0, 0, 1, 0), (.isub, 0, 0, 0, 0), (.putfield 35, 4, 5, 0, 0), (.aload_n 0, 0, 0, 0, 0), (.dup, 0, 0, 0, 0), (.getfield 38, 4, 6, 0, 0), (.iconst 1, 0, 0, 1, 0), (.aload_n 0, 0, 0, 0, 0), (.getfield 15, 4, 2, 0, 0), (.iload_n 2, 0, 0, 0, 0), (.iaload, 0, 0, 0, 0), (.ishl, 0, 0, 0, 0), (.iconst (-1), 0, 0, (-1), 0), (.ixor, 0, 0, 0, 0), (.iand, 0, 0, 0, 0), (.putfield 38, 4, 6, 0, 0), (.aload_n 0, 0, 0, 0, 0), (.getfield 15, 4, 2, 0, 0), (.iload_n 2, 0, 0, 0, 0), (.iaload, 0, 0, 0, 0)] (87, [some (.ref 42), some (.int 0), some (.int ((((σ.1 42 4) + (σ.1 42 5)) - 1) - (((σ.1 42 4) + (σ.1 42 5)) - 1) / 16 * 16))], [.int (σ.1 44 (((((σ.1 42 4) + (σ.1 42 5)) - 1) - (((σ.1 42 4) + (σ.1 42 5)) - 1) / 16 * 16).toNatClampNeg))], (sy_up (sy_up σ.1 42 5 ((σ.1 42 5) - 1)) 42 6 ((σ.1 42 6) &&& ((1 <<< ((σ.1 44 (((((σ.1 42 4) + (σ.1 42 5)) - 1) - (((σ.1 42 4) + (σ.1 42 5)) - 1) / 16 * 16).toNatClampNeg)) &&& 31)) ^^^ (-1))), σ.2)) [sy_cc .eq 0 0, ¬ (16 : Int32) = 0, sy_cc .eq 0 0, sy_okA shX 0 44 ((((σ.1 42 4) + (σ.1 42 5)) - 1) - (((σ.1 42 4) + (σ.1 42 5)) - 1) / 16 * 16), sy_okA shX 0 44 ((((σ.1 42 4) + (σ.1 42 5)) - 1) - (((σ.1 42 4) + (σ.1 42 5)) - 1) / 16 * 16)] (by decide +kernel) rfl ⟨(by decide : ((0 : Int32) = 0)), (by decide), (by decide : ((0 : Int32) = 0)), ⟨16, _, rfl, (b1 c1)⟩, ⟨16, _, rfl, (b1 c1)⟩, trivial⟩ ?_
    exact sy_reti rfl (by decide +kernel) (k1 c1)
  · refine sy_bk [(.ifCond .ne 5, 0, 9, 0, 0)] (7, [some (.ref 42), some (.int 0), none], [], σ) [¬ sy_cc .ne (σ.1 42 5) 0] (by decide +kernel) rfl ⟨c1, trivial⟩ ?_
    refine sy_bk [(.iconst (-1), 0, 0, (-1), 0)] (8, [some (.ref 42), some (.int 0), none], [.int (-1)], σ) [] (by decide +kernel) rfl trivial ?_
    exact sy_reti rfl (by decide +kernel) (k2 c1)

set_option maxRecDepth 20000 in
theorem w_a_least_0 {Q : Option Value → sy_S → Prop} {σ : sy_S}    (k1 : sy_E shX mX4_leastCell (2, [some (.ref 42), some (.int 0), none], [], σ) Q) : sy_E shX mX4_leastCell (0, sy_ent [.ref 42] 3, [], σ) Q := by
  show sy_E shX mX4_leastCell (0, [some (.ref 42), none, none], [], σ) _
  refine sy_bk [(.iconst 0, 0, 0, 0, 0), (.istore_n 1, 0, 0, 0, 0)] (2, [some (.ref 42), some (.int 0), none], [], σ) [] (by decide +kernel) rfl trivial ?_
  exact k1

set_option maxRecDepth 20000 in
theorem w_a_least_2 {Q : Option Value → sy_S → Prop} {σ : sy_S} {i : Int32}  (b1 : ¬ ((σ.1 0 7) ≤ i) → vp_in i 16) (b2 : ¬ ((σ.1 0 7) ≤ i) → vp_in (σ.1 2 i.toNatClampNeg) 16) (k1 : (σ.1 0 7) ≤ i → Q (some (.int (-1))) σ) (k2 : ¬ ((σ.1 0 7) ≤ i) → (σ.1 43 ((σ.1 2 i.toNatClampNeg).toNatClampNeg)) ≤ 3 → sy_E shX mX4_leastCell (2, [some (.ref 42), some (.int (i + 1)), none], [], σ) Q) (k3 : ¬ ((σ.1 0 7) ≤ i) → ¬ ((σ.1 43 ((σ.1 2 i.toNatClampNeg).toNatClampNeg)) ≤ 3) → Q (some (.int (σ.1 2 i.toNatClampNeg))) σ) : sy_E shX mX4_leastCell (2, [some (.ref 42), some (.int i), none], [], σ) Q := by
  refine sy_bk [(.iload_n 1, 0, 0, 0, 0), (.aload_n 0, 0, 0, 0, 0), (.getfield 18, 4, 0, 0, 0)] (7, [some (.ref 42), some (.int i), none], [.ref 0, .int i], σ) [] (by decide +kernel) rfl trivial ?_
  refine sy_callV mX3_placeCount 0 [] [.int i] kX3_placeCount jX4_41 (by decide +kernel) rfl rfl (Nat.le_of_ble_eq_true rfl) (Nat.le_of_ble_eq_true rfl) (by decide) rfl ?_
  refine w_x_placeCount (σ := σ) ?_
  show sy_E shX mX4_leastCell (10, [some (.ref 42), some (.int i), none], [.int (σ.1 0 7), .int i], σ) _
  by_cases c1 : (σ.1 0 7) ≤ i
  · refine sy_bk [(.if_icmp .ge 30, 1, 40, 0, 0)] (40, [some (.ref 42), some (.int i), none], [], σ) [sy_cc .ge i (σ.1 0 7)] (by decide +kernel) rfl ⟨c1, trivial⟩ ?_
    refine sy_bk [(.iconst (-1), 0, 0, (-1), 0)] (41, [some (.ref 42), some (.int i), none], [.int (-1)], σ) [] (by decide +kernel) rfl trivial ?_
    exact sy_reti rfl (by decide +kernel) (k1 c1)
  · refine sy_bk [(.if_icmp .ge 30, 0, 40, 0, 0)] (13, [some (.ref 42), some (.int i), none], [], σ) [¬ sy_cc .ge i (σ.1 0 7)] (by decide +kernel) rfl ⟨c1, trivial⟩ ?_
    refine sy_bk [(.aload_n 0, 0, 0, 0, 0), (.getfield 18, 4, 0, 0, 0), (.iload_n 1, 0, 0, 0, 0)] (18, [some (.ref 42), some (.int i), none], [.int i, .ref 0], σ) [] (by decide +kernel) rfl trivial ?_
    refine sy_callV mX3_placeAt 0 [.int i] [] kX3_placeAt jX4_47 (by decide +kernel) rfl rfl (Nat.le_of_ble_eq_true rfl) (Nat.le_of_ble_eq_true rfl) (by decide) rfl ?_
    refine w_x_placeAt (σ := σ) (cell := i) (b1 c1) ?_
    show sy_E shX mX4_leastCell (21, [some (.ref 42), some (.int i), none], [.int (σ.1 2 i.toNatClampNeg)], σ) _
    refine sy_bk [(.istore_n 2, 0, 0, 0, 0), (.aload_n 0, 0, 0, 0, 0), (.getfield 9, 4, 1, 0, 0), (.iload_n 2, 0, 0, 0, 0), (.iaload, 0, 0, 0, 0), (.iconst 3, 0, 0, 3, 0)] (29, [some (.ref 42), some (.int i), some (.int (σ.1 2 i.toNatClampNeg))], [.int 3, .int (σ.1 43 ((σ.1 2 i.toNatClampNeg).toNatClampNeg))], σ) [sy_okA shX 0 43 (σ.1 2 i.toNatClampNeg)] (by decide +kernel) rfl ⟨⟨16, _, rfl, (b2 c1)⟩, trivial⟩ ?_
    by_cases c2 : (σ.1 43 ((σ.1 2 i.toNatClampNeg).toNatClampNeg)) ≤ 3
    · refine sy_bk [(.if_icmp .le 5, 1, 34, 0, 0)] (34, [some (.ref 42), some (.int i), some (.int (σ.1 2 i.toNatClampNeg))], [], σ) [sy_cc .le (σ.1 43 ((σ.1 2 i.toNatClampNeg).toNatClampNeg)) 3] (by decide +kernel) rfl ⟨c2, trivial⟩ ?_
      refine sy_bk [(.iinc 1 1, 0, 0, 1, 0), (.goto (-35), 0, 2, 0, 0)] (2, [some (.ref 42), some (.int (i + 1)), some (.int (σ.1 2 i.toNatClampNeg))], [], σ) [] (by decide +kernel) rfl trivial ?_
      refine sy_drop [some (.ref 42), some (.int (i + 1)), none] ⟨rfl, rfl, trivial⟩ ?_
      exact k2 c1 c2
    · refine sy_bk [(.if_icmp .le 5, 0, 34, 0, 0)] (32, [some (.ref 42), some (.int i), some (.int (σ.1 2 i.toNatClampNeg))], [], σ) [¬ sy_cc .le (σ.1 43 ((σ.1 2 i.toNatClampNeg).toNatClampNeg)) 3] (by decide +kernel) rfl ⟨c2, trivial⟩ ?_
      refine sy_bk [(.iload_n 2, 0, 0, 0, 0)] (33, [some (.ref 42), some (.int i), some (.int (σ.1 2 i.toNatClampNeg))], [.int (σ.1 2 i.toNatClampNeg)], σ) [] (by decide +kernel) rfl trivial ?_
      exact sy_reti rfl (by decide +kernel) (k3 c1 c2)

set_option maxRecDepth 20000 in
theorem w_a_tall_0 {Q : Option Value → sy_S → Prop} {σ : sy_S}    (k1 : sy_E shX mX4_tallestCell (6, [some (.ref 42), some (.int (-1)), some (.int 3), some (.int 0), none], [], σ) Q) : sy_E shX mX4_tallestCell (0, sy_ent [.ref 42] 5, [], σ) Q := by
  show sy_E shX mX4_tallestCell (0, [some (.ref 42), none, none, none, none], [], σ) _
  refine sy_bk [(.iconst (-1), 0, 0, (-1), 0), (.istore_n 1, 0, 0, 0, 0), (.iconst 3, 0, 0, 3, 0), (.istore_n 2, 0, 0, 0, 0), (.iconst 0, 0, 0, 0, 0), (.istore_n 3, 0, 0, 0, 0)] (6, [some (.ref 42), some (.int (-1)), some (.int 3), some (.int 0), none], [], σ) [] (by decide +kernel) rfl trivial ?_
  exact k1

set_option maxRecDepth 20000 in
theorem w_a_tall_6 {Q : Option Value → sy_S → Prop} {σ : sy_S} {best : Int32} {most : Int32} {i : Int32}  (b1 : ¬ ((σ.1 0 7) ≤ i) → vp_in i 16) (b2 : ¬ ((σ.1 0 7) ≤ i) → vp_in (σ.1 2 i.toNatClampNeg) 16) (k1 : (σ.1 0 7) ≤ i → Q (some (.int best)) σ) (k2 : ¬ ((σ.1 0 7) ≤ i) → (σ.1 43 ((σ.1 2 i.toNatClampNeg).toNatClampNeg)) ≤ most → sy_E shX mX4_tallestCell (6, [some (.ref 42), some (.int best), some (.int most), some (.int (i + 1)), none], [], σ) Q) (k3 : ¬ ((σ.1 0 7) ≤ i) → ¬ ((σ.1 43 ((σ.1 2 i.toNatClampNeg).toNatClampNeg)) ≤ most) → sy_E shX mX4_tallestCell (6, [some (.ref 42), some (.int (σ.1 2 i.toNatClampNeg)), some (.int (σ.1 43 ((σ.1 2 i.toNatClampNeg).toNatClampNeg))), some (.int (i + 1)), none], [], σ) Q) : sy_E shX mX4_tallestCell (6, [some (.ref 42), some (.int best), some (.int most), some (.int i), none], [], σ) Q := by
  refine sy_bk [(.iload_n 3, 0, 0, 0, 0), (.aload_n 0, 0, 0, 0, 0), (.getfield 18, 4, 0, 0, 0)] (11, [some (.ref 42), some (.int best), some (.int most), some (.int i), none], [.ref 0, .int i], σ) [] (by decide +kernel) rfl trivial ?_
  refine sy_callV mX3_placeCount 0 [] [.int i] kX3_placeCount jX4_41 (by decide +kernel) rfl rfl (Nat.le_of_ble_eq_true rfl) (Nat.le_of_ble_eq_true rfl) (by decide) rfl ?_
  refine w_x_placeCount (σ := σ) ?_
  show sy_E shX mX4_tallestCell (14, [some (.ref 42), some (.int best), some (.int most), some (.int i), none], [.int (σ.1 0 7), .int i], σ) _
  by_cases c1 : (σ.1 0 7) ≤ i
  · refine sy_bk [(.if_icmp .ge 41, 1, 55, 0, 0)] (55, [some (.ref 42), some (.int best), some (.int most), some (.int i), none], [], σ) [sy_cc .ge i (σ.1 0 7)] (by decide +kernel) rfl ⟨c1, trivial⟩ ?_
    refine sy_bk [(.iload_n 1, 0, 0, 0, 0)] (56, [some (.ref 42), some (.int best), some (.int most), some (.int i), none], [.int best], σ) [] (by decide +kernel) rfl trivial ?_
    exact sy_reti rfl (by decide +kernel) (k1 c1)
  · refine sy_bk [(.if_icmp .ge 41, 0, 55, 0, 0)] (17, [some (.ref 42), some (.int best), some (.int most), some (.int i), none], [], σ) [¬ sy_cc .ge i (σ.1 0 7)] (by decide +kernel) rfl ⟨c1, trivial⟩ ?_
    refine sy_bk [(.aload_n 0, 0, 0, 0, 0), (.getfield 18, 4, 0, 0, 0), (.iload_n 3, 0, 0, 0, 0)] (22, [some (.ref 42), some (.int best), some (.int most), some (.int i), none], [.int i, .ref 0], σ) [] (by decide +kernel) rfl trivial ?_
    refine sy_callV mX3_placeAt 0 [.int i] [] kX3_placeAt jX4_47 (by decide +kernel) rfl rfl (Nat.le_of_ble_eq_true rfl) (Nat.le_of_ble_eq_true rfl) (by decide) rfl ?_
    refine w_x_placeAt (σ := σ) (cell := i) (b1 c1) ?_
    show sy_E shX mX4_tallestCell (25, [some (.ref 42), some (.int best), some (.int most), some (.int i), none], [.int (σ.1 2 i.toNatClampNeg)], σ) _
    refine sy_bk [(.istore 4, 0, 0, 0, 0), (.aload_n 0, 0, 0, 0, 0), (.getfield 9, 4, 1, 0, 0), (.iload 4, 0, 0, 0, 0), (.iaload, 0, 0, 0, 0), (.iload_n 2, 0, 0, 0, 0)] (35, [some (.ref 42), some (.int best), some (.int most), some (.int i), some (.int (σ.1 2 i.toNatClampNeg))], [.int most, .int (σ.1 43 ((σ.1 2 i.toNatClampNeg).toNatClampNeg))], σ) [sy_okA shX 0 43 (σ.1 2 i.toNatClampNeg)] (by decide +kernel) rfl ⟨⟨16, _, rfl, (b2 c1)⟩, trivial⟩ ?_
    by_cases c2 : (σ.1 43 ((σ.1 2 i.toNatClampNeg).toNatClampNeg)) ≤ most
    · refine sy_bk [(.if_icmp .le 14, 1, 49, 0, 0)] (49, [some (.ref 42), some (.int best), some (.int most), some (.int i), some (.int (σ.1 2 i.toNatClampNeg))], [], σ) [sy_cc .le (σ.1 43 ((σ.1 2 i.toNatClampNeg).toNatClampNeg)) most] (by decide +kernel) rfl ⟨c2, trivial⟩ ?_
      refine sy_bk [(.iinc 3 1, 0, 0, 1, 0), (.goto (-46), 0, 6, 0, 0)] (6, [some (.ref 42), some (.int best), some (.int most), some (.int (i + 1)), some (.int (σ.1 2 i.toNatClampNeg))], [], σ) [] (by decide +kernel) rfl trivial ?_
      refine sy_drop [some (.ref 42), some (.int best), some (.int most), some (.int (i + 1)), none] ⟨rfl, rfl, rfl, rfl, trivial⟩ ?_
      exact k2 c1 c2
    · refine sy_bk [(.if_icmp .le 14, 0, 49, 0, 0)] (38, [some (.ref 42), some (.int best), some (.int most), some (.int i), some (.int (σ.1 2 i.toNatClampNeg))], [], σ) [¬ sy_cc .le (σ.1 43 ((σ.1 2 i.toNatClampNeg).toNatClampNeg)) most] (by decide +kernel) rfl ⟨c2, trivial⟩ ?_
      refine sy_bk [(.aload_n 0, 0, 0, 0, 0), (.getfield 9, 4, 1, 0, 0), (.iload 4, 0, 0, 0, 0), (.iaload, 0, 0, 0, 0), (.istore_n 2, 0, 0, 0, 0), (.iload 4, 0, 0, 0, 0), (.istore_n 1, 0, 0, 0, 0), (.iinc 3 1, 0, 0, 1, 0), (.goto (-46), 0, 6, 0, 0)] (6, [some (.ref 42), some (.int (σ.1 2 i.toNatClampNeg)), some (.int (σ.1 43 ((σ.1 2 i.toNatClampNeg).toNatClampNeg))), some (.int (i + 1)), some (.int (σ.1 2 i.toNatClampNeg))], [], σ) [sy_okA shX 0 43 (σ.1 2 i.toNatClampNeg)] (by decide +kernel) rfl ⟨⟨16, _, rfl, (b2 c1)⟩, trivial⟩ ?_
      refine sy_drop [some (.ref 42), some (.int (σ.1 2 i.toNatClampNeg)), some (.int (σ.1 43 ((σ.1 2 i.toNatClampNeg).toNatClampNeg))), some (.int (i + 1)), none] ⟨rfl, rfl, rfl, rfl, trivial⟩ ?_
      exact k3 c1 c2

set_option maxRecDepth 20000 in
theorem w_a_chosen_0 {Q : Option Value → sy_S → Prop} {σ : sy_S}    (k1 : (σ.1 42 3) = 0 → sy_E shX mX4_leastCell (0, sy_ent [.ref 42] 3, [], σ) (fun r9 σ9 => sy_E shX mX4_chosen (36, [none], r9.toList ++ [], σ9) Q)) (k2 : ¬ (σ.1 42 3) = 0 → (σ.1 42 3) = 1 → sy_E shX mX4_leave (0, sy_ent [.ref 42, .int 1] 3, [], σ) (fun r9 σ9 => sy_E shX mX4_chosen (42, [none], r9.toList ++ [], σ9) Q)) (k3 : ¬ (σ.1 42 3) = 0 → ¬ (σ.1 42 3) = 1 → (σ.1 42 3) = 2 → sy_E shX mX4_leave (0, sy_ent [.ref 42, .int 0] 3, [], σ) (fun r9 σ9 => sy_E shX mX4_chosen (48, [none], r9.toList ++ [], σ9) Q)) (k4 : ¬ (σ.1 42 3) = 0 → ¬ (σ.1 42 3) = 1 → ¬ (σ.1 42 3) = 2 → sy_E shX mX4_tallestCell (0, sy_ent [.ref 42] 5, [], σ) (fun r9 σ9 => sy_E shX mX4_chosen (53, [none], r9.toList ++ [], σ9) Q)) : sy_E shX mX4_chosen (0, sy_ent [.ref 42] 1, [], σ) Q := by
  show sy_E shX mX4_chosen (0, [some (.ref 42)], [], σ) _
  refine sy_bk [(.aload_n 0, 0, 0, 0, 0), (.getfield 28, 4, 3, 0, 0)] (4, [some (.ref 42)], [.int (σ.1 42 3)], σ) [] (by decide +kernel) rfl trivial ?_
  by_cases c1 : (σ.1 42 3) = 0
  · refine sy_bk [(.tableswitch 45 0 2 #[28, 33, 39], 1, 32, 0, 0)] (32, [some (.ref 42)], [], σ) [(σ.1 42 3) = 0] (by decide +kernel) rfl ⟨c1, trivial⟩ ?_
    refine sy_bk [(.aload_n 0, 0, 0, 0, 0)] (33, [some (.ref 42)], [.ref 42], σ) [] (by decide +kernel) rfl trivial ?_
    refine sy_drop [none] trivial ?_
    refine sy_callV mX4_leastCell 42 [] [] kX4_leastCell jX4_69 (by decide +kernel) rfl rfl (Nat.le_of_ble_eq_true rfl) (Nat.le_of_ble_eq_true rfl) (by decide) rfl ?_
    exact k1 c1
  by_cases c2 : (σ.1 42 3) = 1
  · refine sy_bk [(.tableswitch 45 0 2 #[28, 33, 39], 1, 37, 1, 0)] (37, [some (.ref 42)], [], σ) [(σ.1 42 3) = 1] (by decide +kernel) rfl ⟨c2, trivial⟩ ?_
    refine sy_bk [(.aload_n 0, 0, 0, 0, 0), (.iconst 1, 0, 0, 1, 0)] (39, [some (.ref 42)], [.int 1, .ref 42], σ) [] (by decide +kernel) rfl trivial ?_
    refine sy_drop [none] trivial ?_
    refine sy_callV mX4_leave 42 [.int 1] [] kX4_leave jX4_72 (by decide +kernel) rfl rfl (Nat.le_of_ble_eq_true rfl) (Nat.le_of_ble_eq_true rfl) (by decide) rfl ?_
    exact k2 c1 c2
  by_cases c3 : (σ.1 42 3) = 2
  · refine sy_bk [(.tableswitch 45 0 2 #[28, 33, 39], 1, 43, 2, 0)] (43, [some (.ref 42)], [], σ) [(σ.1 42 3) = 2] (by decide +kernel) rfl ⟨c3, trivial⟩ ?_
    refine sy_bk [(.aload_n 0, 0, 0, 0, 0), (.iconst 0, 0, 0, 0, 0)] (45, [some (.ref 42)], [.int 0, .ref 42], σ) [] (by decide +kernel) rfl trivial ?_
    refine sy_drop [none] trivial ?_
    refine sy_callV mX4_leave 42 [.int 0] [] kX4_leave jX4_72 (by decide +kernel) rfl rfl (Nat.le_of_ble_eq_true rfl) (Nat.le_of_ble_eq_true rfl) (by decide) rfl ?_
    exact k3 c1 c2 c3
  refine sy_bk [(.tableswitch 45 0 2 #[28, 33, 39], 0, 49, 0, 0)] (49, [some (.ref 42)], [], σ) [(σ.1 42 3).toInt < 0 ∨ 2 < (σ.1 42 3).toInt] (by decide +kernel) rfl ⟨sy_sw3 c1 c2 c3, trivial⟩ ?_
  refine sy_bk [(.aload_n 0, 0, 0, 0, 0)] (50, [some (.ref 42)], [.ref 42], σ) [] (by decide +kernel) rfl trivial ?_
  refine sy_drop [none] trivial ?_
  refine sy_callV mX4_tallestCell 42 [] [] kX4_tallestCell jX4_76 (by decide +kernel) rfl rfl (Nat.le_of_ble_eq_true rfl) (Nat.le_of_ble_eq_true rfl) (by decide) rfl ?_
  exact k4 c1 c2 c3

set_option maxRecDepth 20000 in
theorem w_a_chosen_36 {Q : Option Value → sy_S → Prop} {σ : sy_S} {v : Int32}   (k1 : Q (some (.int v)) σ) : sy_E shX mX4_chosen (36, [none], [.int v], σ) Q := by
  exact sy_reti rfl (by decide +kernel) (k1)

set_option maxRecDepth 20000 in
theorem w_a_chosen_42 {Q : Option Value → sy_S → Prop} {σ : sy_S} {v : Int32}   (k1 : Q (some (.int v)) σ) : sy_E shX mX4_chosen (42, [none], [.int v], σ) Q := by
  exact sy_reti rfl (by decide +kernel) (k1)

set_option maxRecDepth 20000 in
theorem w_a_chosen_48 {Q : Option Value → sy_S → Prop} {σ : sy_S} {v : Int32}   (k1 : Q (some (.int v)) σ) : sy_E shX mX4_chosen (48, [none], [.int v], σ) Q := by
  exact sy_reti rfl (by decide +kernel) (k1)

set_option maxRecDepth 20000 in
theorem w_a_chosen_53 {Q : Option Value → sy_S → Prop} {σ : sy_S} {v : Int32}   (k1 : Q (some (.int v)) σ) : sy_E shX mX4_chosen (53, [none], [.int v], σ) Q := by
  exact sy_reti rfl (by decide +kernel) (k1)

set_option maxRecDepth 20000 in
theorem w_a_begin_0 {Q : Option Value → sy_S → Prop} {σ : sy_S} {k : Nat} {ordr : Int32} (hk : shX[k]? = some (0, 16, []))  (k1 : ordr = 1 → sy_E shX mX4_begin (50, [some (.ref 42), none, none, some (.int 0)], [], (sy_up (sy_up (sy_up (sy_up (sy_cp σ.1 k 43 16) 42 3 ordr) 42 4 0) 42 5 0) 42 6 0, σ.2)) Q) (k2 : ¬ (ordr = 1) → ¬ ordr = 2 → Q none (sy_up (sy_up (sy_up (sy_up (sy_cp σ.1 k 43 16) 42 3 ordr) 42 4 0) 42 5 0) 42 6 0, σ.2)) (k3 : ¬ (ordr = 1) → ¬ (¬ ordr = 2) → sy_E shX mX4_begin (50, [some (.ref 42), none, none, some (.int 0)], [], (sy_up (sy_up (sy_up (sy_up (sy_cp σ.1 k 43 16) 42 3 ordr) 42 4 0) 42 5 0) 42 6 0, σ.2)) Q) : sy_E shX mX4_begin (0, sy_ent [.ref 42, .ref k, .int ordr] 4, [], σ) Q := by
  show sy_E shX mX4_begin (0, [some (.ref 42), some (.ref k), some (.int ordr), none], [], σ) _
  refine sy_bk [(.aload_n 1, 0, 0, 0, 0), (.iconst 0, 0, 0, 0, 0), (.aload_n 0, 0, 0, 0, 0), (.getfield 9, 4, 1, 0, 0), (.iconst 0, 0, 0, 0, 0), (.bipush 16, 0, 0, 16, 0)] (9, [some (.ref 42), some (.ref k), some (.int ordr), none], [.int 16, .int 0, .ref 43, .int 0, .ref k], σ) [] (by decide +kernel) rfl trivial ?_
  refine sy_copy [] jX4_22 (by decide +kernel) rfl hk rfl (by decide) (by decide) (Nat.le_of_ble_eq_true rfl) (by decide) (by decide) ?_
  show sy_E shX mX4_begin (12, [some (.ref 42), some (.ref k), some (.int ordr), none], [], (sy_cp σ.1 k 43 16, σ.2)) _
  refine sy_bk [(.aload_n 0, 0, 0, 0, 0), (.iload_n 2, 0, 0, 0, 0), (.putfield 28, 4, 3, 0, 0), (.aload_n 0, 0, 0, 0, 0), (.iconst 0, 0, 0, 0, 0), (.putfield 32, 4, 4, 0, 0), (.aload_n 0, 0, 0, 0, 0), (.iconst 0, 0, 0, 0, 0), (.putfield 35, 4, 5, 0, 0), (.aload_n 0, 0, 0, 0, 0), (.iconst 0, 0, 0, 0, 0), (.putfield 38, 4, 6, 0, 0), (.aload_n 0, 0, 0, 0, 0), (.getfield 28, 4, 3, 0, 0), (.iconst 1, 0, 0, 1, 0)] (37, [some (.ref 42), some (.ref k), some (.int ordr), none], [.int 1, .int ordr], (sy_up (sy_up (sy_up (sy_up (sy_cp σ.1 k 43 16) 42 3 ordr) 42 4 0) 42 5 0) 42 6 0, σ.2)) [] (by decide +kernel) rfl trivial ?_
  by_cases c1 : ordr = 1
  · refine sy_bk [(.if_icmp .eq 11, 1, 48, 0, 0)] (48, [some (.ref 42), some (.ref k), some (.int ordr), none], [], (sy_up (sy_up (sy_up (sy_up (sy_cp σ.1 k 43 16) 42 3 ordr) 42 4 0) 42 5 0) 42 6 0, σ.2)) [sy_cc .eq ordr 1] (by decide +kernel) rfl ⟨c1, trivial⟩ ?_
    refine sy_bk [(.iconst 0, 0, 0, 0, 0), (.istore_n 3, 0, 0, 0, 0)] (50, [some (.ref 42), some (.ref k), some (.int ordr), some (.int 0)], [], (sy_up (sy_up (sy_up (sy_up (sy_cp σ.1 k 43 16) 42 3 ordr) 42 4 0) 42 5 0) 42 6 0, σ.2)) [] (by decide +kernel) rfl trivial ?_
    refine sy_drop [some (.ref 42), none, none, some (.int 0)] ⟨rfl, rfl, trivial⟩ ?_
    exact k1 c1
  · refine sy_bk [(.if_icmp .eq 11, 0, 48, 0, 0)] (40, [some (.ref 42), some (.ref k), some (.int ordr), none], [], (sy_up (sy_up (sy_up (sy_up (sy_cp σ.1 k 43 16) 42 3 ordr) 42 4 0) 42 5 0) 42 6 0, σ.2)) [¬ sy_cc .eq ordr 1] (by decide +kernel) rfl ⟨c1, trivial⟩ ?_
    refine sy_bk [(.aload_n 0, 0, 0, 0, 0), (.getfield 28, 4, 3, 0, 0), (.iconst 2, 0, 0, 2, 0)] (45, [some (.ref 42), some (.ref k), some (.int ordr), none], [.int 2, .int ordr], (sy_up (sy_up (sy_up (sy_up (sy_cp σ.1 k 43 16) 42 3 ordr) 42 4 0) 42 5 0) 42 6 0, σ.2)) [] (by decide +kernel) rfl trivial ?_
    by_cases c2 : ¬ ordr = 2
    · refine sy_bk [(.if_icmp .ne 34, 1, 79, 0, 0)] (79, [some (.ref 42), some (.ref k), some (.int ordr), none], [], (sy_up (sy_up (sy_up (sy_up (sy_cp σ.1 k 43 16) 42 3 ordr) 42 4 0) 42 5 0) 42 6 0, σ.2)) [sy_cc .ne ordr 2] (by decide +kernel) rfl ⟨c2, trivial⟩ ?_
      exact sy_retv rfl (by decide +kernel) (k2 c1 c2)
    · refine sy_bk [(.if_icmp .ne 34, 0, 79, 0, 0)] (48, [some (.ref 42), some (.ref k), some (.int ordr), none], [], (sy_up (sy_up (sy_up (sy_up (sy_cp σ.1 k 43 16) 42 3 ordr) 42 4 0) 42 5 0) 42 6 0, σ.2)) [¬ sy_cc .ne ordr 2] (by decide +kernel) rfl ⟨c2, trivial⟩ ?_
      refine sy_bk [(.iconst 0, 0, 0, 0, 0), (.istore_n 3, 0, 0, 0, 0)] (50, [some (.ref 42), some (.ref k), some (.int ordr), some (.int 0)], [], (sy_up (sy_up (sy_up (sy_up (sy_cp σ.1 k 43 16) 42 3 ordr) 42 4 0) 42 5 0) 42 6 0, σ.2)) [] (by decide +kernel) rfl trivial ?_
      refine sy_drop [some (.ref 42), none, none, some (.int 0)] ⟨rfl, rfl, trivial⟩ ?_
      exact k3 c1 c2

set_option maxRecDepth 20000 in
theorem w_a_begin_50 {Q : Option Value → sy_S → Prop} {σ : sy_S} {i : Int32}  (b1 : ¬ ((σ.1 0 7) ≤ i) → vp_in i 16) (k1 : (σ.1 0 7) ≤ i → Q none σ) (k2 : ¬ ((σ.1 0 7) ≤ i) → sy_E shX mX4_lineUp (0, sy_ent [.ref 42, .int (σ.1 2 i.toNatClampNeg)] 3, [], σ) (fun r9 σ9 => sy_E shX mX4_begin (73, [some (.ref 42), none, none, some (.int i)], r9.toList ++ [], σ9) Q)) : sy_E shX mX4_begin (50, [some (.ref 42), none, none, some (.int i)], [], σ) Q := by
  refine sy_bk [(.iload_n 3, 0, 0, 0, 0), (.aload_n 0, 0, 0, 0, 0), (.getfield 18, 4, 0, 0, 0)] (55, [some (.ref 42), none, none, some (.int i)], [.ref 0, .int i], σ) [] (by decide +kernel) rfl trivial ?_
  refine sy_callV mX3_placeCount 0 [] [.int i] kX3_placeCount jX4_41 (by decide +kernel) rfl rfl (Nat.le_of_ble_eq_true rfl) (Nat.le_of_ble_eq_true rfl) (by decide) rfl ?_
  refine w_x_placeCount (σ := σ) ?_
  show sy_E shX mX4_begin (58, [some (.ref 42), none, none, some (.int i)], [.int (σ.1 0 7), .int i], σ) _
  by_cases c1 : (σ.1 0 7) ≤ i
  · refine sy_bk [(.if_icmp .ge 21, 1, 79, 0, 0)] (79, [some (.ref 42), none, none, some (.int i)], [], σ) [sy_cc .ge i (σ.1 0 7)] (by decide +kernel) rfl ⟨c1, trivial⟩ ?_
    exact sy_retv rfl (by decide +kernel) (k1 c1)
  · refine sy_bk [(.if_icmp .ge 21, 0, 79, 0, 0)] (61, [some (.ref 42), none, none, some (.int i)], [], σ) [¬ sy_cc .ge i (σ.1 0 7)] (by decide +kernel) rfl ⟨c1, trivial⟩ ?_
    refine sy_bk [(.aload_n 0, 0, 0, 0, 0), (.aload_n 0, 0, 0, 0, 0), (.getfield 18, 4, 0, 0, 0), (.iload_n 3, 0, 0, 0, 0)] (67, [some (.ref 42), none, none, some (.int i)], [.int i, .ref 0, .ref 42], σ) [] (by decide +kernel) rfl trivial ?_
    refine sy_callV mX3_placeAt 0 [.int i] [.ref 42] kX3_placeAt jX4_47 (by decide +kernel) rfl rfl (Nat.le_of_ble_eq_true rfl) (Nat.le_of_ble_eq_true rfl) (by decide) rfl ?_
    refine w_x_placeAt (σ := σ) (cell := i) (b1 c1) ?_
    show sy_E shX mX4_begin (70, [some (.ref 42), none, none, some (.int i)], [.int (σ.1 2 i.toNatClampNeg), .ref 42], σ) _
    refine sy_callV mX4_lineUp 42 [.int (σ.1 2 i.toNatClampNeg)] [] kX4_lineUp jX4_51 (by decide +kernel) rfl rfl (Nat.le_of_ble_eq_true rfl) (Nat.le_of_ble_eq_true rfl) (by decide) rfl ?_
    exact k2 c1

set_option maxRecDepth 20000 in
theorem w_a_begin_73 {Q : Option Value → sy_S → Prop} {σ : sy_S} {i : Int32}   (k1 : sy_E shX mX4_begin (50, [some (.ref 42), none, none, some (.int (i + 1))], [], σ) Q) : sy_E shX mX4_begin (73, [some (.ref 42), none, none, some (.int i)], [], σ) Q := by
  refine sy_bk [(.iinc 3 1, 0, 0, 1, 0), (.goto (-26), 0, 50, 0, 0)] (50, [some (.ref 42), none, none, some (.int (i + 1))], [], σ) [] (by decide +kernel) rfl trivial ?_
  exact k1

set_option maxRecDepth 20000 in
theorem w_a_step_0 {Q : Option Value → sy_S → Prop} {σ : sy_S}    (k1 : sy_E shX mX4_chosen (0, sy_ent [.ref 42] 1, [], σ) (fun r9 σ9 => sy_E shX mX4_step (4, [some (.ref 42), none, none], r9.toList ++ [], σ9) Q)) : sy_E shX mX4_step (0, sy_ent [.ref 42] 3, [], σ) Q := by
  show sy_E shX mX4_step (0, [some (.ref 42), none, none], [], σ) _
  refine sy_bk [(.aload_n 0, 0, 0, 0, 0)] (1, [some (.ref 42), none, none], [.ref 42], σ) [] (by decide +kernel) rfl trivial ?_
  refine sy_callV mX4_chosen 42 [] [] kX4_chosen jX4_55 (by decide +kernel) rfl rfl (Nat.le_of_ble_eq_true rfl) (Nat.le_of_ble_eq_true rfl) (by decide) rfl ?_
  exact k1

set_option maxRecDepth 20000 in
theorem w_a_step_4 {Q : Option Value → sy_S → Prop} {σ : sy_S} {c : Int32}   (k1 : 0 ≤ c → sy_E shX mX3_spill (0, sy_ent [.ref 0, .ref 43, .int c, .int 1] 7, [], σ) (fun r9 σ9 => sy_E shX mX4_step (24, [some (.ref 42), some (.int c), none], r9.toList ++ [], σ9) Q)) (k2 : ¬ (0 ≤ c) → Q (some (.int (-1))) σ) : sy_E shX mX4_step (4, [some (.ref 42), none, none], [.int c], σ) Q := by
  refine sy_bk [(.istore_n 1, 0, 0, 0, 0), (.iload_n 1, 0, 0, 0, 0)] (6, [some (.ref 42), some (.int c), none], [.int c], σ) [] (by decide +kernel) rfl trivial ?_
  by_cases c1 : 0 ≤ c
  · refine sy_bk [(.ifCond .ge 5, 1, 11, 0, 0)] (11, [some (.ref 42), some (.int c), none], [], σ) [sy_cc .ge c 0] (by decide +kernel) rfl ⟨c1, trivial⟩ ?_
    refine sy_bk [(.aload_n 0, 0, 0, 0, 0), (.getfield 18, 4, 0, 0, 0), (.aload_n 0, 0, 0, 0, 0), (.getfield 9, 4, 1, 0, 0), (.iload_n 1, 0, 0, 0, 0), (.iconst 1, 0, 0, 1, 0)] (21, [some (.ref 42), some (.int c), none], [.int 1, .int c, .ref 43, .ref 0], σ) [] (by decide +kernel) rfl trivial ?_
    refine sy_callV mX3_spill 0 [.ref 43, .int c, .int 1] [] kX3_spill jX4_58 (by decide +kernel) rfl rfl (Nat.le_of_ble_eq_true rfl) (Nat.le_of_ble_eq_true rfl) (by decide) rfl ?_
    exact k1 c1
  · refine sy_bk [(.ifCond .ge 5, 0, 11, 0, 0)] (9, [some (.ref 42), some (.int c), none], [], σ) [¬ sy_cc .ge c 0] (by decide +kernel) rfl ⟨c1, trivial⟩ ?_
    refine sy_bk [(.iconst (-1), 0, 0, (-1), 0)] (10, [some (.ref 42), some (.int c), none], [.int (-1)], σ) [] (by decide +kernel) rfl trivial ?_
    exact sy_reti rfl (by decide +kernel) (k2 c1)

set_option maxRecDepth 20000 in
theorem w_a_step_24 {Q : Option Value → sy_S → Prop} {σ : sy_S} {c : Int32}   (k1 : (σ.1 42 3) = 1 → sy_E shX mX4_step (42, [some (.ref 42), some (.int c), some (.int 0)], [], σ) Q) (k2 : ¬ ((σ.1 42 3) = 1) → ¬ (σ.1 42 3) = 2 → Q (some (.int c)) σ) (k3 : ¬ ((σ.1 42 3) = 1) → ¬ (¬ (σ.1 42 3) = 2) → sy_E shX mX4_step (42, [some (.ref 42), some (.int c), some (.int 0)], [], σ) Q) : sy_E shX mX4_step (24, [some (.ref 42), some (.int c), none], [], σ) Q := by
  refine sy_bk [(.aload_n 0, 0, 0, 0, 0), (.getfield 28, 4, 3, 0, 0), (.iconst 1, 0, 0, 1, 0)] (29, [some (.ref 42), some (.int c), none], [.int 1, .int (σ.1 42 3)], σ) [] (by decide +kernel) rfl trivial ?_
  by_cases c1 : (σ.1 42 3) = 1
  · refine sy_bk [(.if_icmp .eq 11, 1, 40, 0, 0)] (40, [some (.ref 42), some (.int c), none], [], σ) [sy_cc .eq (σ.1 42 3) 1] (by decide +kernel) rfl ⟨c1, trivial⟩ ?_
    refine sy_bk [(.iconst 0, 0, 0, 0, 0), (.istore_n 2, 0, 0, 0, 0)] (42, [some (.ref 42), some (.int c), some (.int 0)], [], σ) [] (by decide +kernel) rfl trivial ?_
    exact k1 c1
  · refine sy_bk [(.if_icmp .eq 11, 0, 40, 0, 0)] (32, [some (.ref 42), some (.int c), none], [], σ) [¬ sy_cc .eq (σ.1 42 3) 1] (by decide +kernel) rfl ⟨c1, trivial⟩ ?_
    refine sy_bk [(.aload_n 0, 0, 0, 0, 0), (.getfield 28, 4, 3, 0, 0), (.iconst 2, 0, 0, 2, 0)] (37, [some (.ref 42), some (.int c), none], [.int 2, .int (σ.1 42 3)], σ) [] (by decide +kernel) rfl trivial ?_
    by_cases c2 : ¬ (σ.1 42 3) = 2
    · refine sy_bk [(.if_icmp .ne 41, 1, 78, 0, 0)] (78, [some (.ref 42), some (.int c), none], [], σ) [sy_cc .ne (σ.1 42 3) 2] (by decide +kernel) rfl ⟨c2, trivial⟩ ?_
      refine sy_bk [(.iload_n 1, 0, 0, 0, 0)] (79, [some (.ref 42), some (.int c), none], [.int c], σ) [] (by decide +kernel) rfl trivial ?_
      exact sy_reti rfl (by decide +kernel) (k2 c1 c2)
    · refine sy_bk [(.if_icmp .ne 41, 0, 78, 0, 0)] (40, [some (.ref 42), some (.int c), none], [], σ) [¬ sy_cc .ne (σ.1 42 3) 2] (by decide +kernel) rfl ⟨c2, trivial⟩ ?_
      refine sy_bk [(.iconst 0, 0, 0, 0, 0), (.istore_n 2, 0, 0, 0, 0)] (42, [some (.ref 42), some (.int c), some (.int 0)], [], σ) [] (by decide +kernel) rfl trivial ?_
      exact k3 c1 c2

set_option maxRecDepth 20000 in
theorem w_a_step_42 {Q : Option Value → sy_S → Prop} {σ : sy_S} {c : Int32} {i : Int32}  (b1 : vp_in c 16) (b2 : ¬ ((σ.1 5 c.toNatClampNeg) ≤ i) → vp_in ((c * 4) + i) 64) (k1 : (σ.1 5 c.toNatClampNeg) ≤ i → sy_E shX mX4_lineUp (0, sy_ent [.ref 42, .int c] 3, [], σ) (fun r9 σ9 => sy_E shX mX4_step (78, [none, some (.int c), none], r9.toList ++ [], σ9) Q)) (k2 : ¬ ((σ.1 5 c.toNatClampNeg) ≤ i) → sy_E shX mX4_lineUp (0, sy_ent [.ref 42, .int (σ.1 4 (((c * 4) + i).toNatClampNeg))] 3, [], σ) (fun r9 σ9 => sy_E shX mX4_step (67, [some (.ref 42), some (.int c), some (.int i)], r9.toList ++ [], σ9) Q)) : sy_E shX mX4_step (42, [some (.ref 42), some (.int c), some (.int i)], [], σ) Q := by
  refine sy_bk [(.iload_n 2, 0, 0, 0, 0), (.aload_n 0, 0, 0, 0, 0), (.getfield 18, 4, 0, 0, 0), (.iload_n 1, 0, 0, 0, 0)] (48, [some (.ref 42), some (.int c), some (.int i)], [.int c, .ref 0, .int i], σ) [] (by decide +kernel) rfl trivial ?_
  refine sy_callV mX3_nextCount 0 [.int c] [.int i] kX3_nextCount jX4_62 (by decide +kernel) rfl rfl (Nat.le_of_ble_eq_true rfl) (Nat.le_of_ble_eq_true rfl) (by decide) rfl ?_
  refine w_x_nextCount (σ := σ) (cell := c) b1 ?_
  show sy_E shX mX4_step (51, [some (.ref 42), some (.int c), some (.int i)], [.int (σ.1 5 c.toNatClampNeg), .int i], σ) _
  by_cases c1 : (σ.1 5 c.toNatClampNeg) ≤ i
  · refine sy_bk [(.if_icmp .ge 22, 1, 73, 0, 0)] (73, [some (.ref 42), some (.int c), some (.int i)], [], σ) [sy_cc .ge i (σ.1 5 c.toNatClampNeg)] (by decide +kernel) rfl ⟨c1, trivial⟩ ?_
    refine sy_bk [(.aload_n 0, 0, 0, 0, 0), (.iload_n 1, 0, 0, 0, 0)] (75, [some (.ref 42), some (.int c), some (.int i)], [.int c, .ref 42], σ) [] (by decide +kernel) rfl trivial ?_
    refine sy_drop [none, some (.int c), none] ⟨rfl, trivial⟩ ?_
    refine sy_callV mX4_lineUp 42 [.int c] [] kX4_lineUp jX4_51 (by decide +kernel) rfl rfl (Nat.le_of_ble_eq_true rfl) (Nat.le_of_ble_eq_true rfl) (by decide) rfl ?_
    exact k1 c1
  · refine sy_bk [(.if_icmp .ge 22, 0, 73, 0, 0)] (54, [some (.ref 42), some (.int c), some (.int i)], [], σ) [¬ sy_cc .ge i (σ.1 5 c.toNatClampNeg)] (by decide +kernel) rfl ⟨c1, trivial⟩ ?_
    refine sy_bk [(.aload_n 0, 0, 0, 0, 0), (.aload_n 0, 0, 0, 0, 0), (.getfield 18, 4, 0, 0, 0), (.iload_n 1, 0, 0, 0, 0), (.iload_n 2, 0, 0, 0, 0)] (61, [some (.ref 42), some (.int c), some (.int i)], [.int i, .int c, .ref 0, .ref 42], σ) [] (by decide +kernel) rfl trivial ?_
    refine sy_callV mX3_nextAt 0 [.int c, .int i] [.ref 42] kX3_nextAt jX4_65 (by decide +kernel) rfl rfl (Nat.le_of_ble_eq_true rfl) (Nat.le_of_ble_eq_true rfl) (by decide) rfl ?_
    refine w_x_nextAt (σ := σ) (cell := c) (side := i) (b2 c1) ?_
    show sy_E shX mX4_step (64, [some (.ref 42), some (.int c), some (.int i)], [.int (σ.1 4 (((c * 4) + i).toNatClampNeg)), .ref 42], σ) _
    refine sy_callV mX4_lineUp 42 [.int (σ.1 4 (((c * 4) + i).toNatClampNeg))] [] kX4_lineUp jX4_51 (by decide +kernel) rfl rfl (Nat.le_of_ble_eq_true rfl) (Nat.le_of_ble_eq_true rfl) (by decide) rfl ?_
    exact k2 c1

set_option maxRecDepth 20000 in
theorem w_a_step_67 {Q : Option Value → sy_S → Prop} {σ : sy_S} {c : Int32} {i : Int32}   (k1 : sy_E shX mX4_step (42, [some (.ref 42), some (.int c), some (.int (i + 1))], [], σ) Q) : sy_E shX mX4_step (67, [some (.ref 42), some (.int c), some (.int i)], [], σ) Q := by
  refine sy_bk [(.iinc 2 1, 0, 0, 1, 0), (.goto (-28), 0, 42, 0, 0)] (42, [some (.ref 42), some (.int c), some (.int (i + 1))], [], σ) [] (by decide +kernel) rfl trivial ?_
  exact k1

set_option maxRecDepth 20000 in
theorem w_a_step_78 {Q : Option Value → sy_S → Prop} {σ : sy_S} {c : Int32}   (k1 : Q (some (.int c)) σ) : sy_E shX mX4_step (78, [none, some (.int c), none], [], σ) Q := by
  refine sy_bk [(.iload_n 1, 0, 0, 0, 0)] (79, [none, some (.int c), none], [.int c], σ) [] (by decide +kernel) rfl trivial ?_
  exact sy_reti rfl (by decide +kernel) (k1)

set_option maxRecDepth 20000 in
theorem w_b_lineUp {Q : Option Value → sy_S → Prop} {σ : sy_S} {cell : Int32}  (b1 : (((σ.1 45 6) >>> (cell &&& 31)) &&& 1) = 0 → vp_in cell 16) (b2 : (((σ.1 45 6) >>> (cell &&& 31)) &&& 1) = 0 → ¬ ((σ.1 46 cell.toNatClampNeg) ≤ 3) → vp_in (((σ.1 45 4) + (σ.1 45 5)) - ((σ.1 45 4) + (σ.1 45 5)) / 16 * 16) 16) (k1 : (((σ.1 45 6) >>> (cell &&& 31)) &&& 1) = 0 → (σ.1 46 cell.toNatClampNeg) ≤ 3 → Q none σ) (k2 : (((σ.1 45 6) >>> (cell &&& 31)) &&& 1) = 0 → ¬ ((σ.1 46 cell.toNatClampNeg) ≤ 3) → Q none (sy_up (sy_up (sy_up σ.1 47 ((((σ.1 45 4) + (σ.1 45 5)) - ((σ.1 45 4) + (σ.1 45 5)) / 16 * 16).toNatClampNeg) cell) 45 5 ((σ.1 45 5) + 1)) 45 6 ((σ.1 45 6) ||| (1 <<< (cell &&& 31))), σ.2)) (k3 : ¬ ((((σ.1 45 6) >>> (cell &&& 31)) &&& 1) = 0) → Q none σ) : sy_E shX mX4_lineUp (0, sy_ent [.ref 45, .int cell] 3, [], σ) Q := by
  show sy_E shX mX4_lineUp (0, [some (.ref 45), some (.int cell), none], [], σ) _
  refine sy_bk [(.aload_n 0, 0, 0, 0, 0), (.getfield 38, 4, 6, 0, 0), (.iload_n 1, 0, 0, 0, 0), (.ishr, 0, 0, 0, 0), (.iconst 1, 0, 0, 1, 0), (.iand, 0, 0, 0, 0)] (8, [some (.ref 45), some (.int cell), none], [.int (((σ.1 45 6) >>> (cell &&& 31)) &&& 1)], σ) [] (by decide +kernel) rfl trivial ?_
  by_cases c1 : (((σ.1 45 6) >>> (cell &&& 31)) &&& 1) = 0
  · refine sy_bk [(.ifCond .eq 7, 1, 15, 0, 0)] (15, [some (.ref 45), some (.int cell), none], [], σ) [sy_cc .eq (((σ.1 45 6) >>> (cell &&& 31)) &&& 1) 0] (by decide +kernel) rfl ⟨c1, trivial⟩ ?_
    refine sy_bk [(.iconst 0, 0, 0, 0, 0), (.istore_n 2, 0, 0, 0, 0), (.iload_n 2, 0, 0, 0, 0), (.ifCond .ne 53, 0, 71, 0, 0), (.aload_n 0, 0, 0, 0, 0), (.getfield 9, 4, 1, 0, 0), (.iload_n 1, 0, 0, 0, 0), (.iaload, 0, 0, 0, 0), (.iconst 3, 0, 0, 3, 0)] (28, [some (.ref 45), some (.int cell), some (.int 0)], [.int 3, .int (σ.1 46 cell.toNatClampNeg)], σ) [¬ sy_cc .ne 0 0, sy_okA shX 0 46 cell] (by decide +kernel) rfl ⟨(by decide : ¬ (¬ (0 : Int32) = 0)), ⟨16, _, rfl, (b1 c1)⟩, trivial⟩ ?_
    by_cases c2 : (σ.1 46 cell.toNatClampNeg) ≤ 3
    · refine sy_bk [(.if_icmp .le 43, 1, 71, 0, 0)] (71, [some (.ref 45), some (.int cell), some (.int 0)], [], σ) [sy_cc .le (σ.1 46 cell.toNatClampNeg) 3] (by decide +kernel) rfl ⟨c2, trivial⟩ ?_
      exact sy_retv rfl (by decide +kernel) (k1 c1 c2)
    · refine sy_bk [(.if_icmp .le 43, 0, 71, 0, 0)] (31, [some (.ref 45), some (.int cell), some (.int 0)], [], σ) [¬ sy_cc .le (σ.1 46 cell.toNatClampNeg) 3] (by decide +kernel) rfl ⟨c2, trivial⟩ ?_
      refine sy_bk [(.aload_n 0, 0, 0, 0, 0), (.getfield 15, 4, 2, 0, 0), (.aload_n 0, 0, 0, 0, 0), (.getfield 32, 4, 4, 0, 0), (.aload_n 0, 0, 0, 0, 0), (.getfield 35, 4, 5, 0, 0), (.iadd, 0, 0, 0, 0), (.bipush 16, 0, 0, 16, 0), (.irem, 0, 0, 0, 0), (.iload_n 1, 0, 0, 0, 0), (.iastore, 0, 0, 0, 0), (.aload_n 0, 0, 0, 0, 0), (.dup, 0, 0, 0, 0), (.getfield 35, 4, 5, 0, 0), (.iconst 1, 0, 0, 1, 0), (.iadd, 0, 0, 0, 0), (.putfield 35, 4, 5, 0, 0), (.aload_n 0, 0, 0, 0, 0), (.dup, 0, 0, 0, 0), (.getfield 38, 4, 6, 0, 0), (.iconst 1, 0, 0, 1, 0), (.iload_n 1, 0, 0, 0, 0), (.ishl, 0, 0, 0, 0), (.ior, 0, 0, 0, 0), (.putfield 38, 4, 6, 0, 0)] (71, [some (.ref 45), some (.int cell), some (.int 0)], [], (sy_up (sy_up (sy_up σ.1 47 ((((σ.1 45 4) + (σ.1 45 5)) - ((σ.1 45 4) + (σ.1 45 5)) / 16 * 16).toNatClampNeg) cell) 45 5 ((σ.1 45 5) + 1)) 45 6 ((σ.1 45 6) ||| (1 <<< (cell &&& 31))), σ.2)) [¬ (16 : Int32) = 0, sy_okA shX 0 47 (((σ.1 45 4) + (σ.1 45 5)) - ((σ.1 45 4) + (σ.1 45 5)) / 16 * 16)] (by decide +kernel) rfl ⟨(by decide), ⟨16, _, rfl, (b2 c1 c2)⟩, trivial⟩ ?_
      exact sy_retv rfl (by decide +kernel) (k2 c1 c2)
  · refine sy_bk [(.ifCond .eq 7, 0, 15, 0, 0)] (11, [some (.ref 45), some (.int cell), none], [], σ) [¬ sy_cc .eq (((σ.1 45 6) >>> (cell &&& 31)) &&& 1) 0] (by decide +kernel) rfl ⟨c1, trivial⟩ ?_
    refine sy_bk [(.iconst 1, 0, 0, 1, 0), (.goto 4, 0, 16, 0, 0), (.istore_n 2, 0, 0, 0, 0), (.iload_n 2, 0, 0, 0, 0), (.ifCond .ne 53, 1, 71, 0, 0)] (71, [some (.ref 45), some (.int cell), some (.int 1)], [], σ) [sy_cc .ne 1 0] (by decide +kernel) rfl ⟨(by decide : (¬ (1 : Int32) = 0)), trivial⟩ ?_
    exact sy_retv rfl (by decide +kernel) (k3 c1)

set_option maxRecDepth 20000 in
theorem w_b_leave1 {Q : Option Value → sy_S → Prop} {σ : sy_S}   (b1 : ¬ (σ.1 45 5) = 0 → vp_in (σ.1 45 4) 16) (k1 : ¬ (σ.1 45 5) = 0 → Q (some (.int (σ.1 47 ((σ.1 45 4).toNatClampNeg)))) (sy_up (sy_up (sy_up σ.1 45 4 (((σ.1 45 4) + 1) - ((σ.1 45 4) + 1) / 16 * 16)) 45 5 ((σ.1 45 5) - 1)) 45 6 ((σ.1 45 6) &&& ((1 <<< ((σ.1 47 ((σ.1 45 4).toNatClampNeg)) &&& 31)) ^^^ (-1))), σ.2)) (k2 : ¬ (¬ (σ.1 45 5) = 0) → Q (some (.int (-1))) σ) : sy_E shX mX4_leave (0, sy_ent [.ref 45, .int 1] 3, [], σ) Q := by
  show sy_E shX mX4_leave (0, [some (.ref 45), some (.int 1), none], [], σ) _
  refine sy_bk [(.aload_n 0, 0, 0, 0, 0), (.getfield 35, 4, 5, 0, 0)] (4, [some (.ref 45), some (.int 1), none], [.int (σ.1 45 5)], σ) [] (by decide +kernel) rfl trivial ?_
  by_cases c1 : ¬ (σ.1 45 5) = 0
  · refine sy_bk [(.ifCond .ne 5, 1, 9, 0, 0)] (9, [some (.ref 45), some (.int 1), none], [], σ) [sy_cc .ne (σ.1 45 5) 0] (by decide +kernel) rfl ⟨c1, trivial⟩ ?_
    refine sy_bk [(.iload_n 1, 0, 0, 0, 0), (.ifCond .eq 10, 0, 20, 0, 0), (.aload_n 0, 0, 0, 0, 0), (.getfield 32, 4, 4, 0, 0), (.goto 17, 0, 34, 0, 0), (.istore_n 2, 0, 0, 0, 0), (.iload_n 1, 0, 0, 0, 0), (.ifCond .eq 16, 0, 52, 0, 0), (.aload_n 0, 0, 0, 0, 0), (.aload_n 0, 0, 0, 0, 0), (.getfield 32, 4, 4, 0, 0), (.iconst 1, 0, 0, 1, 0), (.iadd, 0, 0, 0, 0), (.bipush 16, 0, 0, 16, 0), (.irem, 0, 0, 0, 0), (.putfield 32, 4, 4, 0, 0), (.aload_n 0, 0, 0, 0, 0), (.dup, 0, 0, 0, 0), (.getfield 35, 4, 5, 0, 0), (.iconst 1, 0, 0, 1, 0), (.isub, 0, 0, 0, 0), (.putfield 35, 4, 5, 0, 0), (.aload_n 0, 0, 0, 0, 0), (.dup, 0, 0, 0, 0), (.getfield 38, 4, 6, 0, 0), (.iconst 1, 0, 0, 1, 0), (.aload_n 0, 0, 0, 0, 0), (.getfield 15, 4, 2, 0, 0), (.iload_n 2, 0, 0, 0, 0), (.iaload, 0, 0, 0, 0), (.ishl, 0, 0, 0, 0), (.iconst (-1), 0, 0, (-1), 0), (.ixor, 0, 0, 0, 0), (.iand, 0, 0, 0, 0), (.putfield 38, 4, 6, 0, 0), (.aload_n 0, 0, 0, 0, 0), (.getfield 15, 4, 2, 0, 0), (.iload_n 2, 0, 0, 0, 0), (.iaload, 0, 0, 0, 0)] (87, [some (.ref 45), some (.int 1), some (.int (σ.1 45 4))], [.int (σ.1 47 ((σ.1 45 4).toNatClampNeg))], (sy_up (sy_up (sy_up σ.1 45 4 (((σ.1 45 4) + 1) - ((σ.1 45 4) + 1) / 16 * 16)) 45 5 ((σ.1 45 5) - 1)) 45 6 ((σ.1 45 6) &&& ((1 <<< ((σ.1 47 ((σ.1 45 4).toNatClampNeg)) &&& 31)) ^^^ (-1))), σ.2)) [¬ sy_cc .eq 1 0, ¬ sy_cc .eq 1 0, ¬ (16 : Int32) = 0, sy_okA shX 0 47 (σ.1 45 4), sy_okA shX 0 47 (σ.1 45 4)] (by decide +kernel) rfl ⟨(by decide : ¬ ((1 : Int32) = 0)), (by decide : ¬ ((1 : Int32) = 0)), (by decide), ⟨16, _, rfl, (b1 c1)⟩, ⟨16, _, rfl, (b1 c1)⟩, trivial⟩ ?_
    exact sy_reti rfl (by decide +kernel) (k1 c1)
  · refine sy_bk [(.ifCond .ne 5, 0, 9, 0, 0)] (7, [some (.ref 45), some (.int 1), none], [], σ) [¬ sy_cc .ne (σ.1 45 5) 0] (by decide +kernel) rfl ⟨c1, trivial⟩ ?_
    refine sy_bk [(.iconst (-1), 0, 0, (-1), 0)] (8, [some (.ref 45), some (.int 1), none], [.int (-1)], σ) [] (by decide +kernel) rfl trivial ?_
    exact sy_reti rfl (by decide +kernel) (k2 c1)

set_option maxRecDepth 20000 in
theorem w_b_leave0 {Q : Option Value → sy_S → Prop} {σ : sy_S}   (b1 : ¬ (σ.1 45 5) = 0 → vp_in ((((σ.1 45 4) + (σ.1 45 5)) - 1) - (((σ.1 45 4) + (σ.1 45 5)) - 1) / 16 * 16) 16) (k1 : ¬ (σ.1 45 5) = 0 → Q (some (.int (σ.1 47 (((((σ.1 45 4) + (σ.1 45 5)) - 1) - (((σ.1 45 4) + (σ.1 45 5)) - 1) / 16 * 16).toNatClampNeg)))) (sy_up (sy_up σ.1 45 5 ((σ.1 45 5) - 1)) 45 6 ((σ.1 45 6) &&& ((1 <<< ((σ.1 47 (((((σ.1 45 4) + (σ.1 45 5)) - 1) - (((σ.1 45 4) + (σ.1 45 5)) - 1) / 16 * 16).toNatClampNeg)) &&& 31)) ^^^ (-1))), σ.2)) (k2 : ¬ (¬ (σ.1 45 5) = 0) → Q (some (.int (-1))) σ) : sy_E shX mX4_leave (0, sy_ent [.ref 45, .int 0] 3, [], σ) Q := by
  show sy_E shX mX4_leave (0, [some (.ref 45), some (.int 0), none], [], σ) _
  refine sy_bk [(.aload_n 0, 0, 0, 0, 0), (.getfield 35, 4, 5, 0, 0)] (4, [some (.ref 45), some (.int 0), none], [.int (σ.1 45 5)], σ) [] (by decide +kernel) rfl trivial ?_
  by_cases c1 : ¬ (σ.1 45 5) = 0
  · refine sy_bk [(.ifCond .ne 5, 1, 9, 0, 0)] (9, [some (.ref 45), some (.int 0), none], [], σ) [sy_cc .ne (σ.1 45 5) 0] (by decide +kernel) rfl ⟨c1, trivial⟩ ?_
    refine sy_bk [(.iload_n 1, 0, 0, 0, 0), (.ifCond .eq 10, 1, 20, 0, 0), (.aload_n 0, 0, 0, 0, 0), (.getfield 32, 4, 4, 0, 0), (.aload_n 0, 0, 0, 0, 0), (.getfield 35, 4, 5, 0, 0), (.iadd, 0, 0, 0, 0), (.iconst 1, 0, 0, 1, 0), (.isub, 0, 0, 0, 0), (.bipush 16, 0, 0, 16, 0), (.irem, 0, 0, 0, 0), (.istore_n 2, 0, 0, 0, 0), (.iload_n 1, 0, 0, 0, 0), (.ifCond .eq 16, 1, 52, 0, 0), (.aload_n 0, 0, 0, 0, 0), (.dup, 0, 0, 0, 0), (.getfield 35, 4, 5, 0, 0), (.iconst 1, 0, 0, 1, 0), (.isub, 0, 0, 0, 0), (.putfield 35, 4, 5, 0, 0), (.aload_n 0, 0, 0, 0, 0), (.dup, 0, 0, 0, 0), (.getfield 38, 4, 6, 0, 0), (.iconst 1, 0, 0, 1, 0), (.aload_n 0, 0, 0, 0, 0), (.getfield 15, 4, 2, 0, 0), (.iload_n 2, 0, 0, 0, 0), (.iaload, 0, 0, 0, 0), (.ishl, 0, 0, 0, 0), (.iconst (-1), 0, 0, (-1), 0), (.ixor, 0, 0, 0, 0), (.iand, 0, 0, 0, 0), (.putfield 38, 4, 6, 0, 0), (.aload_n 0, 0, 0, 0, 0), (.getfield 15, 4, 2, 0, 0), (.iload_n 2, 0, 0, 0, 0), (.iaload, 0, 0, 0, 0)] (87, [some (.ref 45), some (.int 0), some (.int ((((σ.1 45 4) + (σ.1 45 5)) - 1) - (((σ.1 45 4) + (σ.1 45 5)) - 1) / 16 * 16))], [.int (σ.1 47 (((((σ.1 45 4) + (σ.1 45 5)) - 1) - (((σ.1 45 4) + (σ.1 45 5)) - 1) / 16 * 16).toNatClampNeg))], (sy_up (sy_up σ.1 45 5 ((σ.1 45 5) - 1)) 45 6 ((σ.1 45 6) &&& ((1 <<< ((σ.1 47 (((((σ.1 45 4) + (σ.1 45 5)) - 1) - (((σ.1 45 4) + (σ.1 45 5)) - 1) / 16 * 16).toNatClampNeg)) &&& 31)) ^^^ (-1))), σ.2)) [sy_cc .eq 0 0, ¬ (16 : Int32) = 0, sy_cc .eq 0 0, sy_okA shX 0 47 ((((σ.1 45 4) + (σ.1 45 5)) - 1) - (((σ.1 45 4) + (σ.1 45 5)) - 1) / 16 * 16), sy_okA shX 0 47 ((((σ.1 45 4) + (σ.1 45 5)) - 1) - (((σ.1 45 4) + (σ.1 45 5)) - 1) / 16 * 16)] (by decide +kernel) rfl ⟨(by decide : ((0 : Int32) = 0)), (by decide), (by decide : ((0 : Int32) = 0)), ⟨16, _, rfl, (b1 c1)⟩, ⟨16, _, rfl, (b1 c1)⟩, trivial⟩ ?_
    exact sy_reti rfl (by decide +kernel) (k1 c1)
  · refine sy_bk [(.ifCond .ne 5, 0, 9, 0, 0)] (7, [some (.ref 45), some (.int 0), none], [], σ) [¬ sy_cc .ne (σ.1 45 5) 0] (by decide +kernel) rfl ⟨c1, trivial⟩ ?_
    refine sy_bk [(.iconst (-1), 0, 0, (-1), 0)] (8, [some (.ref 45), some (.int 0), none], [.int (-1)], σ) [] (by decide +kernel) rfl trivial ?_
    exact sy_reti rfl (by decide +kernel) (k2 c1)

set_option maxRecDepth 20000 in
theorem w_b_least_0 {Q : Option Value → sy_S → Prop} {σ : sy_S}    (k1 : sy_E shX mX4_leastCell (2, [some (.ref 45), some (.int 0), none], [], σ) Q) : sy_E shX mX4_leastCell (0, sy_ent [.ref 45] 3, [], σ) Q := by
  show sy_E shX mX4_leastCell (0, [some (.ref 45), none, none], [], σ) _
  refine sy_bk [(.iconst 0, 0, 0, 0, 0), (.istore_n 1, 0, 0, 0, 0)] (2, [some (.ref 45), some (.int 0), none], [], σ) [] (by decide +kernel) rfl trivial ?_
  exact k1

set_option maxRecDepth 20000 in
theorem w_b_least_2 {Q : Option Value → sy_S → Prop} {σ : sy_S} {i : Int32}  (b1 : ¬ ((σ.1 0 7) ≤ i) → vp_in i 16) (b2 : ¬ ((σ.1 0 7) ≤ i) → vp_in (σ.1 2 i.toNatClampNeg) 16) (k1 : (σ.1 0 7) ≤ i → Q (some (.int (-1))) σ) (k2 : ¬ ((σ.1 0 7) ≤ i) → (σ.1 46 ((σ.1 2 i.toNatClampNeg).toNatClampNeg)) ≤ 3 → sy_E shX mX4_leastCell (2, [some (.ref 45), some (.int (i + 1)), none], [], σ) Q) (k3 : ¬ ((σ.1 0 7) ≤ i) → ¬ ((σ.1 46 ((σ.1 2 i.toNatClampNeg).toNatClampNeg)) ≤ 3) → Q (some (.int (σ.1 2 i.toNatClampNeg))) σ) : sy_E shX mX4_leastCell (2, [some (.ref 45), some (.int i), none], [], σ) Q := by
  refine sy_bk [(.iload_n 1, 0, 0, 0, 0), (.aload_n 0, 0, 0, 0, 0), (.getfield 18, 4, 0, 0, 0)] (7, [some (.ref 45), some (.int i), none], [.ref 0, .int i], σ) [] (by decide +kernel) rfl trivial ?_
  refine sy_callV mX3_placeCount 0 [] [.int i] kX3_placeCount jX4_41 (by decide +kernel) rfl rfl (Nat.le_of_ble_eq_true rfl) (Nat.le_of_ble_eq_true rfl) (by decide) rfl ?_
  refine w_x_placeCount (σ := σ) ?_
  show sy_E shX mX4_leastCell (10, [some (.ref 45), some (.int i), none], [.int (σ.1 0 7), .int i], σ) _
  by_cases c1 : (σ.1 0 7) ≤ i
  · refine sy_bk [(.if_icmp .ge 30, 1, 40, 0, 0)] (40, [some (.ref 45), some (.int i), none], [], σ) [sy_cc .ge i (σ.1 0 7)] (by decide +kernel) rfl ⟨c1, trivial⟩ ?_
    refine sy_bk [(.iconst (-1), 0, 0, (-1), 0)] (41, [some (.ref 45), some (.int i), none], [.int (-1)], σ) [] (by decide +kernel) rfl trivial ?_
    exact sy_reti rfl (by decide +kernel) (k1 c1)
  · refine sy_bk [(.if_icmp .ge 30, 0, 40, 0, 0)] (13, [some (.ref 45), some (.int i), none], [], σ) [¬ sy_cc .ge i (σ.1 0 7)] (by decide +kernel) rfl ⟨c1, trivial⟩ ?_
    refine sy_bk [(.aload_n 0, 0, 0, 0, 0), (.getfield 18, 4, 0, 0, 0), (.iload_n 1, 0, 0, 0, 0)] (18, [some (.ref 45), some (.int i), none], [.int i, .ref 0], σ) [] (by decide +kernel) rfl trivial ?_
    refine sy_callV mX3_placeAt 0 [.int i] [] kX3_placeAt jX4_47 (by decide +kernel) rfl rfl (Nat.le_of_ble_eq_true rfl) (Nat.le_of_ble_eq_true rfl) (by decide) rfl ?_
    refine w_x_placeAt (σ := σ) (cell := i) (b1 c1) ?_
    show sy_E shX mX4_leastCell (21, [some (.ref 45), some (.int i), none], [.int (σ.1 2 i.toNatClampNeg)], σ) _
    refine sy_bk [(.istore_n 2, 0, 0, 0, 0), (.aload_n 0, 0, 0, 0, 0), (.getfield 9, 4, 1, 0, 0), (.iload_n 2, 0, 0, 0, 0), (.iaload, 0, 0, 0, 0), (.iconst 3, 0, 0, 3, 0)] (29, [some (.ref 45), some (.int i), some (.int (σ.1 2 i.toNatClampNeg))], [.int 3, .int (σ.1 46 ((σ.1 2 i.toNatClampNeg).toNatClampNeg))], σ) [sy_okA shX 0 46 (σ.1 2 i.toNatClampNeg)] (by decide +kernel) rfl ⟨⟨16, _, rfl, (b2 c1)⟩, trivial⟩ ?_
    by_cases c2 : (σ.1 46 ((σ.1 2 i.toNatClampNeg).toNatClampNeg)) ≤ 3
    · refine sy_bk [(.if_icmp .le 5, 1, 34, 0, 0)] (34, [some (.ref 45), some (.int i), some (.int (σ.1 2 i.toNatClampNeg))], [], σ) [sy_cc .le (σ.1 46 ((σ.1 2 i.toNatClampNeg).toNatClampNeg)) 3] (by decide +kernel) rfl ⟨c2, trivial⟩ ?_
      refine sy_bk [(.iinc 1 1, 0, 0, 1, 0), (.goto (-35), 0, 2, 0, 0)] (2, [some (.ref 45), some (.int (i + 1)), some (.int (σ.1 2 i.toNatClampNeg))], [], σ) [] (by decide +kernel) rfl trivial ?_
      refine sy_drop [some (.ref 45), some (.int (i + 1)), none] ⟨rfl, rfl, trivial⟩ ?_
      exact k2 c1 c2
    · refine sy_bk [(.if_icmp .le 5, 0, 34, 0, 0)] (32, [some (.ref 45), some (.int i), some (.int (σ.1 2 i.toNatClampNeg))], [], σ) [¬ sy_cc .le (σ.1 46 ((σ.1 2 i.toNatClampNeg).toNatClampNeg)) 3] (by decide +kernel) rfl ⟨c2, trivial⟩ ?_
      refine sy_bk [(.iload_n 2, 0, 0, 0, 0)] (33, [some (.ref 45), some (.int i), some (.int (σ.1 2 i.toNatClampNeg))], [.int (σ.1 2 i.toNatClampNeg)], σ) [] (by decide +kernel) rfl trivial ?_
      exact sy_reti rfl (by decide +kernel) (k3 c1 c2)

set_option maxRecDepth 20000 in
theorem w_b_tall_0 {Q : Option Value → sy_S → Prop} {σ : sy_S}    (k1 : sy_E shX mX4_tallestCell (6, [some (.ref 45), some (.int (-1)), some (.int 3), some (.int 0), none], [], σ) Q) : sy_E shX mX4_tallestCell (0, sy_ent [.ref 45] 5, [], σ) Q := by
  show sy_E shX mX4_tallestCell (0, [some (.ref 45), none, none, none, none], [], σ) _
  refine sy_bk [(.iconst (-1), 0, 0, (-1), 0), (.istore_n 1, 0, 0, 0, 0), (.iconst 3, 0, 0, 3, 0), (.istore_n 2, 0, 0, 0, 0), (.iconst 0, 0, 0, 0, 0), (.istore_n 3, 0, 0, 0, 0)] (6, [some (.ref 45), some (.int (-1)), some (.int 3), some (.int 0), none], [], σ) [] (by decide +kernel) rfl trivial ?_
  exact k1

set_option maxRecDepth 20000 in
theorem w_b_tall_6 {Q : Option Value → sy_S → Prop} {σ : sy_S} {best : Int32} {most : Int32} {i : Int32}  (b1 : ¬ ((σ.1 0 7) ≤ i) → vp_in i 16) (b2 : ¬ ((σ.1 0 7) ≤ i) → vp_in (σ.1 2 i.toNatClampNeg) 16) (k1 : (σ.1 0 7) ≤ i → Q (some (.int best)) σ) (k2 : ¬ ((σ.1 0 7) ≤ i) → (σ.1 46 ((σ.1 2 i.toNatClampNeg).toNatClampNeg)) ≤ most → sy_E shX mX4_tallestCell (6, [some (.ref 45), some (.int best), some (.int most), some (.int (i + 1)), none], [], σ) Q) (k3 : ¬ ((σ.1 0 7) ≤ i) → ¬ ((σ.1 46 ((σ.1 2 i.toNatClampNeg).toNatClampNeg)) ≤ most) → sy_E shX mX4_tallestCell (6, [some (.ref 45), some (.int (σ.1 2 i.toNatClampNeg)), some (.int (σ.1 46 ((σ.1 2 i.toNatClampNeg).toNatClampNeg))), some (.int (i + 1)), none], [], σ) Q) : sy_E shX mX4_tallestCell (6, [some (.ref 45), some (.int best), some (.int most), some (.int i), none], [], σ) Q := by
  refine sy_bk [(.iload_n 3, 0, 0, 0, 0), (.aload_n 0, 0, 0, 0, 0), (.getfield 18, 4, 0, 0, 0)] (11, [some (.ref 45), some (.int best), some (.int most), some (.int i), none], [.ref 0, .int i], σ) [] (by decide +kernel) rfl trivial ?_
  refine sy_callV mX3_placeCount 0 [] [.int i] kX3_placeCount jX4_41 (by decide +kernel) rfl rfl (Nat.le_of_ble_eq_true rfl) (Nat.le_of_ble_eq_true rfl) (by decide) rfl ?_
  refine w_x_placeCount (σ := σ) ?_
  show sy_E shX mX4_tallestCell (14, [some (.ref 45), some (.int best), some (.int most), some (.int i), none], [.int (σ.1 0 7), .int i], σ) _
  by_cases c1 : (σ.1 0 7) ≤ i
  · refine sy_bk [(.if_icmp .ge 41, 1, 55, 0, 0)] (55, [some (.ref 45), some (.int best), some (.int most), some (.int i), none], [], σ) [sy_cc .ge i (σ.1 0 7)] (by decide +kernel) rfl ⟨c1, trivial⟩ ?_
    refine sy_bk [(.iload_n 1, 0, 0, 0, 0)] (56, [some (.ref 45), some (.int best), some (.int most), some (.int i), none], [.int best], σ) [] (by decide +kernel) rfl trivial ?_
    exact sy_reti rfl (by decide +kernel) (k1 c1)
  · refine sy_bk [(.if_icmp .ge 41, 0, 55, 0, 0)] (17, [some (.ref 45), some (.int best), some (.int most), some (.int i), none], [], σ) [¬ sy_cc .ge i (σ.1 0 7)] (by decide +kernel) rfl ⟨c1, trivial⟩ ?_
    refine sy_bk [(.aload_n 0, 0, 0, 0, 0), (.getfield 18, 4, 0, 0, 0), (.iload_n 3, 0, 0, 0, 0)] (22, [some (.ref 45), some (.int best), some (.int most), some (.int i), none], [.int i, .ref 0], σ) [] (by decide +kernel) rfl trivial ?_
    refine sy_callV mX3_placeAt 0 [.int i] [] kX3_placeAt jX4_47 (by decide +kernel) rfl rfl (Nat.le_of_ble_eq_true rfl) (Nat.le_of_ble_eq_true rfl) (by decide) rfl ?_
    refine w_x_placeAt (σ := σ) (cell := i) (b1 c1) ?_
    show sy_E shX mX4_tallestCell (25, [some (.ref 45), some (.int best), some (.int most), some (.int i), none], [.int (σ.1 2 i.toNatClampNeg)], σ) _
    refine sy_bk [(.istore 4, 0, 0, 0, 0), (.aload_n 0, 0, 0, 0, 0), (.getfield 9, 4, 1, 0, 0), (.iload 4, 0, 0, 0, 0), (.iaload, 0, 0, 0, 0), (.iload_n 2, 0, 0, 0, 0)] (35, [some (.ref 45), some (.int best), some (.int most), some (.int i), some (.int (σ.1 2 i.toNatClampNeg))], [.int most, .int (σ.1 46 ((σ.1 2 i.toNatClampNeg).toNatClampNeg))], σ) [sy_okA shX 0 46 (σ.1 2 i.toNatClampNeg)] (by decide +kernel) rfl ⟨⟨16, _, rfl, (b2 c1)⟩, trivial⟩ ?_
    by_cases c2 : (σ.1 46 ((σ.1 2 i.toNatClampNeg).toNatClampNeg)) ≤ most
    · refine sy_bk [(.if_icmp .le 14, 1, 49, 0, 0)] (49, [some (.ref 45), some (.int best), some (.int most), some (.int i), some (.int (σ.1 2 i.toNatClampNeg))], [], σ) [sy_cc .le (σ.1 46 ((σ.1 2 i.toNatClampNeg).toNatClampNeg)) most] (by decide +kernel) rfl ⟨c2, trivial⟩ ?_
      refine sy_bk [(.iinc 3 1, 0, 0, 1, 0), (.goto (-46), 0, 6, 0, 0)] (6, [some (.ref 45), some (.int best), some (.int most), some (.int (i + 1)), some (.int (σ.1 2 i.toNatClampNeg))], [], σ) [] (by decide +kernel) rfl trivial ?_
      refine sy_drop [some (.ref 45), some (.int best), some (.int most), some (.int (i + 1)), none] ⟨rfl, rfl, rfl, rfl, trivial⟩ ?_
      exact k2 c1 c2
    · refine sy_bk [(.if_icmp .le 14, 0, 49, 0, 0)] (38, [some (.ref 45), some (.int best), some (.int most), some (.int i), some (.int (σ.1 2 i.toNatClampNeg))], [], σ) [¬ sy_cc .le (σ.1 46 ((σ.1 2 i.toNatClampNeg).toNatClampNeg)) most] (by decide +kernel) rfl ⟨c2, trivial⟩ ?_
      refine sy_bk [(.aload_n 0, 0, 0, 0, 0), (.getfield 9, 4, 1, 0, 0), (.iload 4, 0, 0, 0, 0), (.iaload, 0, 0, 0, 0), (.istore_n 2, 0, 0, 0, 0), (.iload 4, 0, 0, 0, 0), (.istore_n 1, 0, 0, 0, 0), (.iinc 3 1, 0, 0, 1, 0), (.goto (-46), 0, 6, 0, 0)] (6, [some (.ref 45), some (.int (σ.1 2 i.toNatClampNeg)), some (.int (σ.1 46 ((σ.1 2 i.toNatClampNeg).toNatClampNeg))), some (.int (i + 1)), some (.int (σ.1 2 i.toNatClampNeg))], [], σ) [sy_okA shX 0 46 (σ.1 2 i.toNatClampNeg)] (by decide +kernel) rfl ⟨⟨16, _, rfl, (b2 c1)⟩, trivial⟩ ?_
      refine sy_drop [some (.ref 45), some (.int (σ.1 2 i.toNatClampNeg)), some (.int (σ.1 46 ((σ.1 2 i.toNatClampNeg).toNatClampNeg))), some (.int (i + 1)), none] ⟨rfl, rfl, rfl, rfl, trivial⟩ ?_
      exact k3 c1 c2

set_option maxRecDepth 20000 in
theorem w_b_chosen_0 {Q : Option Value → sy_S → Prop} {σ : sy_S}    (k1 : (σ.1 45 3) = 0 → sy_E shX mX4_leastCell (0, sy_ent [.ref 45] 3, [], σ) (fun r9 σ9 => sy_E shX mX4_chosen (36, [none], r9.toList ++ [], σ9) Q)) (k2 : ¬ (σ.1 45 3) = 0 → (σ.1 45 3) = 1 → sy_E shX mX4_leave (0, sy_ent [.ref 45, .int 1] 3, [], σ) (fun r9 σ9 => sy_E shX mX4_chosen (42, [none], r9.toList ++ [], σ9) Q)) (k3 : ¬ (σ.1 45 3) = 0 → ¬ (σ.1 45 3) = 1 → (σ.1 45 3) = 2 → sy_E shX mX4_leave (0, sy_ent [.ref 45, .int 0] 3, [], σ) (fun r9 σ9 => sy_E shX mX4_chosen (48, [none], r9.toList ++ [], σ9) Q)) (k4 : ¬ (σ.1 45 3) = 0 → ¬ (σ.1 45 3) = 1 → ¬ (σ.1 45 3) = 2 → sy_E shX mX4_tallestCell (0, sy_ent [.ref 45] 5, [], σ) (fun r9 σ9 => sy_E shX mX4_chosen (53, [none], r9.toList ++ [], σ9) Q)) : sy_E shX mX4_chosen (0, sy_ent [.ref 45] 1, [], σ) Q := by
  show sy_E shX mX4_chosen (0, [some (.ref 45)], [], σ) _
  refine sy_bk [(.aload_n 0, 0, 0, 0, 0), (.getfield 28, 4, 3, 0, 0)] (4, [some (.ref 45)], [.int (σ.1 45 3)], σ) [] (by decide +kernel) rfl trivial ?_
  by_cases c1 : (σ.1 45 3) = 0
  · refine sy_bk [(.tableswitch 45 0 2 #[28, 33, 39], 1, 32, 0, 0)] (32, [some (.ref 45)], [], σ) [(σ.1 45 3) = 0] (by decide +kernel) rfl ⟨c1, trivial⟩ ?_
    refine sy_bk [(.aload_n 0, 0, 0, 0, 0)] (33, [some (.ref 45)], [.ref 45], σ) [] (by decide +kernel) rfl trivial ?_
    refine sy_drop [none] trivial ?_
    refine sy_callV mX4_leastCell 45 [] [] kX4_leastCell jX4_69 (by decide +kernel) rfl rfl (Nat.le_of_ble_eq_true rfl) (Nat.le_of_ble_eq_true rfl) (by decide) rfl ?_
    exact k1 c1
  by_cases c2 : (σ.1 45 3) = 1
  · refine sy_bk [(.tableswitch 45 0 2 #[28, 33, 39], 1, 37, 1, 0)] (37, [some (.ref 45)], [], σ) [(σ.1 45 3) = 1] (by decide +kernel) rfl ⟨c2, trivial⟩ ?_
    refine sy_bk [(.aload_n 0, 0, 0, 0, 0), (.iconst 1, 0, 0, 1, 0)] (39, [some (.ref 45)], [.int 1, .ref 45], σ) [] (by decide +kernel) rfl trivial ?_
    refine sy_drop [none] trivial ?_
    refine sy_callV mX4_leave 45 [.int 1] [] kX4_leave jX4_72 (by decide +kernel) rfl rfl (Nat.le_of_ble_eq_true rfl) (Nat.le_of_ble_eq_true rfl) (by decide) rfl ?_
    exact k2 c1 c2
  by_cases c3 : (σ.1 45 3) = 2
  · refine sy_bk [(.tableswitch 45 0 2 #[28, 33, 39], 1, 43, 2, 0)] (43, [some (.ref 45)], [], σ) [(σ.1 45 3) = 2] (by decide +kernel) rfl ⟨c3, trivial⟩ ?_
    refine sy_bk [(.aload_n 0, 0, 0, 0, 0), (.iconst 0, 0, 0, 0, 0)] (45, [some (.ref 45)], [.int 0, .ref 45], σ) [] (by decide +kernel) rfl trivial ?_
    refine sy_drop [none] trivial ?_
    refine sy_callV mX4_leave 45 [.int 0] [] kX4_leave jX4_72 (by decide +kernel) rfl rfl (Nat.le_of_ble_eq_true rfl) (Nat.le_of_ble_eq_true rfl) (by decide) rfl ?_
    exact k3 c1 c2 c3
  refine sy_bk [(.tableswitch 45 0 2 #[28, 33, 39], 0, 49, 0, 0)] (49, [some (.ref 45)], [], σ) [(σ.1 45 3).toInt < 0 ∨ 2 < (σ.1 45 3).toInt] (by decide +kernel) rfl ⟨sy_sw3 c1 c2 c3, trivial⟩ ?_
  refine sy_bk [(.aload_n 0, 0, 0, 0, 0)] (50, [some (.ref 45)], [.ref 45], σ) [] (by decide +kernel) rfl trivial ?_
  refine sy_drop [none] trivial ?_
  refine sy_callV mX4_tallestCell 45 [] [] kX4_tallestCell jX4_76 (by decide +kernel) rfl rfl (Nat.le_of_ble_eq_true rfl) (Nat.le_of_ble_eq_true rfl) (by decide) rfl ?_
  exact k4 c1 c2 c3

set_option maxRecDepth 20000 in
theorem w_b_chosen_36 {Q : Option Value → sy_S → Prop} {σ : sy_S} {v : Int32}   (k1 : Q (some (.int v)) σ) : sy_E shX mX4_chosen (36, [none], [.int v], σ) Q := by
  exact sy_reti rfl (by decide +kernel) (k1)

set_option maxRecDepth 20000 in
theorem w_b_chosen_42 {Q : Option Value → sy_S → Prop} {σ : sy_S} {v : Int32}   (k1 : Q (some (.int v)) σ) : sy_E shX mX4_chosen (42, [none], [.int v], σ) Q := by
  exact sy_reti rfl (by decide +kernel) (k1)

set_option maxRecDepth 20000 in
theorem w_b_chosen_48 {Q : Option Value → sy_S → Prop} {σ : sy_S} {v : Int32}   (k1 : Q (some (.int v)) σ) : sy_E shX mX4_chosen (48, [none], [.int v], σ) Q := by
  exact sy_reti rfl (by decide +kernel) (k1)

set_option maxRecDepth 20000 in
theorem w_b_chosen_53 {Q : Option Value → sy_S → Prop} {σ : sy_S} {v : Int32}   (k1 : Q (some (.int v)) σ) : sy_E shX mX4_chosen (53, [none], [.int v], σ) Q := by
  exact sy_reti rfl (by decide +kernel) (k1)

set_option maxRecDepth 20000 in
theorem w_b_begin_0 {Q : Option Value → sy_S → Prop} {σ : sy_S} {k : Nat} {ordr : Int32} (hk : shX[k]? = some (0, 16, []))  (k1 : ordr = 1 → sy_E shX mX4_begin (50, [some (.ref 45), none, none, some (.int 0)], [], (sy_up (sy_up (sy_up (sy_up (sy_cp σ.1 k 46 16) 45 3 ordr) 45 4 0) 45 5 0) 45 6 0, σ.2)) Q) (k2 : ¬ (ordr = 1) → ¬ ordr = 2 → Q none (sy_up (sy_up (sy_up (sy_up (sy_cp σ.1 k 46 16) 45 3 ordr) 45 4 0) 45 5 0) 45 6 0, σ.2)) (k3 : ¬ (ordr = 1) → ¬ (¬ ordr = 2) → sy_E shX mX4_begin (50, [some (.ref 45), none, none, some (.int 0)], [], (sy_up (sy_up (sy_up (sy_up (sy_cp σ.1 k 46 16) 45 3 ordr) 45 4 0) 45 5 0) 45 6 0, σ.2)) Q) : sy_E shX mX4_begin (0, sy_ent [.ref 45, .ref k, .int ordr] 4, [], σ) Q := by
  show sy_E shX mX4_begin (0, [some (.ref 45), some (.ref k), some (.int ordr), none], [], σ) _
  refine sy_bk [(.aload_n 1, 0, 0, 0, 0), (.iconst 0, 0, 0, 0, 0), (.aload_n 0, 0, 0, 0, 0), (.getfield 9, 4, 1, 0, 0), (.iconst 0, 0, 0, 0, 0), (.bipush 16, 0, 0, 16, 0)] (9, [some (.ref 45), some (.ref k), some (.int ordr), none], [.int 16, .int 0, .ref 46, .int 0, .ref k], σ) [] (by decide +kernel) rfl trivial ?_
  refine sy_copy [] jX4_22 (by decide +kernel) rfl hk rfl (by decide) (by decide) (Nat.le_of_ble_eq_true rfl) (by decide) (by decide) ?_
  show sy_E shX mX4_begin (12, [some (.ref 45), some (.ref k), some (.int ordr), none], [], (sy_cp σ.1 k 46 16, σ.2)) _
  refine sy_bk [(.aload_n 0, 0, 0, 0, 0), (.iload_n 2, 0, 0, 0, 0), (.putfield 28, 4, 3, 0, 0), (.aload_n 0, 0, 0, 0, 0), (.iconst 0, 0, 0, 0, 0), (.putfield 32, 4, 4, 0, 0), (.aload_n 0, 0, 0, 0, 0), (.iconst 0, 0, 0, 0, 0), (.putfield 35, 4, 5, 0, 0), (.aload_n 0, 0, 0, 0, 0), (.iconst 0, 0, 0, 0, 0), (.putfield 38, 4, 6, 0, 0), (.aload_n 0, 0, 0, 0, 0), (.getfield 28, 4, 3, 0, 0), (.iconst 1, 0, 0, 1, 0)] (37, [some (.ref 45), some (.ref k), some (.int ordr), none], [.int 1, .int ordr], (sy_up (sy_up (sy_up (sy_up (sy_cp σ.1 k 46 16) 45 3 ordr) 45 4 0) 45 5 0) 45 6 0, σ.2)) [] (by decide +kernel) rfl trivial ?_
  by_cases c1 : ordr = 1
  · refine sy_bk [(.if_icmp .eq 11, 1, 48, 0, 0)] (48, [some (.ref 45), some (.ref k), some (.int ordr), none], [], (sy_up (sy_up (sy_up (sy_up (sy_cp σ.1 k 46 16) 45 3 ordr) 45 4 0) 45 5 0) 45 6 0, σ.2)) [sy_cc .eq ordr 1] (by decide +kernel) rfl ⟨c1, trivial⟩ ?_
    refine sy_bk [(.iconst 0, 0, 0, 0, 0), (.istore_n 3, 0, 0, 0, 0)] (50, [some (.ref 45), some (.ref k), some (.int ordr), some (.int 0)], [], (sy_up (sy_up (sy_up (sy_up (sy_cp σ.1 k 46 16) 45 3 ordr) 45 4 0) 45 5 0) 45 6 0, σ.2)) [] (by decide +kernel) rfl trivial ?_
    refine sy_drop [some (.ref 45), none, none, some (.int 0)] ⟨rfl, rfl, trivial⟩ ?_
    exact k1 c1
  · refine sy_bk [(.if_icmp .eq 11, 0, 48, 0, 0)] (40, [some (.ref 45), some (.ref k), some (.int ordr), none], [], (sy_up (sy_up (sy_up (sy_up (sy_cp σ.1 k 46 16) 45 3 ordr) 45 4 0) 45 5 0) 45 6 0, σ.2)) [¬ sy_cc .eq ordr 1] (by decide +kernel) rfl ⟨c1, trivial⟩ ?_
    refine sy_bk [(.aload_n 0, 0, 0, 0, 0), (.getfield 28, 4, 3, 0, 0), (.iconst 2, 0, 0, 2, 0)] (45, [some (.ref 45), some (.ref k), some (.int ordr), none], [.int 2, .int ordr], (sy_up (sy_up (sy_up (sy_up (sy_cp σ.1 k 46 16) 45 3 ordr) 45 4 0) 45 5 0) 45 6 0, σ.2)) [] (by decide +kernel) rfl trivial ?_
    by_cases c2 : ¬ ordr = 2
    · refine sy_bk [(.if_icmp .ne 34, 1, 79, 0, 0)] (79, [some (.ref 45), some (.ref k), some (.int ordr), none], [], (sy_up (sy_up (sy_up (sy_up (sy_cp σ.1 k 46 16) 45 3 ordr) 45 4 0) 45 5 0) 45 6 0, σ.2)) [sy_cc .ne ordr 2] (by decide +kernel) rfl ⟨c2, trivial⟩ ?_
      exact sy_retv rfl (by decide +kernel) (k2 c1 c2)
    · refine sy_bk [(.if_icmp .ne 34, 0, 79, 0, 0)] (48, [some (.ref 45), some (.ref k), some (.int ordr), none], [], (sy_up (sy_up (sy_up (sy_up (sy_cp σ.1 k 46 16) 45 3 ordr) 45 4 0) 45 5 0) 45 6 0, σ.2)) [¬ sy_cc .ne ordr 2] (by decide +kernel) rfl ⟨c2, trivial⟩ ?_
      refine sy_bk [(.iconst 0, 0, 0, 0, 0), (.istore_n 3, 0, 0, 0, 0)] (50, [some (.ref 45), some (.ref k), some (.int ordr), some (.int 0)], [], (sy_up (sy_up (sy_up (sy_up (sy_cp σ.1 k 46 16) 45 3 ordr) 45 4 0) 45 5 0) 45 6 0, σ.2)) [] (by decide +kernel) rfl trivial ?_
      refine sy_drop [some (.ref 45), none, none, some (.int 0)] ⟨rfl, rfl, trivial⟩ ?_
      exact k3 c1 c2

set_option maxRecDepth 20000 in
theorem w_b_begin_50 {Q : Option Value → sy_S → Prop} {σ : sy_S} {i : Int32}  (b1 : ¬ ((σ.1 0 7) ≤ i) → vp_in i 16) (k1 : (σ.1 0 7) ≤ i → Q none σ) (k2 : ¬ ((σ.1 0 7) ≤ i) → sy_E shX mX4_lineUp (0, sy_ent [.ref 45, .int (σ.1 2 i.toNatClampNeg)] 3, [], σ) (fun r9 σ9 => sy_E shX mX4_begin (73, [some (.ref 45), none, none, some (.int i)], r9.toList ++ [], σ9) Q)) : sy_E shX mX4_begin (50, [some (.ref 45), none, none, some (.int i)], [], σ) Q := by
  refine sy_bk [(.iload_n 3, 0, 0, 0, 0), (.aload_n 0, 0, 0, 0, 0), (.getfield 18, 4, 0, 0, 0)] (55, [some (.ref 45), none, none, some (.int i)], [.ref 0, .int i], σ) [] (by decide +kernel) rfl trivial ?_
  refine sy_callV mX3_placeCount 0 [] [.int i] kX3_placeCount jX4_41 (by decide +kernel) rfl rfl (Nat.le_of_ble_eq_true rfl) (Nat.le_of_ble_eq_true rfl) (by decide) rfl ?_
  refine w_x_placeCount (σ := σ) ?_
  show sy_E shX mX4_begin (58, [some (.ref 45), none, none, some (.int i)], [.int (σ.1 0 7), .int i], σ) _
  by_cases c1 : (σ.1 0 7) ≤ i
  · refine sy_bk [(.if_icmp .ge 21, 1, 79, 0, 0)] (79, [some (.ref 45), none, none, some (.int i)], [], σ) [sy_cc .ge i (σ.1 0 7)] (by decide +kernel) rfl ⟨c1, trivial⟩ ?_
    exact sy_retv rfl (by decide +kernel) (k1 c1)
  · refine sy_bk [(.if_icmp .ge 21, 0, 79, 0, 0)] (61, [some (.ref 45), none, none, some (.int i)], [], σ) [¬ sy_cc .ge i (σ.1 0 7)] (by decide +kernel) rfl ⟨c1, trivial⟩ ?_
    refine sy_bk [(.aload_n 0, 0, 0, 0, 0), (.aload_n 0, 0, 0, 0, 0), (.getfield 18, 4, 0, 0, 0), (.iload_n 3, 0, 0, 0, 0)] (67, [some (.ref 45), none, none, some (.int i)], [.int i, .ref 0, .ref 45], σ) [] (by decide +kernel) rfl trivial ?_
    refine sy_callV mX3_placeAt 0 [.int i] [.ref 45] kX3_placeAt jX4_47 (by decide +kernel) rfl rfl (Nat.le_of_ble_eq_true rfl) (Nat.le_of_ble_eq_true rfl) (by decide) rfl ?_
    refine w_x_placeAt (σ := σ) (cell := i) (b1 c1) ?_
    show sy_E shX mX4_begin (70, [some (.ref 45), none, none, some (.int i)], [.int (σ.1 2 i.toNatClampNeg), .ref 45], σ) _
    refine sy_callV mX4_lineUp 45 [.int (σ.1 2 i.toNatClampNeg)] [] kX4_lineUp jX4_51 (by decide +kernel) rfl rfl (Nat.le_of_ble_eq_true rfl) (Nat.le_of_ble_eq_true rfl) (by decide) rfl ?_
    exact k2 c1

set_option maxRecDepth 20000 in
theorem w_b_begin_73 {Q : Option Value → sy_S → Prop} {σ : sy_S} {i : Int32}   (k1 : sy_E shX mX4_begin (50, [some (.ref 45), none, none, some (.int (i + 1))], [], σ) Q) : sy_E shX mX4_begin (73, [some (.ref 45), none, none, some (.int i)], [], σ) Q := by
  refine sy_bk [(.iinc 3 1, 0, 0, 1, 0), (.goto (-26), 0, 50, 0, 0)] (50, [some (.ref 45), none, none, some (.int (i + 1))], [], σ) [] (by decide +kernel) rfl trivial ?_
  exact k1

set_option maxRecDepth 20000 in
theorem w_b_step_0 {Q : Option Value → sy_S → Prop} {σ : sy_S}    (k1 : sy_E shX mX4_chosen (0, sy_ent [.ref 45] 1, [], σ) (fun r9 σ9 => sy_E shX mX4_step (4, [some (.ref 45), none, none], r9.toList ++ [], σ9) Q)) : sy_E shX mX4_step (0, sy_ent [.ref 45] 3, [], σ) Q := by
  show sy_E shX mX4_step (0, [some (.ref 45), none, none], [], σ) _
  refine sy_bk [(.aload_n 0, 0, 0, 0, 0)] (1, [some (.ref 45), none, none], [.ref 45], σ) [] (by decide +kernel) rfl trivial ?_
  refine sy_callV mX4_chosen 45 [] [] kX4_chosen jX4_55 (by decide +kernel) rfl rfl (Nat.le_of_ble_eq_true rfl) (Nat.le_of_ble_eq_true rfl) (by decide) rfl ?_
  exact k1

set_option maxRecDepth 20000 in
theorem w_b_step_4 {Q : Option Value → sy_S → Prop} {σ : sy_S} {c : Int32}   (k1 : 0 ≤ c → sy_E shX mX3_spill (0, sy_ent [.ref 0, .ref 46, .int c, .int 1] 7, [], σ) (fun r9 σ9 => sy_E shX mX4_step (24, [some (.ref 45), some (.int c), none], r9.toList ++ [], σ9) Q)) (k2 : ¬ (0 ≤ c) → Q (some (.int (-1))) σ) : sy_E shX mX4_step (4, [some (.ref 45), none, none], [.int c], σ) Q := by
  refine sy_bk [(.istore_n 1, 0, 0, 0, 0), (.iload_n 1, 0, 0, 0, 0)] (6, [some (.ref 45), some (.int c), none], [.int c], σ) [] (by decide +kernel) rfl trivial ?_
  by_cases c1 : 0 ≤ c
  · refine sy_bk [(.ifCond .ge 5, 1, 11, 0, 0)] (11, [some (.ref 45), some (.int c), none], [], σ) [sy_cc .ge c 0] (by decide +kernel) rfl ⟨c1, trivial⟩ ?_
    refine sy_bk [(.aload_n 0, 0, 0, 0, 0), (.getfield 18, 4, 0, 0, 0), (.aload_n 0, 0, 0, 0, 0), (.getfield 9, 4, 1, 0, 0), (.iload_n 1, 0, 0, 0, 0), (.iconst 1, 0, 0, 1, 0)] (21, [some (.ref 45), some (.int c), none], [.int 1, .int c, .ref 46, .ref 0], σ) [] (by decide +kernel) rfl trivial ?_
    refine sy_callV mX3_spill 0 [.ref 46, .int c, .int 1] [] kX3_spill jX4_58 (by decide +kernel) rfl rfl (Nat.le_of_ble_eq_true rfl) (Nat.le_of_ble_eq_true rfl) (by decide) rfl ?_
    exact k1 c1
  · refine sy_bk [(.ifCond .ge 5, 0, 11, 0, 0)] (9, [some (.ref 45), some (.int c), none], [], σ) [¬ sy_cc .ge c 0] (by decide +kernel) rfl ⟨c1, trivial⟩ ?_
    refine sy_bk [(.iconst (-1), 0, 0, (-1), 0)] (10, [some (.ref 45), some (.int c), none], [.int (-1)], σ) [] (by decide +kernel) rfl trivial ?_
    exact sy_reti rfl (by decide +kernel) (k2 c1)

set_option maxRecDepth 20000 in
theorem w_b_step_24 {Q : Option Value → sy_S → Prop} {σ : sy_S} {c : Int32}   (k1 : (σ.1 45 3) = 1 → sy_E shX mX4_step (42, [some (.ref 45), some (.int c), some (.int 0)], [], σ) Q) (k2 : ¬ ((σ.1 45 3) = 1) → ¬ (σ.1 45 3) = 2 → Q (some (.int c)) σ) (k3 : ¬ ((σ.1 45 3) = 1) → ¬ (¬ (σ.1 45 3) = 2) → sy_E shX mX4_step (42, [some (.ref 45), some (.int c), some (.int 0)], [], σ) Q) : sy_E shX mX4_step (24, [some (.ref 45), some (.int c), none], [], σ) Q := by
  refine sy_bk [(.aload_n 0, 0, 0, 0, 0), (.getfield 28, 4, 3, 0, 0), (.iconst 1, 0, 0, 1, 0)] (29, [some (.ref 45), some (.int c), none], [.int 1, .int (σ.1 45 3)], σ) [] (by decide +kernel) rfl trivial ?_
  by_cases c1 : (σ.1 45 3) = 1
  · refine sy_bk [(.if_icmp .eq 11, 1, 40, 0, 0)] (40, [some (.ref 45), some (.int c), none], [], σ) [sy_cc .eq (σ.1 45 3) 1] (by decide +kernel) rfl ⟨c1, trivial⟩ ?_
    refine sy_bk [(.iconst 0, 0, 0, 0, 0), (.istore_n 2, 0, 0, 0, 0)] (42, [some (.ref 45), some (.int c), some (.int 0)], [], σ) [] (by decide +kernel) rfl trivial ?_
    exact k1 c1
  · refine sy_bk [(.if_icmp .eq 11, 0, 40, 0, 0)] (32, [some (.ref 45), some (.int c), none], [], σ) [¬ sy_cc .eq (σ.1 45 3) 1] (by decide +kernel) rfl ⟨c1, trivial⟩ ?_
    refine sy_bk [(.aload_n 0, 0, 0, 0, 0), (.getfield 28, 4, 3, 0, 0), (.iconst 2, 0, 0, 2, 0)] (37, [some (.ref 45), some (.int c), none], [.int 2, .int (σ.1 45 3)], σ) [] (by decide +kernel) rfl trivial ?_
    by_cases c2 : ¬ (σ.1 45 3) = 2
    · refine sy_bk [(.if_icmp .ne 41, 1, 78, 0, 0)] (78, [some (.ref 45), some (.int c), none], [], σ) [sy_cc .ne (σ.1 45 3) 2] (by decide +kernel) rfl ⟨c2, trivial⟩ ?_
      refine sy_bk [(.iload_n 1, 0, 0, 0, 0)] (79, [some (.ref 45), some (.int c), none], [.int c], σ) [] (by decide +kernel) rfl trivial ?_
      exact sy_reti rfl (by decide +kernel) (k2 c1 c2)
    · refine sy_bk [(.if_icmp .ne 41, 0, 78, 0, 0)] (40, [some (.ref 45), some (.int c), none], [], σ) [¬ sy_cc .ne (σ.1 45 3) 2] (by decide +kernel) rfl ⟨c2, trivial⟩ ?_
      refine sy_bk [(.iconst 0, 0, 0, 0, 0), (.istore_n 2, 0, 0, 0, 0)] (42, [some (.ref 45), some (.int c), some (.int 0)], [], σ) [] (by decide +kernel) rfl trivial ?_
      exact k3 c1 c2

set_option maxRecDepth 20000 in
theorem w_b_step_42 {Q : Option Value → sy_S → Prop} {σ : sy_S} {c : Int32} {i : Int32}  (b1 : vp_in c 16) (b2 : ¬ ((σ.1 5 c.toNatClampNeg) ≤ i) → vp_in ((c * 4) + i) 64) (k1 : (σ.1 5 c.toNatClampNeg) ≤ i → sy_E shX mX4_lineUp (0, sy_ent [.ref 45, .int c] 3, [], σ) (fun r9 σ9 => sy_E shX mX4_step (78, [none, some (.int c), none], r9.toList ++ [], σ9) Q)) (k2 : ¬ ((σ.1 5 c.toNatClampNeg) ≤ i) → sy_E shX mX4_lineUp (0, sy_ent [.ref 45, .int (σ.1 4 (((c * 4) + i).toNatClampNeg))] 3, [], σ) (fun r9 σ9 => sy_E shX mX4_step (67, [some (.ref 45), some (.int c), some (.int i)], r9.toList ++ [], σ9) Q)) : sy_E shX mX4_step (42, [some (.ref 45), some (.int c), some (.int i)], [], σ) Q := by
  refine sy_bk [(.iload_n 2, 0, 0, 0, 0), (.aload_n 0, 0, 0, 0, 0), (.getfield 18, 4, 0, 0, 0), (.iload_n 1, 0, 0, 0, 0)] (48, [some (.ref 45), some (.int c), some (.int i)], [.int c, .ref 0, .int i], σ) [] (by decide +kernel) rfl trivial ?_
  refine sy_callV mX3_nextCount 0 [.int c] [.int i] kX3_nextCount jX4_62 (by decide +kernel) rfl rfl (Nat.le_of_ble_eq_true rfl) (Nat.le_of_ble_eq_true rfl) (by decide) rfl ?_
  refine w_x_nextCount (σ := σ) (cell := c) b1 ?_
  show sy_E shX mX4_step (51, [some (.ref 45), some (.int c), some (.int i)], [.int (σ.1 5 c.toNatClampNeg), .int i], σ) _
  by_cases c1 : (σ.1 5 c.toNatClampNeg) ≤ i
  · refine sy_bk [(.if_icmp .ge 22, 1, 73, 0, 0)] (73, [some (.ref 45), some (.int c), some (.int i)], [], σ) [sy_cc .ge i (σ.1 5 c.toNatClampNeg)] (by decide +kernel) rfl ⟨c1, trivial⟩ ?_
    refine sy_bk [(.aload_n 0, 0, 0, 0, 0), (.iload_n 1, 0, 0, 0, 0)] (75, [some (.ref 45), some (.int c), some (.int i)], [.int c, .ref 45], σ) [] (by decide +kernel) rfl trivial ?_
    refine sy_drop [none, some (.int c), none] ⟨rfl, trivial⟩ ?_
    refine sy_callV mX4_lineUp 45 [.int c] [] kX4_lineUp jX4_51 (by decide +kernel) rfl rfl (Nat.le_of_ble_eq_true rfl) (Nat.le_of_ble_eq_true rfl) (by decide) rfl ?_
    exact k1 c1
  · refine sy_bk [(.if_icmp .ge 22, 0, 73, 0, 0)] (54, [some (.ref 45), some (.int c), some (.int i)], [], σ) [¬ sy_cc .ge i (σ.1 5 c.toNatClampNeg)] (by decide +kernel) rfl ⟨c1, trivial⟩ ?_
    refine sy_bk [(.aload_n 0, 0, 0, 0, 0), (.aload_n 0, 0, 0, 0, 0), (.getfield 18, 4, 0, 0, 0), (.iload_n 1, 0, 0, 0, 0), (.iload_n 2, 0, 0, 0, 0)] (61, [some (.ref 45), some (.int c), some (.int i)], [.int i, .int c, .ref 0, .ref 45], σ) [] (by decide +kernel) rfl trivial ?_
    refine sy_callV mX3_nextAt 0 [.int c, .int i] [.ref 45] kX3_nextAt jX4_65 (by decide +kernel) rfl rfl (Nat.le_of_ble_eq_true rfl) (Nat.le_of_ble_eq_true rfl) (by decide) rfl ?_
    refine w_x_nextAt (σ := σ) (cell := c) (side := i) (b2 c1) ?_
    show sy_E shX mX4_step (64, [some (.ref 45), some (.int c), some (.int i)], [.int (σ.1 4 (((c * 4) + i).toNatClampNeg)), .ref 45], σ) _
    refine sy_callV mX4_lineUp 45 [.int (σ.1 4 (((c * 4) + i).toNatClampNeg))] [] kX4_lineUp jX4_51 (by decide +kernel) rfl rfl (Nat.le_of_ble_eq_true rfl) (Nat.le_of_ble_eq_true rfl) (by decide) rfl ?_
    exact k2 c1

set_option maxRecDepth 20000 in
theorem w_b_step_67 {Q : Option Value → sy_S → Prop} {σ : sy_S} {c : Int32} {i : Int32}   (k1 : sy_E shX mX4_step (42, [some (.ref 45), some (.int c), some (.int (i + 1))], [], σ) Q) : sy_E shX mX4_step (67, [some (.ref 45), some (.int c), some (.int i)], [], σ) Q := by
  refine sy_bk [(.iinc 2 1, 0, 0, 1, 0), (.goto (-28), 0, 42, 0, 0)] (42, [some (.ref 45), some (.int c), some (.int (i + 1))], [], σ) [] (by decide +kernel) rfl trivial ?_
  exact k1

set_option maxRecDepth 20000 in
theorem w_b_step_78 {Q : Option Value → sy_S → Prop} {σ : sy_S} {c : Int32}   (k1 : Q (some (.int c)) σ) : sy_E shX mX4_step (78, [none, some (.int c), none], [], σ) Q := by
  refine sy_bk [(.iload_n 1, 0, 0, 0, 0)] (79, [none, some (.int c), none], [.int c], σ) [] (by decide +kernel) rfl trivial ?_
  exact sy_reti rfl (by decide +kernel) (k1)
