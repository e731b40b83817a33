/-! walks of Changes, Shelf, Tape, Tally, Seen, Fire (by program: wip/whole/gen/p41.py) -/
set_option maxRecDepth 20000 in
theorem w_x_undoable {Q : Option Value → sy_S → Prop} {σ : sy_S}    (k1 : Q (some (.int (σ.1 8 1))) σ) : sy_E shX mX0_undoable (0, sy_ent [.ref 8] 1, [], σ) Q := by
  show sy_E shX mX0_undoable (0, [some (.ref 8)], [], σ) _
  refine sy_bk [(.aload_n 0, 0, 0, 0, 0), (.getfield 16, 0, 1, 0, 0)] (4, [some (.ref 8)], [.int (σ.1 8 1)], σ) [] (by decide +kernel) rfl trivial ?_
  exact sy_reti rfl (by decide +kernel) (k1)

set_option maxRecDepth 20000 in
theorem w_x_redoable {Q : Option Value → sy_S → Prop} {σ : sy_S}    (k1 : Q (some (.int ((σ.1 8 2) - (σ.1 8 1)))) σ) : sy_E shX mX0_redoable (0, sy_ent [.ref 8] 1, [], σ) Q := by
  show sy_E shX mX0_redoable (0, [some (.ref 8)], [], σ) _
  refine sy_bk [(.aload_n 0, 0, 0, 0, 0), (.getfield 20, 0, 2, 0, 0), (.aload_n 0, 0, 0, 0, 0), (.getfield 16, 0, 1, 0, 0), (.isub, 0, 0, 0, 0)] (9, [some (.ref 8)], [.int ((σ.1 8 2) - (σ.1 8 1))], σ) [] (by decide +kernel) rfl trivial ?_
  exact sy_reti rfl (by decide +kernel) (k1)

set_option maxRecDepth 20000 in
theorem w_pl_has {Q : Option Value → sy_S → Prop} {σ : sy_S} {i : Int32}   (k1 : i < 0 → Q (some (.int 0)) σ) (k2 : ¬ (i < 0) → 6 ≤ i → Q (some (.int 0)) σ) (k3 : ¬ (i < 0) → ¬ (6 ≤ i) → Q (some (.int 1)) σ) : sy_E shX mX7_has (0, sy_ent [.ref 23, .int i] 2, [], σ) Q := by
  show sy_E shX mX7_has (0, [some (.ref 23), some (.int i)], [], σ) _
  refine sy_bk [(.iload_n 1, 0, 0, 0, 0)] (1, [some (.ref 23), some (.int i)], [.int i], σ) [] (by decide +kernel) rfl trivial ?_
  by_cases c1 : i < 0
  · refine sy_bk [(.ifCond .lt 16, 1, 17, 0, 0)] (17, [some (.ref 23), some (.int i)], [], σ) [sy_cc .lt i 0] (by decide +kernel) rfl ⟨c1, trivial⟩ ?_
    refine sy_bk [(.iconst 0, 0, 0, 0, 0)] (18, [some (.ref 23), some (.int i)], [.int 0], σ) [] (by decide +kernel) rfl trivial ?_
    exact sy_retz rfl (by decide +kernel) (Or.inl rfl) (k1 c1)
  · refine sy_bk [(.ifCond .lt 16, 0, 17, 0, 0)] (4, [some (.ref 23), some (.int i)], [], σ) [¬ sy_cc .lt i 0] (by decide +kernel) rfl ⟨c1, trivial⟩ ?_
    refine sy_bk [(.iload_n 1, 0, 0, 0, 0), (.aload_n 0, 0, 0, 0, 0), (.getfield 14, 7, 1, 0, 0), (.arraylength, 0, 0, 0, 0)] (10, [some (.ref 23), some (.int i)], [.int 6, .int i], σ) [sy_okL shX 31] (by decide +kernel) rfl ⟨⟨0, _, _, rfl, by decide⟩, trivial⟩ ?_
    by_cases c2 : 6 ≤ i
    · refine sy_bk [(.if_icmp .ge 7, 1, 17, 0, 0)] (17, [some (.ref 23), some (.int i)], [], σ) [sy_cc .ge i 6] (by decide +kernel) rfl ⟨c2, trivial⟩ ?_
      refine sy_bk [(.iconst 0, 0, 0, 0, 0)] (18, [some (.ref 23), some (.int i)], [.int 0], σ) [] (by decide +kernel) rfl trivial ?_
      exact sy_retz rfl (by decide +kernel) (Or.inl rfl) (k2 c1 c2)
    · refine sy_bk [(.if_icmp .ge 7, 0, 17, 0, 0)] (13, [some (.ref 23), some (.int i)], [], σ) [¬ sy_cc .ge i 6] (by decide +kernel) rfl ⟨c2, trivial⟩ ?_
      refine sy_bk [(.iconst 1, 0, 0, 1, 0), (.goto 4, 0, 18, 0, 0)] (18, [some (.ref 23), some (.int i)], [.int 1], σ) [] (by decide +kernel) rfl trivial ?_
      exact sy_retz rfl (by decide +kernel) (Or.inr rfl) (k3 c1 c2)

set_option maxRecDepth 20000 in
theorem w_pl_holds {Q : Option Value → sy_S → Prop} {σ : sy_S} {i : Int32}  (b1 : vp_in i 6) (k1 : (σ.1 31 i.toNatClampNeg) < 0 → Q (some (.int 0)) σ) (k2 : ¬ ((σ.1 31 i.toNatClampNeg) < 0) → Q (some (.int 1)) σ) : sy_E shX mX7_holds (0, sy_ent [.ref 23, .int i] 2, [], σ) Q := by
  show sy_E shX mX7_holds (0, [some (.ref 23), some (.int i)], [], σ) _
  refine sy_bk [(.aload_n 0, 0, 0, 0, 0), (.getfield 14, 7, 1, 0, 0), (.iload_n 1, 0, 0, 0, 0), (.iaload, 0, 0, 0, 0)] (6, [some (.ref 23), some (.int i)], [.int (σ.1 31 i.toNatClampNeg)], σ) [sy_okA shX 0 31 i] (by decide +kernel) rfl ⟨⟨6, _, rfl, b1⟩, trivial⟩ ?_
  by_cases c1 : (σ.1 31 i.toNatClampNeg) < 0
  · refine sy_bk [(.ifCond .lt 7, 1, 13, 0, 0)] (13, [some (.ref 23), some (.int i)], [], σ) [sy_cc .lt (σ.1 31 i.toNatClampNeg) 0] (by decide +kernel) rfl ⟨c1, trivial⟩ ?_
    refine sy_bk [(.iconst 0, 0, 0, 0, 0)] (14, [some (.ref 23), some (.int i)], [.int 0], σ) [] (by decide +kernel) rfl trivial ?_
    exact sy_retz rfl (by decide +kernel) (Or.inl rfl) (k1 c1)
  · refine sy_bk [(.ifCond .lt 7, 0, 13, 0, 0)] (9, [some (.ref 23), some (.int i)], [], σ) [¬ sy_cc .lt (σ.1 31 i.toNatClampNeg) 0] (by decide +kernel) rfl ⟨c1, trivial⟩ ?_
    refine sy_bk [(.iconst 1, 0, 0, 1, 0), (.goto 4, 0, 14, 0, 0)] (14, [some (.ref 23), some (.int i)], [.int 1], σ) [] (by decide +kernel) rfl trivial ?_
    exact sy_retz rfl (by decide +kernel) (Or.inr rfl) (k2 c1)

set_option maxRecDepth 20000 in
theorem w_pl_lengthOf {Q : Option Value → sy_S → Prop} {σ : sy_S} {i : Int32}  (b1 : vp_in i 6) (k1 : Q (some (.int (σ.1 31 i.toNatClampNeg))) σ) : sy_E shX mX7_lengthOf (0, sy_ent [.ref 23, .int i] 2, [], σ) Q := by
  show sy_E shX mX7_lengthOf (0, [some (.ref 23), some (.int i)], [], σ) _
  refine sy_bk [(.aload_n 0, 0, 0, 0, 0), (.getfield 14, 7, 1, 0, 0), (.iload_n 1, 0, 0, 0, 0), (.iaload, 0, 0, 0, 0)] (6, [some (.ref 23), some (.int i)], [.int (σ.1 31 i.toNatClampNeg)], σ) [sy_okA shX 0 31 i] (by decide +kernel) rfl ⟨⟨6, _, rfl, b1⟩, trivial⟩ ?_
  exact sy_reti rfl (by decide +kernel) (k1)

set_option maxRecDepth 20000 in
theorem w_pl_rowAt {Q : Option Value → sy_S → Prop} {σ : sy_S} {i : Int32}  (b1 : sy_okR shX 24 i) (k1 : Q (some (.ref (sy_rf shX 24 i.toNatClampNeg))) σ) : sy_E shX mX7_rowAt (0, sy_ent [.ref 23, .int i] 2, [], σ) Q := by
  show sy_E shX mX7_rowAt (0, [some (.ref 23), some (.int i)], [], σ) _
  refine sy_bk [(.aload_n 0, 0, 0, 0, 0), (.getfield 9, 7, 0, 0, 0), (.iload_n 1, 0, 0, 0, 0), (.aaload, 0, 0, 0, 0)] (6, [some (.ref 23), some (.int i)], [.ref (sy_rf shX 24 i.toNatClampNeg)], σ) [sy_okR shX 24 i] (by decide +kernel) rfl ⟨b1, trivial⟩ ?_
  exact sy_reta rfl (by decide +kernel) (k1)

set_option maxRecDepth 20000 in
theorem w_pl_hold {Q : Option Value → sy_S → Prop} {σ : sy_S} {i : Int32} {len : Int32}  (b1 : vp_in i 6) (b2 : sy_okR shX 24 i) (k1 : Q (some (.ref (sy_rf shX 24 i.toNatClampNeg))) (sy_up σ.1 31 i.toNatClampNeg len, σ.2)) : sy_E shX mX7_hold (0, sy_ent [.ref 23, .int i, .int len] 3, [], σ) Q := by
  show sy_E shX mX7_hold (0, [some (.ref 23), some (.int i), some (.int len)], [], σ) _
  refine sy_bk [(.aload_n 0, 0, 0, 0, 0), (.getfield 14, 7, 1, 0, 0), (.iload_n 1, 0, 0, 0, 0), (.iload_n 2, 0, 0, 0, 0), (.iastore, 0, 0, 0, 0), (.aload_n 0, 0, 0, 0, 0), (.getfield 9, 7, 0, 0, 0), (.iload_n 1, 0, 0, 0, 0), (.aaload, 0, 0, 0, 0)] (13, [some (.ref 23), some (.int i), some (.int len)], [.ref (sy_rf shX 24 i.toNatClampNeg)], (sy_up σ.1 31 i.toNatClampNeg len, σ.2)) [sy_okA shX 0 31 i, sy_okR shX 24 i] (by decide +kernel) rfl ⟨⟨6, _, rfl, b1⟩, b2, trivial⟩ ?_
  exact sy_reta rfl (by decide +kernel) (k1)

set_option maxRecDepth 20000 in
theorem w_li_has {Q : Option Value → sy_S → Prop} {σ : sy_S} {i : Int32}   (k1 : i < 0 → Q (some (.int 0)) σ) (k2 : ¬ (i < 0) → 4 ≤ i → Q (some (.int 0)) σ) (k3 : ¬ (i < 0) → ¬ (4 ≤ i) → Q (some (.int 1)) σ) : sy_E shX mX7_has (0, sy_ent [.ref 32, .int i] 2, [], σ) Q := by
  show sy_E shX mX7_has (0, [some (.ref 32), some (.int i)], [], σ) _
  refine sy_bk [(.iload_n 1, 0, 0, 0, 0)] (1, [some (.ref 32), some (.int i)], [.int i], σ) [] (by decide +kernel) rfl trivial ?_
  by_cases c1 : i < 0
  · refine sy_bk [(.ifCond .lt 16, 1, 17, 0, 0)] (17, [some (.ref 32), some (.int i)], [], σ) [sy_cc .lt i 0] (by decide +kernel) rfl ⟨c1, trivial⟩ ?_
    refine sy_bk [(.iconst 0, 0, 0, 0, 0)] (18, [some (.ref 32), some (.int i)], [.int 0], σ) [] (by decide +kernel) rfl trivial ?_
    exact sy_retz rfl (by decide +kernel) (Or.inl rfl) (k1 c1)
  · refine sy_bk [(.ifCond .lt 16, 0, 17, 0, 0)] (4, [some (.ref 32), some (.int i)], [], σ) [¬ sy_cc .lt i 0] (by decide +kernel) rfl ⟨c1, trivial⟩ ?_
    refine sy_bk [(.iload_n 1, 0, 0, 0, 0), (.aload_n 0, 0, 0, 0, 0), (.getfield 14, 7, 1, 0, 0), (.arraylength, 0, 0, 0, 0)] (10, [some (.ref 32), some (.int i)], [.int 4, .int i], σ) [sy_okL shX 38] (by decide +kernel) rfl ⟨⟨0, _, _, rfl, by decide⟩, trivial⟩ ?_
    by_cases c2 : 4 ≤ i
    · refine sy_bk [(.if_icmp .ge 7, 1, 17, 0, 0)] (17, [some (.ref 32), some (.int i)], [], σ) [sy_cc .ge i 4] (by decide +kernel) rfl ⟨c2, trivial⟩ ?_
      refine sy_bk [(.iconst 0, 0, 0, 0, 0)] (18, [some (.ref 32), some (.int i)], [.int 0], σ) [] (by decide +kernel) rfl trivial ?_
      exact sy_retz rfl (by decide +kernel) (Or.inl rfl) (k2 c1 c2)
    · refine sy_bk [(.if_icmp .ge 7, 0, 17, 0, 0)] (13, [some (.ref 32), some (.int i)], [], σ) [¬ sy_cc .ge i 4] (by decide +kernel) rfl ⟨c2, trivial⟩ ?_
      refine sy_bk [(.iconst 1, 0, 0, 1, 0), (.goto 4, 0, 18, 0, 0)] (18, [some (.ref 32), some (.int i)], [.int 1], σ) [] (by decide +kernel) rfl trivial ?_
      exact sy_retz rfl (by decide +kernel) (Or.inr rfl) (k3 c1 c2)

set_option maxRecDepth 20000 in
theorem w_li_holds {Q : Option Value → sy_S → Prop} {σ : sy_S} {i : Int32}  (b1 : vp_in i 4) (k1 : (σ.1 38 i.toNatClampNeg) < 0 → Q (some (.int 0)) σ) (k2 : ¬ ((σ.1 38 i.toNatClampNeg) < 0) → Q (some (.int 1)) σ) : sy_E shX mX7_holds (0, sy_ent [.ref 32, .int i] 2, [], σ) Q := by
  show sy_E shX mX7_holds (0, [some (.ref 32), some (.int i)], [], σ) _
  refine sy_bk [(.aload_n 0, 0, 0, 0, 0), (.getfield 14, 7, 1, 0, 0), (.iload_n 1, 0, 0, 0, 0), (.iaload, 0, 0, 0, 0)] (6, [some (.ref 32), some (.int i)], [.int (σ.1 38 i.toNatClampNeg)], σ) [sy_okA shX 0 38 i] (by decide +kernel) rfl ⟨⟨4, _, rfl, b1⟩, trivial⟩ ?_
  by_cases c1 : (σ.1 38 i.toNatClampNeg) < 0
  · refine sy_bk [(.ifCond .lt 7, 1, 13, 0, 0)] (13, [some (.ref 32), some (.int i)], [], σ) [sy_cc .lt (σ.1 38 i.toNatClampNeg) 0] (by decide +kernel) rfl ⟨c1, trivial⟩ ?_
    refine sy_bk [(.iconst 0, 0, 0, 0, 0)] (14, [some (.ref 32), some (.int i)], [.int 0], σ) [] (by decide +kernel) rfl trivial ?_
    exact sy_retz rfl (by decide +kernel) (Or.inl rfl) (k1 c1)
  · refine sy_bk [(.ifCond .lt 7, 0, 13, 0, 0)] (9, [some (.ref 32), some (.int i)], [], σ) [¬ sy_cc .lt (σ.1 38 i.toNatClampNeg) 0] (by decide +kernel) rfl ⟨c1, trivial⟩ ?_
    refine sy_bk [(.iconst 1, 0, 0, 1, 0), (.goto 4, 0, 14, 0, 0)] (14, [some (.ref 32), some (.int i)], [.int 1], σ) [] (by decide +kernel) rfl trivial ?_
    exact sy_retz rfl (by decide +kernel) (Or.inr rfl) (k2 c1)

set_option maxRecDepth 20000 in
theorem w_li_lengthOf {Q : Option Value → sy_S → Prop} {σ : sy_S} {i : Int32}  (b1 : vp_in i 4) (k1 : Q (some (.int (σ.1 38 i.toNatClampNeg))) σ) : sy_E shX mX7_lengthOf (0, sy_ent [.ref 32, .int i] 2, [], σ) Q := by
  show sy_E shX mX7_lengthOf (0, [some (.ref 32), some (.int i)], [], σ) _
  refine sy_bk [(.aload_n 0, 0, 0, 0, 0), (.getfield 14, 7, 1, 0, 0), (.iload_n 1, 0, 0, 0, 0), (.iaload, 0, 0, 0, 0)] (6, [some (.ref 32), some (.int i)], [.int (σ.1 38 i.toNatClampNeg)], σ) [sy_okA shX 0 38 i] (by decide +kernel) rfl ⟨⟨4, _, rfl, b1⟩, trivial⟩ ?_
  exact sy_reti rfl (by decide +kernel) (k1)

set_option maxRecDepth 20000 in
theorem w_li_rowAt {Q : Option Value → sy_S → Prop} {σ : sy_S} {i : Int32}  (b1 : sy_okR shX 33 i) (k1 : Q (some (.ref (sy_rf shX 33 i.toNatClampNeg))) σ) : sy_E shX mX7_rowAt (0, sy_ent [.ref 32, .int i] 2, [], σ) Q := by
  show sy_E shX mX7_rowAt (0, [some (.ref 32), some (.int i)], [], σ) _
  refine sy_bk [(.aload_n 0, 0, 0, 0, 0), (.getfield 9, 7, 0, 0, 0), (.iload_n 1, 0, 0, 0, 0), (.aaload, 0, 0, 0, 0)] (6, [some (.ref 32), some (.int i)], [.ref (sy_rf shX 33 i.toNatClampNeg)], σ) [sy_okR shX 33 i] (by decide +kernel) rfl ⟨b1, trivial⟩ ?_
  exact sy_reta rfl (by decide +kernel) (k1)

set_option maxRecDepth 20000 in
theorem w_li_hold {Q : Option Value → sy_S → Prop} {σ : sy_S} {i : Int32} {len : Int32}  (b1 : vp_in i 4) (b2 : sy_okR shX 33 i) (k1 : Q (some (.ref (sy_rf shX 33 i.toNatClampNeg))) (sy_up σ.1 38 i.toNatClampNeg len, σ.2)) : sy_E shX mX7_hold (0, sy_ent [.ref 32, .int i, .int len] 3, [], σ) Q := by
  show sy_E shX mX7_hold (0, [some (.ref 32), some (.int i), some (.int len)], [], σ) _
  refine sy_bk [(.aload_n 0, 0, 0, 0, 0), (.getfield 14, 7, 1, 0, 0), (.iload_n 1, 0, 0, 0, 0), (.iload_n 2, 0, 0, 0, 0), (.iastore, 0, 0, 0, 0), (.aload_n 0, 0, 0, 0, 0), (.getfield 9, 7, 0, 0, 0), (.iload_n 1, 0, 0, 0, 0), (.aaload, 0, 0, 0, 0)] (13, [some (.ref 32), some (.int i), some (.int len)], [.ref (sy_rf shX 33 i.toNatClampNeg)], (sy_up σ.1 38 i.toNatClampNeg len, σ.2)) [sy_okA shX 0 38 i, sy_okR shX 33 i] (by decide +kernel) rfl ⟨⟨4, _, rfl, b1⟩, b2, trivial⟩ ?_
  exact sy_reta rfl (by decide +kernel) (k1)

set_option maxRecDepth 20000 in
theorem w_x_tisFull {Q : Option Value → sy_S → Prop} {σ : sy_S}    (k1 : (σ.1 19 3) < 40 → Q (some (.int 0)) σ) (k2 : ¬ ((σ.1 19 3) < 40) → Q (some (.int 1)) σ) : sy_E shX mX10_isFull (0, sy_ent [.ref 19] 1, [], σ) Q := by
  show sy_E shX mX10_isFull (0, [some (.ref 19)], [], σ) _
  refine sy_bk [(.aload_n 0, 0, 0, 0, 0), (.getfield 21, 10, 3, 0, 0), (.bipush 40, 0, 0, 40, 0)] (6, [some (.ref 19)], [.int 40, .int (σ.1 19 3)], σ) [] (by decide +kernel) rfl trivial ?_
  by_cases c1 : (σ.1 19 3) < 40
  · refine sy_bk [(.if_icmp .lt 7, 1, 13, 0, 0)] (13, [some (.ref 19)], [], σ) [sy_cc .lt (σ.1 19 3) 40] (by decide +kernel) rfl ⟨c1, trivial⟩ ?_
    refine sy_bk [(.iconst 0, 0, 0, 0, 0)] (14, [some (.ref 19)], [.int 0], σ) [] (by decide +kernel) rfl trivial ?_
    exact sy_retz rfl (by decide +kernel) (Or.inl rfl) (k1 c1)
  · refine sy_bk [(.if_icmp .lt 7, 0, 13, 0, 0)] (9, [some (.ref 19)], [], σ) [¬ sy_cc .lt (σ.1 19 3) 40] (by decide +kernel) rfl ⟨c1, trivial⟩ ?_
    refine sy_bk [(.iconst 1, 0, 0, 1, 0), (.goto 4, 0, 14, 0, 0)] (14, [some (.ref 19)], [.int 1], σ) [] (by decide +kernel) rfl trivial ?_
    exact sy_retz rfl (by decide +kernel) (Or.inr rfl) (k2 c1)

set_option maxRecDepth 20000 in
theorem w_x_tlength {Q : Option Value → sy_S → Prop} {σ : sy_S}    (k1 : Q (some (.int (σ.1 19 3))) σ) : sy_E shX mX10_length (0, sy_ent [.ref 19] 1, [], σ) Q := by
  show sy_E shX mX10_length (0, [some (.ref 19)], [], σ) _
  refine sy_bk [(.aload_n 0, 0, 0, 0, 0), (.getfield 21, 10, 3, 0, 0)] (4, [some (.ref 19)], [.int (σ.1 19 3)], σ) [] (by decide +kernel) rfl trivial ?_
  exact sy_reti rfl (by decide +kernel) (k1)

set_option maxRecDepth 20000 in
theorem w_x_tcodeCount {Q : Option Value → sy_S → Prop} {σ : sy_S}    (k1 : Q (some (.int (σ.1 19 4))) σ) : sy_E shX mX10_codeCount (0, sy_ent [.ref 19] 1, [], σ) Q := by
  show sy_E shX mX10_codeCount (0, [some (.ref 19)], [], σ) _
  refine sy_bk [(.aload_n 0, 0, 0, 0, 0), (.getfield 25, 10, 4, 0, 0)] (4, [some (.ref 19)], [.int (σ.1 19 4)], σ) [] (by decide +kernel) rfl trivial ?_
  exact sy_reti rfl (by decide +kernel) (k1)

set_option maxRecDepth 20000 in
theorem w_x_trowCount {Q : Option Value → sy_S → Prop} {σ : sy_S}    (k1 : Q (some (.int ((σ.1 19 5) + 1))) σ) : sy_E shX mX10_rowCount (0, sy_ent [.ref 19] 1, [], σ) Q := by
  show sy_E shX mX10_rowCount (0, [some (.ref 19)], [], σ) _
  refine sy_bk [(.aload_n 0, 0, 0, 0, 0), (.getfield 28, 10, 5, 0, 0), (.iconst 1, 0, 0, 1, 0), (.iadd, 0, 0, 0, 0)] (6, [some (.ref 19)], [.int ((σ.1 19 5) + 1)], σ) [] (by decide +kernel) rfl trivial ?_
  exact sy_reti rfl (by decide +kernel) (k1)

set_option maxRecDepth 20000 in
theorem w_x_tcolumnCount {Q : Option Value → sy_S → Prop} {σ : sy_S}    (k1 : Q (some (.int (σ.1 19 6))) σ) : sy_E shX mX10_columnCount (0, sy_ent [.ref 19] 1, [], σ) Q := by
  show sy_E shX mX10_columnCount (0, [some (.ref 19)], [], σ) _
  refine sy_bk [(.aload_n 0, 0, 0, 0, 0), (.getfield 31, 10, 6, 0, 0)] (4, [some (.ref 19)], [.int (σ.1 19 6)], σ) [] (by decide +kernel) rfl trivial ?_
  exact sy_reti rfl (by decide +kernel) (k1)

set_option maxRecDepth 20000 in
theorem w_x_trewind {Q : Option Value → sy_S → Prop} {σ : sy_S}    (k1 : Q none (sy_up σ.1 19 3 0, σ.2)) : sy_E shX mX10_rewind (0, sy_ent [.ref 19] 1, [], σ) Q := by
  show sy_E shX mX10_rewind (0, [some (.ref 19)], [], σ) _
  refine sy_bk [(.aload_n 0, 0, 0, 0, 0), (.iconst 0, 0, 0, 0, 0), (.putfield 21, 10, 3, 0, 0)] (5, [some (.ref 19)], [], (sy_up σ.1 19 3 0, σ.2)) [] (by decide +kernel) rfl trivial ?_
  exact sy_retv rfl (by decide +kernel) (k1)

set_option maxRecDepth 20000 in
theorem w_x_tmostInRow {Q : Option Value → sy_S → Prop} {σ : sy_S}    (k1 : ¬ (σ.1 19 5) = 0 → Q (some (.int (σ.1 19 6))) σ) (k2 : ¬ (¬ (σ.1 19 5) = 0) → Q (some (.int 4)) σ) : sy_E shX mX10_mostInRow (0, sy_ent [.ref 19] 1, [], σ) Q := by
  show sy_E shX mX10_mostInRow (0, [some (.ref 19)], [], σ) _
  refine sy_bk [(.aload_n 0, 0, 0, 0, 0), (.getfield 28, 10, 5, 0, 0)] (4, [some (.ref 19)], [.int (σ.1 19 5)], σ) [] (by decide +kernel) rfl trivial ?_
  by_cases c1 : ¬ (σ.1 19 5) = 0
  · refine sy_bk [(.ifCond .ne 7, 1, 11, 0, 0)] (11, [some (.ref 19)], [], σ) [sy_cc .ne (σ.1 19 5) 0] (by decide +kernel) rfl ⟨c1, trivial⟩ ?_
    refine sy_bk [(.aload_n 0, 0, 0, 0, 0), (.getfield 31, 10, 6, 0, 0)] (15, [some (.ref 19)], [.int (σ.1 19 6)], σ) [] (by decide +kernel) rfl trivial ?_
    exact sy_reti rfl (by decide +kernel) (k1 c1)
  · refine sy_bk [(.ifCond .ne 7, 0, 11, 0, 0)] (7, [some (.ref 19)], [], σ) [¬ sy_cc .ne (σ.1 19 5) 0] (by decide +kernel) rfl ⟨c1, trivial⟩ ?_
    refine sy_bk [(.iconst 4, 0, 0, 4, 0), (.goto 7, 0, 15, 0, 0)] (15, [some (.ref 19)], [.int 4], σ) [] (by decide +kernel) rfl trivial ?_
    exact sy_reti rfl (by decide +kernel) (k2 c1)

set_option maxRecDepth 20000 in
theorem w_x_tisRowWhole {Q : Option Value → sy_S → Prop} {σ : sy_S}    (k1 : ¬ (σ.1 19 5) = 0 → ¬ (σ.1 19 7) = (σ.1 19 6) → Q (some (.int 0)) σ) (k2 : ¬ (σ.1 19 5) = 0 → ¬ (¬ (σ.1 19 7) = (σ.1 19 6)) → Q (some (.int 1)) σ) (k3 : ¬ (¬ (σ.1 19 5) = 0) → (σ.1 19 7) ≤ 0 → Q (some (.int 0)) σ) (k4 : ¬ (¬ (σ.1 19 5) = 0) → ¬ ((σ.1 19 7) ≤ 0) → Q (some (.int 1)) σ) : sy_E shX mX10_isRowWhole (0, sy_ent [.ref 19] 1, [], σ) Q := by
  show sy_E shX mX10_isRowWhole (0, [some (.ref 19)], [], σ) _
  refine sy_bk [(.aload_n 0, 0, 0, 0, 0), (.getfield 28, 10, 5, 0, 0)] (4, [some (.ref 19)], [.int (σ.1 19 5)], σ) [] (by decide +kernel) rfl trivial ?_
  by_cases c1 : ¬ (σ.1 19 5) = 0
  · refine sy_bk [(.ifCond .ne 18, 1, 22, 0, 0)] (22, [some (.ref 19)], [], σ) [sy_cc .ne (σ.1 19 5) 0] (by decide +kernel) rfl ⟨c1, trivial⟩ ?_
    refine sy_bk [(.aload_n 0, 0, 0, 0, 0), (.getfield 34, 10, 7, 0, 0), (.aload_n 0, 0, 0, 0, 0), (.getfield 31, 10, 6, 0, 0)] (30, [some (.ref 19)], [.int (σ.1 19 6), .int (σ.1 19 7)], σ) [] (by decide +kernel) rfl trivial ?_
    by_cases c2 : ¬ (σ.1 19 7) = (σ.1 19 6)
    · refine sy_bk [(.if_icmp .ne 7, 1, 37, 0, 0)] (37, [some (.ref 19)], [], σ) [sy_cc .ne (σ.1 19 7) (σ.1 19 6)] (by decide +kernel) rfl ⟨c2, trivial⟩ ?_
      refine sy_bk [(.iconst 0, 0, 0, 0, 0)] (38, [some (.ref 19)], [.int 0], σ) [] (by decide +kernel) rfl trivial ?_
      exact sy_retz rfl (by decide +kernel) (Or.inl rfl) (k1 c1 c2)
    · refine sy_bk [(.if_icmp .ne 7, 0, 37, 0, 0)] (33, [some (.ref 19)], [], σ) [¬ sy_cc .ne (σ.1 19 7) (σ.1 19 6)] (by decide +kernel) rfl ⟨c2, trivial⟩ ?_
      refine sy_bk [(.iconst 1, 0, 0, 1, 0), (.goto 4, 0, 38, 0, 0)] (38, [some (.ref 19)], [.int 1], σ) [] (by decide +kernel) rfl trivial ?_
      exact sy_retz rfl (by decide +kernel) (Or.inr rfl) (k2 c1 c2)
  · refine sy_bk [(.ifCond .ne 18, 0, 22, 0, 0)] (7, [some (.ref 19)], [], σ) [¬ sy_cc .ne (σ.1 19 5) 0] (by decide +kernel) rfl ⟨c1, trivial⟩ ?_
    refine sy_bk [(.aload_n 0, 0, 0, 0, 0), (.getfield 34, 10, 7, 0, 0)] (11, [some (.ref 19)], [.int (σ.1 19 7)], σ) [] (by decide +kernel) rfl trivial ?_
    by_cases c3 : (σ.1 19 7) ≤ 0
    · refine sy_bk [(.ifCond .le 7, 1, 18, 0, 0)] (18, [some (.ref 19)], [], σ) [sy_cc .le (σ.1 19 7) 0] (by decide +kernel) rfl ⟨c3, trivial⟩ ?_
      refine sy_bk [(.iconst 0, 0, 0, 0, 0), (.goto 19, 0, 38, 0, 0)] (38, [some (.ref 19)], [.int 0], σ) [] (by decide +kernel) rfl trivial ?_
      exact sy_retz rfl (by decide +kernel) (Or.inl rfl) (k3 c1 c3)
    · refine sy_bk [(.ifCond .le 7, 0, 18, 0, 0)] (14, [some (.ref 19)], [], σ) [¬ sy_cc .le (σ.1 19 7) 0] (by decide +kernel) rfl ⟨c3, trivial⟩ ?_
      refine sy_bk [(.iconst 1, 0, 0, 1, 0), (.goto 23, 0, 38, 0, 0)] (38, [some (.ref 19)], [.int 1], σ) [] (by decide +kernel) rfl trivial ?_
      exact sy_retz rfl (by decide +kernel) (Or.inr rfl) (k4 c1 c3)

set_option maxRecDepth 20000 in
theorem w_x_tcloseRow {Q : Option Value → sy_S → Prop} {σ : sy_S}    (k1 : Q none (sy_up σ.1 19 6 (σ.1 19 7), σ.2)) : sy_E shX mX10_closeRow (0, sy_ent [.ref 19] 1, [], σ) Q := by
  show sy_E shX mX10_closeRow (0, [some (.ref 19)], [], σ) _
  refine sy_bk [(.aload_n 0, 0, 0, 0, 0), (.aload_n 0, 0, 0, 0, 0), (.getfield 34, 10, 7, 0, 0), (.putfield 31, 10, 6, 0, 0)] (8, [some (.ref 19)], [], (sy_up σ.1 19 6 (σ.1 19 7), σ.2)) [] (by decide +kernel) rfl trivial ?_
  exact sy_retv rfl (by decide +kernel) (k1)

set_option maxRecDepth 20000 in
theorem w_x_tcodeAt {Q : Option Value → sy_S → Prop} {σ : sy_S} {i : Int32}  (b1 : ¬ (i < 0) → ¬ ((σ.1 19 4) ≤ i) → vp_in i 3) (k1 : i < 0 → Q (some (.int (-1))) σ) (k2 : ¬ (i < 0) → (σ.1 19 4) ≤ i → Q (some (.int (-1))) σ) (k3 : ¬ (i < 0) → ¬ ((σ.1 19 4) ≤ i) → Q (some (.int (σ.1 22 i.toNatClampNeg))) σ) : sy_E shX mX10_codeAt (0, sy_ent [.ref 19, .int i] 2, [], σ) Q := by
  show sy_E shX mX10_codeAt (0, [some (.ref 19), some (.int i)], [], σ) _
  refine sy_bk [(.iload_n 1, 0, 0, 0, 0)] (1, [some (.ref 19), some (.int i)], [.int i], σ) [] (by decide +kernel) rfl trivial ?_
  by_cases c1 : i < 0
  · refine sy_bk [(.ifCond .lt 20, 1, 21, 0, 0)] (21, [some (.ref 19), some (.int i)], [], σ) [sy_cc .lt i 0] (by decide +kernel) rfl ⟨c1, trivial⟩ ?_
    refine sy_bk [(.iconst (-1), 0, 0, (-1), 0)] (22, [some (.ref 19), some (.int i)], [.int (-1)], σ) [] (by decide +kernel) rfl trivial ?_
    exact sy_reti rfl (by decide +kernel) (k1 c1)
  · refine sy_bk [(.ifCond .lt 20, 0, 21, 0, 0)] (4, [some (.ref 19), some (.int i)], [], σ) [¬ sy_cc .lt i 0] (by decide +kernel) rfl ⟨c1, trivial⟩ ?_
    refine sy_bk [(.iload_n 1, 0, 0, 0, 0), (.aload_n 0, 0, 0, 0, 0), (.getfield 25, 10, 4, 0, 0)] (9, [some (.ref 19), some (.int i)], [.int (σ.1 19 4), .int i], σ) [] (by decide +kernel) rfl trivial ?_
    by_cases c2 : (σ.1 19 4) ≤ i
    · refine sy_bk [(.if_icmp .ge 12, 1, 21, 0, 0)] (21, [some (.ref 19), some (.int i)], [], σ) [sy_cc .ge i (σ.1 19 4)] (by decide +kernel) rfl ⟨c2, trivial⟩ ?_
      refine sy_bk [(.iconst (-1), 0, 0, (-1), 0)] (22, [some (.ref 19), some (.int i)], [.int (-1)], σ) [] (by decide +kernel) rfl trivial ?_
      exact sy_reti rfl (by decide +kernel) (k2 c1 c2)
    · refine sy_bk [(.if_icmp .ge 12, 0, 21, 0, 0)] (12, [some (.ref 19), some (.int i)], [], σ) [¬ sy_cc .ge i (σ.1 19 4)] (by decide +kernel) rfl ⟨c2, trivial⟩ ?_
      refine sy_bk [(.aload_n 0, 0, 0, 0, 0), (.getfield 18, 10, 2, 0, 0), (.iload_n 1, 0, 0, 0, 0), (.iaload, 0, 0, 0, 0), (.goto 4, 0, 22, 0, 0)] (22, [some (.ref 19), some (.int i)], [.int (σ.1 22 i.toNatClampNeg)], σ) [sy_okA shX 0 22 i] (by decide +kernel) rfl ⟨⟨3, _, rfl, (b1 c1 c2)⟩, trivial⟩ ?_
      exact sy_reti rfl (by decide +kernel) (k3 c1 c2)

set_option maxRecDepth 20000 in
theorem w_x_tvalueAt {Q : Option Value → sy_S → Prop} {σ : sy_S} {i : Int32}  (b1 : vp_in i 16) (k1 : Q (some (.int (σ.1 21 i.toNatClampNeg))) σ) : sy_E shX mX10_valueAt (0, sy_ent [.ref 19, .int i] 2, [], σ) Q := by
  show sy_E shX mX10_valueAt (0, [some (.ref 19), some (.int i)], [], σ) _
  refine sy_bk [(.aload_n 0, 0, 0, 0, 0), (.getfield 15, 10, 1, 0, 0), (.iload_n 1, 0, 0, 0, 0), (.iaload, 0, 0, 0, 0)] (6, [some (.ref 19), some (.int i)], [.int (σ.1 21 i.toNatClampNeg)], σ) [sy_okA shX 0 21 i] (by decide +kernel) rfl ⟨⟨16, _, rfl, b1⟩, trivial⟩ ?_
  exact sy_reti rfl (by decide +kernel) (k1)

set_option maxRecDepth 20000 in
theorem w_x_tappend {Q : Option Value → sy_S → Prop} {σ : sy_S} {b : Int32}  (b1 : ¬ (40 ≤ (σ.1 19 3)) → vp_in (σ.1 19 3) 40) (k1 : 40 ≤ (σ.1 19 3) → Q (some (.int (σ.1 19 3))) σ) (k2 : ¬ (40 ≤ (σ.1 19 3)) → Q (some (.int ((σ.1 19 3) + 1))) (sy_up (sy_up σ.1 20 ((σ.1 19 3).toNatClampNeg) b) 19 3 ((σ.1 19 3) + 1), σ.2)) : sy_E shX mX10_append (0, sy_ent [.ref 19, .int b] 2, [], σ) Q := by
  show sy_E shX mX10_append (0, [some (.ref 19), some (.int b)], [], σ) _
  refine sy_bk [(.aload_n 0, 0, 0, 0, 0), (.getfield 21, 10, 3, 0, 0), (.bipush 40, 0, 0, 40, 0)] (6, [some (.ref 19), some (.int b)], [.int 40, .int (σ.1 19 3)], σ) [] (by decide +kernel) rfl trivial ?_
  by_cases c1 : 40 ≤ (σ.1 19 3)
  · refine sy_bk [(.if_icmp .ge 23, 1, 29, 0, 0)] (29, [some (.ref 19), some (.int b)], [], σ) [sy_cc .ge (σ.1 19 3) 40] (by decide +kernel) rfl ⟨c1, trivial⟩ ?_
    refine sy_bk [(.aload_n 0, 0, 0, 0, 0), (.getfield 21, 10, 3, 0, 0)] (33, [some (.ref 19), some (.int b)], [.int (σ.1 19 3)], σ) [] (by decide +kernel) rfl trivial ?_
    exact sy_reti rfl (by decide +kernel) (k1 c1)
  · refine sy_bk [(.if_icmp .ge 23, 0, 29, 0, 0)] (9, [some (.ref 19), some (.int b)], [], σ) [¬ sy_cc .ge (σ.1 19 3) 40] (by decide +kernel) rfl ⟨c1, trivial⟩ ?_
    refine sy_bk [(.aload_n 0, 0, 0, 0, 0), (.getfield 11, 10, 0, 0, 0), (.aload_n 0, 0, 0, 0, 0), (.getfield 21, 10, 3, 0, 0), (.iload_n 1, 0, 0, 0, 0), (.iastore, 0, 0, 0, 0), (.aload_n 0, 0, 0, 0, 0), (.dup, 0, 0, 0, 0), (.getfield 21, 10, 3, 0, 0), (.iconst 1, 0, 0, 1, 0), (.iadd, 0, 0, 0, 0), (.putfield 21, 10, 3, 0, 0), (.aload_n 0, 0, 0, 0, 0), (.getfield 21, 10, 3, 0, 0)] (33, [some (.ref 19), some (.int b)], [.int ((σ.1 19 3) + 1)], (sy_up (sy_up σ.1 20 ((σ.1 19 3).toNatClampNeg) b) 19 3 ((σ.1 19 3) + 1), σ.2)) [sy_okA shX 0 20 (σ.1 19 3)] (by decide +kernel) rfl ⟨⟨40, _, rfl, (b1 c1)⟩, trivial⟩ ?_
    exact sy_reti rfl (by decide +kernel) (k2 c1)

set_option maxRecDepth 20000 in
theorem w_x_trefuse {Q : Option Value → sy_S → Prop} {σ : sy_S} {fa : Int32} {ca : Int32}   (k1 : Q (some (.int fa)) (sy_up (sy_up (sy_up (sy_up σ.1 22 0 1) 22 1 (10 + (σ.1 19 5))) 22 2 ca) 19 4 3, σ.2)) : sy_E shX mX10_refuse (0, sy_ent [.ref 19, .int fa, .int ca] 3, [], σ) Q := by
  show sy_E shX mX10_refuse (0, [some (.ref 19), some (.int fa), some (.int ca)], [], σ) _
  refine sy_bk [(.aload_n 0, 0, 0, 0, 0), (.getfield 18, 10, 2, 0, 0), (.iconst 0, 0, 0, 0, 0), (.iconst 1, 0, 0, 1, 0), (.iastore, 0, 0, 0, 0), (.aload_n 0, 0, 0, 0, 0), (.getfield 18, 10, 2, 0, 0), (.iconst 1, 0, 0, 1, 0), (.bipush 10, 0, 0, 10, 0), (.aload_n 0, 0, 0, 0, 0), (.getfield 28, 10, 5, 0, 0), (.iadd, 0, 0, 0, 0), (.iastore, 0, 0, 0, 0), (.aload_n 0, 0, 0, 0, 0), (.getfield 18, 10, 2, 0, 0), (.iconst 2, 0, 0, 2, 0), (.iload_n 2, 0, 0, 0, 0), (.iastore, 0, 0, 0, 0), (.aload_n 0, 0, 0, 0, 0), (.iconst 3, 0, 0, 3, 0), (.putfield 25, 10, 4, 0, 0), (.iload_n 1, 0, 0, 0, 0)] (33, [some (.ref 19), some (.int fa), some (.int ca)], [.int fa], (sy_up (sy_up (sy_up (sy_up σ.1 22 0 1) 22 1 (10 + (σ.1 19 5))) 22 2 ca) 19 4 3, σ.2)) [sy_okA shX 0 22 0, sy_okA shX 0 22 1, sy_okA shX 0 22 2] (by decide +kernel) rfl ⟨⟨3, _, rfl, vp_in_nI (n := 0) (by decide) (by decide)⟩, ⟨3, _, rfl, vp_in_nI (n := 1) (by decide) (by decide)⟩, ⟨3, _, rfl, vp_in_nI (n := 2) (by decide) (by decide)⟩, trivial⟩ ?_
  exact sy_reti rfl (by decide +kernel) (k1)

set_option maxRecDepth 20000 in
theorem w_x_yunlike {Q : Option Value → sy_S → Prop} {σ : sy_S}    (k1 : Q (some (.int (σ.1 61 2))) σ) : sy_E shX mX9_unlike (0, sy_ent [.ref 61] 1, [], σ) Q := by
  show sy_E shX mX9_unlike (0, [some (.ref 61)], [], σ) _
  refine sy_bk [(.aload_n 0, 0, 0, 0, 0), (.getfield 18, 9, 2, 0, 0)] (4, [some (.ref 61)], [.int (σ.1 61 2)], σ) [] (by decide +kernel) rfl trivial ?_
  exact sy_reti rfl (by decide +kernel) (k1)

set_option maxRecDepth 20000 in
theorem w_x_ytogether {Q : Option Value → sy_S → Prop} {σ : sy_S}    (k1 : Q (some (.int (σ.1 61 3))) σ) : sy_E shX mX9_together (0, sy_ent [.ref 61] 1, [], σ) Q := by
  show sy_E shX mX9_together (0, [some (.ref 61)], [], σ) _
  refine sy_bk [(.aload_n 0, 0, 0, 0, 0), (.getfield 22, 9, 3, 0, 0)] (4, [some (.ref 61)], [.int (σ.1 61 3)], σ) [] (by decide +kernel) rfl trivial ?_
  exact sy_reti rfl (by decide +kernel) (k1)

set_option maxRecDepth 20000 in
theorem w_x_ygreatest {Q : Option Value → sy_S → Prop} {σ : sy_S}    (k1 : Q (some (.int (σ.1 61 4))) σ) : sy_E shX mX9_greatest (0, sy_ent [.ref 61] 1, [], σ) Q := by
  show sy_E shX mX9_greatest (0, [some (.ref 61)], [], σ) _
  refine sy_bk [(.aload_n 0, 0, 0, 0, 0), (.getfield 25, 9, 4, 0, 0)] (4, [some (.ref 61)], [.int (σ.1 61 4)], σ) [] (by decide +kernel) rfl trivial ?_
  exact sy_reti rfl (by decide +kernel) (k1)

set_option maxRecDepth 20000 in
theorem w_x_ysizeAt {Q : Option Value → sy_S → Prop} {σ : sy_S} {i : Int32}  (b1 : ¬ (i < 0) → ¬ ((σ.1 61 2) ≤ i) → vp_in i 200) (k1 : i < 0 → Q (some (.int (-5))) σ) (k2 : ¬ (i < 0) → (σ.1 61 2) ≤ i → Q (some (.int (-5))) σ) (k3 : ¬ (i < 0) → ¬ ((σ.1 61 2) ≤ i) → Q (some (.int (σ.1 62 i.toNatClampNeg))) σ) : sy_E shX mX9_sizeAt (0, sy_ent [.ref 61, .int i] 2, [], σ) Q := by
  show sy_E shX mX9_sizeAt (0, [some (.ref 61), some (.int i)], [], σ) _
  refine sy_bk [(.iload_n 1, 0, 0, 0, 0)] (1, [some (.ref 61), some (.int i)], [.int i], σ) [] (by decide +kernel) rfl trivial ?_
  by_cases c1 : i < 0
  · refine sy_bk [(.ifCond .lt 20, 1, 21, 0, 0)] (21, [some (.ref 61), some (.int i)], [], σ) [sy_cc .lt i 0] (by decide +kernel) rfl ⟨c1, trivial⟩ ?_
    refine sy_bk [(.bipush (-5), 0, 0, (-5), 0)] (23, [some (.ref 61), some (.int i)], [.int (-5)], σ) [] (by decide +kernel) rfl trivial ?_
    exact sy_reti rfl (by decide +kernel) (k1 c1)
  · refine sy_bk [(.ifCond .lt 20, 0, 21, 0, 0)] (4, [some (.ref 61), some (.int i)], [], σ) [¬ sy_cc .lt i 0] (by decide +kernel) rfl ⟨c1, trivial⟩ ?_
    refine sy_bk [(.iload_n 1, 0, 0, 0, 0), (.aload_n 0, 0, 0, 0, 0), (.getfield 18, 9, 2, 0, 0)] (9, [some (.ref 61), some (.int i)], [.int (σ.1 61 2), .int i], σ) [] (by decide +kernel) rfl trivial ?_
    by_cases c2 : (σ.1 61 2) ≤ i
    · refine sy_bk [(.if_icmp .ge 12, 1, 21, 0, 0)] (21, [some (.ref 61), some (.int i)], [], σ) [sy_cc .ge i (σ.1 61 2)] (by decide +kernel) rfl ⟨c2, trivial⟩ ?_
      refine sy_bk [(.bipush (-5), 0, 0, (-5), 0)] (23, [some (.ref 61), some (.int i)], [.int (-5)], σ) [] (by decide +kernel) rfl trivial ?_
      exact sy_reti rfl (by decide +kernel) (k2 c1 c2)
    · refine sy_bk [(.if_icmp .ge 12, 0, 21, 0, 0)] (12, [some (.ref 61), some (.int i)], [], σ) [¬ sy_cc .ge i (σ.1 61 2)] (by decide +kernel) rfl ⟨c2, trivial⟩ ?_
      refine sy_bk [(.aload_n 0, 0, 0, 0, 0), (.getfield 9, 9, 0, 0, 0), (.iload_n 1, 0, 0, 0, 0), (.iaload, 0, 0, 0, 0), (.goto 5, 0, 23, 0, 0)] (23, [some (.ref 61), some (.int i)], [.int (σ.1 62 i.toNatClampNeg)], σ) [sy_okA shX 0 62 i] (by decide +kernel) rfl ⟨⟨200, _, rfl, (b1 c1 c2)⟩, trivial⟩ ?_
      exact sy_reti rfl (by decide +kernel) (k3 c1 c2)

set_option maxRecDepth 20000 in
theorem w_x_yoftenAt {Q : Option Value → sy_S → Prop} {σ : sy_S} {i : Int32}  (b1 : ¬ (i < 0) → ¬ ((σ.1 61 2) ≤ i) → vp_in i 200) (k1 : i < 0 → Q (some (.int (-5))) σ) (k2 : ¬ (i < 0) → (σ.1 61 2) ≤ i → Q (some (.int (-5))) σ) (k3 : ¬ (i < 0) → ¬ ((σ.1 61 2) ≤ i) → Q (some (.int (σ.1 63 i.toNatClampNeg))) σ) : sy_E shX mX9_oftenAt (0, sy_ent [.ref 61, .int i] 2, [], σ) Q := by
  show sy_E shX mX9_oftenAt (0, [some (.ref 61), some (.int i)], [], σ) _
  refine sy_bk [(.iload_n 1, 0, 0, 0, 0)] (1, [some (.ref 61), some (.int i)], [.int i], σ) [] (by decide +kernel) rfl trivial ?_
  by_cases c1 : i < 0
  · refine sy_bk [(.ifCond .lt 20, 1, 21, 0, 0)] (21, [some (.ref 61), some (.int i)], [], σ) [sy_cc .lt i 0] (by decide +kernel) rfl ⟨c1, trivial⟩ ?_
    refine sy_bk [(.bipush (-5), 0, 0, (-5), 0)] (23, [some (.ref 61), some (.int i)], [.int (-5)], σ) [] (by decide +kernel) rfl trivial ?_
    exact sy_reti rfl (by decide +kernel) (k1 c1)
  · refine sy_bk [(.ifCond .lt 20, 0, 21, 0, 0)] (4, [some (.ref 61), some (.int i)], [], σ) [¬ sy_cc .lt i 0] (by decide +kernel) rfl ⟨c1, trivial⟩ ?_
    refine sy_bk [(.iload_n 1, 0, 0, 0, 0), (.aload_n 0, 0, 0, 0, 0), (.getfield 18, 9, 2, 0, 0)] (9, [some (.ref 61), some (.int i)], [.int (σ.1 61 2), .int i], σ) [] (by decide +kernel) rfl trivial ?_
    by_cases c2 : (σ.1 61 2) ≤ i
    · refine sy_bk [(.if_icmp .ge 12, 1, 21, 0, 0)] (21, [some (.ref 61), some (.int i)], [], σ) [sy_cc .ge i (σ.1 61 2)] (by decide +kernel) rfl ⟨c2, trivial⟩ ?_
      refine sy_bk [(.bipush (-5), 0, 0, (-5), 0)] (23, [some (.ref 61), some (.int i)], [.int (-5)], σ) [] (by decide +kernel) rfl trivial ?_
      exact sy_reti rfl (by decide +kernel) (k2 c1 c2)
    · refine sy_bk [(.if_icmp .ge 12, 0, 21, 0, 0)] (12, [some (.ref 61), some (.int i)], [], σ) [¬ sy_cc .ge i (σ.1 61 2)] (by decide +kernel) rfl ⟨c2, trivial⟩ ?_
      refine sy_bk [(.aload_n 0, 0, 0, 0, 0), (.getfield 15, 9, 1, 0, 0), (.iload_n 1, 0, 0, 0, 0), (.iaload, 0, 0, 0, 0), (.goto 5, 0, 23, 0, 0)] (23, [some (.ref 61), some (.int i)], [.int (σ.1 63 i.toNatClampNeg)], σ) [sy_okA shX 0 63 i] (by decide +kernel) rfl ⟨⟨200, _, rfl, (b1 c1 c2)⟩, trivial⟩ ?_
      exact sy_reti rfl (by decide +kernel) (k3 c1 c2)

set_option maxRecDepth 20000 in
theorem w_x_yclear {Q : Option Value → sy_S → Prop} {σ : sy_S}    (k1 : Q none (sy_up (sy_up (sy_up σ.1 61 2 0) 61 3 0) 61 4 0, σ.2)) : sy_E shX mX9_clear (0, sy_ent [.ref 61] 1, [], σ) Q := by
  show sy_E shX mX9_clear (0, [some (.ref 61)], [], σ) _
  refine sy_bk [(.aload_n 0, 0, 0, 0, 0), (.iconst 0, 0, 0, 0, 0), (.putfield 18, 9, 2, 0, 0), (.aload_n 0, 0, 0, 0, 0), (.iconst 0, 0, 0, 0, 0), (.putfield 22, 9, 3, 0, 0), (.aload_n 0, 0, 0, 0, 0), (.iconst 0, 0, 0, 0, 0), (.putfield 25, 9, 4, 0, 0)] (15, [some (.ref 61)], [], (sy_up (sy_up (sy_up σ.1 61 2 0) 61 3 0) 61 4 0, σ.2)) [] (by decide +kernel) rfl trivial ?_
  exact sy_retv rfl (by decide +kernel) (k1)

set_option maxRecDepth 20000 in
theorem w_x_roundAt {Q : Option Value → sy_S → Prop} {σ : sy_S} {cell : Int32}  (b1 : vp_in cell 16) (k1 : Q (some (.int (σ.1 54 cell.toNatClampNeg))) σ) : sy_E shX mX2_roundAt (0, sy_ent [.ref 53, .int cell] 2, [], σ) Q := by
  show sy_E shX mX2_roundAt (0, [some (.ref 53), some (.int cell)], [], σ) _
  refine sy_bk [(.aload_n 0, 0, 0, 0, 0), (.getfield 9, 2, 1, 0, 0), (.iload_n 1, 0, 0, 0, 0), (.iaload, 0, 0, 0, 0)] (6, [some (.ref 53), some (.int cell)], [.int (σ.1 54 cell.toNatClampNeg)], σ) [sy_okA shX 0 54 cell] (by decide +kernel) rfl ⟨⟨16, _, rfl, b1⟩, trivial⟩ ?_
  exact sy_reti rfl (by decide +kernel) (k1)

set_option maxRecDepth 20000 in
theorem w_x_chainOf {Q : Option Value → sy_S → Prop} {σ : sy_S} {code : Int32}   (k1 : Q (some (.int (((code * (-1640531535)).toUInt32 >>> (Int32.toUInt32 24 &&& Int32.toUInt32 31)).toInt32))) σ) : sy_E shX mX6_chainOf (0, sy_ent [.int code] 1, [], σ) Q := by
  show sy_E shX mX6_chainOf (0, [some (.int code)], [], σ) _
  refine sy_bk [(.iload_n 0, 0, 0, 0, 0), (.ldc 35, 0, 0, (-1640531535), 0), (.imul, 0, 0, 0, 0), (.bipush 24, 0, 0, 24, 0), (.iushr, 0, 0, 0, 0)] (7, [some (.int code)], [.int (((code * (-1640531535)).toUInt32 >>> (Int32.toUInt32 24 &&& Int32.toUInt32 31)).toInt32)], σ) [] (by decide +kernel) rfl trivial ?_
  exact sy_reti rfl (by decide +kernel) (k1)

set_option maxRecDepth 20000 in
theorem w_x_isOrder {Q : Option Value → sy_S → Prop} {σ : sy_S} {o : Int32}   (k1 : o < 0 → Q (some (.int 0)) σ) (k2 : ¬ (o < 0) → 4 ≤ o → Q (some (.int 0)) σ) (k3 : ¬ (o < 0) → ¬ (4 ≤ o) → Q (some (.int 1)) σ) : sy_E shX mX11_isOrder (0, sy_ent [.int o] 1, [], σ) Q := by
  show sy_E shX mX11_isOrder (0, [some (.int o)], [], σ) _
  refine sy_bk [(.iload_n 0, 0, 0, 0, 0)] (1, [some (.int o)], [.int o], σ) [] (by decide +kernel) rfl trivial ?_
  by_cases c1 : o < 0
  · refine sy_bk [(.ifCond .lt 12, 1, 13, 0, 0)] (13, [some (.int o)], [], σ) [sy_cc .lt o 0] (by decide +kernel) rfl ⟨c1, trivial⟩ ?_
    refine sy_bk [(.iconst 0, 0, 0, 0, 0)] (14, [some (.int o)], [.int 0], σ) [] (by decide +kernel) rfl trivial ?_
    exact sy_retz rfl (by decide +kernel) (Or.inl rfl) (k1 c1)
  · refine sy_bk [(.ifCond .lt 12, 0, 13, 0, 0)] (4, [some (.int o)], [], σ) [¬ sy_cc .lt o 0] (by decide +kernel) rfl ⟨c1, trivial⟩ ?_
    refine sy_bk [(.iload_n 0, 0, 0, 0, 0), (.iconst 4, 0, 0, 4, 0)] (6, [some (.int o)], [.int 4, .int o], σ) [] (by decide +kernel) rfl trivial ?_
    by_cases c2 : 4 ≤ o
    · refine sy_bk [(.if_icmp .ge 7, 1, 13, 0, 0)] (13, [some (.int o)], [], σ) [sy_cc .ge o 4] (by decide +kernel) rfl ⟨c2, trivial⟩ ?_
      refine sy_bk [(.iconst 0, 0, 0, 0, 0)] (14, [some (.int o)], [.int 0], σ) [] (by decide +kernel) rfl trivial ?_
      exact sy_retz rfl (by decide +kernel) (Or.inl rfl) (k2 c1 c2)
    · refine sy_bk [(.if_icmp .ge 7, 0, 13, 0, 0)] (9, [some (.int o)], [], σ) [¬ sy_cc .ge o 4] (by decide +kernel) rfl ⟨c2, trivial⟩ ?_
      refine sy_bk [(.iconst 1, 0, 0, 1, 0), (.goto 4, 0, 14, 0, 0)] (14, [some (.int o)], [.int 1], σ) [] (by decide +kernel) rfl trivial ?_
      exact sy_retz rfl (by decide +kernel) (Or.inr rfl) (k3 c1 c2)

set_option maxRecDepth 20000 in
theorem w_x_restart {Q : Option Value → sy_S → Prop} {σ : sy_S}    (k1 : Q none (sy_cp (sy_up (sy_up σ.1 8 1 0) 8 2 0) 7 10 16, σ.2)) : sy_E shX mX0_restart (0, sy_ent [.ref 8, .ref 7] 2, [], σ) Q := by
  show sy_E shX mX0_restart (0, [some (.ref 8), some (.ref 7)], [], σ) _
  refine sy_bk [(.aload_n 0, 0, 0, 0, 0), (.iconst 0, 0, 0, 0, 0), (.putfield 16, 0, 1, 0, 0), (.aload_n 0, 0, 0, 0, 0), (.iconst 0, 0, 0, 0, 0), (.putfield 20, 0, 2, 0, 0), (.aload_n 1, 0, 0, 0, 0), (.iconst 0, 0, 0, 0, 0), (.aload_n 0, 0, 0, 0, 0), (.getfield 13, 0, 0, 0, 0), (.iconst 0, 0, 0, 0, 0), (.aaload, 0, 0, 0, 0), (.iconst 0, 0, 0, 0, 0), (.bipush 16, 0, 0, 16, 0)] (21, [some (.ref 8), some (.ref 7)], [.int 16, .int 0, .ref 10, .int 0, .ref 7], (sy_up (sy_up σ.1 8 1 0) 8 2 0, σ.2)) [sy_okR shX 9 0] (by decide +kernel) rfl ⟨⟨_, _, _, rfl, vp_in_nI (n := 0) (by decide) (by decide), rfl⟩, trivial⟩ ?_
  refine sy_copy [] jX0_23 (by decide +kernel) rfl rfl rfl (by decide) (by decide) (Nat.le_of_ble_eq_true rfl) (by decide) (by decide) ?_
  show sy_E shX mX0_restart (24, [some (.ref 8), some (.ref 7)], [], (sy_cp (sy_up (sy_up σ.1 8 1 0) 8 2 0) 7 10 16, σ.2)) _
  exact sy_retv rfl (by decide +kernel) (k1)

set_option maxRecDepth 20000 in
theorem w_x_note_0 {Q : Option Value → sy_S → Prop} {σ : sy_S}    (k1 : ¬ (σ.1 8 1) = 8 → sy_E shX mX0_note (57, [some (.ref 8), some (.ref 7), none], [], (sy_up σ.1 8 1 ((σ.1 8 1) + 1), σ.2)) Q) (k2 : ¬ (¬ (σ.1 8 1) = 8) → sy_E shX mX0_note (11, [some (.ref 8), some (.ref 7), some (.int 0)], [], σ) Q) : sy_E shX mX0_note (0, sy_ent [.ref 8, .ref 7] 3, [], σ) Q := by
  show sy_E shX mX0_note (0, [some (.ref 8), some (.ref 7), none], [], σ) _
  refine sy_bk [(.aload_n 0, 0, 0, 0, 0), (.getfield 16, 0, 1, 0, 0), (.bipush 8, 0, 0, 8, 0)] (6, [some (.ref 8), some (.ref 7), none], [.int 8, .int (σ.1 8 1)], σ) [] (by decide +kernel) rfl trivial ?_
  by_cases c1 : ¬ (σ.1 8 1) = 8
  · refine sy_bk [(.if_icmp .ne 41, 1, 47, 0, 0)] (47, [some (.ref 8), some (.ref 7), none], [], σ) [sy_cc .ne (σ.1 8 1) 8] (by decide +kernel) rfl ⟨c1, trivial⟩ ?_
    refine sy_bk [(.aload_n 0, 0, 0, 0, 0), (.dup, 0, 0, 0, 0), (.getfield 16, 0, 1, 0, 0), (.iconst 1, 0, 0, 1, 0), (.iadd, 0, 0, 0, 0), (.putfield 16, 0, 1, 0, 0)] (57, [some (.ref 8), some (.ref 7), none], [], (sy_up σ.1 8 1 ((σ.1 8 1) + 1), σ.2)) [] (by decide +kernel) rfl trivial ?_
    exact k1 c1
  · refine sy_bk [(.if_icmp .ne 41, 0, 47, 0, 0)] (9, [some (.ref 8), some (.ref 7), none], [], σ) [¬ sy_cc .ne (σ.1 8 1) 8] (by decide +kernel) rfl ⟨c1, trivial⟩ ?_
    refine sy_bk [(.iconst 0, 0, 0, 0, 0), (.istore_n 2, 0, 0, 0, 0)] (11, [some (.ref 8), some (.ref 7), some (.int 0)], [], σ) [] (by decide +kernel) rfl trivial ?_
    exact k2 c1

set_option maxRecDepth 20000 in
theorem w_x_note_11 {Q : Option Value → sy_S → Prop} {σ : sy_S} {i : Int32} (hk0 : shX[sy_rf shX 9 ((i + 1).toNatClampNeg)]? = some (0, 16, [])) (hk1 : shX[sy_rf shX 9 i.toNatClampNeg]? = some (0, 16, [])) (b1 : ¬ (8 ≤ i) → sy_okR shX 9 (i + 1)) (b2 : ¬ (8 ≤ i) → sy_okR shX 9 i) (k1 : 8 ≤ i → sy_E shX mX0_note (57, [some (.ref 8), some (.ref 7), none], [], σ) Q) (k2 : ¬ (8 ≤ i) → sy_E shX mX0_note (11, [some (.ref 8), some (.ref 7), some (.int (i + 1))], [], (sy_cp σ.1 (sy_rf shX 9 ((i + 1).toNatClampNeg)) (sy_rf shX 9 i.toNatClampNeg) 16, σ.2)) Q) : sy_E shX mX0_note (11, [some (.ref 8), some (.ref 7), some (.int i)], [], σ) Q := by
  refine sy_bk [(.iload_n 2, 0, 0, 0, 0), (.bipush 8, 0, 0, 8, 0)] (14, [some (.ref 8), some (.ref 7), some (.int i)], [.int 8, .int i], σ) [] (by decide +kernel) rfl trivial ?_
  by_cases c1 : 8 ≤ i
  · refine sy_bk [(.if_icmp .ge 30, 1, 44, 0, 0)] (44, [some (.ref 8), some (.ref 7), some (.int i)], [], σ) [sy_cc .ge i 8] (by decide +kernel) rfl ⟨c1, trivial⟩ ?_
    refine sy_bk [(.goto 13, 0, 57, 0, 0)] (57, [some (.ref 8), some (.ref 7), some (.int i)], [], σ) [] (by decide +kernel) rfl trivial ?_
    refine sy_drop [some (.ref 8), some (.ref 7), none] ⟨rfl, rfl, trivial⟩ ?_
    exact k1 c1
  · refine sy_bk [(.if_icmp .ge 30, 0, 44, 0, 0)] (17, [some (.ref 8), some (.ref 7), some (.int i)], [], σ) [¬ sy_cc .ge i 8] (by decide +kernel) rfl ⟨c1, trivial⟩ ?_
    refine sy_bk [(.aload_n 0, 0, 0, 0, 0), (.getfield 13, 0, 0, 0, 0), (.iload_n 2, 0, 0, 0, 0), (.iconst 1, 0, 0, 1, 0), (.iadd, 0, 0, 0, 0), (.aaload, 0, 0, 0, 0), (.iconst 0, 0, 0, 0, 0), (.aload_n 0, 0, 0, 0, 0), (.getfield 13, 0, 0, 0, 0), (.iload_n 2, 0, 0, 0, 0), (.aaload, 0, 0, 0, 0), (.iconst 0, 0, 0, 0, 0), (.bipush 16, 0, 0, 16, 0)] (35, [some (.ref 8), some (.ref 7), some (.int i)], [.int 16, .int 0, .ref (sy_rf shX 9 i.toNatClampNeg), .int 0, .ref (sy_rf shX 9 ((i + 1).toNatClampNeg))], σ) [sy_okR shX 9 (i + 1), sy_okR shX 9 i] (by decide +kernel) rfl ⟨(b1 c1), (b2 c1), trivial⟩ ?_
    refine sy_copy [] jX0_23 (by decide +kernel) rfl hk0 hk1 (by decide) (by decide) (Nat.le_of_ble_eq_true rfl) (by decide) (by decide) ?_
    show sy_E shX mX0_note (38, [some (.ref 8), some (.ref 7), some (.int i)], [], (sy_cp σ.1 (sy_rf shX 9 ((i + 1).toNatClampNeg)) (sy_rf shX 9 i.toNatClampNeg) 16, σ.2)) _
    refine sy_bk [(.iinc 2 1, 0, 0, 1, 0), (.goto (-30), 0, 11, 0, 0)] (11, [some (.ref 8), some (.ref 7), some (.int (i + 1))], [], (sy_cp σ.1 (sy_rf shX 9 ((i + 1).toNatClampNeg)) (sy_rf shX 9 i.toNatClampNeg) 16, σ.2)) [] (by decide +kernel) rfl trivial ?_
    exact k2 c1

set_option maxRecDepth 20000 in
theorem w_x_note_57 {Q : Option Value → sy_S → Prop} {σ : sy_S}  (hk0 : shX[sy_rf shX 9 ((σ.1 8 1).toNatClampNeg)]? = some (0, 16, [])) (b1 : sy_okR shX 9 (σ.1 8 1)) (k1 : Q none (sy_cp (sy_up σ.1 8 2 (σ.1 8 1)) 7 (sy_rf shX 9 ((σ.1 8 1).toNatClampNeg)) 16, σ.2)) : sy_E shX mX0_note (57, [some (.ref 8), some (.ref 7), none], [], σ) Q := by
  refine sy_bk [(.aload_n 0, 0, 0, 0, 0), (.aload_n 0, 0, 0, 0, 0), (.getfield 16, 0, 1, 0, 0), (.putfield 20, 0, 2, 0, 0), (.aload_n 1, 0, 0, 0, 0), (.iconst 0, 0, 0, 0, 0), (.aload_n 0, 0, 0, 0, 0), (.getfield 13, 0, 0, 0, 0), (.aload_n 0, 0, 0, 0, 0), (.getfield 16, 0, 1, 0, 0), (.aaload, 0, 0, 0, 0), (.iconst 0, 0, 0, 0, 0), (.bipush 16, 0, 0, 16, 0)] (79, [some (.ref 8), some (.ref 7), none], [.int 16, .int 0, .ref (sy_rf shX 9 ((σ.1 8 1).toNatClampNeg)), .int 0, .ref 7], (sy_up σ.1 8 2 (σ.1 8 1), σ.2)) [sy_okR shX 9 (σ.1 8 1)] (by decide +kernel) rfl ⟨b1, trivial⟩ ?_
  refine sy_copy [] jX0_23 (by decide +kernel) rfl rfl hk0 (by decide) (by decide) (Nat.le_of_ble_eq_true rfl) (by decide) (by decide) ?_
  show sy_E shX mX0_note (82, [some (.ref 8), some (.ref 7), none], [], (sy_cp (sy_up σ.1 8 2 (σ.1 8 1)) 7 (sy_rf shX 9 ((σ.1 8 1).toNatClampNeg)) 16, σ.2)) _
  exact sy_retv rfl (by decide +kernel) (k1)

set_option maxRecDepth 20000 in
theorem w_x_back {Q : Option Value → sy_S → Prop} {σ : sy_S}  (hk0 : shX[sy_rf shX 9 (((σ.1 8 1) - 1).toNatClampNeg)]? = some (0, 16, [])) (hk1 : shX[sy_rf shX 9 ((σ.1 8 1).toNatClampNeg)]? = some (0, 16, [])) (b1 : (σ.1 8 1) ≤ 0 → sy_okR shX 9 (σ.1 8 1)) (b2 : ¬ ((σ.1 8 1) ≤ 0) → sy_okR shX 9 ((σ.1 8 1) - 1)) (k1 : (σ.1 8 1) ≤ 0 → Q (some (.int (σ.1 8 1))) (sy_cp σ.1 (sy_rf shX 9 ((σ.1 8 1).toNatClampNeg)) 7 16, σ.2)) (k2 : ¬ ((σ.1 8 1) ≤ 0) → Q (some (.int ((σ.1 8 1) - 1))) (sy_cp (sy_up σ.1 8 1 ((σ.1 8 1) - 1)) (sy_rf shX 9 (((σ.1 8 1) - 1).toNatClampNeg)) 7 16, σ.2)) : sy_E shX mX0_back (0, sy_ent [.ref 8, .ref 7] 2, [], σ) Q := by
  show sy_E shX mX0_back (0, [some (.ref 8), some (.ref 7)], [], σ) _
  refine sy_bk [(.aload_n 0, 0, 0, 0, 0), (.getfield 16, 0, 1, 0, 0)] (4, [some (.ref 8), some (.ref 7)], [.int (σ.1 8 1)], σ) [] (by decide +kernel) rfl trivial ?_
  by_cases c1 : (σ.1 8 1) ≤ 0
  · refine sy_bk [(.ifCond .le 13, 1, 17, 0, 0)] (17, [some (.ref 8), some (.ref 7)], [], σ) [sy_cc .le (σ.1 8 1) 0] (by decide +kernel) rfl ⟨c1, trivial⟩ ?_
    refine sy_bk [(.aload_n 0, 0, 0, 0, 0), (.getfield 13, 0, 0, 0, 0), (.aload_n 0, 0, 0, 0, 0), (.getfield 16, 0, 1, 0, 0), (.aaload, 0, 0, 0, 0), (.iconst 0, 0, 0, 0, 0), (.aload_n 1, 0, 0, 0, 0), (.iconst 0, 0, 0, 0, 0), (.bipush 16, 0, 0, 16, 0)] (31, [some (.ref 8), some (.ref 7)], [.int 16, .int 0, .ref 7, .int 0, .ref (sy_rf shX 9 ((σ.1 8 1).toNatClampNeg))], σ) [sy_okR shX 9 (σ.1 8 1)] (by decide +kernel) rfl ⟨(b1 c1), trivial⟩ ?_
    refine sy_copy [] jX0_23 (by decide +kernel) rfl hk1 rfl (by decide) (by decide) (Nat.le_of_ble_eq_true rfl) (by decide) (by decide) ?_
    show sy_E shX mX0_back (34, [some (.ref 8), some (.ref 7)], [], (sy_cp σ.1 (sy_rf shX 9 ((σ.1 8 1).toNatClampNeg)) 7 16, σ.2)) _
    refine sy_bk [(.aload_n 0, 0, 0, 0, 0), (.getfield 16, 0, 1, 0, 0)] (38, [some (.ref 8), some (.ref 7)], [.int (σ.1 8 1)], (sy_cp σ.1 (sy_rf shX 9 ((σ.1 8 1).toNatClampNeg)) 7 16, σ.2)) [] (by decide +kernel) rfl trivial ?_
    exact sy_reti rfl (by decide +kernel) (k1 c1)
  · refine sy_bk [(.ifCond .le 13, 0, 17, 0, 0)] (7, [some (.ref 8), some (.ref 7)], [], σ) [¬ sy_cc .le (σ.1 8 1) 0] (by decide +kernel) rfl ⟨c1, trivial⟩ ?_
    refine sy_bk [(.aload_n 0, 0, 0, 0, 0), (.dup, 0, 0, 0, 0), (.getfield 16, 0, 1, 0, 0), (.iconst 1, 0, 0, 1, 0), (.isub, 0, 0, 0, 0), (.putfield 16, 0, 1, 0, 0), (.aload_n 0, 0, 0, 0, 0), (.getfield 13, 0, 0, 0, 0), (.aload_n 0, 0, 0, 0, 0), (.getfield 16, 0, 1, 0, 0), (.aaload, 0, 0, 0, 0), (.iconst 0, 0, 0, 0, 0), (.aload_n 1, 0, 0, 0, 0), (.iconst 0, 0, 0, 0, 0), (.bipush 16, 0, 0, 16, 0)] (31, [some (.ref 8), some (.ref 7)], [.int 16, .int 0, .ref 7, .int 0, .ref (sy_rf shX 9 (((σ.1 8 1) - 1).toNatClampNeg))], (sy_up σ.1 8 1 ((σ.1 8 1) - 1), σ.2)) [sy_okR shX 9 ((σ.1 8 1) - 1)] (by decide +kernel) rfl ⟨(b2 c1), trivial⟩ ?_
    refine sy_copy [] jX0_23 (by decide +kernel) rfl hk0 rfl (by decide) (by decide) (Nat.le_of_ble_eq_true rfl) (by decide) (by decide) ?_
    show sy_E shX mX0_back (34, [some (.ref 8), some (.ref 7)], [], (sy_cp (sy_up σ.1 8 1 ((σ.1 8 1) - 1)) (sy_rf shX 9 (((σ.1 8 1) - 1).toNatClampNeg)) 7 16, σ.2)) _
    refine sy_bk [(.aload_n 0, 0, 0, 0, 0), (.getfield 16, 0, 1, 0, 0)] (38, [some (.ref 8), some (.ref 7)], [.int ((σ.1 8 1) - 1)], (sy_cp (sy_up σ.1 8 1 ((σ.1 8 1) - 1)) (sy_rf shX 9 (((σ.1 8 1) - 1).toNatClampNeg)) 7 16, σ.2)) [] (by decide +kernel) rfl trivial ?_
    exact sy_reti rfl (by decide +kernel) (k2 c1)

set_option maxRecDepth 20000 in
theorem w_x_forth {Q : Option Value → sy_S → Prop} {σ : sy_S}  (hk0 : shX[sy_rf shX 9 (((σ.1 8 1) + 1).toNatClampNeg)]? = some (0, 16, [])) (hk1 : shX[sy_rf shX 9 ((σ.1 8 1).toNatClampNeg)]? = some (0, 16, [])) (b1 : (σ.1 8 2) ≤ (σ.1 8 1) → sy_okR shX 9 (σ.1 8 1)) (b2 : ¬ ((σ.1 8 2) ≤ (σ.1 8 1)) → sy_okR shX 9 ((σ.1 8 1) + 1)) (k1 : (σ.1 8 2) ≤ (σ.1 8 1) → Q (some (.int ((σ.1 8 2) - (σ.1 8 1)))) (sy_cp σ.1 (sy_rf shX 9 ((σ.1 8 1).toNatClampNeg)) 7 16, σ.2)) (k2 : ¬ ((σ.1 8 2) ≤ (σ.1 8 1)) → Q (some (.int ((σ.1 8 2) - ((σ.1 8 1) + 1)))) (sy_cp (sy_up σ.1 8 1 ((σ.1 8 1) + 1)) (sy_rf shX 9 (((σ.1 8 1) + 1).toNatClampNeg)) 7 16, σ.2)) : sy_E shX mX0_forth (0, sy_ent [.ref 8, .ref 7] 2, [], σ) Q := by
  show sy_E shX mX0_forth (0, [some (.ref 8), some (.ref 7)], [], σ) _
  refine sy_bk [(.aload_n 0, 0, 0, 0, 0), (.getfield 16, 0, 1, 0, 0), (.aload_n 0, 0, 0, 0, 0), (.getfield 20, 0, 2, 0, 0)] (8, [some (.ref 8), some (.ref 7)], [.int (σ.1 8 2), .int (σ.1 8 1)], σ) [] (by decide +kernel) rfl trivial ?_
  by_cases c1 : (σ.1 8 2) ≤ (σ.1 8 1)
  · refine sy_bk [(.if_icmp .ge 13, 1, 21, 0, 0)] (21, [some (.ref 8), some (.ref 7)], [], σ) [sy_cc .ge (σ.1 8 1) (σ.1 8 2)] (by decide +kernel) rfl ⟨c1, trivial⟩ ?_
    refine sy_bk [(.aload_n 0, 0, 0, 0, 0), (.getfield 13, 0, 0, 0, 0), (.aload_n 0, 0, 0, 0, 0), (.getfield 16, 0, 1, 0, 0), (.aaload, 0, 0, 0, 0), (.iconst 0, 0, 0, 0, 0), (.aload_n 1, 0, 0, 0, 0), (.iconst 0, 0, 0, 0, 0), (.bipush 16, 0, 0, 16, 0)] (35, [some (.ref 8), some (.ref 7)], [.int 16, .int 0, .ref 7, .int 0, .ref (sy_rf shX 9 ((σ.1 8 1).toNatClampNeg))], σ) [sy_okR shX 9 (σ.1 8 1)] (by decide +kernel) rfl ⟨(b1 c1), trivial⟩ ?_
    refine sy_copy [] jX0_23 (by decide +kernel) rfl hk1 rfl (by decide) (by decide) (Nat.le_of_ble_eq_true rfl) (by decide) (by decide) ?_
    show sy_E shX mX0_forth (38, [some (.ref 8), some (.ref 7)], [], (sy_cp σ.1 (sy_rf shX 9 ((σ.1 8 1).toNatClampNeg)) 7 16, σ.2)) _
    refine sy_bk [(.aload_n 0, 0, 0, 0, 0), (.getfield 20, 0, 2, 0, 0), (.aload_n 0, 0, 0, 0, 0), (.getfield 16, 0, 1, 0, 0), (.isub, 0, 0, 0, 0)] (47, [some (.ref 8), some (.ref 7)], [.int ((σ.1 8 2) - (σ.1 8 1))], (sy_cp σ.1 (sy_rf shX 9 ((σ.1 8 1).toNatClampNeg)) 7 16, σ.2)) [] (by decide +kernel) rfl trivial ?_
    exact sy_reti rfl (by decide +kernel) (k1 c1)
  · refine sy_bk [(.if_icmp .ge 13, 0, 21, 0, 0)] (11, [some (.ref 8), some (.ref 7)], [], σ) [¬ sy_cc .ge (σ.1 8 1) (σ.1 8 2)] (by decide +kernel) rfl ⟨c1, trivial⟩ ?_
    refine sy_bk [(.aload_n 0, 0, 0, 0, 0), (.dup, 0, 0, 0, 0), (.getfield 16, 0, 1, 0, 0), (.iconst 1, 0, 0, 1, 0), (.iadd, 0, 0, 0, 0), (.putfield 16, 0, 1, 0, 0), (.aload_n 0, 0, 0, 0, 0), (.getfield 13, 0, 0, 0, 0), (.aload_n 0, 0, 0, 0, 0), (.getfield 16, 0, 1, 0, 0), (.aaload, 0, 0, 0, 0), (.iconst 0, 0, 0, 0, 0), (.aload_n 1, 0, 0, 0, 0), (.iconst 0, 0, 0, 0, 0), (.bipush 16, 0, 0, 16, 0)] (35, [some (.ref 8), some (.ref 7)], [.int 16, .int 0, .ref 7, .int 0, .ref (sy_rf shX 9 (((σ.1 8 1) + 1).toNatClampNeg))], (sy_up σ.1 8 1 ((σ.1 8 1) + 1), σ.2)) [sy_okR shX 9 ((σ.1 8 1) + 1)] (by decide +kernel) rfl ⟨(b2 c1), trivial⟩ ?_
    refine sy_copy [] jX0_23 (by decide +kernel) rfl hk0 rfl (by decide) (by decide) (Nat.le_of_ble_eq_true rfl) (by decide) (by decide) ?_
    show sy_E shX mX0_forth (38, [some (.ref 8), some (.ref 7)], [], (sy_cp (sy_up σ.1 8 1 ((σ.1 8 1) + 1)) (sy_rf shX 9 (((σ.1 8 1) + 1).toNatClampNeg)) 7 16, σ.2)) _
    refine sy_bk [(.aload_n 0, 0, 0, 0, 0), (.getfield 20, 0, 2, 0, 0), (.aload_n 0, 0, 0, 0, 0), (.getfield 16, 0, 1, 0, 0), (.isub, 0, 0, 0, 0)] (47, [some (.ref 8), some (.ref 7)], [.int ((σ.1 8 2) - ((σ.1 8 1) + 1))], (sy_cp (sy_up σ.1 8 1 ((σ.1 8 1) + 1)) (sy_rf shX 9 (((σ.1 8 1) + 1).toNatClampNeg)) 7 16, σ.2)) [] (by decide +kernel) rfl trivial ?_
    exact sy_reti rfl (by decide +kernel) (k2 c1)

set_option maxRecDepth 20000 in
theorem w_pl_clear_0 {Q : Option Value → sy_S → Prop} {σ : sy_S}    (k1 : sy_E shX mJ7_fill_53178 (0, sy_ent [.ref 31, .int (-1)] 4, [], σ) (fun r9 σ9 => sy_E shX mX7_clear (8, [none], r9.toList ++ [], σ9) Q)) : sy_E shX mX7_clear (0, sy_ent [.ref 23] 1, [], σ) Q := by
  show sy_E shX mX7_clear (0, [some (.ref 23)], [], σ) _
  refine sy_bk [(.aload_n 0, 0, 0, 0, 0), (.getfield 14, 7, 1, 0, 0), (.iconst (-1), 0, 0, (-1), 0)] (5, [some (.ref 23)], [.int (-1), .ref 31], σ) [] (by decide +kernel) rfl trivial ?_
  refine sy_drop [none] trivial ?_
  refine sy_callS mJ7_fill_53178 [.ref 31, .int (-1)] [] kJ7_fill_53178 jX7_21 (by decide +kernel) rfl rfl (Nat.le_of_ble_eq_true rfl) (Nat.le_of_ble_eq_true rfl) (by decide) ?_
  exact k1

set_option maxRecDepth 20000 in
theorem w_pl_clear_8 {Q : Option Value → sy_S → Prop} {σ : sy_S}    (k1 : Q none σ) : sy_E shX mX7_clear (8, [none], [], σ) Q := by
  exact sy_retv rfl (by decide +kernel) (k1)

set_option maxRecDepth 20000 in
theorem w_pl_held_0 {Q : Option Value → sy_S → Prop} {σ : sy_S}    (k1 : sy_E shX mX7_heldCount (4, [some (.ref 23), some (.int 0), some (.int 0)], [], σ) Q) : sy_E shX mX7_heldCount (0, sy_ent [.ref 23] 3, [], σ) Q := by
  show sy_E shX mX7_heldCount (0, [some (.ref 23), none, none], [], σ) _
  refine sy_bk [(.iconst 0, 0, 0, 0, 0), (.istore_n 1, 0, 0, 0, 0), (.iconst 0, 0, 0, 0, 0), (.istore_n 2, 0, 0, 0, 0)] (4, [some (.ref 23), some (.int 0), some (.int 0)], [], σ) [] (by decide +kernel) rfl trivial ?_
  exact k1

set_option maxRecDepth 20000 in
theorem w_pl_held_4 {Q : Option Value → sy_S → Prop} {σ : sy_S} {l1 : Int32} {l2 : Int32}  (b1 : ¬ (6 ≤ l2) → vp_in l2 6) (k1 : 6 ≤ l2 → Q (some (.int l1)) σ) (k2 : ¬ (6 ≤ l2) → (σ.1 31 l2.toNatClampNeg) < 0 → sy_E shX mX7_heldCount (4, [some (.ref 23), some (.int l1), some (.int (l2 + 1))], [], σ) Q) (k3 : ¬ (6 ≤ l2) → ¬ ((σ.1 31 l2.toNatClampNeg) < 0) → sy_E shX mX7_heldCount (4, [some (.ref 23), some (.int (l1 + 1)), some (.int (l2 + 1))], [], σ) Q) : sy_E shX mX7_heldCount (4, [some (.ref 23), some (.int l1), some (.int l2)], [], σ) Q := by
  refine sy_bk [(.iload_n 2, 0, 0, 0, 0), (.aload_n 0, 0, 0, 0, 0), (.getfield 14, 7, 1, 0, 0), (.arraylength, 0, 0, 0, 0)] (10, [some (.ref 23), some (.int l1), some (.int l2)], [.int 6, .int l2], σ) [sy_okL shX 31] (by decide +kernel) rfl ⟨⟨0, _, _, rfl, by decide⟩, trivial⟩ ?_
  by_cases c1 : 6 ≤ l2
  · refine sy_bk [(.if_icmp .ge 21, 1, 31, 0, 0)] (31, [some (.ref 23), some (.int l1), some (.int l2)], [], σ) [sy_cc .ge l2 6] (by decide +kernel) rfl ⟨c1, trivial⟩ ?_
    refine sy_bk [(.iload_n 1, 0, 0, 0, 0)] (32, [some (.ref 23), some (.int l1), some (.int l2)], [.int l1], σ) [] (by decide +kernel) rfl trivial ?_
    exact sy_reti rfl (by decide +kernel) (k1 c1)
  · refine sy_bk [(.if_icmp .ge 21, 0, 31, 0, 0)] (13, [some (.ref 23), some (.int l1), some (.int l2)], [], σ) [¬ sy_cc .ge l2 6] (by decide +kernel) rfl ⟨c1, trivial⟩ ?_
    refine sy_bk [(.aload_n 0, 0, 0, 0, 0), (.getfield 14, 7, 1, 0, 0), (.iload_n 2, 0, 0, 0, 0), (.iaload, 0, 0, 0, 0)] (19, [some (.ref 23), some (.int l1), some (.int l2)], [.int (σ.1 31 l2.toNatClampNeg)], σ) [sy_okA shX 0 31 l2] (by decide +kernel) rfl ⟨⟨6, _, rfl, (b1 c1)⟩, trivial⟩ ?_
    by_cases c2 : (σ.1 31 l2.toNatClampNeg) < 0
    · refine sy_bk [(.ifCond .lt 6, 1, 25, 0, 0)] (25, [some (.ref 23), some (.int l1), some (.int l2)], [], σ) [sy_cc .lt (σ.1 31 l2.toNatClampNeg) 0] (by decide +kernel) rfl ⟨c2, trivial⟩ ?_
      refine sy_bk [(.iinc 2 1, 0, 0, 1, 0), (.goto (-24), 0, 4, 0, 0)] (4, [some (.ref 23), some (.int l1), some (.int (l2 + 1))], [], σ) [] (by decide +kernel) rfl trivial ?_
      exact k2 c1 c2
    · refine sy_bk [(.ifCond .lt 6, 0, 25, 0, 0)] (22, [some (.ref 23), some (.int l1), some (.int l2)], [], σ) [¬ sy_cc .lt (σ.1 31 l2.toNatClampNeg) 0] (by decide +kernel) rfl ⟨c2, trivial⟩ ?_
      refine sy_bk [(.iinc 1 1, 0, 0, 1, 0), (.iinc 2 1, 0, 0, 1, 0), (.goto (-24), 0, 4, 0, 0)] (4, [some (.ref 23), some (.int (l1 + 1)), some (.int (l2 + 1))], [], σ) [] (by decide +kernel) rfl trivial ?_
      exact k3 c1 c2

set_option maxRecDepth 20000 in
theorem w_x_tslash {Q : Option Value → sy_S → Prop} {σ : sy_S}    (k1 : ¬ (σ.1 19 5) = 0 → ¬ (σ.1 19 7) = (σ.1 19 6) → Q (some (.int 2)) σ) (k2 : ¬ (σ.1 19 5) = 0 → ¬ (¬ (σ.1 19 7) = (σ.1 19 6)) → ((σ.1 19 5) + 1) < 4 → Q (some (.int 0)) (sy_up (sy_up (sy_up σ.1 19 6 (σ.1 19 7)) 19 5 ((σ.1 19 5) + 1)) 19 7 0, σ.2)) (k3 : ¬ (σ.1 19 5) = 0 → ¬ (¬ (σ.1 19 7) = (σ.1 19 6)) → ¬ (((σ.1 19 5) + 1) < 4) → Q (some (.int 5)) σ) (k4 : ¬ (¬ (σ.1 19 5) = 0) → (σ.1 19 7) ≤ 0 → Q (some (.int 2)) σ) (k5 : ¬ (¬ (σ.1 19 5) = 0) → ¬ ((σ.1 19 7) ≤ 0) → ((σ.1 19 5) + 1) < 4 → Q (some (.int 0)) (sy_up (sy_up (sy_up σ.1 19 6 (σ.1 19 7)) 19 5 ((σ.1 19 5) + 1)) 19 7 0, σ.2)) (k6 : ¬ (¬ (σ.1 19 5) = 0) → ¬ ((σ.1 19 7) ≤ 0) → ¬ (((σ.1 19 5) + 1) < 4) → Q (some (.int 5)) σ) : sy_E shX mX10_acceptSlash (0, sy_ent [.ref 19] 1, [], σ) Q := by
  show sy_E shX mX10_acceptSlash (0, [some (.ref 19)], [], σ) _
  refine sy_bk [(.aload_n 0, 0, 0, 0, 0)] (1, [some (.ref 19)], [.ref 19], σ) [] (by decide +kernel) rfl trivial ?_
  refine sy_callV mX10_isRowWhole 19 [] [] kX10_isRowWhole jX10_45 (by decide +kernel) rfl rfl (Nat.le_of_ble_eq_true rfl) (Nat.le_of_ble_eq_true rfl) (by decide) rfl ?_
  refine w_x_tisRowWhole (σ := σ) ?_ ?_ ?_ ?_
  · intro c1 c2
    show sy_E shX mX10_acceptSlash (4, [some (.ref 19)], [.int 0], σ) _
    refine sy_bk [(.ifCond .ne 5, 0, 9, 0, 0), (.iconst 2, 0, 0, 2, 0)] (8, [some (.ref 19)], [.int 2], σ) [¬ sy_cc .ne 0 0] (by decide +kernel) rfl ⟨(by decide : ¬ (¬ (0 : Int32) = 0)), trivial⟩ ?_
    exact sy_reti rfl (by decide +kernel) (k1 c1 c2)
  · intro c3 c4
    show sy_E shX mX10_acceptSlash (4, [some (.ref 19)], [.int 1], σ) _
    refine sy_bk [(.ifCond .ne 5, 1, 9, 0, 0), (.aload_n 0, 0, 0, 0, 0), (.getfield 28, 10, 5, 0, 0), (.iconst 1, 0, 0, 1, 0), (.iadd, 0, 0, 0, 0), (.iconst 4, 0, 0, 4, 0)] (16, [some (.ref 19)], [.int 4, .int ((σ.1 19 5) + 1)], σ) [sy_cc .ne 1 0] (by decide +kernel) rfl ⟨(by decide : (¬ (1 : Int32) = 0)), trivial⟩ ?_
    by_cases c5 : ((σ.1 19 5) + 1) < 4
    · refine sy_bk [(.if_icmp .lt 5, 1, 21, 0, 0)] (21, [some (.ref 19)], [], σ) [sy_cc .lt ((σ.1 19 5) + 1) 4] (by decide +kernel) rfl ⟨c5, trivial⟩ ?_
      refine sy_bk [(.aload_n 0, 0, 0, 0, 0)] (22, [some (.ref 19)], [.ref 19], σ) [] (by decide +kernel) rfl trivial ?_
      refine sy_callV mX10_closeRow 19 [] [] kX10_closeRow jX10_49 (by decide +kernel) rfl rfl (Nat.le_of_ble_eq_true rfl) (Nat.le_of_ble_eq_true rfl) (by decide) rfl ?_
      refine w_x_tcloseRow (σ := σ) ?_
      show sy_E shX mX10_acceptSlash (25, [some (.ref 19)], [], (sy_up σ.1 19 6 (σ.1 19 7), σ.2)) _
      refine sy_bk [(.aload_n 0, 0, 0, 0, 0), (.dup, 0, 0, 0, 0), (.getfield 28, 10, 5, 0, 0), (.iconst 1, 0, 0, 1, 0), (.iadd, 0, 0, 0, 0), (.putfield 28, 10, 5, 0, 0), (.aload_n 0, 0, 0, 0, 0), (.iconst 0, 0, 0, 0, 0), (.putfield 34, 10, 7, 0, 0), (.iconst 0, 0, 0, 0, 0)] (41, [some (.ref 19)], [.int 0], (sy_up (sy_up (sy_up σ.1 19 6 (σ.1 19 7)) 19 5 ((σ.1 19 5) + 1)) 19 7 0, σ.2)) [] (by decide +kernel) rfl trivial ?_
      exact sy_reti rfl (by decide +kernel) (k2 c3 c4 c5)
    · refine sy_bk [(.if_icmp .lt 5, 0, 21, 0, 0)] (19, [some (.ref 19)], [], σ) [¬ sy_cc .lt ((σ.1 19 5) + 1) 4] (by decide +kernel) rfl ⟨c5, trivial⟩ ?_
      refine sy_bk [(.iconst 5, 0, 0, 5, 0)] (20, [some (.ref 19)], [.int 5], σ) [] (by decide +kernel) rfl trivial ?_
      exact sy_reti rfl (by decide +kernel) (k3 c3 c4 c5)
  · intro c6 c7
    show sy_E shX mX10_acceptSlash (4, [some (.ref 19)], [.int 0], σ) _
    refine sy_bk [(.ifCond .ne 5, 0, 9, 0, 0), (.iconst 2, 0, 0, 2, 0)] (8, [some (.ref 19)], [.int 2], σ) [¬ sy_cc .ne 0 0] (by decide +kernel) rfl ⟨(by decide : ¬ (¬ (0 : Int32) = 0)), trivial⟩ ?_
    exact sy_reti rfl (by decide +kernel) (k4 c6 c7)
  · intro c8 c9
    show sy_E shX mX10_acceptSlash (4, [some (.ref 19)], [.int 1], σ) _
    refine sy_bk [(.ifCond .ne 5, 1, 9, 0, 0), (.aload_n 0, 0, 0, 0, 0), (.getfield 28, 10, 5, 0, 0), (.iconst 1, 0, 0, 1, 0), (.iadd, 0, 0, 0, 0), (.iconst 4, 0, 0, 4, 0)] (16, [some (.ref 19)], [.int 4, .int ((σ.1 19 5) + 1)], σ) [sy_cc .ne 1 0] (by decide +kernel) rfl ⟨(by decide : (¬ (1 : Int32) = 0)), trivial⟩ ?_
    by_cases c10 : ((σ.1 19 5) + 1) < 4
    · refine sy_bk [(.if_icmp .lt 5, 1, 21, 0, 0)] (21, [some (.ref 19)], [], σ) [sy_cc .lt ((σ.1 19 5) + 1) 4] (by decide +kernel) rfl ⟨c10, trivial⟩ ?_
      refine sy_bk [(.aload_n 0, 0, 0, 0, 0)] (22, [some (.ref 19)], [.ref 19], σ) [] (by decide +kernel) rfl trivial ?_
      refine sy_callV mX10_closeRow 19 [] [] kX10_closeRow jX10_49 (by decide +kernel) rfl rfl (Nat.le_of_ble_eq_true rfl) (Nat.le_of_ble_eq_true rfl) (by decide) rfl ?_
      refine w_x_tcloseRow (σ := σ) ?_
      show sy_E shX mX10_acceptSlash (25, [some (.ref 19)], [], (sy_up σ.1 19 6 (σ.1 19 7), σ.2)) _
      refine sy_bk [(.aload_n 0, 0, 0, 0, 0), (.dup, 0, 0, 0, 0), (.getfield 28, 10, 5, 0, 0), (.iconst 1, 0, 0, 1, 0), (.iadd, 0, 0, 0, 0), (.putfield 28, 10, 5, 0, 0), (.aload_n 0, 0, 0, 0, 0), (.iconst 0, 0, 0, 0, 0), (.putfield 34, 10, 7, 0, 0), (.iconst 0, 0, 0, 0, 0)] (41, [some (.ref 19)], [.int 0], (sy_up (sy_up (sy_up σ.1 19 6 (σ.1 19 7)) 19 5 ((σ.1 19 5) + 1)) 19 7 0, σ.2)) [] (by decide +kernel) rfl trivial ?_
      exact sy_reti rfl (by decide +kernel) (k5 c8 c9 c10)
    · refine sy_bk [(.if_icmp .lt 5, 0, 21, 0, 0)] (19, [some (.ref 19)], [], σ) [¬ sy_cc .lt ((σ.1 19 5) + 1) 4] (by decide +kernel) rfl ⟨c10, trivial⟩ ?_
      refine sy_bk [(.iconst 5, 0, 0, 5, 0)] (20, [some (.ref 19)], [.int 5], σ) [] (by decide +kernel) rfl trivial ?_
      exact sy_reti rfl (by decide +kernel) (k6 c8 c9 c10)

set_option maxRecDepth 20000 in
theorem w_x_taccept_0 {Q : Option Value → sy_S → Prop} {σ : sy_S} {b : Int32}  (b1 : ¬ b = 47 → b < 48 → b = 35 → ¬ (σ.1 19 5) = 0 → (σ.1 19 7) < (σ.1 19 6) → vp_in (((σ.1 19 5) * (σ.1 19 6)) + (σ.1 19 7)) 16) (b2 : ¬ b = 47 → b < 48 → b = 35 → ¬ (¬ (σ.1 19 5) = 0) → (σ.1 19 7) < 4 → vp_in (((σ.1 19 5) * (σ.1 19 6)) + (σ.1 19 7)) 16) (b3 : ¬ b = 47 → ¬ (b < 48) → 57 < b → b = 35 → ¬ (σ.1 19 5) = 0 → (σ.1 19 7) < (σ.1 19 6) → vp_in (((σ.1 19 5) * (σ.1 19 6)) + (σ.1 19 7)) 16) (b4 : ¬ b = 47 → ¬ (b < 48) → 57 < b → b = 35 → ¬ (¬ (σ.1 19 5) = 0) → (σ.1 19 7) < 4 → vp_in (((σ.1 19 5) * (σ.1 19 6)) + (σ.1 19 7)) 16) (b5 : ¬ b = 47 → ¬ (b < 48) → ¬ (57 < b) → b = 35 → ¬ (σ.1 19 5) = 0 → (σ.1 19 7) < (σ.1 19 6) → vp_in (((σ.1 19 5) * (σ.1 19 6)) + (σ.1 19 7)) 16) (b6 : ¬ b = 47 → ¬ (b < 48) → ¬ (57 < b) → b = 35 → ¬ (¬ (σ.1 19 5) = 0) → (σ.1 19 7) < 4 → vp_in (((σ.1 19 5) * (σ.1 19 6)) + (σ.1 19 7)) 16) (b7 : ¬ b = 47 → ¬ (b < 48) → ¬ (57 < b) → ¬ (b = 35) → ¬ (σ.1 19 5) = 0 → (σ.1 19 7) < (σ.1 19 6) → vp_in (((σ.1 19 5) * (σ.1 19 6)) + (σ.1 19 7)) 16) (b8 : ¬ b = 47 → ¬ (b < 48) → ¬ (57 < b) → ¬ (b = 35) → ¬ (¬ (σ.1 19 5) = 0) → (σ.1 19 7) < 4 → vp_in (((σ.1 19 5) * (σ.1 19 6)) + (σ.1 19 7)) 16) (k1 : ¬ b = 47 → b < 48 → b = 35 → ¬ (σ.1 19 5) = 0 → (σ.1 19 7) < (σ.1 19 6) → Q (some (.int 0)) (sy_up (sy_up σ.1 21 ((((σ.1 19 5) * (σ.1 19 6)) + (σ.1 19 7)).toNatClampNeg) (-1)) 19 7 ((σ.1 19 7) + 1), σ.2)) (k2 : ¬ b = 47 → b < 48 → b = 35 → ¬ (σ.1 19 5) = 0 → ¬ ((σ.1 19 7) < (σ.1 19 6)) → Q (some (.int 4)) σ) (k3 : ¬ b = 47 → b < 48 → b = 35 → ¬ (¬ (σ.1 19 5) = 0) → (σ.1 19 7) < 4 → Q (some (.int 0)) (sy_up (sy_up σ.1 21 ((((σ.1 19 5) * (σ.1 19 6)) + (σ.1 19 7)).toNatClampNeg) (-1)) 19 7 ((σ.1 19 7) + 1), σ.2)) (k4 : ¬ b = 47 → b < 48 → b = 35 → ¬ (¬ (σ.1 19 5) = 0) → ¬ ((σ.1 19 7) < 4) → Q (some (.int 4)) σ) (k5 : ¬ b = 47 → b < 48 → ¬ (b = 35) → Q (some (.int 2)) σ) (k6 : ¬ b = 47 → ¬ (b < 48) → 57 < b → b = 35 → ¬ (σ.1 19 5) = 0 → (σ.1 19 7) < (σ.1 19 6) → Q (some (.int 0)) (sy_up (sy_up σ.1 21 ((((σ.1 19 5) * (σ.1 19 6)) + (σ.1 19 7)).toNatClampNeg) (-1)) 19 7 ((σ.1 19 7) + 1), σ.2)) (k7 : ¬ b = 47 → ¬ (b < 48) → 57 < b → b = 35 → ¬ (σ.1 19 5) = 0 → ¬ ((σ.1 19 7) < (σ.1 19 6)) → Q (some (.int 4)) σ) (k8 : ¬ b = 47 → ¬ (b < 48) → 57 < b → b = 35 → ¬ (¬ (σ.1 19 5) = 0) → (σ.1 19 7) < 4 → Q (some (.int 0)) (sy_up (sy_up σ.1 21 ((((σ.1 19 5) * (σ.1 19 6)) + (σ.1 19 7)).toNatClampNeg) (-1)) 19 7 ((σ.1 19 7) + 1), σ.2)) (k9 : ¬ b = 47 → ¬ (b < 48) → 57 < b → b = 35 → ¬ (¬ (σ.1 19 5) = 0) → ¬ ((σ.1 19 7) < 4) → Q (some (.int 4)) σ) (k10 : ¬ b = 47 → ¬ (b < 48) → 57 < b → ¬ (b = 35) → Q (some (.int 2)) σ) (k11 : ¬ b = 47 → ¬ (b < 48) → ¬ (57 < b) → b = 35 → ¬ (σ.1 19 5) = 0 → (σ.1 19 7) < (σ.1 19 6) → Q (some (.int 0)) (sy_up (sy_up σ.1 21 ((((σ.1 19 5) * (σ.1 19 6)) + (σ.1 19 7)).toNatClampNeg) (b - 48)) 19 7 ((σ.1 19 7) + 1), σ.2)) (k12 : ¬ b = 47 → ¬ (b < 48) → ¬ (57 < b) → b = 35 → ¬ (σ.1 19 5) = 0 → ¬ ((σ.1 19 7) < (σ.1 19 6)) → Q (some (.int 4)) σ) (k13 : ¬ b = 47 → ¬ (b < 48) → ¬ (57 < b) → b = 35 → ¬ (¬ (σ.1 19 5) = 0) → (σ.1 19 7) < 4 → Q (some (.int 0)) (sy_up (sy_up σ.1 21 ((((σ.1 19 5) * (σ.1 19 6)) + (σ.1 19 7)).toNatClampNeg) (b - 48)) 19 7 ((σ.1 19 7) + 1), σ.2)) (k14 : ¬ b = 47 → ¬ (b < 48) → ¬ (57 < b) → b = 35 → ¬ (¬ (σ.1 19 5) = 0) → ¬ ((σ.1 19 7) < 4) → Q (some (.int 4)) σ) (k15 : ¬ b = 47 → ¬ (b < 48) → ¬ (57 < b) → ¬ (b = 35) → ¬ (σ.1 19 5) = 0 → (σ.1 19 7) < (σ.1 19 6) → Q (some (.int 0)) (sy_up (sy_up σ.1 21 ((((σ.1 19 5) * (σ.1 19 6)) + (σ.1 19 7)).toNatClampNeg) (b - 48)) 19 7 ((σ.1 19 7) + 1), σ.2)) (k16 : ¬ b = 47 → ¬ (b < 48) → ¬ (57 < b) → ¬ (b = 35) → ¬ (σ.1 19 5) = 0 → ¬ ((σ.1 19 7) < (σ.1 19 6)) → Q (some (.int 4)) σ) (k17 : ¬ b = 47 → ¬ (b < 48) → ¬ (57 < b) → ¬ (b = 35) → ¬ (¬ (σ.1 19 5) = 0) → (σ.1 19 7) < 4 → Q (some (.int 0)) (sy_up (sy_up σ.1 21 ((((σ.1 19 5) * (σ.1 19 6)) + (σ.1 19 7)).toNatClampNeg) (b - 48)) 19 7 ((σ.1 19 7) + 1), σ.2)) (k18 : ¬ b = 47 → ¬ (b < 48) → ¬ (57 < b) → ¬ (b = 35) → ¬ (¬ (σ.1 19 5) = 0) → ¬ ((σ.1 19 7) < 4) → Q (some (.int 4)) σ) (k19 : ¬ (¬ b = 47) → sy_E shX mX10_acceptSlash (0, sy_ent [.ref 19] 1, [], σ) (fun r9 σ9 => sy_E shX mX10_accept (10, [none, none, none], r9.toList ++ [], σ9) Q)) : sy_E shX mX10_accept (0, sy_ent [.ref 19, .int b] 3, [], σ) Q := by
  show sy_E shX mX10_accept (0, [some (.ref 19), some (.int b), none], [], σ) _
  refine sy_bk [(.iload_n 1, 0, 0, 0, 0), (.bipush 47, 0, 0, 47, 0)] (3, [some (.ref 19), some (.int b), none], [.int 47, .int b], σ) [] (by decide +kernel) rfl trivial ?_
  by_cases c1 : ¬ b = 47
  · refine sy_bk [(.if_icmp .ne 8, 1, 11, 0, 0)] (11, [some (.ref 19), some (.int b), none], [], σ) [sy_cc .ne b 47] (by decide +kernel) rfl ⟨c1, trivial⟩ ?_
    refine sy_bk [(.iload_n 1, 0, 0, 0, 0), (.bipush 48, 0, 0, 48, 0)] (14, [some (.ref 19), some (.int b), none], [.int 48, .int b], σ) [] (by decide +kernel) rfl trivial ?_
    by_cases c2 : b < 48
    · refine sy_bk [(.if_icmp .lt 13, 1, 27, 0, 0)] (27, [some (.ref 19), some (.int b), none], [], σ) [sy_cc .lt b 48] (by decide +kernel) rfl ⟨c2, trivial⟩ ?_
      refine sy_bk [(.iconst 0, 0, 0, 0, 0), (.istore_n 2, 0, 0, 0, 0), (.iload_n 1, 0, 0, 0, 0), (.bipush 35, 0, 0, 35, 0)] (32, [some (.ref 19), some (.int b), some (.int 0)], [.int 35, .int b], σ) [] (by decide +kernel) rfl trivial ?_
      by_cases c3 : b = 35
      · refine sy_bk [(.if_icmp .eq 9, 1, 41, 0, 0)] (41, [some (.ref 19), some (.int b), some (.int 0)], [], σ) [sy_cc .eq b 35] (by decide +kernel) rfl ⟨c3, trivial⟩ ?_
        refine sy_bk [(.aload_n 0, 0, 0, 0, 0), (.getfield 34, 10, 7, 0, 0), (.aload_n 0, 0, 0, 0, 0)] (46, [some (.ref 19), some (.int b), some (.int 0)], [.ref 19, .int (σ.1 19 7)], σ) [] (by decide +kernel) rfl trivial ?_
        refine sy_callV mX10_mostInRow 19 [] [.int (σ.1 19 7)] kX10_mostInRow jX10_56 (by decide +kernel) rfl rfl (Nat.le_of_ble_eq_true rfl) (Nat.le_of_ble_eq_true rfl) (by decide) rfl ?_
        refine w_x_tmostInRow (σ := σ) ?_ ?_
        · intro c4
          show sy_E shX mX10_accept (49, [some (.ref 19), some (.int b), some (.int 0)], [.int (σ.1 19 6), .int (σ.1 19 7)], σ) _
          by_cases c5 : (σ.1 19 7) < (σ.1 19 6)
          · refine sy_bk [(.if_icmp .lt 5, 1, 54, 0, 0)] (54, [some (.ref 19), some (.int b), some (.int 0)], [], σ) [sy_cc .lt (σ.1 19 7) (σ.1 19 6)] (by decide +kernel) rfl ⟨c5, trivial⟩ ?_
            refine sy_bk [(.aload_n 0, 0, 0, 0, 0), (.getfield 15, 10, 1, 0, 0), (.aload_n 0, 0, 0, 0, 0), (.getfield 28, 10, 5, 0, 0), (.aload_n 0, 0, 0, 0, 0), (.getfield 31, 10, 6, 0, 0), (.imul, 0, 0, 0, 0), (.aload_n 0, 0, 0, 0, 0), (.getfield 34, 10, 7, 0, 0), (.iadd, 0, 0, 0, 0), (.iload_n 2, 0, 0, 0, 0), (.ifCond .eq 10, 1, 83, 0, 0), (.iconst (-1), 0, 0, (-1), 0), (.iastore, 0, 0, 0, 0), (.aload_n 0, 0, 0, 0, 0), (.dup, 0, 0, 0, 0), (.getfield 34, 10, 7, 0, 0), (.iconst 1, 0, 0, 1, 0), (.iadd, 0, 0, 0, 0), (.putfield 34, 10, 7, 0, 0), (.iconst 0, 0, 0, 0, 0)] (96, [some (.ref 19), some (.int b), some (.int 0)], [.int 0], (sy_up (sy_up σ.1 21 ((((σ.1 19 5) * (σ.1 19 6)) + (σ.1 19 7)).toNatClampNeg) (-1)) 19 7 ((σ.1 19 7) + 1), σ.2)) [sy_cc .eq 0 0, sy_okA shX 0 21 (((σ.1 19 5) * (σ.1 19 6)) + (σ.1 19 7))] (by decide +kernel) rfl ⟨(by decide : ((0 : Int32) = 0)), ⟨16, _, rfl, (b1 c1 c2 c3 c4 c5)⟩, trivial⟩ ?_
            exact sy_reti rfl (by decide +kernel) (k1 c1 c2 c3 c4 c5)
          · refine sy_bk [(.if_icmp .lt 5, 0, 54, 0, 0)] (52, [some (.ref 19), some (.int b), some (.int 0)], [], σ) [¬ sy_cc .lt (σ.1 19 7) (σ.1 19 6)] (by decide +kernel) rfl ⟨c5, trivial⟩ ?_
            refine sy_bk [(.iconst 4, 0, 0, 4, 0)] (53, [some (.ref 19), some (.int b), some (.int 0)], [.int 4], σ) [] (by decide +kernel) rfl trivial ?_
            exact sy_reti rfl (by decide +kernel) (k2 c1 c2 c3 c4 c5)
        · intro c6
          show sy_E shX mX10_accept (49, [some (.ref 19), some (.int b), some (.int 0)], [.int 4, .int (σ.1 19 7)], σ) _
          by_cases c7 : (σ.1 19 7) < 4
          · refine sy_bk [(.if_icmp .lt 5, 1, 54, 0, 0)] (54, [some (.ref 19), some (.int b), some (.int 0)], [], σ) [sy_cc .lt (σ.1 19 7) 4] (by decide +kernel) rfl ⟨c7, trivial⟩ ?_
            refine sy_bk [(.aload_n 0, 0, 0, 0, 0), (.getfield 15, 10, 1, 0, 0), (.aload_n 0, 0, 0, 0, 0), (.getfield 28, 10, 5, 0, 0), (.aload_n 0, 0, 0, 0, 0), (.getfield 31, 10, 6, 0, 0), (.imul, 0, 0, 0, 0), (.aload_n 0, 0, 0, 0, 0), (.getfield 34, 10, 7, 0, 0), (.iadd, 0, 0, 0, 0), (.iload_n 2, 0, 0, 0, 0), (.ifCond .eq 10, 1, 83, 0, 0), (.iconst (-1), 0, 0, (-1), 0), (.iastore, 0, 0, 0, 0), (.aload_n 0, 0, 0, 0, 0), (.dup, 0, 0, 0, 0), (.getfield 34, 10, 7, 0, 0), (.iconst 1, 0, 0, 1, 0), (.iadd, 0, 0, 0, 0), (.putfield 34, 10, 7, 0, 0), (.iconst 0, 0, 0, 0, 0)] (96, [some (.ref 19), some (.int b), some (.int 0)], [.int 0], (sy_up (sy_up σ.1 21 ((((σ.1 19 5) * (σ.1 19 6)) + (σ.1 19 7)).toNatClampNeg) (-1)) 19 7 ((σ.1 19 7) + 1), σ.2)) [sy_cc .eq 0 0, sy_okA shX 0 21 (((σ.1 19 5) * (σ.1 19 6)) + (σ.1 19 7))] (by decide +kernel) rfl ⟨(by decide : ((0 : Int32) = 0)), ⟨16, _, rfl, (b2 c1 c2 c3 c6 c7)⟩, trivial⟩ ?_
            exact sy_reti rfl (by decide +kernel) (k3 c1 c2 c3 c6 c7)
          · refine sy_bk [(.if_icmp .lt 5, 0, 54, 0, 0)] (52, [some (.ref 19), some (.int b), some (.int 0)], [], σ) [¬ sy_cc .lt (σ.1 19 7) 4] (by decide +kernel) rfl ⟨c7, trivial⟩ ?_
            refine sy_bk [(.iconst 4, 0, 0, 4, 0)] (53, [some (.ref 19), some (.int b), some (.int 0)], [.int 4], σ) [] (by decide +kernel) rfl trivial ?_
            exact sy_reti rfl (by decide +kernel) (k4 c1 c2 c3 c6 c7)
      · refine sy_bk [(.if_icmp .eq 9, 0, 41, 0, 0)] (35, [some (.ref 19), some (.int b), some (.int 0)], [], σ) [¬ sy_cc .eq b 35] (by decide +kernel) rfl ⟨c3, trivial⟩ ?_
        refine sy_bk [(.iload_n 2, 0, 0, 0, 0), (.ifCond .ne 5, 0, 41, 0, 0), (.iconst 2, 0, 0, 2, 0)] (40, [some (.ref 19), some (.int b), some (.int 0)], [.int 2], σ) [¬ sy_cc .ne 0 0] (by decide +kernel) rfl ⟨(by decide : ¬ (¬ (0 : Int32) = 0)), trivial⟩ ?_
        exact sy_reti rfl (by decide +kernel) (k5 c1 c2 c3)
    · refine sy_bk [(.if_icmp .lt 13, 0, 27, 0, 0)] (17, [some (.ref 19), some (.int b), none], [], σ) [¬ sy_cc .lt b 48] (by decide +kernel) rfl ⟨c2, trivial⟩ ?_
      refine sy_bk [(.iload_n 1, 0, 0, 0, 0), (.bipush 57, 0, 0, 57, 0)] (20, [some (.ref 19), some (.int b), none], [.int 57, .int b], σ) [] (by decide +kernel) rfl trivial ?_
      by_cases c8 : 57 < b
      · refine sy_bk [(.if_icmp .gt 7, 1, 27, 0, 0)] (27, [some (.ref 19), some (.int b), none], [], σ) [sy_cc .gt b 57] (by decide +kernel) rfl ⟨c8, trivial⟩ ?_
        refine sy_bk [(.iconst 0, 0, 0, 0, 0), (.istore_n 2, 0, 0, 0, 0), (.iload_n 1, 0, 0, 0, 0), (.bipush 35, 0, 0, 35, 0)] (32, [some (.ref 19), some (.int b), some (.int 0)], [.int 35, .int b], σ) [] (by decide +kernel) rfl trivial ?_
        by_cases c9 : b = 35
        · refine sy_bk [(.if_icmp .eq 9, 1, 41, 0, 0)] (41, [some (.ref 19), some (.int b), some (.int 0)], [], σ) [sy_cc .eq b 35] (by decide +kernel) rfl ⟨c9, trivial⟩ ?_
          refine sy_bk [(.aload_n 0, 0, 0, 0, 0), (.getfield 34, 10, 7, 0, 0), (.aload_n 0, 0, 0, 0, 0)] (46, [some (.ref 19), some (.int b), some (.int 0)], [.ref 19, .int (σ.1 19 7)], σ) [] (by decide +kernel) rfl trivial ?_
          refine sy_callV mX10_mostInRow 19 [] [.int (σ.1 19 7)] kX10_mostInRow jX10_56 (by decide +kernel) rfl rfl (Nat.le_of_ble_eq_true rfl) (Nat.le_of_ble_eq_true rfl) (by decide) rfl ?_
          refine w_x_tmostInRow (σ := σ) ?_ ?_
          · intro c10
            show sy_E shX mX10_accept (49, [some (.ref 19), some (.int b), some (.int 0)], [.int (σ.1 19 6), .int (σ.1 19 7)], σ) _
            by_cases c11 : (σ.1 19 7) < (σ.1 19 6)
            · refine sy_bk [(.if_icmp .lt 5, 1, 54, 0, 0)] (54, [some (.ref 19), some (.int b), some (.int 0)], [], σ) [sy_cc .lt (σ.1 19 7) (σ.1 19 6)] (by decide +kernel) rfl ⟨c11, trivial⟩ ?_
              refine sy_bk [(.aload_n 0, 0, 0, 0, 0), (.getfield 15, 10, 1, 0, 0), (.aload_n 0, 0, 0, 0, 0), (.getfield 28, 10, 5, 0, 0), (.aload_n 0, 0, 0, 0, 0), (.getfield 31, 10, 6, 0, 0), (.imul, 0, 0, 0, 0), (.aload_n 0, 0, 0, 0, 0), (.getfield 34, 10, 7, 0, 0), (.iadd, 0, 0, 0, 0), (.iload_n 2, 0, 0, 0, 0), (.ifCond .eq 10, 1, 83, 0, 0), (.iconst (-1), 0, 0, (-1), 0), (.iastore, 0, 0, 0, 0), (.aload_n 0, 0, 0, 0, 0), (.dup, 0, 0, 0, 0), (.getfield 34, 10, 7, 0, 0), (.iconst 1, 0, 0, 1, 0), (.iadd, 0, 0, 0, 0), (.putfield 34, 10, 7, 0, 0), (.iconst 0, 0, 0, 0, 0)] (96, [some (.ref 19), some (.int b), some (.int 0)], [.int 0], (sy_up (sy_up σ.1 21 ((((σ.1 19 5) * (σ.1 19 6)) + (σ.1 19 7)).toNatClampNeg) (-1)) 19 7 ((σ.1 19 7) + 1), σ.2)) [sy_cc .eq 0 0, sy_okA shX 0 21 (((σ.1 19 5) * (σ.1 19 6)) + (σ.1 19 7))] (by decide +kernel) rfl ⟨(by decide : ((0 : Int32) = 0)), ⟨16, _, rfl, (b3 c1 c2 c8 c9 c10 c11)⟩, trivial⟩ ?_
              exact sy_reti rfl (by decide +kernel) (k6 c1 c2 c8 c9 c10 c11)
            · refine sy_bk [(.if_icmp .lt 5, 0, 54, 0, 0)] (52, [some (.ref 19), some (.int b), some (.int 0)], [], σ) [¬ sy_cc .lt (σ.1 19 7) (σ.1 19 6)] (by decide +kernel) rfl ⟨c11, trivial⟩ ?_
              refine sy_bk [(.iconst 4, 0, 0, 4, 0)] (53, [some (.ref 19), some (.int b), some (.int 0)], [.int 4], σ) [] (by decide +kernel) rfl trivial ?_
              exact sy_reti rfl (by decide +kernel) (k7 c1 c2 c8 c9 c10 c11)
          · intro c12
            show sy_E shX mX10_accept (49, [some (.ref 19), some (.int b), some (.int 0)], [.int 4, .int (σ.1 19 7)], σ) _
            by_cases c13 : (σ.1 19 7) < 4
            · refine sy_bk [(.if_icmp .lt 5, 1, 54, 0, 0)] (54, [some (.ref 19), some (.int b), some (.int 0)], [], σ) [sy_cc .lt (σ.1 19 7) 4] (by decide +kernel) rfl ⟨c13, trivial⟩ ?_
              refine sy_bk [(.aload_n 0, 0, 0, 0, 0), (.getfield 15, 10, 1, 0, 0), (.aload_n 0, 0, 0, 0, 0), (.getfield 28, 10, 5, 0, 0), (.aload_n 0, 0, 0, 0, 0), (.getfield 31, 10, 6, 0, 0), (.imul, 0, 0, 0, 0), (.aload_n 0, 0, 0, 0, 0), (.getfield 34, 10, 7, 0, 0), (.iadd, 0, 0, 0, 0), (.iload_n 2, 0, 0, 0, 0), (.ifCond .eq 10, 1, 83, 0, 0), (.iconst (-1), 0, 0, (-1), 0), (.iastore, 0, 0, 0, 0), (.aload_n 0, 0, 0, 0, 0), (.dup, 0, 0, 0, 0), (.getfield 34, 10, 7, 0, 0), (.iconst 1, 0, 0, 1, 0), (.iadd, 0, 0, 0, 0), (.putfield 34, 10, 7, 0, 0), (.iconst 0, 0, 0, 0, 0)] (96, [some (.ref 19), some (.int b), some (.int 0)], [.int 0], (sy_up (sy_up σ.1 21 ((((σ.1 19 5) * (σ.1 19 6)) + (σ.1 19 7)).toNatClampNeg) (-1)) 19 7 ((σ.1 19 7) + 1), σ.2)) [sy_cc .eq 0 0, sy_okA shX 0 21 (((σ.1 19 5) * (σ.1 19 6)) + (σ.1 19 7))] (by decide +kernel) rfl ⟨(by decide : ((0 : Int32) = 0)), ⟨16, _, rfl, (b4 c1 c2 c8 c9 c12 c13)⟩, trivial⟩ ?_
              exact sy_reti rfl (by decide +kernel) (k8 c1 c2 c8 c9 c12 c13)
            · refine sy_bk [(.if_icmp .lt 5, 0, 54, 0, 0)] (52, [some (.ref 19), some (.int b), some (.int 0)], [], σ) [¬ sy_cc .lt (σ.1 19 7) 4] (by decide +kernel) rfl ⟨c13, trivial⟩ ?_
              refine sy_bk [(.iconst 4, 0, 0, 4, 0)] (53, [some (.ref 19), some (.int b), some (.int 0)], [.int 4], σ) [] (by decide +kernel) rfl trivial ?_
              exact sy_reti rfl (by decide +kernel) (k9 c1 c2 c8 c9 c12 c13)
        · refine sy_bk [(.if_icmp .eq 9, 0, 41, 0, 0)] (35, [some (.ref 19), some (.int b), some (.int 0)], [], σ) [¬ sy_cc .eq b 35] (by decide +kernel) rfl ⟨c9, trivial⟩ ?_
          refine sy_bk [(.iload_n 2, 0, 0, 0, 0), (.ifCond .ne 5, 0, 41, 0, 0), (.iconst 2, 0, 0, 2, 0)] (40, [some (.ref 19), some (.int b), some (.int 0)], [.int 2], σ) [¬ sy_cc .ne 0 0] (by decide +kernel) rfl ⟨(by decide : ¬ (¬ (0 : Int32) = 0)), trivial⟩ ?_
          exact sy_reti rfl (by decide +kernel) (k10 c1 c2 c8 c9)
      · refine sy_bk [(.if_icmp .gt 7, 0, 27, 0, 0)] (23, [some (.ref 19), some (.int b), none], [], σ) [¬ sy_cc .gt b 57] (by decide +kernel) rfl ⟨c8, trivial⟩ ?_
        refine sy_bk [(.iconst 1, 0, 0, 1, 0), (.goto 4, 0, 28, 0, 0), (.istore_n 2, 0, 0, 0, 0), (.iload_n 1, 0, 0, 0, 0), (.bipush 35, 0, 0, 35, 0)] (32, [some (.ref 19), some (.int b), some (.int 1)], [.int 35, .int b], σ) [] (by decide +kernel) rfl trivial ?_
        by_cases c14 : b = 35
        · refine sy_bk [(.if_icmp .eq 9, 1, 41, 0, 0)] (41, [some (.ref 19), some (.int b), some (.int 1)], [], σ) [sy_cc .eq b 35] (by decide +kernel) rfl ⟨c14, trivial⟩ ?_
          refine sy_bk [(.aload_n 0, 0, 0, 0, 0), (.getfield 34, 10, 7, 0, 0), (.aload_n 0, 0, 0, 0, 0)] (46, [some (.ref 19), some (.int b), some (.int 1)], [.ref 19, .int (σ.1 19 7)], σ) [] (by decide +kernel) rfl trivial ?_
          refine sy_callV mX10_mostInRow 19 [] [.int (σ.1 19 7)] kX10_mostInRow jX10_56 (by decide +kernel) rfl rfl (Nat.le_of_ble_eq_true rfl) (Nat.le_of_ble_eq_true rfl) (by decide) rfl ?_
          refine w_x_tmostInRow (σ := σ) ?_ ?_
          · intro c15
            show sy_E shX mX10_accept (49, [some (.ref 19), some (.int b), some (.int 1)], [.int (σ.1 19 6), .int (σ.1 19 7)], σ) _
            by_cases c16 : (σ.1 19 7) < (σ.1 19 6)
            · refine sy_bk [(.if_icmp .lt 5, 1, 54, 0, 0)] (54, [some (.ref 19), some (.int b), some (.int 1)], [], σ) [sy_cc .lt (σ.1 19 7) (σ.1 19 6)] (by decide +kernel) rfl ⟨c16, trivial⟩ ?_
              refine sy_bk [(.aload_n 0, 0, 0, 0, 0), (.getfield 15, 10, 1, 0, 0), (.aload_n 0, 0, 0, 0, 0), (.getfield 28, 10, 5, 0, 0), (.aload_n 0, 0, 0, 0, 0), (.getfield 31, 10, 6, 0, 0), (.imul, 0, 0, 0, 0), (.aload_n 0, 0, 0, 0, 0), (.getfield 34, 10, 7, 0, 0), (.iadd, 0, 0, 0, 0), (.iload_n 2, 0, 0, 0, 0), (.ifCond .eq 10, 0, 83, 0, 0), (.iload_n 1, 0, 0, 0, 0), (.bipush 48, 0, 0, 48, 0), (.isub, 0, 0, 0, 0), (.goto 4, 0, 84, 0, 0), (.iastore, 0, 0, 0, 0), (.aload_n 0, 0, 0, 0, 0), (.dup, 0, 0, 0, 0), (.getfield 34, 10, 7, 0, 0), (.iconst 1, 0, 0, 1, 0), (.iadd, 0, 0, 0, 0), (.putfield 34, 10, 7, 0, 0), (.iconst 0, 0, 0, 0, 0)] (96, [some (.ref 19), some (.int b), some (.int 1)], [.int 0], (sy_up (sy_up σ.1 21 ((((σ.1 19 5) * (σ.1 19 6)) + (σ.1 19 7)).toNatClampNeg) (b - 48)) 19 7 ((σ.1 19 7) + 1), σ.2)) [¬ sy_cc .eq 1 0, sy_okA shX 0 21 (((σ.1 19 5) * (σ.1 19 6)) + (σ.1 19 7))] (by decide +kernel) rfl ⟨(by decide : ¬ ((1 : Int32) = 0)), ⟨16, _, rfl, (b5 c1 c2 c8 c14 c15 c16)⟩, trivial⟩ ?_
              exact sy_reti rfl (by decide +kernel) (k11 c1 c2 c8 c14 c15 c16)
            · refine sy_bk [(.if_icmp .lt 5, 0, 54, 0, 0)] (52, [some (.ref 19), some (.int b), some (.int 1)], [], σ) [¬ sy_cc .lt (σ.1 19 7) (σ.1 19 6)] (by decide +kernel) rfl ⟨c16, trivial⟩ ?_
              refine sy_bk [(.iconst 4, 0, 0, 4, 0)] (53, [some (.ref 19), some (.int b), some (.int 1)], [.int 4], σ) [] (by decide +kernel) rfl trivial ?_
              exact sy_reti rfl (by decide +kernel) (k12 c1 c2 c8 c14 c15 c16)
          · intro c17
            show sy_E shX mX10_accept (49, [some (.ref 19), some (.int b), some (.int 1)], [.int 4, .int (σ.1 19 7)], σ) _
            by_cases c18 : (σ.1 19 7) < 4
            · refine sy_bk [(.if_icmp .lt 5, 1, 54, 0, 0)] (54, [some (.ref 19), some (.int b), some (.int 1)], [], σ) [sy_cc .lt (σ.1 19 7) 4] (by decide +kernel) rfl ⟨c18, trivial⟩ ?_
              refine sy_bk [(.aload_n 0, 0, 0, 0, 0), (.getfield 15, 10, 1, 0, 0), (.aload_n 0, 0, 0, 0, 0), (.getfield 28, 10, 5, 0, 0), (.aload_n 0, 0, 0, 0, 0), (.getfield 31, 10, 6, 0, 0), (.imul, 0, 0, 0, 0), (.aload_n 0, 0, 0, 0, 0), (.getfield 34, 10, 7, 0, 0), (.iadd, 0, 0, 0, 0), (.iload_n 2, 0, 0, 0, 0), (.ifCond .eq 10, 0, 83, 0, 0), (.iload_n 1, 0, 0, 0, 0), (.bipush 48, 0, 0, 48, 0), (.isub, 0, 0, 0, 0), (.goto 4, 0, 84, 0, 0), (.iastore, 0, 0, 0, 0), (.aload_n 0, 0, 0, 0, 0), (.dup, 0, 0, 0, 0), (.getfield 34, 10, 7, 0, 0), (.iconst 1, 0, 0, 1, 0), (.iadd, 0, 0, 0, 0), (.putfield 34, 10, 7, 0, 0), (.iconst 0, 0, 0, 0, 0)] (96, [some (.ref 19), some (.int b), some (.int 1)], [.int 0], (sy_up (sy_up σ.1 21 ((((σ.1 19 5) * (σ.1 19 6)) + (σ.1 19 7)).toNatClampNeg) (b - 48)) 19 7 ((σ.1 19 7) + 1), σ.2)) [¬ sy_cc .eq 1 0, sy_okA shX 0 21 (((σ.1 19 5) * (σ.1 19 6)) + (σ.1 19 7))] (by decide +kernel) rfl ⟨(by decide : ¬ ((1 : Int32) = 0)), ⟨16, _, rfl, (b6 c1 c2 c8 c14 c17 c18)⟩, trivial⟩ ?_
              exact sy_reti rfl (by decide +kernel) (k13 c1 c2 c8 c14 c17 c18)
            · refine sy_bk [(.if_icmp .lt 5, 0, 54, 0, 0)] (52, [some (.ref 19), some (.int b), some (.int 1)], [], σ) [¬ sy_cc .lt (σ.1 19 7) 4] (by decide +kernel) rfl ⟨c18, trivial⟩ ?_
              refine sy_bk [(.iconst 4, 0, 0, 4, 0)] (53, [some (.ref 19), some (.int b), some (.int 1)], [.int 4], σ) [] (by decide +kernel) rfl trivial ?_
              exact sy_reti rfl (by decide +kernel) (k14 c1 c2 c8 c14 c17 c18)
        · refine sy_bk [(.if_icmp .eq 9, 0, 41, 0, 0)] (35, [some (.ref 19), some (.int b), some (.int 1)], [], σ) [¬ sy_cc .eq b 35] (by decide +kernel) rfl ⟨c14, trivial⟩ ?_
          refine sy_bk [(.iload_n 2, 0, 0, 0, 0), (.ifCond .ne 5, 1, 41, 0, 0), (.aload_n 0, 0, 0, 0, 0), (.getfield 34, 10, 7, 0, 0), (.aload_n 0, 0, 0, 0, 0)] (46, [some (.ref 19), some (.int b), some (.int 1)], [.ref 19, .int (σ.1 19 7)], σ) [sy_cc .ne 1 0] (by decide +kernel) rfl ⟨(by decide : (¬ (1 : Int32) = 0)), trivial⟩ ?_
          refine sy_callV mX10_mostInRow 19 [] [.int (σ.1 19 7)] kX10_mostInRow jX10_56 (by decide +kernel) rfl rfl (Nat.le_of_ble_eq_true rfl) (Nat.le_of_ble_eq_true rfl) (by decide) rfl ?_
          refine w_x_tmostInRow (σ := σ) ?_ ?_
          · intro c19
            show sy_E shX mX10_accept (49, [some (.ref 19), some (.int b), some (.int 1)], [.int (σ.1 19 6), .int (σ.1 19 7)], σ) _
            by_cases c20 : (σ.1 19 7) < (σ.1 19 6)
            · refine sy_bk [(.if_icmp .lt 5, 1, 54, 0, 0)] (54, [some (.ref 19), some (.int b), some (.int 1)], [], σ) [sy_cc .lt (σ.1 19 7) (σ.1 19 6)] (by decide +kernel) rfl ⟨c20, trivial⟩ ?_
              refine sy_bk [(.aload_n 0, 0, 0, 0, 0), (.getfield 15, 10, 1, 0, 0), (.aload_n 0, 0, 0, 0, 0), (.getfield 28, 10, 5, 0, 0), (.aload_n 0, 0, 0, 0, 0), (.getfield 31, 10, 6, 0, 0), (.imul, 0, 0, 0, 0), (.aload_n 0, 0, 0, 0, 0), (.getfield 34, 10, 7, 0, 0), (.iadd, 0, 0, 0, 0), (.iload_n 2, 0, 0, 0, 0), (.ifCond .eq 10, 0, 83, 0, 0), (.iload_n 1, 0, 0, 0, 0), (.bipush 48, 0, 0, 48, 0), (.isub, 0, 0, 0, 0), (.goto 4, 0, 84, 0, 0), (.iastore, 0, 0, 0, 0), (.aload_n 0, 0, 0, 0, 0), (.dup, 0, 0, 0, 0), (.getfield 34, 10, 7, 0, 0), (.iconst 1, 0, 0, 1, 0), (.iadd, 0, 0, 0, 0), (.putfield 34, 10, 7, 0, 0), (.iconst 0, 0, 0, 0, 0)] (96, [some (.ref 19), some (.int b), some (.int 1)], [.int 0], (sy_up (sy_up σ.1 21 ((((σ.1 19 5) * (σ.1 19 6)) + (σ.1 19 7)).toNatClampNeg) (b - 48)) 19 7 ((σ.1 19 7) + 1), σ.2)) [¬ sy_cc .eq 1 0, sy_okA shX 0 21 (((σ.1 19 5) * (σ.1 19 6)) + (σ.1 19 7))] (by decide +kernel) rfl ⟨(by decide : ¬ ((1 : Int32) = 0)), ⟨16, _, rfl, (b7 c1 c2 c8 c14 c19 c20)⟩, trivial⟩ ?_
              exact sy_reti rfl (by decide +kernel) (k15 c1 c2 c8 c14 c19 c20)
            · refine sy_bk [(.if_icmp .lt 5, 0, 54, 0, 0)] (52, [some (.ref 19), some (.int b), some (.int 1)], [], σ) [¬ sy_cc .lt (σ.1 19 7) (σ.1 19 6)] (by decide +kernel) rfl ⟨c20, trivial⟩ ?_
              refine sy_bk [(.iconst 4, 0, 0, 4, 0)] (53, [some (.ref 19), some (.int b), some (.int 1)], [.int 4], σ) [] (by decide +kernel) rfl trivial ?_
              exact sy_reti rfl (by decide +kernel) (k16 c1 c2 c8 c14 c19 c20)
          · intro c21
            show sy_E shX mX10_accept (49, [some (.ref 19), some (.int b), some (.int 1)], [.int 4, .int (σ.1 19 7)], σ) _
            by_cases c22 : (σ.1 19 7) < 4
            · refine sy_bk [(.if_icmp .lt 5, 1, 54, 0, 0)] (54, [some (.ref 19), some (.int b), some (.int 1)], [], σ) [sy_cc .lt (σ.1 19 7) 4] (by decide +kernel) rfl ⟨c22, trivial⟩ ?_
              refine sy_bk [(.aload_n 0, 0, 0, 0, 0), (.getfield 15, 10, 1, 0, 0), (.aload_n 0, 0, 0, 0, 0), (.getfield 28, 10, 5, 0, 0), (.aload_n 0, 0, 0, 0, 0), (.getfield 31, 10, 6, 0, 0), (.imul, 0, 0, 0, 0), (.aload_n 0, 0, 0, 0, 0), (.getfield 34, 10, 7, 0, 0), (.iadd, 0, 0, 0, 0), (.iload_n 2, 0, 0, 0, 0), (.ifCond .eq 10, 0, 83, 0, 0), (.iload_n 1, 0, 0, 0, 0), (.bipush 48, 0, 0, 48, 0), (.isub, 0, 0, 0, 0), (.goto 4, 0, 84, 0, 0), (.iastore, 0, 0, 0, 0), (.aload_n 0, 0, 0, 0, 0), (.dup, 0, 0, 0, 0), (.getfield 34, 10, 7, 0, 0), (.iconst 1, 0, 0, 1, 0), (.iadd, 0, 0, 0, 0), (.putfield 34, 10, 7, 0, 0), (.iconst 0, 0, 0, 0, 0)] (96, [some (.ref 19), some (.int b), some (.int 1)], [.int 0], (sy_up (sy_up σ.1 21 ((((σ.1 19 5) * (σ.1 19 6)) + (σ.1 19 7)).toNatClampNeg) (b - 48)) 19 7 ((σ.1 19 7) + 1), σ.2)) [¬ sy_cc .eq 1 0, sy_okA shX 0 21 (((σ.1 19 5) * (σ.1 19 6)) + (σ.1 19 7))] (by decide +kernel) rfl ⟨(by decide : ¬ ((1 : Int32) = 0)), ⟨16, _, rfl, (b8 c1 c2 c8 c14 c21 c22)⟩, trivial⟩ ?_
              exact sy_reti rfl (by decide +kernel) (k17 c1 c2 c8 c14 c21 c22)
            · refine sy_bk [(.if_icmp .lt 5, 0, 54, 0, 0)] (52, [some (.ref 19), some (.int b), some (.int 1)], [], σ) [¬ sy_cc .lt (σ.1 19 7) 4] (by decide +kernel) rfl ⟨c22, trivial⟩ ?_
              refine sy_bk [(.iconst 4, 0, 0, 4, 0)] (53, [some (.ref 19), some (.int b), some (.int 1)], [.int 4], σ) [] (by decide +kernel) rfl trivial ?_
              exact sy_reti rfl (by decide +kernel) (k18 c1 c2 c8 c14 c21 c22)
  · refine sy_bk [(.if_icmp .ne 8, 0, 11, 0, 0)] (6, [some (.ref 19), some (.int b), none], [], σ) [¬ sy_cc .ne b 47] (by decide +kernel) rfl ⟨c1, trivial⟩ ?_
    refine sy_bk [(.aload_n 0, 0, 0, 0, 0)] (7, [some (.ref 19), some (.int b), none], [.ref 19], σ) [] (by decide +kernel) rfl trivial ?_
    refine sy_drop [none, none, none] trivial ?_
    refine sy_callV mX10_acceptSlash 19 [] [] kX10_acceptSlash jX10_52 (by decide +kernel) rfl rfl (Nat.le_of_ble_eq_true rfl) (Nat.le_of_ble_eq_true rfl) (by decide) rfl ?_
    exact k19 c1

set_option maxRecDepth 20000 in
theorem w_x_taccept_10 {Q : Option Value → sy_S → Prop} {σ : sy_S} {v : Int32}   (k1 : Q (some (.int v)) σ) : sy_E shX mX10_accept (10, [none, none, none], [.int v], σ) Q := by
  exact sy_reti rfl (by decide +kernel) (k1)

set_option maxRecDepth 20000 in
theorem w_x_tparse_0 {Q : Option Value → sy_S → Prop} {σ : sy_S}    (k1 : sy_E shX mX10_parse (22, [some (.ref 19), some (.int 0), none], [], (sy_up (sy_up (sy_up (sy_up σ.1 19 5 0) 19 6 0) 19 7 0) 19 4 0, σ.2)) Q) : sy_E shX mX10_parse (0, sy_ent [.ref 19] 3, [], σ) Q := by
  show sy_E shX mX10_parse (0, [some (.ref 19), none, none], [], σ) _
  refine sy_bk [(.aload_n 0, 0, 0, 0, 0), (.iconst 0, 0, 0, 0, 0), (.putfield 28, 10, 5, 0, 0), (.aload_n 0, 0, 0, 0, 0), (.iconst 0, 0, 0, 0, 0), (.putfield 31, 10, 6, 0, 0), (.aload_n 0, 0, 0, 0, 0), (.iconst 0, 0, 0, 0, 0), (.putfield 34, 10, 7, 0, 0), (.aload_n 0, 0, 0, 0, 0), (.iconst 0, 0, 0, 0, 0), (.putfield 25, 10, 4, 0, 0), (.iconst 0, 0, 0, 0, 0), (.istore_n 1, 0, 0, 0, 0)] (22, [some (.ref 19), some (.int 0), none], [], (sy_up (sy_up (sy_up (sy_up σ.1 19 5 0) 19 6 0) 19 7 0) 19 4 0, σ.2)) [] (by decide +kernel) rfl trivial ?_
  exact k1

set_option maxRecDepth 20000 in
theorem w_x_tparse_22 {Q : Option Value → sy_S → Prop} {σ : sy_S} {l1 : Int32}  (b1 : ¬ ((σ.1 19 3) ≤ l1) → vp_in l1 40) (k1 : (σ.1 19 3) ≤ l1 → ¬ (σ.1 19 5) = 0 → ¬ (σ.1 19 7) = (σ.1 19 6) → Q (some (.int (σ.1 19 3))) (sy_up (sy_up (sy_up (sy_up σ.1 22 0 1) 22 1 (10 + (σ.1 19 5))) 22 2 3) 19 4 3, σ.2)) (k2 : (σ.1 19 3) ≤ l1 → ¬ (σ.1 19 5) = 0 → ¬ (¬ (σ.1 19 7) = (σ.1 19 6)) → Q (some (.int (-1))) (sy_up σ.1 19 6 (σ.1 19 7), σ.2)) (k3 : (σ.1 19 3) ≤ l1 → ¬ (¬ (σ.1 19 5) = 0) → (σ.1 19 7) ≤ 0 → Q (some (.int (σ.1 19 3))) (sy_up (sy_up (sy_up (sy_up σ.1 22 0 1) 22 1 (10 + (σ.1 19 5))) 22 2 3) 19 4 3, σ.2)) (k4 : (σ.1 19 3) ≤ l1 → ¬ (¬ (σ.1 19 5) = 0) → ¬ ((σ.1 19 7) ≤ 0) → Q (some (.int (-1))) (sy_up σ.1 19 6 (σ.1 19 7), σ.2)) (k5 : ¬ ((σ.1 19 3) ≤ l1) → sy_E shX mX10_accept (0, sy_ent [.ref 19, .int (σ.1 20 l1.toNatClampNeg)] 3, [], σ) (fun r9 σ9 => sy_E shX mX10_parse (40, [some (.ref 19), some (.int l1), none], r9.toList ++ [], σ9) Q)) : sy_E shX mX10_parse (22, [some (.ref 19), some (.int l1), none], [], σ) Q := by
  refine sy_bk [(.iload_n 1, 0, 0, 0, 0), (.aload_n 0, 0, 0, 0, 0), (.getfield 21, 10, 3, 0, 0)] (27, [some (.ref 19), some (.int l1), none], [.int (σ.1 19 3), .int l1], σ) [] (by decide +kernel) rfl trivial ?_
  by_cases c1 : (σ.1 19 3) ≤ l1
  · refine sy_bk [(.if_icmp .ge 31, 1, 58, 0, 0)] (58, [some (.ref 19), some (.int l1), none], [], σ) [sy_cc .ge l1 (σ.1 19 3)] (by decide +kernel) rfl ⟨c1, trivial⟩ ?_
    refine sy_bk [(.aload_n 0, 0, 0, 0, 0)] (59, [some (.ref 19), some (.int l1), none], [.ref 19], σ) [] (by decide +kernel) rfl trivial ?_
    refine sy_callV mX10_isRowWhole 19 [] [] kX10_isRowWhole jX10_45 (by decide +kernel) rfl rfl (Nat.le_of_ble_eq_true rfl) (Nat.le_of_ble_eq_true rfl) (by decide) rfl ?_
    refine w_x_tisRowWhole (σ := σ) ?_ ?_ ?_ ?_
    · intro c2 c3
      show sy_E shX mX10_parse (62, [some (.ref 19), some (.int l1), none], [.int 0], σ) _
      refine sy_bk [(.ifCond .ne 13, 0, 75, 0, 0), (.aload_n 0, 0, 0, 0, 0), (.aload_n 0, 0, 0, 0, 0), (.getfield 21, 10, 3, 0, 0), (.iconst 3, 0, 0, 3, 0)] (71, [some (.ref 19), some (.int l1), none], [.int 3, .int (σ.1 19 3), .ref 19], σ) [¬ sy_cc .ne 0 0] (by decide +kernel) rfl ⟨(by decide : ¬ (¬ (0 : Int32) = 0)), trivial⟩ ?_
      refine sy_callV mX10_refuse 19 [.int (σ.1 19 3), .int 3] [] kX10_refuse jX10_41 (by decide +kernel) rfl rfl (Nat.le_of_ble_eq_true rfl) (Nat.le_of_ble_eq_true rfl) (by decide) rfl ?_
      refine w_x_trefuse (σ := σ) (fa := (σ.1 19 3)) (ca := 3) ?_
      show sy_E shX mX10_parse (74, [some (.ref 19), some (.int l1), none], [.int (σ.1 19 3)], (sy_up (sy_up (sy_up (sy_up σ.1 22 0 1) 22 1 (10 + (σ.1 19 5))) 22 2 3) 19 4 3, σ.2)) _
      exact sy_reti rfl (by decide +kernel) (k1 c1 c2 c3)
    · intro c4 c5
      show sy_E shX mX10_parse (62, [some (.ref 19), some (.int l1), none], [.int 1], σ) _
      refine sy_bk [(.ifCond .ne 13, 1, 75, 0, 0), (.aload_n 0, 0, 0, 0, 0)] (76, [some (.ref 19), some (.int l1), none], [.ref 19], σ) [sy_cc .ne 1 0] (by decide +kernel) rfl ⟨(by decide : (¬ (1 : Int32) = 0)), trivial⟩ ?_
      refine sy_callV mX10_closeRow 19 [] [] kX10_closeRow jX10_49 (by decide +kernel) rfl rfl (Nat.le_of_ble_eq_true rfl) (Nat.le_of_ble_eq_true rfl) (by decide) rfl ?_
      refine w_x_tcloseRow (σ := σ) ?_
      show sy_E shX mX10_parse (79, [some (.ref 19), some (.int l1), none], [], (sy_up σ.1 19 6 (σ.1 19 7), σ.2)) _
      refine sy_bk [(.iconst (-1), 0, 0, (-1), 0)] (80, [some (.ref 19), some (.int l1), none], [.int (-1)], (sy_up σ.1 19 6 (σ.1 19 7), σ.2)) [] (by decide +kernel) rfl trivial ?_
      exact sy_reti rfl (by decide +kernel) (k2 c1 c4 c5)
    · intro c6 c7
      show sy_E shX mX10_parse (62, [some (.ref 19), some (.int l1), none], [.int 0], σ) _
      refine sy_bk [(.ifCond .ne 13, 0, 75, 0, 0), (.aload_n 0, 0, 0, 0, 0), (.aload_n 0, 0, 0, 0, 0), (.getfield 21, 10, 3, 0, 0), (.iconst 3, 0, 0, 3, 0)] (71, [some (.ref 19), some (.int l1), none], [.int 3, .int (σ.1 19 3), .ref 19], σ) [¬ sy_cc .ne 0 0] (by decide +kernel) rfl ⟨(by decide : ¬ (¬ (0 : Int32) = 0)), trivial⟩ ?_
      refine sy_callV mX10_refuse 19 [.int (σ.1 19 3), .int 3] [] kX10_refuse jX10_41 (by decide +kernel) rfl rfl (Nat.le_of_ble_eq_true rfl) (Nat.le_of_ble_eq_true rfl) (by decide) rfl ?_
      refine w_x_trefuse (σ := σ) (fa := (σ.1 19 3)) (ca := 3) ?_
      show sy_E shX mX10_parse (74, [some (.ref 19), some (.int l1), none], [.int (σ.1 19 3)], (sy_up (sy_up (sy_up (sy_up σ.1 22 0 1) 22 1 (10 + (σ.1 19 5))) 22 2 3) 19 4 3, σ.2)) _
      exact sy_reti rfl (by decide +kernel) (k3 c1 c6 c7)
    · intro c8 c9
      show sy_E shX mX10_parse (62, [some (.ref 19), some (.int l1), none], [.int 1], σ) _
      refine sy_bk [(.ifCond .ne 13, 1, 75, 0, 0), (.aload_n 0, 0, 0, 0, 0)] (76, [some (.ref 19), some (.int l1), none], [.ref 19], σ) [sy_cc .ne 1 0] (by decide +kernel) rfl ⟨(by decide : (¬ (1 : Int32) = 0)), trivial⟩ ?_
      refine sy_callV mX10_closeRow 19 [] [] kX10_closeRow jX10_49 (by decide +kernel) rfl rfl (Nat.le_of_ble_eq_true rfl) (Nat.le_of_ble_eq_true rfl) (by decide) rfl ?_
      refine w_x_tcloseRow (σ := σ) ?_
      show sy_E shX mX10_parse (79, [some (.ref 19), some (.int l1), none], [], (sy_up σ.1 19 6 (σ.1 19 7), σ.2)) _
      refine sy_bk [(.iconst (-1), 0, 0, (-1), 0)] (80, [some (.ref 19), some (.int l1), none], [.int (-1)], (sy_up σ.1 19 6 (σ.1 19 7), σ.2)) [] (by decide +kernel) rfl trivial ?_
      exact sy_reti rfl (by decide +kernel) (k4 c1 c8 c9)
  · refine sy_bk [(.if_icmp .ge 31, 0, 58, 0, 0)] (30, [some (.ref 19), some (.int l1), none], [], σ) [¬ sy_cc .ge l1 (σ.1 19 3)] (by decide +kernel) rfl ⟨c1, trivial⟩ ?_
    refine sy_bk [(.aload_n 0, 0, 0, 0, 0), (.aload_n 0, 0, 0, 0, 0), (.getfield 11, 10, 0, 0, 0), (.iload_n 1, 0, 0, 0, 0), (.iaload, 0, 0, 0, 0)] (37, [some (.ref 19), some (.int l1), none], [.int (σ.1 20 l1.toNatClampNeg), .ref 19], σ) [sy_okA shX 0 20 l1] (by decide +kernel) rfl ⟨⟨40, _, rfl, (b1 c1)⟩, trivial⟩ ?_
    refine sy_callV mX10_accept 19 [.int (σ.1 20 l1.toNatClampNeg)] [] kX10_accept jX10_37 (by decide +kernel) rfl rfl (Nat.le_of_ble_eq_true rfl) (Nat.le_of_ble_eq_true rfl) (by decide) rfl ?_
    exact k5 c1

set_option maxRecDepth 20000 in
theorem w_x_tparse_40 {Q : Option Value → sy_S → Prop} {σ : sy_S} {l1 : Int32} {v : Int32}   (k1 : v = 0 → sy_E shX mX10_parse (22, [some (.ref 19), some (.int (l1 + 1)), none], [], σ) Q) (k2 : ¬ (v = 0) → Q (some (.int l1)) (sy_up (sy_up (sy_up (sy_up σ.1 22 0 1) 22 1 (10 + (σ.1 19 5))) 22 2 v) 19 4 3, σ.2)) : sy_E shX mX10_parse (40, [some (.ref 19), some (.int l1), none], [.int v], σ) Q := by
  refine sy_bk [(.istore_n 2, 0, 0, 0, 0), (.iload_n 2, 0, 0, 0, 0)] (42, [some (.ref 19), some (.int l1), some (.int v)], [.int v], σ) [] (by decide +kernel) rfl trivial ?_
  by_cases c1 : v = 0
  · refine sy_bk [(.ifCond .eq 10, 1, 52, 0, 0)] (52, [some (.ref 19), some (.int l1), some (.int v)], [], σ) [sy_cc .eq v 0] (by decide +kernel) rfl ⟨c1, trivial⟩ ?_
    refine sy_bk [(.iinc 1 1, 0, 0, 1, 0), (.goto (-33), 0, 22, 0, 0)] (22, [some (.ref 19), some (.int (l1 + 1)), some (.int v)], [], σ) [] (by decide +kernel) rfl trivial ?_
    refine sy_drop [some (.ref 19), some (.int (l1 + 1)), none] ⟨rfl, rfl, trivial⟩ ?_
    exact k1 c1
  · refine sy_bk [(.ifCond .eq 10, 0, 52, 0, 0)] (45, [some (.ref 19), some (.int l1), some (.int v)], [], σ) [¬ sy_cc .eq v 0] (by decide +kernel) rfl ⟨c1, trivial⟩ ?_
    refine sy_bk [(.aload_n 0, 0, 0, 0, 0), (.iload_n 1, 0, 0, 0, 0), (.iload_n 2, 0, 0, 0, 0)] (48, [some (.ref 19), some (.int l1), some (.int v)], [.int v, .int l1, .ref 19], σ) [] (by decide +kernel) rfl trivial ?_
    refine sy_callV mX10_refuse 19 [.int l1, .int v] [] kX10_refuse jX10_41 (by decide +kernel) rfl rfl (Nat.le_of_ble_eq_true rfl) (Nat.le_of_ble_eq_true rfl) (by decide) rfl ?_
    refine w_x_trefuse (σ := σ) (fa := l1) (ca := v) ?_
    show sy_E shX mX10_parse (51, [some (.ref 19), some (.int l1), some (.int v)], [.int l1], (sy_up (sy_up (sy_up (sy_up σ.1 22 0 1) 22 1 (10 + (σ.1 19 5))) 22 2 v) 19 4 3, σ.2)) _
    exact sy_reti rfl (by decide +kernel) (k2 c1)

set_option maxRecDepth 20000 in
theorem w_x_yadd_0 {Q : Option Value → sy_S → Prop} {σ : sy_S} {s : Int32}   (k1 : sy_E shX mX9_add (24, [some (.ref 61), some (.int s), some (.int 0)], [], (sy_up (sy_up σ.1 61 3 ((σ.1 61 3) + s)) 61 4 (if σ.1 61 4 < s then s else σ.1 61 4), σ.2)) Q) : sy_E shX mX9_add (0, sy_ent [.ref 61, .int s] 3, [], σ) Q := by
  show sy_E shX mX9_add (0, [some (.ref 61), some (.int s), none], [], σ) _
  refine sy_bk [(.aload_n 0, 0, 0, 0, 0), (.dup, 0, 0, 0, 0), (.getfield 22, 9, 3, 0, 0), (.iload_n 1, 0, 0, 0, 0), (.iadd, 0, 0, 0, 0), (.putfield 22, 9, 3, 0, 0), (.aload_n 0, 0, 0, 0, 0), (.aload_n 0, 0, 0, 0, 0), (.getfield 25, 9, 4, 0, 0), (.iload_n 1, 0, 0, 0, 0)] (16, [some (.ref 61), some (.int s), none], [.int s, .int (σ.1 61 4), .ref 61], (sy_up σ.1 61 3 ((σ.1 61 3) + s), σ.2)) [] (by decide +kernel) rfl trivial ?_
  refine sy_max [.ref 61] jX9_28 (by decide +kernel) rfl (Nat.le_of_ble_eq_true rfl) (by decide) (by decide) ?_
  show sy_E shX mX9_add (19, [some (.ref 61), some (.int s), none], [.int (if σ.1 61 4 < s then s else σ.1 61 4), .ref 61], (sy_up σ.1 61 3 ((σ.1 61 3) + s), σ.2)) _
  refine sy_bk [(.putfield 25, 9, 4, 0, 0), (.iconst 0, 0, 0, 0, 0), (.istore_n 2, 0, 0, 0, 0)] (24, [some (.ref 61), some (.int s), some (.int 0)], [], (sy_up (sy_up σ.1 61 3 ((σ.1 61 3) + s)) 61 4 (if σ.1 61 4 < s then s else σ.1 61 4), σ.2)) [] (by decide +kernel) rfl trivial ?_
  exact k1

set_option maxRecDepth 20000 in
theorem w_x_yadd_24 {Q : Option Value → sy_S → Prop} {σ : sy_S} {l1 : Int32} {l2 : Int32}  (b1 : (σ.1 61 2) ≤ l2 → ¬ (200 ≤ (σ.1 61 2)) → vp_in (σ.1 61 2) 200) (b2 : ¬ ((σ.1 61 2) ≤ l2) → vp_in l2 200) (k1 : (σ.1 61 2) ≤ l2 → 200 ≤ (σ.1 61 2) → Q none σ) (k2 : (σ.1 61 2) ≤ l2 → ¬ (200 ≤ (σ.1 61 2)) → Q none (sy_up (sy_up (sy_up σ.1 62 ((σ.1 61 2).toNatClampNeg) l1) 63 ((σ.1 61 2).toNatClampNeg) 1) 61 2 ((σ.1 61 2) + 1), σ.2)) (k3 : ¬ ((σ.1 61 2) ≤ l2) → ¬ (σ.1 62 l2.toNatClampNeg) = l1 → sy_E shX mX9_add (24, [some (.ref 61), some (.int l1), some (.int (l2 + 1))], [], σ) Q) (k4 : ¬ ((σ.1 61 2) ≤ l2) → ¬ (¬ (σ.1 62 l2.toNatClampNeg) = l1) → Q none (sy_up σ.1 63 l2.toNatClampNeg ((σ.1 63 l2.toNatClampNeg) + 1), σ.2)) : sy_E shX mX9_add (24, [some (.ref 61), some (.int l1), some (.int l2)], [], σ) Q := by
  refine sy_bk [(.iload_n 2, 0, 0, 0, 0), (.aload_n 0, 0, 0, 0, 0), (.getfield 18, 9, 2, 0, 0)] (29, [some (.ref 61), some (.int l1), some (.int l2)], [.int (σ.1 61 2), .int l2], σ) [] (by decide +kernel) rfl trivial ?_
  by_cases c1 : (σ.1 61 2) ≤ l2
  · refine sy_bk [(.if_icmp .ge 30, 1, 59, 0, 0)] (59, [some (.ref 61), some (.int l1), some (.int l2)], [], σ) [sy_cc .ge l2 (σ.1 61 2)] (by decide +kernel) rfl ⟨c1, trivial⟩ ?_
    refine sy_bk [(.aload_n 0, 0, 0, 0, 0), (.getfield 18, 9, 2, 0, 0), (.aload_n 0, 0, 0, 0, 0), (.getfield 9, 9, 0, 0, 0), (.arraylength, 0, 0, 0, 0)] (68, [some (.ref 61), some (.int l1), some (.int l2)], [.int 200, .int (σ.1 61 2)], σ) [sy_okL shX 62] (by decide +kernel) rfl ⟨⟨0, _, _, rfl, by decide⟩, trivial⟩ ?_
    by_cases c2 : 200 ≤ (σ.1 61 2)
    · refine sy_bk [(.if_icmp .ge 33, 1, 101, 0, 0)] (101, [some (.ref 61), some (.int l1), some (.int l2)], [], σ) [sy_cc .ge (σ.1 61 2) 200] (by decide +kernel) rfl ⟨c2, trivial⟩ ?_
      exact sy_retv rfl (by decide +kernel) (k1 c1 c2)
    · refine sy_bk [(.if_icmp .ge 33, 0, 101, 0, 0)] (71, [some (.ref 61), some (.int l1), some (.int l2)], [], σ) [¬ sy_cc .ge (σ.1 61 2) 200] (by decide +kernel) rfl ⟨c2, trivial⟩ ?_
      refine sy_bk [(.aload_n 0, 0, 0, 0, 0), (.getfield 9, 9, 0, 0, 0), (.aload_n 0, 0, 0, 0, 0), (.getfield 18, 9, 2, 0, 0), (.iload_n 1, 0, 0, 0, 0), (.iastore, 0, 0, 0, 0), (.aload_n 0, 0, 0, 0, 0), (.getfield 15, 9, 1, 0, 0), (.aload_n 0, 0, 0, 0, 0), (.getfield 18, 9, 2, 0, 0), (.iconst 1, 0, 0, 1, 0), (.iastore, 0, 0, 0, 0), (.aload_n 0, 0, 0, 0, 0), (.dup, 0, 0, 0, 0), (.getfield 18, 9, 2, 0, 0), (.iconst 1, 0, 0, 1, 0), (.iadd, 0, 0, 0, 0), (.putfield 18, 9, 2, 0, 0)] (101, [some (.ref 61), some (.int l1), some (.int l2)], [], (sy_up (sy_up (sy_up σ.1 62 ((σ.1 61 2).toNatClampNeg) l1) 63 ((σ.1 61 2).toNatClampNeg) 1) 61 2 ((σ.1 61 2) + 1), σ.2)) [sy_okA shX 0 62 (σ.1 61 2), sy_okA shX 0 63 (σ.1 61 2)] (by decide +kernel) rfl ⟨⟨200, _, rfl, (b1 c1 c2)⟩, ⟨200, _, rfl, (b1 c1 c2)⟩, trivial⟩ ?_
      exact sy_retv rfl (by decide +kernel) (k2 c1 c2)
  · refine sy_bk [(.if_icmp .ge 30, 0, 59, 0, 0)] (32, [some (.ref 61), some (.int l1), some (.int l2)], [], σ) [¬ sy_cc .ge l2 (σ.1 61 2)] (by decide +kernel) rfl ⟨c1, trivial⟩ ?_
    refine sy_bk [(.aload_n 0, 0, 0, 0, 0), (.getfield 9, 9, 0, 0, 0), (.iload_n 2, 0, 0, 0, 0), (.iaload, 0, 0, 0, 0), (.iload_n 1, 0, 0, 0, 0)] (39, [some (.ref 61), some (.int l1), some (.int l2)], [.int l1, .int (σ.1 62 l2.toNatClampNeg)], σ) [sy_okA shX 0 62 l2] (by decide +kernel) rfl ⟨⟨200, _, rfl, (b2 c1)⟩, trivial⟩ ?_
    by_cases c3 : ¬ (σ.1 62 l2.toNatClampNeg) = l1
    · refine sy_bk [(.if_icmp .ne 14, 1, 53, 0, 0)] (53, [some (.ref 61), some (.int l1), some (.int l2)], [], σ) [sy_cc .ne (σ.1 62 l2.toNatClampNeg) l1] (by decide +kernel) rfl ⟨c3, trivial⟩ ?_
      refine sy_bk [(.iinc 2 1, 0, 0, 1, 0), (.goto (-32), 0, 24, 0, 0)] (24, [some (.ref 61), some (.int l1), some (.int (l2 + 1))], [], σ) [] (by decide +kernel) rfl trivial ?_
      exact k3 c1 c3
    · refine sy_bk [(.if_icmp .ne 14, 0, 53, 0, 0)] (42, [some (.ref 61), some (.int l1), some (.int l2)], [], σ) [¬ sy_cc .ne (σ.1 62 l2.toNatClampNeg) l1] (by decide +kernel) rfl ⟨c3, trivial⟩ ?_
      refine sy_bk [(.aload_n 0, 0, 0, 0, 0), (.getfield 15, 9, 1, 0, 0), (.iload_n 2, 0, 0, 0, 0), (.dup2, 0, 0, 0, 0), (.iaload, 0, 0, 0, 0), (.iconst 1, 0, 0, 1, 0), (.iadd, 0, 0, 0, 0), (.iastore, 0, 0, 0, 0)] (52, [some (.ref 61), some (.int l1), some (.int l2)], [], (sy_up σ.1 63 l2.toNatClampNeg ((σ.1 63 l2.toNatClampNeg) + 1), σ.2)) [sy_okA shX 0 63 l2, sy_okA shX 0 63 l2] (by decide +kernel) rfl ⟨⟨200, _, rfl, (b2 c1)⟩, ⟨200, _, rfl, (b2 c1)⟩, trivial⟩ ?_
      exact sy_retv rfl (by decide +kernel) (k4 c1 c3)

set_option maxRecDepth 20000 in
theorem w_x_sclear_0 {Q : Option Value → sy_S → Prop} {σ : sy_S}    (k1 : sy_E shX mJ7_fill_53178 (0, sy_ent [.ref 60, .int (-1)] 4, [], σ) (fun r9 σ9 => sy_E shX mX6_clear (8, [some (.ref 57)], r9.toList ++ [], σ9) Q)) : sy_E shX mX6_clear (0, sy_ent [.ref 57] 1, [], σ) Q := by
  show sy_E shX mX6_clear (0, [some (.ref 57)], [], σ) _
  refine sy_bk [(.aload_n 0, 0, 0, 0, 0), (.getfield 18, 6, 2, 0, 0), (.iconst (-1), 0, 0, (-1), 0)] (5, [some (.ref 57)], [.int (-1), .ref 60], σ) [] (by decide +kernel) rfl trivial ?_
  refine sy_callS mJ7_fill_53178 [.ref 60, .int (-1)] [] kJ7_fill_53178 jX6_21 (by decide +kernel) rfl rfl (Nat.le_of_ble_eq_true rfl) (Nat.le_of_ble_eq_true rfl) (by decide) ?_
  exact k1

set_option maxRecDepth 20000 in
theorem w_x_sclear_8 {Q : Option Value → sy_S → Prop} {σ : sy_S}    (k1 : Q none (sy_up σ.1 57 3 0, σ.2)) : sy_E shX mX6_clear (8, [some (.ref 57)], [], σ) Q := by
  refine sy_bk [(.aload_n 0, 0, 0, 0, 0), (.iconst 0, 0, 0, 0, 0), (.putfield 27, 6, 3, 0, 0)] (13, [some (.ref 57)], [], (sy_up σ.1 57 3 0, σ.2)) [] (by decide +kernel) rfl trivial ?_
  exact sy_retv rfl (by decide +kernel) (k1)

set_option maxRecDepth 20000 in
theorem w_x_sadd_0 {Q : Option Value → sy_S → Prop} {σ : sy_S} {code : Int32}  (b1 : ¬ (2001 ≤ (σ.1 57 3)) → vp_in (σ.1 57 3) 2001) (b2 : ¬ (2001 ≤ (σ.1 57 3)) → vp_in (((code * (-1640531535)).toUInt32 >>> (Int32.toUInt32 24 &&& Int32.toUInt32 31)).toInt32) 256) (k1 : 2001 ≤ (σ.1 57 3) → Q none σ) (k2 : ¬ (2001 ≤ (σ.1 57 3)) → Q none (sy_up (sy_up (sy_up (sy_up σ.1 58 ((σ.1 57 3).toNatClampNeg) code) 59 ((σ.1 57 3).toNatClampNeg) (σ.1 60 ((((code * (-1640531535)).toUInt32 >>> (Int32.toUInt32 24 &&& Int32.toUInt32 31)).toInt32).toNatClampNeg))) 60 ((((code * (-1640531535)).toUInt32 >>> (Int32.toUInt32 24 &&& Int32.toUInt32 31)).toInt32).toNatClampNeg) (σ.1 57 3)) 57 3 ((σ.1 57 3) + 1), σ.2)) : sy_E shX mX6_add (0, sy_ent [.ref 57, .int code] 3, [], σ) Q := by
  show sy_E shX mX6_add (0, [some (.ref 57), some (.int code), none], [], σ) _
  refine sy_bk [(.aload_n 0, 0, 0, 0, 0), (.getfield 27, 6, 3, 0, 0), (.aload_n 0, 0, 0, 0, 0), (.getfield 9, 6, 0, 0, 0), (.arraylength, 0, 0, 0, 0)] (9, [some (.ref 57), some (.int code), none], [.int 2001, .int (σ.1 57 3)], σ) [sy_okL shX 58] (by decide +kernel) rfl ⟨⟨0, _, _, rfl, by decide⟩, trivial⟩ ?_
  by_cases c1 : 2001 ≤ (σ.1 57 3)
  · refine sy_bk [(.if_icmp .ge 53, 1, 62, 0, 0)] (62, [some (.ref 57), some (.int code), none], [], σ) [sy_cc .ge (σ.1 57 3) 2001] (by decide +kernel) rfl ⟨c1, trivial⟩ ?_
    exact sy_retv rfl (by decide +kernel) (k1 c1)
  · refine sy_bk [(.if_icmp .ge 53, 0, 62, 0, 0)] (12, [some (.ref 57), some (.int code), none], [], σ) [¬ sy_cc .ge (σ.1 57 3) 2001] (by decide +kernel) rfl ⟨c1, trivial⟩ ?_
    refine sy_bk [(.iload_n 1, 0, 0, 0, 0)] (13, [some (.ref 57), some (.int code), none], [.int code], σ) [] (by decide +kernel) rfl trivial ?_
    refine sy_callS mX6_chainOf [.int code] [] kX6_chainOf jX6_31 (by decide +kernel) rfl rfl (Nat.le_of_ble_eq_true rfl) (Nat.le_of_ble_eq_true rfl) (by decide) ?_
    refine w_x_chainOf (σ := σ) (code := code) ?_
    show sy_E shX mX6_add (16, [some (.ref 57), some (.int code), none], [.int (((code * (-1640531535)).toUInt32 >>> (Int32.toUInt32 24 &&& Int32.toUInt32 31)).toInt32)], σ) _
    refine sy_bk [(.istore_n 2, 0, 0, 0, 0), (.aload_n 0, 0, 0, 0, 0), (.getfield 9, 6, 0, 0, 0), (.aload_n 0, 0, 0, 0, 0), (.getfield 27, 6, 3, 0, 0), (.iload_n 1, 0, 0, 0, 0), (.iastore, 0, 0, 0, 0), (.aload_n 0, 0, 0, 0, 0), (.getfield 15, 6, 1, 0, 0), (.aload_n 0, 0, 0, 0, 0), (.getfield 27, 6, 3, 0, 0), (.aload_n 0, 0, 0, 0, 0), (.getfield 18, 6, 2, 0, 0), (.iload_n 2, 0, 0, 0, 0), (.iaload, 0, 0, 0, 0), (.iastore, 0, 0, 0, 0), (.aload_n 0, 0, 0, 0, 0), (.getfield 18, 6, 2, 0, 0), (.iload_n 2, 0, 0, 0, 0), (.aload_n 0, 0, 0, 0, 0), (.getfield 27, 6, 3, 0, 0), (.iastore, 0, 0, 0, 0), (.aload_n 0, 0, 0, 0, 0), (.dup, 0, 0, 0, 0), (.getfield 27, 6, 3, 0, 0), (.iconst 1, 0, 0, 1, 0), (.iadd, 0, 0, 0, 0), (.putfield 27, 6, 3, 0, 0)] (62, [some (.ref 57), some (.int code), some (.int (((code * (-1640531535)).toUInt32 >>> (Int32.toUInt32 24 &&& Int32.toUInt32 31)).toInt32))], [], (sy_up (sy_up (sy_up (sy_up σ.1 58 ((σ.1 57 3).toNatClampNeg) code) 59 ((σ.1 57 3).toNatClampNeg) (σ.1 60 ((((code * (-1640531535)).toUInt32 >>> (Int32.toUInt32 24 &&& Int32.toUInt32 31)).toInt32).toNatClampNeg))) 60 ((((code * (-1640531535)).toUInt32 >>> (Int32.toUInt32 24 &&& Int32.toUInt32 31)).toInt32).toNatClampNeg) (σ.1 57 3)) 57 3 ((σ.1 57 3) + 1), σ.2)) [sy_okA shX 0 58 (σ.1 57 3), sy_okA shX 0 60 (((code * (-1640531535)).toUInt32 >>> (Int32.toUInt32 24 &&& Int32.toUInt32 31)).toInt32), sy_okA shX 0 59 (σ.1 57 3), sy_okA shX 0 60 (((code * (-1640531535)).toUInt32 >>> (Int32.toUInt32 24 &&& Int32.toUInt32 31)).toInt32)] (by decide +kernel) rfl ⟨⟨2001, _, rfl, (b1 c1)⟩, ⟨256, _, rfl, (b2 c1)⟩, ⟨2001, _, rfl, (b1 c1)⟩, ⟨256, _, rfl, (b2 c1)⟩, trivial⟩ ?_
    exact sy_retv rfl (by decide +kernel) (k2 c1)

set_option maxRecDepth 20000 in
theorem w_x_sfind_0 {Q : Option Value → sy_S → Prop} {σ : sy_S} {code : Int32}  (b1 : vp_in (((code * (-1640531535)).toUInt32 >>> (Int32.toUInt32 24 &&& Int32.toUInt32 31)).toInt32) 256) (k1 : sy_E shX mX6_find (12, [some (.ref 57), some (.int code), some (.int (σ.1 60 ((((code * (-1640531535)).toUInt32 >>> (Int32.toUInt32 24 &&& Int32.toUInt32 31)).toInt32).toNatClampNeg))), some (.int 0)], [], σ) Q) : sy_E shX mX6_find (0, sy_ent [.ref 57, .int code] 4, [], σ) Q := by
  show sy_E shX mX6_find (0, [some (.ref 57), some (.int code), none, none], [], σ) _
  refine sy_bk [(.aload_n 0, 0, 0, 0, 0), (.getfield 18, 6, 2, 0, 0), (.iload_n 1, 0, 0, 0, 0)] (5, [some (.ref 57), some (.int code), none, none], [.int code, .ref 60], σ) [] (by decide +kernel) rfl trivial ?_
  refine sy_callS mX6_chainOf [.int code] [.ref 60] kX6_chainOf jX6_31 (by decide +kernel) rfl rfl (Nat.le_of_ble_eq_true rfl) (Nat.le_of_ble_eq_true rfl) (by decide) ?_
  refine w_x_chainOf (σ := σ) (code := code) ?_
  show sy_E shX mX6_find (8, [some (.ref 57), some (.int code), none, none], [.int (((code * (-1640531535)).toUInt32 >>> (Int32.toUInt32 24 &&& Int32.toUInt32 31)).toInt32), .ref 60], σ) _
  refine sy_bk [(.iaload, 0, 0, 0, 0), (.istore_n 2, 0, 0, 0, 0), (.iconst 0, 0, 0, 0, 0), (.istore_n 3, 0, 0, 0, 0)] (12, [some (.ref 57), some (.int code), some (.int (σ.1 60 ((((code * (-1640531535)).toUInt32 >>> (Int32.toUInt32 24 &&& Int32.toUInt32 31)).toInt32).toNatClampNeg))), some (.int 0)], [], σ) [sy_okA shX 0 60 (((code * (-1640531535)).toUInt32 >>> (Int32.toUInt32 24 &&& Int32.toUInt32 31)).toInt32)] (by decide +kernel) rfl ⟨⟨256, _, rfl, b1⟩, trivial⟩ ?_
  exact k1

set_option maxRecDepth 20000 in
theorem w_x_sfind_12 {Q : Option Value → sy_S → Prop} {σ : sy_S} {l1 : Int32} {l2 : Int32} {l3 : Int32}  (b1 : ¬ ((σ.1 57 3) ≤ l3) → ¬ (l2 < 0) → vp_in l2 2001) (k1 : (σ.1 57 3) ≤ l3 → Q (some (.int (-1))) σ) (k2 : ¬ ((σ.1 57 3) ≤ l3) → l2 < 0 → Q (some (.int (-1))) σ) (k3 : ¬ ((σ.1 57 3) ≤ l3) → ¬ (l2 < 0) → ¬ (σ.1 58 l2.toNatClampNeg) = l1 → sy_E shX mX6_find (12, [some (.ref 57), some (.int l1), some (.int (σ.1 59 l2.toNatClampNeg)), some (.int (l3 + 1))], [], σ) Q) (k4 : ¬ ((σ.1 57 3) ≤ l3) → ¬ (l2 < 0) → ¬ (¬ (σ.1 58 l2.toNatClampNeg) = l1) → Q (some (.int l2)) σ) : sy_E shX mX6_find (12, [some (.ref 57), some (.int l1), some (.int l2), some (.int l3)], [], σ) Q := by
  refine sy_bk [(.iload_n 3, 0, 0, 0, 0), (.aload_n 0, 0, 0, 0, 0), (.getfield 27, 6, 3, 0, 0)] (17, [some (.ref 57), some (.int l1), some (.int l2), some (.int l3)], [.int (σ.1 57 3), .int l3], σ) [] (by decide +kernel) rfl trivial ?_
  by_cases c1 : (σ.1 57 3) ≤ l3
  · refine sy_bk [(.if_icmp .ge 32, 1, 49, 0, 0)] (49, [some (.ref 57), some (.int l1), some (.int l2), some (.int l3)], [], σ) [sy_cc .ge l3 (σ.1 57 3)] (by decide +kernel) rfl ⟨c1, trivial⟩ ?_
    refine sy_bk [(.iconst (-1), 0, 0, (-1), 0)] (50, [some (.ref 57), some (.int l1), some (.int l2), some (.int l3)], [.int (-1)], σ) [] (by decide +kernel) rfl trivial ?_
    exact sy_reti rfl (by decide +kernel) (k1 c1)
  · refine sy_bk [(.if_icmp .ge 32, 0, 49, 0, 0)] (20, [some (.ref 57), some (.int l1), some (.int l2), some (.int l3)], [], σ) [¬ sy_cc .ge l3 (σ.1 57 3)] (by decide +kernel) rfl ⟨c1, trivial⟩ ?_
    refine sy_bk [(.iload_n 2, 0, 0, 0, 0)] (21, [some (.ref 57), some (.int l1), some (.int l2), some (.int l3)], [.int l2], σ) [] (by decide +kernel) rfl trivial ?_
    by_cases c2 : l2 < 0
    · refine sy_bk [(.ifCond .lt 28, 1, 49, 0, 0)] (49, [some (.ref 57), some (.int l1), some (.int l2), some (.int l3)], [], σ) [sy_cc .lt l2 0] (by decide +kernel) rfl ⟨c2, trivial⟩ ?_
      refine sy_bk [(.iconst (-1), 0, 0, (-1), 0)] (50, [some (.ref 57), some (.int l1), some (.int l2), some (.int l3)], [.int (-1)], σ) [] (by decide +kernel) rfl trivial ?_
      exact sy_reti rfl (by decide +kernel) (k2 c1 c2)
    · refine sy_bk [(.ifCond .lt 28, 0, 49, 0, 0)] (24, [some (.ref 57), some (.int l1), some (.int l2), some (.int l3)], [], σ) [¬ sy_cc .lt l2 0] (by decide +kernel) rfl ⟨c2, trivial⟩ ?_
      refine sy_bk [(.aload_n 0, 0, 0, 0, 0), (.getfield 9, 6, 0, 0, 0), (.iload_n 2, 0, 0, 0, 0), (.iaload, 0, 0, 0, 0), (.iload_n 1, 0, 0, 0, 0)] (31, [some (.ref 57), some (.int l1), some (.int l2), some (.int l3)], [.int l1, .int (σ.1 58 l2.toNatClampNeg)], σ) [sy_okA shX 0 58 l2] (by decide +kernel) rfl ⟨⟨2001, _, rfl, (b1 c1 c2)⟩, trivial⟩ ?_
      by_cases c3 : ¬ (σ.1 58 l2.toNatClampNeg) = l1
      · refine sy_bk [(.if_icmp .ne 5, 1, 36, 0, 0)] (36, [some (.ref 57), some (.int l1), some (.int l2), some (.int l3)], [], σ) [sy_cc .ne (σ.1 58 l2.toNatClampNeg) l1] (by decide +kernel) rfl ⟨c3, trivial⟩ ?_
        refine sy_bk [(.aload_n 0, 0, 0, 0, 0), (.getfield 15, 6, 1, 0, 0), (.iload_n 2, 0, 0, 0, 0), (.iaload, 0, 0, 0, 0), (.istore_n 2, 0, 0, 0, 0), (.iinc 3 1, 0, 0, 1, 0), (.goto (-34), 0, 12, 0, 0)] (12, [some (.ref 57), some (.int l1), some (.int (σ.1 59 l2.toNatClampNeg)), some (.int (l3 + 1))], [], σ) [sy_okA shX 0 59 l2] (by decide +kernel) rfl ⟨⟨2001, _, rfl, (b1 c1 c2)⟩, trivial⟩ ?_
        exact k3 c1 c2 c3
      · refine sy_bk [(.if_icmp .ne 5, 0, 36, 0, 0)] (34, [some (.ref 57), some (.int l1), some (.int l2), some (.int l3)], [], σ) [¬ sy_cc .ne (σ.1 58 l2.toNatClampNeg) l1] (by decide +kernel) rfl ⟨c3, trivial⟩ ?_
        refine sy_bk [(.iload_n 2, 0, 0, 0, 0)] (35, [some (.ref 57), some (.int l1), some (.int l2), some (.int l3)], [.int l2], σ) [] (by decide +kernel) rfl trivial ?_
        exact sy_reti rfl (by decide +kernel) (k4 c1 c2 c3)

set_option maxRecDepth 20000 in
theorem w_x_unt_0 {Q : Option Value → sy_S → Prop} {σ : sy_S} {cell : Int32} {rd : Int32}   (k1 : sy_E shX mX2_unburntNextTo (5, [some (.ref 53), some (.int cell), some (.int rd), some (.int 0), some (.int 0), none], [], σ) Q) : sy_E shX mX2_unburntNextTo (0, sy_ent [.ref 53, .int cell, .int rd] 6, [], σ) Q := by
  show sy_E shX mX2_unburntNextTo (0, [some (.ref 53), some (.int cell), some (.int rd), none, none, none], [], σ) _
  refine sy_bk [(.iconst 0, 0, 0, 0, 0), (.istore_n 3, 0, 0, 0, 0), (.iconst 0, 0, 0, 0, 0), (.istore 4, 0, 0, 0, 0)] (5, [some (.ref 53), some (.int cell), some (.int rd), some (.int 0), some (.int 0), none], [], σ) [] (by decide +kernel) rfl trivial ?_
  exact k1

set_option maxRecDepth 20000 in
theorem w_x_unt_5 {Q : Option Value → sy_S → Prop} {σ : sy_S} {l1 : Int32} {l2 : Int32} {l3 : Int32} {l4 : Int32}  (b1 : vp_in l1 16) (b2 : ¬ ((σ.1 5 l1.toNatClampNeg) ≤ l4) → vp_in ((l1 * 4) + l4) 64) (b3 : ¬ ((σ.1 5 l1.toNatClampNeg) ≤ l4) → vp_in (σ.1 4 (((l1 * 4) + l4).toNatClampNeg)) 16) (k1 : (σ.1 5 l1.toNatClampNeg) ≤ l4 → Q (some (.int l3)) σ) (k2 : ¬ ((σ.1 5 l1.toNatClampNeg) ≤ l4) → (σ.1 54 ((σ.1 4 (((l1 * 4) + l4).toNatClampNeg)).toNatClampNeg)) = 0 → sy_E shX mX2_unburntNextTo (5, [some (.ref 53), some (.int l1), some (.int l2), some (.int (l3 + 1)), some (.int (l4 + 1)), none], [], σ) Q) (k3 : ¬ ((σ.1 5 l1.toNatClampNeg) ≤ l4) → ¬ ((σ.1 54 ((σ.1 4 (((l1 * 4) + l4).toNatClampNeg)).toNatClampNeg)) = 0) → ¬ (σ.1 54 ((σ.1 4 (((l1 * 4) + l4).toNatClampNeg)).toNatClampNeg)) = l2 → sy_E shX mX2_unburntNextTo (5, [some (.ref 53), some (.int l1), some (.int l2), some (.int l3), some (.int (l4 + 1)), none], [], σ) Q) (k4 : ¬ ((σ.1 5 l1.toNatClampNeg) ≤ l4) → ¬ ((σ.1 54 ((σ.1 4 (((l1 * 4) + l4).toNatClampNeg)).toNatClampNeg)) = 0) → ¬ (¬ (σ.1 54 ((σ.1 4 (((l1 * 4) + l4).toNatClampNeg)).toNatClampNeg)) = l2) → sy_E shX mX2_unburntNextTo (5, [some (.ref 53), some (.int l1), some (.int l2), some (.int (l3 + 1)), some (.int (l4 + 1)), none], [], σ) Q) : sy_E shX mX2_unburntNextTo (5, [some (.ref 53), some (.int l1), some (.int l2), some (.int l3), some (.int l4), none], [], σ) Q := by
  refine sy_bk [(.iload 4, 0, 0, 0, 0), (.aload_n 0, 0, 0, 0, 0), (.getfield 15, 2, 0, 0, 0), (.iload_n 1, 0, 0, 0, 0)] (12, [some (.ref 53), some (.int l1), some (.int l2), some (.int l3), some (.int l4), none], [.int l1, .ref 0, .int l4], σ) [] (by decide +kernel) rfl trivial ?_
  refine sy_callV mX3_nextCount 0 [.int l1] [.int l4] kX3_nextCount jX2_43 (by decide +kernel) rfl rfl (Nat.le_of_ble_eq_true rfl) (Nat.le_of_ble_eq_true rfl) (by decide) rfl ?_
  refine w_x_nextCount (σ := σ) (cell := l1) b1 ?_
  show sy_E shX mX2_unburntNextTo (15, [some (.ref 53), some (.int l1), some (.int l2), some (.int l3), some (.int l4), none], [.int (σ.1 5 l1.toNatClampNeg), .int l4], σ) _
  by_cases c1 : (σ.1 5 l1.toNatClampNeg) ≤ l4
  · refine sy_bk [(.if_icmp .ge 40, 1, 55, 0, 0)] (55, [some (.ref 53), some (.int l1), some (.int l2), some (.int l3), some (.int l4), none], [], σ) [sy_cc .ge l4 (σ.1 5 l1.toNatClampNeg)] (by decide +kernel) rfl ⟨c1, trivial⟩ ?_
    refine sy_bk [(.iload_n 3, 0, 0, 0, 0)] (56, [some (.ref 53), some (.int l1), some (.int l2), some (.int l3), some (.int l4), none], [.int l3], σ) [] (by decide +kernel) rfl trivial ?_
    exact sy_reti rfl (by decide +kernel) (k1 c1)
  · refine sy_bk [(.if_icmp .ge 40, 0, 55, 0, 0)] (18, [some (.ref 53), some (.int l1), some (.int l2), some (.int l3), some (.int l4), none], [], σ) [¬ sy_cc .ge l4 (σ.1 5 l1.toNatClampNeg)] (by decide +kernel) rfl ⟨c1, trivial⟩ ?_
    refine sy_bk [(.aload_n 0, 0, 0, 0, 0), (.getfield 9, 2, 1, 0, 0), (.aload_n 0, 0, 0, 0, 0), (.getfield 15, 2, 0, 0, 0), (.iload_n 1, 0, 0, 0, 0), (.iload 4, 0, 0, 0, 0)] (29, [some (.ref 53), some (.int l1), some (.int l2), some (.int l3), some (.int l4), none], [.int l4, .int l1, .ref 0, .ref 54], σ) [] (by decide +kernel) rfl trivial ?_
    refine sy_callV mX3_nextAt 0 [.int l1, .int l4] [.ref 54] kX3_nextAt jX2_46 (by decide +kernel) rfl rfl (Nat.le_of_ble_eq_true rfl) (Nat.le_of_ble_eq_true rfl) (by decide) rfl ?_
    refine w_x_nextAt (σ := σ) (cell := l1) (side := l4) (b2 c1) ?_
    show sy_E shX mX2_unburntNextTo (32, [some (.ref 53), some (.int l1), some (.int l2), some (.int l3), some (.int l4), none], [.int (σ.1 4 (((l1 * 4) + l4).toNatClampNeg)), .ref 54], σ) _
    refine sy_bk [(.iaload, 0, 0, 0, 0), (.istore 5, 0, 0, 0, 0), (.iload 5, 0, 0, 0, 0)] (37, [some (.ref 53), some (.int l1), some (.int l2), some (.int l3), some (.int l4), some (.int (σ.1 54 ((σ.1 4 (((l1 * 4) + l4).toNatClampNeg)).toNatClampNeg)))], [.int (σ.1 54 ((σ.1 4 (((l1 * 4) + l4).toNatClampNeg)).toNatClampNeg))], σ) [sy_okA shX 0 54 (σ.1 4 (((l1 * 4) + l4).toNatClampNeg))] (by decide +kernel) rfl ⟨⟨16, _, rfl, (b3 c1)⟩, trivial⟩ ?_
    by_cases c2 : (σ.1 54 ((σ.1 4 (((l1 * 4) + l4).toNatClampNeg)).toNatClampNeg)) = 0
    · refine sy_bk [(.ifCond .eq 9, 1, 46, 0, 0)] (46, [some (.ref 53), some (.int l1), some (.int l2), some (.int l3), some (.int l4), some (.int (σ.1 54 ((σ.1 4 (((l1 * 4) + l4).toNatClampNeg)).toNatClampNeg)))], [], σ) [sy_cc .eq (σ.1 54 ((σ.1 4 (((l1 * 4) + l4).toNatClampNeg)).toNatClampNeg)) 0] (by decide +kernel) rfl ⟨c2, trivial⟩ ?_
      refine sy_bk [(.iinc 3 1, 0, 0, 1, 0), (.iinc 4 1, 0, 0, 1, 0), (.goto (-47), 0, 5, 0, 0)] (5, [some (.ref 53), some (.int l1), some (.int l2), some (.int (l3 + 1)), some (.int (l4 + 1)), some (.int (σ.1 54 ((σ.1 4 (((l1 * 4) + l4).toNatClampNeg)).toNatClampNeg)))], [], σ) [] (by decide +kernel) rfl trivial ?_
      refine sy_drop [some (.ref 53), some (.int l1), some (.int l2), some (.int (l3 + 1)), some (.int (l4 + 1)), none] ⟨rfl, rfl, rfl, rfl, rfl, trivial⟩ ?_
      exact k2 c1 c2
    · refine sy_bk [(.ifCond .eq 9, 0, 46, 0, 0)] (40, [some (.ref 53), some (.int l1), some (.int l2), some (.int l3), some (.int l4), some (.int (σ.1 54 ((σ.1 4 (((l1 * 4) + l4).toNatClampNeg)).toNatClampNeg)))], [], σ) [¬ sy_cc .eq (σ.1 54 ((σ.1 4 (((l1 * 4) + l4).toNatClampNeg)).toNatClampNeg)) 0] (by decide +kernel) rfl ⟨c2, trivial⟩ ?_
      refine sy_bk [(.iload 5, 0, 0, 0, 0), (.iload_n 2, 0, 0, 0, 0)] (43, [some (.ref 53), some (.int l1), some (.int l2), some (.int l3), some (.int l4), some (.int (σ.1 54 ((σ.1 4 (((l1 * 4) + l4).toNatClampNeg)).toNatClampNeg)))], [.int l2, .int (σ.1 54 ((σ.1 4 (((l1 * 4) + l4).toNatClampNeg)).toNatClampNeg))], σ) [] (by decide +kernel) rfl trivial ?_
      by_cases c3 : ¬ (σ.1 54 ((σ.1 4 (((l1 * 4) + l4).toNatClampNeg)).toNatClampNeg)) = l2
      · refine sy_bk [(.if_icmp .ne 6, 1, 49, 0, 0)] (49, [some (.ref 53), some (.int l1), some (.int l2), some (.int l3), some (.int l4), some (.int (σ.1 54 ((σ.1 4 (((l1 * 4) + l4).toNatClampNeg)).toNatClampNeg)))], [], σ) [sy_cc .ne (σ.1 54 ((σ.1 4 (((l1 * 4) + l4).toNatClampNeg)).toNatClampNeg)) l2] (by decide +kernel) rfl ⟨c3, trivial⟩ ?_
        refine sy_bk [(.iinc 4 1, 0, 0, 1, 0), (.goto (-47), 0, 5, 0, 0)] (5, [some (.ref 53), some (.int l1), some (.int l2), some (.int l3), some (.int (l4 + 1)), some (.int (σ.1 54 ((σ.1 4 (((l1 * 4) + l4).toNatClampNeg)).toNatClampNeg)))], [], σ) [] (by decide +kernel) rfl trivial ?_
        refine sy_drop [some (.ref 53), some (.int l1), some (.int l2), some (.int l3), some (.int (l4 + 1)), none] ⟨rfl, rfl, rfl, rfl, rfl, trivial⟩ ?_
        exact k3 c1 c2 c3
      · refine sy_bk [(.if_icmp .ne 6, 0, 49, 0, 0)] (46, [some (.ref 53), some (.int l1), some (.int l2), some (.int l3), some (.int l4), some (.int (σ.1 54 ((σ.1 4 (((l1 * 4) + l4).toNatClampNeg)).toNatClampNeg)))], [], σ) [¬ sy_cc .ne (σ.1 54 ((σ.1 4 (((l1 * 4) + l4).toNatClampNeg)).toNatClampNeg)) l2] (by decide +kernel) rfl ⟨c3, trivial⟩ ?_
        refine sy_bk [(.iinc 3 1, 0, 0, 1, 0), (.iinc 4 1, 0, 0, 1, 0), (.goto (-47), 0, 5, 0, 0)] (5, [some (.ref 53), some (.int l1), some (.int l2), some (.int (l3 + 1)), some (.int (l4 + 1)), some (.int (σ.1 54 ((σ.1 4 (((l1 * 4) + l4).toNatClampNeg)).toNatClampNeg)))], [], σ) [] (by decide +kernel) rfl trivial ?_
        refine sy_drop [some (.ref 53), some (.int l1), some (.int l2), some (.int (l3 + 1)), some (.int (l4 + 1)), none] ⟨rfl, rfl, rfl, rfl, rfl, trivial⟩ ?_
        exact k4 c1 c2 c3

set_option maxRecDepth 20000 in
theorem w_x_once_0 {Q : Option Value → sy_S → Prop} {σ : sy_S} {k : Nat} {rd : Int32} (hk : shX[k]? = some (0, 16, []))  (k1 : sy_E shX mX2_burnOnce (5, [some (.ref 53), some (.ref k), some (.int rd), some (.int 0), some (.int 0), none], [], σ) Q) : sy_E shX mX2_burnOnce (0, sy_ent [.ref 53, .ref k, .int rd] 6, [], σ) Q := by
  show sy_E shX mX2_burnOnce (0, [some (.ref 53), some (.ref k), some (.int rd), none, none, none], [], σ) _
  refine sy_bk [(.iconst 0, 0, 0, 0, 0), (.istore_n 3, 0, 0, 0, 0), (.iconst 0, 0, 0, 0, 0), (.istore 4, 0, 0, 0, 0)] (5, [some (.ref 53), some (.ref k), some (.int rd), some (.int 0), some (.int 0), none], [], σ) [] (by decide +kernel) rfl trivial ?_
  exact k1

set_option maxRecDepth 20000 in
theorem w_x_once_5 {Q : Option Value → sy_S → Prop} {σ : sy_S} {k : Nat} {l2 : Int32} {l3 : Int32} {l4 : Int32} (hk : shX[k]? = some (0, 16, [])) (b1 : (σ.1 0 7) ≤ l4 → l3 = 0 ∨ l3 = 1) (b2 : ¬ ((σ.1 0 7) ≤ l4) → vp_in l4 16) (b3 : ¬ ((σ.1 0 7) ≤ l4) → vp_in (σ.1 2 l4.toNatClampNeg) 16) (k1 : (σ.1 0 7) ≤ l4 → Q (some (.int l3)) σ) (k2 : ¬ ((σ.1 0 7) ≤ l4) → ¬ (σ.1 54 ((σ.1 2 l4.toNatClampNeg).toNatClampNeg)) = 0 → sy_E shX mX2_burnOnce (5, [some (.ref 53), some (.ref k), some (.int l2), some (.int l3), some (.int (l4 + 1)), none], [], σ) Q) (k3 : ¬ ((σ.1 0 7) ≤ l4) → ¬ (¬ (σ.1 54 ((σ.1 2 l4.toNatClampNeg).toNatClampNeg)) = 0) → sy_E shX mX2_unburntNextTo (0, sy_ent [.ref 53, .int (σ.1 2 l4.toNatClampNeg), .int l2] 6, [], σ) (fun r9 σ9 => sy_E shX mX2_burnOnce (49, [some (.ref 53), some (.ref k), some (.int l2), some (.int l3), some (.int l4), some (.int (σ.1 2 l4.toNatClampNeg))], r9.toList ++ [.int (σ.1 k ((σ.1 2 l4.toNatClampNeg).toNatClampNeg))], σ9) Q)) : sy_E shX mX2_burnOnce (5, [some (.ref 53), some (.ref k), some (.int l2), some (.int l3), some (.int l4), none], [], σ) Q := by
  refine sy_bk [(.iload 4, 0, 0, 0, 0), (.aload_n 0, 0, 0, 0, 0), (.getfield 15, 2, 0, 0, 0)] (11, [some (.ref 53), some (.ref k), some (.int l2), some (.int l3), some (.int l4), none], [.ref 0, .int l4], σ) [] (by decide +kernel) rfl trivial ?_
  refine sy_callV mX3_placeCount 0 [] [.int l4] kX3_placeCount jX2_29 (by decide +kernel) rfl rfl (Nat.le_of_ble_eq_true rfl) (Nat.le_of_ble_eq_true rfl) (by decide) rfl ?_
  refine w_x_placeCount (σ := σ) ?_
  show sy_E shX mX2_burnOnce (14, [some (.ref 53), some (.ref k), some (.int l2), some (.int l3), some (.int l4), none], [.int (σ.1 0 7), .int l4], σ) _
  by_cases c1 : (σ.1 0 7) ≤ l4
  · refine sy_bk [(.if_icmp .ge 54, 1, 68, 0, 0)] (68, [some (.ref 53), some (.ref k), some (.int l2), some (.int l3), some (.int l4), none], [], σ) [sy_cc .ge l4 (σ.1 0 7)] (by decide +kernel) rfl ⟨c1, trivial⟩ ?_
    refine sy_bk [(.iload_n 3, 0, 0, 0, 0)] (69, [some (.ref 53), some (.ref k), some (.int l2), some (.int l3), some (.int l4), none], [.int l3], σ) [] (by decide +kernel) rfl trivial ?_
    exact sy_retz rfl (by decide +kernel) (b1 c1) (k1 c1)
  · refine sy_bk [(.if_icmp .ge 54, 0, 68, 0, 0)] (17, [some (.ref 53), some (.ref k), some (.int l2), some (.int l3), some (.int l4), none], [], σ) [¬ sy_cc .ge l4 (σ.1 0 7)] (by decide +kernel) rfl ⟨c1, trivial⟩ ?_
    refine sy_bk [(.aload_n 0, 0, 0, 0, 0), (.getfield 15, 2, 0, 0, 0), (.iload 4, 0, 0, 0, 0)] (23, [some (.ref 53), some (.ref k), some (.int l2), some (.int l3), some (.int l4), none], [.int l4, .ref 0], σ) [] (by decide +kernel) rfl trivial ?_
    refine sy_callV mX3_placeAt 0 [.int l4] [] kX3_placeAt jX2_35 (by decide +kernel) rfl rfl (Nat.le_of_ble_eq_true rfl) (Nat.le_of_ble_eq_true rfl) (by decide) rfl ?_
    refine w_x_placeAt (σ := σ) (cell := l4) (b2 c1) ?_
    show sy_E shX mX2_burnOnce (26, [some (.ref 53), some (.ref k), some (.int l2), some (.int l3), some (.int l4), none], [.int (σ.1 2 l4.toNatClampNeg)], σ) _
    refine sy_bk [(.istore 5, 0, 0, 0, 0), (.aload_n 0, 0, 0, 0, 0), (.getfield 9, 2, 1, 0, 0), (.iload 5, 0, 0, 0, 0), (.iaload, 0, 0, 0, 0)] (35, [some (.ref 53), some (.ref k), some (.int l2), some (.int l3), some (.int l4), some (.int (σ.1 2 l4.toNatClampNeg))], [.int (σ.1 54 ((σ.1 2 l4.toNatClampNeg).toNatClampNeg))], σ) [sy_okA shX 0 54 (σ.1 2 l4.toNatClampNeg)] (by decide +kernel) rfl ⟨⟨16, _, rfl, (b3 c1)⟩, trivial⟩ ?_
    by_cases c2 : ¬ (σ.1 54 ((σ.1 2 l4.toNatClampNeg).toNatClampNeg)) = 0
    · refine sy_bk [(.ifCond .ne 27, 1, 62, 0, 0)] (62, [some (.ref 53), some (.ref k), some (.int l2), some (.int l3), some (.int l4), some (.int (σ.1 2 l4.toNatClampNeg))], [], σ) [sy_cc .ne (σ.1 54 ((σ.1 2 l4.toNatClampNeg).toNatClampNeg)) 0] (by decide +kernel) rfl ⟨c2, trivial⟩ ?_
      refine sy_bk [(.iinc 4 1, 0, 0, 1, 0), (.goto (-60), 0, 5, 0, 0)] (5, [some (.ref 53), some (.ref k), some (.int l2), some (.int l3), some (.int (l4 + 1)), some (.int (σ.1 2 l4.toNatClampNeg))], [], σ) [] (by decide +kernel) rfl trivial ?_
      refine sy_drop [some (.ref 53), some (.ref k), some (.int l2), some (.int l3), some (.int (l4 + 1)), none] ⟨rfl, rfl, rfl, rfl, rfl, trivial⟩ ?_
      exact k2 c1 c2
    · refine sy_bk [(.ifCond .ne 27, 0, 62, 0, 0)] (38, [some (.ref 53), some (.ref k), some (.int l2), some (.int l3), some (.int l4), some (.int (σ.1 2 l4.toNatClampNeg))], [], σ) [¬ sy_cc .ne (σ.1 54 ((σ.1 2 l4.toNatClampNeg).toNatClampNeg)) 0] (by decide +kernel) rfl ⟨c2, trivial⟩ ?_
      refine sy_bk [(.aload_n 1, 0, 0, 0, 0), (.iload 5, 0, 0, 0, 0), (.iaload, 0, 0, 0, 0), (.aload_n 0, 0, 0, 0, 0), (.iload 5, 0, 0, 0, 0), (.iload_n 2, 0, 0, 0, 0)] (46, [some (.ref 53), some (.ref k), some (.int l2), some (.int l3), some (.int l4), some (.int (σ.1 2 l4.toNatClampNeg))], [.int l2, .int (σ.1 2 l4.toNatClampNeg), .ref 53, .int (σ.1 k ((σ.1 2 l4.toNatClampNeg).toNatClampNeg))], σ) [sy_okA shX 0 k (σ.1 2 l4.toNatClampNeg)] (by decide +kernel) rfl ⟨⟨16, _, hk, (b3 c1)⟩, trivial⟩ ?_
      refine sy_callV mX2_unburntNextTo 53 [.int (σ.1 2 l4.toNatClampNeg), .int l2] [.int (σ.1 k ((σ.1 2 l4.toNatClampNeg).toNatClampNeg))] kX2_unburntNextTo jX2_39 (by decide +kernel) rfl rfl (Nat.le_of_ble_eq_true rfl) (Nat.le_of_ble_eq_true rfl) (by decide) rfl ?_
      exact k3 c1 c2

set_option maxRecDepth 20000 in
theorem w_x_once_49 {Q : Option Value → sy_S → Prop} {σ : sy_S} {k : Nat} {l2 : Int32} {l3 : Int32} {l4 : Int32} {l5 : Int32} {s0 : Int32} {v : Int32} (hk : shX[k]? = some (0, 16, [])) (b1 : ¬ (s0 < v) → vp_in l5 16) (k1 : s0 < v → sy_E shX mX2_burnOnce (5, [some (.ref 53), some (.ref k), some (.int l2), some (.int l3), some (.int (l4 + 1)), none], [], σ) Q) (k2 : ¬ (s0 < v) → sy_E shX mX2_burnOnce (5, [some (.ref 53), some (.ref k), some (.int l2), some (.int 1), some (.int (l4 + 1)), none], [], (sy_up σ.1 54 l5.toNatClampNeg l2, σ.2)) Q) : sy_E shX mX2_burnOnce (49, [some (.ref 53), some (.ref k), some (.int l2), some (.int l3), some (.int l4), some (.int l5)], [.int v, .int s0], σ) Q := by
  by_cases c1 : s0 < v
  · refine sy_bk [(.if_icmp .lt 13, 1, 62, 0, 0)] (62, [some (.ref 53), some (.ref k), some (.int l2), some (.int l3), some (.int l4), some (.int l5)], [], σ) [sy_cc .lt s0 v] (by decide +kernel) rfl ⟨c1, trivial⟩ ?_
    refine sy_bk [(.iinc 4 1, 0, 0, 1, 0), (.goto (-60), 0, 5, 0, 0)] (5, [some (.ref 53), some (.ref k), some (.int l2), some (.int l3), some (.int (l4 + 1)), some (.int l5)], [], σ) [] (by decide +kernel) rfl trivial ?_
    refine sy_drop [some (.ref 53), some (.ref k), some (.int l2), some (.int l3), some (.int (l4 + 1)), none] ⟨rfl, rfl, rfl, rfl, rfl, trivial⟩ ?_
    exact k1 c1
  · refine sy_bk [(.if_icmp .lt 13, 0, 62, 0, 0)] (52, [some (.ref 53), some (.ref k), some (.int l2), some (.int l3), some (.int l4), some (.int l5)], [], σ) [¬ sy_cc .lt s0 v] (by decide +kernel) rfl ⟨c1, trivial⟩ ?_
    refine sy_bk [(.aload_n 0, 0, 0, 0, 0), (.getfield 9, 2, 1, 0, 0), (.iload 5, 0, 0, 0, 0), (.iload_n 2, 0, 0, 0, 0), (.iastore, 0, 0, 0, 0), (.iconst 1, 0, 0, 1, 0), (.istore_n 3, 0, 0, 0, 0), (.iinc 4 1, 0, 0, 1, 0), (.goto (-60), 0, 5, 0, 0)] (5, [some (.ref 53), some (.ref k), some (.int l2), some (.int 1), some (.int (l4 + 1)), some (.int l5)], [], (sy_up σ.1 54 l5.toNatClampNeg l2, σ.2)) [sy_okA shX 0 54 l5] (by decide +kernel) rfl ⟨⟨16, _, rfl, (b1 c1)⟩, trivial⟩ ?_
    refine sy_drop [some (.ref 53), some (.ref k), some (.int l2), some (.int 1), some (.int (l4 + 1)), none] ⟨rfl, rfl, rfl, rfl, rfl, trivial⟩ ?_
    exact k2 c1

set_option maxRecDepth 20000 in
theorem w_x_spread_0 {Q : Option Value → sy_S → Prop} {σ : sy_S} {k : Nat} (hk : shX[k]? = some (0, 16, []))  (k1 : sy_E shX mJ7_fill_53178 (0, sy_ent [.ref 54, .int 0] 4, [], σ) (fun r9 σ9 => sy_E shX mX2_spread (8, [some (.ref 53), some (.ref k), none], r9.toList ++ [], σ9) Q)) : sy_E shX mX2_spread (0, sy_ent [.ref 53, .ref k] 3, [], σ) Q := by
  show sy_E shX mX2_spread (0, [some (.ref 53), some (.ref k), none], [], σ) _
  refine sy_bk [(.aload_n 0, 0, 0, 0, 0), (.getfield 9, 2, 1, 0, 0), (.iconst 0, 0, 0, 0, 0)] (5, [some (.ref 53), some (.ref k), none], [.int 0, .ref 54], σ) [] (by decide +kernel) rfl trivial ?_
  refine sy_callS mJ7_fill_53178 [.ref 54, .int 0] [] kJ7_fill_53178 jX2_19 (by decide +kernel) rfl rfl (Nat.le_of_ble_eq_true rfl) (Nat.le_of_ble_eq_true rfl) (by decide) ?_
  exact k1

set_option maxRecDepth 20000 in
theorem w_x_spread_8 {Q : Option Value → sy_S → Prop} {σ : sy_S} {k : Nat} (hk : shX[k]? = some (0, 16, []))  (k1 : sy_E shX mX2_spread (10, [some (.ref 53), some (.ref k), some (.int 1)], [], σ) Q) : sy_E shX mX2_spread (8, [some (.ref 53), some (.ref k), none], [], σ) Q := by
  refine sy_bk [(.iconst 1, 0, 0, 1, 0), (.istore_n 2, 0, 0, 0, 0)] (10, [some (.ref 53), some (.ref k), some (.int 1)], [], σ) [] (by decide +kernel) rfl trivial ?_
  exact k1

set_option maxRecDepth 20000 in
theorem w_x_spread_10 {Q : Option Value → sy_S → Prop} {σ : sy_S} {k : Nat} {l2 : Int32} (hk : shX[k]? = some (0, 16, []))  (k1 : 16 < l2 → Q (some (.int 16)) σ) (k2 : ¬ (16 < l2) → sy_E shX mX2_burnOnce (0, sy_ent [.ref 53, .ref k, .int l2] 6, [], σ) (fun r9 σ9 => sy_E shX mX2_spread (22, [some (.ref 53), some (.ref k), some (.int l2)], r9.toList ++ [], σ9) Q)) : sy_E shX mX2_spread (10, [some (.ref 53), some (.ref k), some (.int l2)], [], σ) Q := by
  refine sy_bk [(.iload_n 2, 0, 0, 0, 0), (.bipush 16, 0, 0, 16, 0)] (13, [some (.ref 53), some (.ref k), some (.int l2)], [.int 16, .int l2], σ) [] (by decide +kernel) rfl trivial ?_
  by_cases c1 : 16 < l2
  · refine sy_bk [(.if_icmp .gt 22, 1, 35, 0, 0)] (35, [some (.ref 53), some (.ref k), some (.int l2)], [], σ) [sy_cc .gt l2 16] (by decide +kernel) rfl ⟨c1, trivial⟩ ?_
    refine sy_bk [(.bipush 16, 0, 0, 16, 0)] (37, [some (.ref 53), some (.ref k), some (.int l2)], [.int 16], σ) [] (by decide +kernel) rfl trivial ?_
    exact sy_reti rfl (by decide +kernel) (k1 c1)
  · refine sy_bk [(.if_icmp .gt 22, 0, 35, 0, 0)] (16, [some (.ref 53), some (.ref k), some (.int l2)], [], σ) [¬ sy_cc .gt l2 16] (by decide +kernel) rfl ⟨c1, trivial⟩ ?_
    refine sy_bk [(.aload_n 0, 0, 0, 0, 0), (.aload_n 1, 0, 0, 0, 0), (.iload_n 2, 0, 0, 0, 0)] (19, [some (.ref 53), some (.ref k), some (.int l2)], [.int l2, .ref k, .ref 53], σ) [] (by decide +kernel) rfl trivial ?_
    refine sy_callV mX2_burnOnce 53 [.ref k, .int l2] [] kX2_burnOnce jX2_25 (by decide +kernel) rfl rfl (Nat.le_of_ble_eq_true rfl) (Nat.le_of_ble_eq_true rfl) (by decide) rfl ?_
    exact k2 c1

set_option maxRecDepth 20000 in
theorem w_x_spread_22 {Q : Option Value → sy_S → Prop} {σ : sy_S} {k : Nat} {l2 : Int32} {v : Int32} (hk : shX[k]? = some (0, 16, []))  (k1 : ¬ v = 0 → sy_E shX mX2_spread (10, [some (.ref 53), some (.ref k), some (.int (l2 + 1))], [], σ) Q) (k2 : ¬ (¬ v = 0) → Q (some (.int (l2 - 1))) σ) : sy_E shX mX2_spread (22, [some (.ref 53), some (.ref k), some (.int l2)], [.int v], σ) Q := by
  by_cases c1 : ¬ v = 0
  · refine sy_bk [(.ifCond .ne 7, 1, 29, 0, 0)] (29, [some (.ref 53), some (.ref k), some (.int l2)], [], σ) [sy_cc .ne v 0] (by decide +kernel) rfl ⟨c1, trivial⟩ ?_
    refine sy_bk [(.iinc 2 1, 0, 0, 1, 0), (.goto (-22), 0, 10, 0, 0)] (10, [some (.ref 53), some (.ref k), some (.int (l2 + 1))], [], σ) [] (by decide +kernel) rfl trivial ?_
    exact k1 c1
  · refine sy_bk [(.ifCond .ne 7, 0, 29, 0, 0)] (25, [some (.ref 53), some (.ref k), some (.int l2)], [], σ) [¬ sy_cc .ne v 0] (by decide +kernel) rfl ⟨c1, trivial⟩ ?_
    refine sy_bk [(.iload_n 2, 0, 0, 0, 0), (.iconst 1, 0, 0, 1, 0), (.isub, 0, 0, 0, 0)] (28, [some (.ref 53), some (.ref k), some (.int l2)], [.int (l2 - 1)], σ) [] (by decide +kernel) rfl trivial ?_
    exact sy_reti rfl (by decide +kernel) (k2 c1)

set_option maxRecDepth 20000 in
theorem w_x_unburnt_0 {Q : Option Value → sy_S → Prop} {σ : sy_S}    (k1 : sy_E shX mX2_unburnt (4, [some (.ref 53), some (.int 0), some (.int 0), none], [], σ) Q) : sy_E shX mX2_unburnt (0, sy_ent [.ref 53] 4, [], σ) Q := by
  show sy_E shX mX2_unburnt (0, [some (.ref 53), none, none, none], [], σ) _
  refine sy_bk [(.iconst 0, 0, 0, 0, 0), (.istore_n 1, 0, 0, 0, 0), (.iconst 0, 0, 0, 0, 0), (.istore_n 2, 0, 0, 0, 0)] (4, [some (.ref 53), some (.int 0), some (.int 0), none], [], σ) [] (by decide +kernel) rfl trivial ?_
  exact k1

set_option maxRecDepth 20000 in
theorem w_x_unburnt_4 {Q : Option Value → sy_S → Prop} {σ : sy_S} {l1 : Int32} {l2 : Int32}  (b1 : ¬ ((σ.1 0 7) ≤ l2) → vp_in l2 16) (b2 : ¬ ((σ.1 0 7) ≤ l2) → vp_in (σ.1 2 l2.toNatClampNeg) 16) (k1 : (σ.1 0 7) ≤ l2 → Q (some (.int l1)) σ) (k2 : ¬ ((σ.1 0 7) ≤ l2) → ¬ (σ.1 54 ((σ.1 2 l2.toNatClampNeg).toNatClampNeg)) = 0 → sy_E shX mX2_unburnt (4, [some (.ref 53), some (.int l1), some (.int (l2 + 1)), none], [], σ) Q) (k3 : ¬ ((σ.1 0 7) ≤ l2) → ¬ (¬ (σ.1 54 ((σ.1 2 l2.toNatClampNeg).toNatClampNeg)) = 0) → sy_E shX mX2_unburnt (4, [some (.ref 53), some (.int (l1 ||| (1 <<< ((σ.1 2 l2.toNatClampNeg) &&& 31)))), some (.int (l2 + 1)), none], [], σ) Q) : sy_E shX mX2_unburnt (4, [some (.ref 53), some (.int l1), some (.int l2), none], [], σ) Q := by
  refine sy_bk [(.iload_n 2, 0, 0, 0, 0), (.aload_n 0, 0, 0, 0, 0), (.getfield 15, 2, 0, 0, 0)] (9, [some (.ref 53), some (.int l1), some (.int l2), none], [.ref 0, .int l2], σ) [] (by decide +kernel) rfl trivial ?_
  refine sy_callV mX3_placeCount 0 [] [.int l2] kX3_placeCount jX2_29 (by decide +kernel) rfl rfl (Nat.le_of_ble_eq_true rfl) (Nat.le_of_ble_eq_true rfl) (by decide) rfl ?_
  refine w_x_placeCount (σ := σ) ?_
  show sy_E shX mX2_unburnt (12, [some (.ref 53), some (.int l1), some (.int l2), none], [.int (σ.1 0 7), .int l2], σ) _
  by_cases c1 : (σ.1 0 7) ≤ l2
  · refine sy_bk [(.if_icmp .ge 33, 1, 45, 0, 0)] (45, [some (.ref 53), some (.int l1), some (.int l2), none], [], σ) [sy_cc .ge l2 (σ.1 0 7)] (by decide +kernel) rfl ⟨c1, trivial⟩ ?_
    refine sy_bk [(.iload_n 1, 0, 0, 0, 0)] (46, [some (.ref 53), some (.int l1), some (.int l2), none], [.int l1], σ) [] (by decide +kernel) rfl trivial ?_
    exact sy_reti rfl (by decide +kernel) (k1 c1)
  · refine sy_bk [(.if_icmp .ge 33, 0, 45, 0, 0)] (15, [some (.ref 53), some (.int l1), some (.int l2), none], [], σ) [¬ sy_cc .ge l2 (σ.1 0 7)] (by decide +kernel) rfl ⟨c1, trivial⟩ ?_
    refine sy_bk [(.aload_n 0, 0, 0, 0, 0), (.getfield 15, 2, 0, 0, 0), (.iload_n 2, 0, 0, 0, 0)] (20, [some (.ref 53), some (.int l1), some (.int l2), none], [.int l2, .ref 0], σ) [] (by decide +kernel) rfl trivial ?_
    refine sy_callV mX3_placeAt 0 [.int l2] [] kX3_placeAt jX2_35 (by decide +kernel) rfl rfl (Nat.le_of_ble_eq_true rfl) (Nat.le_of_ble_eq_true rfl) (by decide) rfl ?_
    refine w_x_placeAt (σ := σ) (cell := l2) (b1 c1) ?_
    show sy_E shX mX2_unburnt (23, [some (.ref 53), some (.int l1), some (.int l2), none], [.int (σ.1 2 l2.toNatClampNeg)], σ) _
    refine sy_bk [(.istore_n 3, 0, 0, 0, 0), (.aload_n 0, 0, 0, 0, 0), (.getfield 9, 2, 1, 0, 0), (.iload_n 3, 0, 0, 0, 0), (.iaload, 0, 0, 0, 0)] (30, [some (.ref 53), some (.int l1), some (.int l2), some (.int (σ.1 2 l2.toNatClampNeg))], [.int (σ.1 54 ((σ.1 2 l2.toNatClampNeg).toNatClampNeg))], σ) [sy_okA shX 0 54 (σ.1 2 l2.toNatClampNeg)] (by decide +kernel) rfl ⟨⟨16, _, rfl, (b2 c1)⟩, trivial⟩ ?_
    by_cases c2 : ¬ (σ.1 54 ((σ.1 2 l2.toNatClampNeg).toNatClampNeg)) = 0
    · refine sy_bk [(.ifCond .ne 9, 1, 39, 0, 0)] (39, [some (.ref 53), some (.int l1), some (.int l2), some (.int (σ.1 2 l2.toNatClampNeg))], [], σ) [sy_cc .ne (σ.1 54 ((σ.1 2 l2.toNatClampNeg).toNatClampNeg)) 0] (by decide +kernel) rfl ⟨c2, trivial⟩ ?_
      refine sy_bk [(.iinc 2 1, 0, 0, 1, 0), (.goto (-38), 0, 4, 0, 0)] (4, [some (.ref 53), some (.int l1), some (.int (l2 + 1)), some (.int (σ.1 2 l2.toNatClampNeg))], [], σ) [] (by decide +kernel) rfl trivial ?_
      refine sy_drop [some (.ref 53), some (.int l1), some (.int (l2 + 1)), none] ⟨rfl, rfl, rfl, trivial⟩ ?_
      exact k2 c1 c2
    · refine sy_bk [(.ifCond .ne 9, 0, 39, 0, 0)] (33, [some (.ref 53), some (.int l1), some (.int l2), some (.int (σ.1 2 l2.toNatClampNeg))], [], σ) [¬ sy_cc .ne (σ.1 54 ((σ.1 2 l2.toNatClampNeg).toNatClampNeg)) 0] (by decide +kernel) rfl ⟨c2, trivial⟩ ?_
      refine sy_bk [(.iload_n 1, 0, 0, 0, 0), (.iconst 1, 0, 0, 1, 0), (.iload_n 3, 0, 0, 0, 0), (.ishl, 0, 0, 0, 0), (.ior, 0, 0, 0, 0), (.istore_n 1, 0, 0, 0, 0), (.iinc 2 1, 0, 0, 1, 0), (.goto (-38), 0, 4, 0, 0)] (4, [some (.ref 53), some (.int (l1 ||| (1 <<< ((σ.1 2 l2.toNatClampNeg) &&& 31)))), some (.int (l2 + 1)), some (.int (σ.1 2 l2.toNatClampNeg))], [], σ) [] (by decide +kernel) rfl trivial ?_
      refine sy_drop [some (.ref 53), some (.int (l1 ||| (1 <<< ((σ.1 2 l2.toNatClampNeg) &&& 31)))), some (.int (l2 + 1)), none] ⟨rfl, rfl, rfl, trivial⟩ ?_
      exact k3 c1 c2
