/-! walks of SandGroup's own methods (by program: wip/whole/gen/p61.py) -/
set_option maxRecDepth 20000 in
theorem w_X_pile_0 {Q : Option Value → sy_S → Prop} {σ : sy_S} {p : Int32} {cell : Int32} {G : sg_G}  (b1 : ∀ (m_1 : Nat), px p6 p = some m_1 → gx G σ.1) (k1 : ∀ (m_1 : Nat), px p6 p = some m_1 → ∀ (m_3 : Nat), px (sg_p G) cell = some m_3 → sy_E shX mX11_pile (24, [some (.ref 6), some (.int p), some (.int cell)], [], σ) Q) (k2 : ∀ (m_1 : Nat), px p6 p = some m_1 → px (sg_p G) cell = none → Q (some (.int (-1))) σ) (k3 : px p6 p = none → Q (some (.int (-1))) σ) : sy_E shX mX11_pile (0, sy_ent [.ref 6, .int p, .int cell] 3, [], σ) Q := by
  show sy_E shX mX11_pile (0, [some (.ref 6), some (.int p), some (.int cell)], [], σ) _
  refine sy_bk [(.aload_n 0, 0, 0, 0, 0), (.getfield 41, 11, 4, 0, 0), (.iload_n 1, 0, 0, 0, 0)] (5, [some (.ref 6), some (.int p), some (.int cell)], [.int p, .ref 23], σ) [] (by decide +kernel) rfl trivial ?_
  refine sy_callV mX7_has 23 [.int p] [] kX7_has jX11_210 (by decide +kernel) rfl rfl (Nat.le_of_ble_eq_true rfl) (Nat.le_of_ble_eq_true rfl) (by decide) rfl ?_
  refine e_pl_has (σ := σ) (i := p) ?_ ?_
  · intro m_1 c2
    show sy_E shX mX11_pile (8, [some (.ref 6), some (.int p), some (.int cell)], [.int 1], σ) _
    refine sy_bk [(.ifCond .eq 14, 0, 22, 0, 0), (.aload_n 0, 0, 0, 0, 0), (.getfield 16, 11, 0, 0, 0), (.iload_n 2, 0, 0, 0, 0)] (16, [some (.ref 6), some (.int p), some (.int cell)], [.int cell, .ref 0], σ) [¬ sy_cc .eq 1 0] (by decide +kernel) rfl ⟨(by decide : ¬ ((1 : Int32) = 0)), trivial⟩ ?_
    refine sy_callV mX3_isPlace 0 [.int cell] [] kX3_isPlace jX11_127 (by decide +kernel) rfl rfl (Nat.le_of_ble_eq_true rfl) (Nat.le_of_ble_eq_true rfl) (by decide) rfl ?_
    refine e_x_isPl (σ := σ) (cell := cell) (b1 m_1 c2) ?_ ?_
    · intro m_3 c4
      show sy_E shX mX11_pile (19, [some (.ref 6), some (.int p), some (.int cell)], [.int 1], σ) _
      refine sy_bk [(.ifCond .ne 5, 1, 24, 0, 0)] (24, [some (.ref 6), some (.int p), some (.int cell)], [], σ) [sy_cc .ne 1 0] (by decide +kernel) rfl ⟨(by decide : (¬ (1 : Int32) = 0)), trivial⟩ ?_
      exact k1 m_1 c2 m_3 c4
    · intro c5
      show sy_E shX mX11_pile (19, [some (.ref 6), some (.int p), some (.int cell)], [.int 0], σ) _
      refine sy_bk [(.ifCond .ne 5, 0, 24, 0, 0), (.iconst (-1), 0, 0, (-1), 0)] (23, [some (.ref 6), some (.int p), some (.int cell)], [.int (-1)], σ) [¬ sy_cc .ne 0 0] (by decide +kernel) rfl ⟨(by decide : ¬ (¬ (0 : Int32) = 0)), trivial⟩ ?_
      exact sy_reti rfl (by decide +kernel) (k2 m_1 c2 c5)
  · intro c6
    show sy_E shX mX11_pile (8, [some (.ref 6), some (.int p), some (.int cell)], [.int 0], σ) _
    refine sy_bk [(.ifCond .eq 14, 1, 22, 0, 0), (.iconst (-1), 0, 0, (-1), 0)] (23, [some (.ref 6), some (.int p), some (.int cell)], [.int (-1)], σ) [sy_cc .eq 0 0] (by decide +kernel) rfl ⟨(by decide : ((0 : Int32) = 0)), trivial⟩ ?_
    exact sy_reti rfl (by decide +kernel) (k3 c6)

set_option maxRecDepth 20000 in
theorem w_X_pile_24 {Q : Option Value → sy_S → Prop} {σ : sy_S} {l1 : Int32} {l2 : Int32} (hk0 : shX[sy_rf shX 24 l1.toNatClampNeg]? = some (0, 16, [])) (b1 : vp_in l1 6) (b2 : ¬ ((σ.1 31 l1.toNatClampNeg) < 0) → sy_okR shX 24 l1) (b3 : ¬ ((σ.1 31 l1.toNatClampNeg) < 0) → vp_in l2 16) (k1 : (σ.1 31 l1.toNatClampNeg) < 0 → Q (some (.int (-6))) σ) (k2 : ¬ ((σ.1 31 l1.toNatClampNeg) < 0) → Q (some (.int (σ.1 (sy_rf shX 24 l1.toNatClampNeg) l2.toNatClampNeg))) σ) : sy_E shX mX11_pile (24, [some (.ref 6), some (.int l1), some (.int l2)], [], σ) Q := by
  refine sy_bk [(.aload_n 0, 0, 0, 0, 0), (.getfield 41, 11, 4, 0, 0), (.iload_n 1, 0, 0, 0, 0)] (29, [some (.ref 6), some (.int l1), some (.int l2)], [.int l1, .ref 23], σ) [] (by decide +kernel) rfl trivial ?_
  refine sy_callV mX7_holds 23 [.int l1] [] kX7_holds jX11_217 (by decide +kernel) rfl rfl (Nat.le_of_ble_eq_true rfl) (Nat.le_of_ble_eq_true rfl) (by decide) rfl ?_
  refine w_pl_holds (σ := σ) (i := l1) b1 ?_ ?_
  · intro c1
    show sy_E shX mX11_pile (32, [some (.ref 6), some (.int l1), some (.int l2)], [.int 0], σ) _
    refine sy_bk [(.ifCond .eq 16, 1, 48, 0, 0), (.bipush (-6), 0, 0, (-6), 0)] (50, [some (.ref 6), some (.int l1), some (.int l2)], [.int (-6)], σ) [sy_cc .eq 0 0] (by decide +kernel) rfl ⟨(by decide : ((0 : Int32) = 0)), trivial⟩ ?_
    exact sy_reti rfl (by decide +kernel) (k1 c1)
  · intro c2
    show sy_E shX mX11_pile (32, [some (.ref 6), some (.int l1), some (.int l2)], [.int 1], σ) _
    refine sy_bk [(.ifCond .eq 16, 0, 48, 0, 0), (.aload_n 0, 0, 0, 0, 0), (.getfield 41, 11, 4, 0, 0), (.iload_n 1, 0, 0, 0, 0)] (40, [some (.ref 6), some (.int l1), some (.int l2)], [.int l1, .ref 23], σ) [¬ sy_cc .eq 1 0] (by decide +kernel) rfl ⟨(by decide : ¬ ((1 : Int32) = 0)), trivial⟩ ?_
    refine sy_callV mX7_rowAt 23 [.int l1] [] kX7_rowAt jX11_220 (by decide +kernel) rfl rfl (Nat.le_of_ble_eq_true rfl) (Nat.le_of_ble_eq_true rfl) (by decide) rfl ?_
    refine w_pl_rowAt (σ := σ) (i := l1) (b2 c2) ?_
    show sy_E shX mX11_pile (43, [some (.ref 6), some (.int l1), some (.int l2)], [.ref (sy_rf shX 24 l1.toNatClampNeg)], σ) _
    refine sy_bk [(.iload_n 2, 0, 0, 0, 0), (.iaload, 0, 0, 0, 0), (.goto 5, 0, 50, 0, 0)] (50, [some (.ref 6), some (.int l1), some (.int l2)], [.int (σ.1 (sy_rf shX 24 l1.toNatClampNeg) l2.toNatClampNeg)], σ) [sy_okA shX 0 (sy_rf shX 24 l1.toNatClampNeg) l2] (by decide +kernel) rfl ⟨⟨16, _, hk0, (b3 c2)⟩, trivial⟩ ?_
    exact sy_reti rfl (by decide +kernel) (k2 c2)

set_option maxRecDepth 20000 in
theorem w_X_sum_0 {Q : Option Value → sy_S → Prop} {σ : sy_S} {p : Int32} {a : Int32} {b : Int32}  (b1 : ∀ (m_1 : Nat), px p6 p = some m_1 → ∀ (m_3 : Nat), px p6 a = some m_3 → ∀ (m_5 : Nat), px p6 b = some m_5 → vp_in a 6) (b2 : ∀ (m_1 : Nat), px p6 p = some m_1 → ∀ (m_3 : Nat), px p6 a = some m_3 → ∀ (m_5 : Nat), px p6 b = some m_5 → ¬ ((σ.1 31 a.toNatClampNeg) < 0) → vp_in b 6) (b3 : ∀ (m_1 : Nat), px p6 p = some m_1 → ∀ (m_3 : Nat), px p6 a = some m_3 → ∀ (m_5 : Nat), px p6 b = some m_5 → ¬ ((σ.1 31 a.toNatClampNeg) < 0) → ¬ ((σ.1 31 b.toNatClampNeg) < 0) → sy_okR shX 24 a) (b4 : ∀ (m_1 : Nat), px p6 p = some m_1 → ∀ (m_3 : Nat), px p6 a = some m_3 → ∀ (m_5 : Nat), px p6 b = some m_5 → ¬ ((σ.1 31 a.toNatClampNeg) < 0) → ¬ ((σ.1 31 b.toNatClampNeg) < 0) → sy_okR shX 24 b) (k1 : ∀ (m_1 : Nat), px p6 p = some m_1 → ∀ (m_3 : Nat), px p6 a = some m_3 → ∀ (m_5 : Nat), px p6 b = some m_5 → (σ.1 31 a.toNatClampNeg) < 0 → Q (some (.int (-6))) σ) (k2 : ∀ (m_1 : Nat), px p6 p = some m_1 → ∀ (m_3 : Nat), px p6 a = some m_3 → ∀ (m_5 : Nat), px p6 b = some m_5 → ¬ ((σ.1 31 a.toNatClampNeg) < 0) → (σ.1 31 b.toNatClampNeg) < 0 → Q (some (.int (-6))) σ) (k3 : ∀ (m_1 : Nat), px p6 p = some m_1 → ∀ (m_3 : Nat), px p6 a = some m_3 → ∀ (m_5 : Nat), px p6 b = some m_5 → ¬ ((σ.1 31 a.toNatClampNeg) < 0) → ¬ ((σ.1 31 b.toNatClampNeg) < 0) → sy_E shX mX8_add (0, sy_ent [.ref 48, .ref (sy_rf shX 24 a.toNatClampNeg), .ref (sy_rf shX 24 b.toNatClampNeg)] 4, [], σ) (fun r9 σ9 => sy_E shX mX11_sum (83, [some (.ref 6), some (.int p), none, none, none], r9.toList ++ [], σ9) Q)) (k4 : ∀ (m_1 : Nat), px p6 p = some m_1 → ∀ (m_3 : Nat), px p6 a = some m_3 → px p6 b = none → Q (some (.int (-1))) σ) (k5 : ∀ (m_1 : Nat), px p6 p = some m_1 → px p6 a = none → Q (some (.int (-1))) σ) (k6 : px p6 p = none → Q (some (.int (-1))) σ) : sy_E shX mX11_sum (0, sy_ent [.ref 6, .int p, .int a, .int b] 5, [], σ) Q := by
  show sy_E shX mX11_sum (0, [some (.ref 6), some (.int p), some (.int a), some (.int b), none], [], σ) _
  refine sy_bk [(.aload_n 0, 0, 0, 0, 0), (.getfield 41, 11, 4, 0, 0), (.iload_n 1, 0, 0, 0, 0)] (5, [some (.ref 6), some (.int p), some (.int a), some (.int b), none], [.int p, .ref 23], σ) [] (by decide +kernel) rfl trivial ?_
  refine sy_callV mX7_has 23 [.int p] [] kX7_has jX11_210 (by decide +kernel) rfl rfl (Nat.le_of_ble_eq_true rfl) (Nat.le_of_ble_eq_true rfl) (by decide) rfl ?_
  refine e_pl_has (σ := σ) (i := p) ?_ ?_
  · intro m_1 c2
    show sy_E shX mX11_sum (8, [some (.ref 6), some (.int p), some (.int a), some (.int b), none], [.int 1], σ) _
    refine sy_bk [(.ifCond .eq 25, 0, 33, 0, 0), (.aload_n 0, 0, 0, 0, 0), (.getfield 41, 11, 4, 0, 0), (.iload_n 2, 0, 0, 0, 0)] (16, [some (.ref 6), some (.int p), some (.int a), some (.int b), none], [.int a, .ref 23], σ) [¬ sy_cc .eq 1 0] (by decide +kernel) rfl ⟨(by decide : ¬ ((1 : Int32) = 0)), trivial⟩ ?_
    refine sy_callV mX7_has 23 [.int a] [] kX7_has jX11_210 (by decide +kernel) rfl rfl (Nat.le_of_ble_eq_true rfl) (Nat.le_of_ble_eq_true rfl) (by decide) rfl ?_
    refine e_pl_has (σ := σ) (i := a) ?_ ?_
    · intro m_3 c4
      show sy_E shX mX11_sum (19, [some (.ref 6), some (.int p), some (.int a), some (.int b), none], [.int 1], σ) _
      refine sy_bk [(.ifCond .eq 14, 0, 33, 0, 0), (.aload_n 0, 0, 0, 0, 0), (.getfield 41, 11, 4, 0, 0), (.iload_n 3, 0, 0, 0, 0)] (27, [some (.ref 6), some (.int p), some (.int a), some (.int b), none], [.int b, .ref 23], σ) [¬ sy_cc .eq 1 0] (by decide +kernel) rfl ⟨(by decide : ¬ ((1 : Int32) = 0)), trivial⟩ ?_
      refine sy_callV mX7_has 23 [.int b] [] kX7_has jX11_210 (by decide +kernel) rfl rfl (Nat.le_of_ble_eq_true rfl) (Nat.le_of_ble_eq_true rfl) (by decide) rfl ?_
      refine e_pl_has (σ := σ) (i := b) ?_ ?_
      · intro m_5 c6
        show sy_E shX mX11_sum (30, [some (.ref 6), some (.int p), some (.int a), some (.int b), none], [.int 1], σ) _
        refine sy_bk [(.ifCond .ne 5, 1, 35, 0, 0), (.aload_n 0, 0, 0, 0, 0), (.getfield 41, 11, 4, 0, 0), (.iload_n 2, 0, 0, 0, 0)] (40, [some (.ref 6), some (.int p), some (.int a), some (.int b), none], [.int a, .ref 23], σ) [sy_cc .ne 1 0] (by decide +kernel) rfl ⟨(by decide : (¬ (1 : Int32) = 0)), trivial⟩ ?_
        refine sy_callV mX7_holds 23 [.int a] [] kX7_holds jX11_217 (by decide +kernel) rfl rfl (Nat.le_of_ble_eq_true rfl) (Nat.le_of_ble_eq_true rfl) (by decide) rfl ?_
        refine w_pl_holds (σ := σ) (i := a) (b1 m_1 c2 m_3 c4 m_5 c6) ?_ ?_
        · intro c7
          show sy_E shX mX11_sum (43, [some (.ref 6), some (.int p), some (.int a), some (.int b), none], [.int 0], σ) _
          refine sy_bk [(.ifCond .eq 14, 1, 57, 0, 0), (.bipush (-6), 0, 0, (-6), 0)] (59, [some (.ref 6), some (.int p), some (.int a), some (.int b), none], [.int (-6)], σ) [sy_cc .eq 0 0] (by decide +kernel) rfl ⟨(by decide : ((0 : Int32) = 0)), trivial⟩ ?_
          exact sy_reti rfl (by decide +kernel) (k1 m_1 c2 m_3 c4 m_5 c6 c7)
        · intro c8
          show sy_E shX mX11_sum (43, [some (.ref 6), some (.int p), some (.int a), some (.int b), none], [.int 1], σ) _
          refine sy_bk [(.ifCond .eq 14, 0, 57, 0, 0), (.aload_n 0, 0, 0, 0, 0), (.getfield 41, 11, 4, 0, 0), (.iload_n 3, 0, 0, 0, 0)] (51, [some (.ref 6), some (.int p), some (.int a), some (.int b), none], [.int b, .ref 23], σ) [¬ sy_cc .eq 1 0] (by decide +kernel) rfl ⟨(by decide : ¬ ((1 : Int32) = 0)), trivial⟩ ?_
          refine sy_callV mX7_holds 23 [.int b] [] kX7_holds jX11_217 (by decide +kernel) rfl rfl (Nat.le_of_ble_eq_true rfl) (Nat.le_of_ble_eq_true rfl) (by decide) rfl ?_
          refine w_pl_holds (σ := σ) (i := b) (b2 m_1 c2 m_3 c4 m_5 c6 c8) ?_ ?_
          · intro c9
            show sy_E shX mX11_sum (54, [some (.ref 6), some (.int p), some (.int a), some (.int b), none], [.int 0], σ) _
            refine sy_bk [(.ifCond .ne 6, 0, 60, 0, 0), (.bipush (-6), 0, 0, (-6), 0)] (59, [some (.ref 6), some (.int p), some (.int a), some (.int b), none], [.int (-6)], σ) [¬ sy_cc .ne 0 0] (by decide +kernel) rfl ⟨(by decide : ¬ (¬ (0 : Int32) = 0)), trivial⟩ ?_
            exact sy_reti rfl (by decide +kernel) (k2 m_1 c2 m_3 c4 m_5 c6 c8 c9)
          · intro c10
            show sy_E shX mX11_sum (54, [some (.ref 6), some (.int p), some (.int a), some (.int b), none], [.int 1], σ) _
            refine sy_bk [(.ifCond .ne 6, 1, 60, 0, 0), (.aload_n 0, 0, 0, 0, 0), (.getfield 72, 11, 9, 0, 0), (.aload_n 0, 0, 0, 0, 0), (.getfield 41, 11, 4, 0, 0), (.iload_n 2, 0, 0, 0, 0)] (69, [some (.ref 6), some (.int p), some (.int a), some (.int b), none], [.int a, .ref 23, .ref 48], σ) [sy_cc .ne 1 0] (by decide +kernel) rfl ⟨(by decide : (¬ (1 : Int32) = 0)), trivial⟩ ?_
            refine sy_callV mX7_rowAt 23 [.int a] [.ref 48] kX7_rowAt jX11_220 (by decide +kernel) rfl rfl (Nat.le_of_ble_eq_true rfl) (Nat.le_of_ble_eq_true rfl) (by decide) rfl ?_
            refine w_pl_rowAt (σ := σ) (i := a) (b3 m_1 c2 m_3 c4 m_5 c6 c8 c10) ?_
            show sy_E shX mX11_sum (72, [some (.ref 6), some (.int p), some (.int a), some (.int b), none], [.ref (sy_rf shX 24 a.toNatClampNeg), .ref 48], σ) _
            refine sy_bk [(.aload_n 0, 0, 0, 0, 0), (.getfield 41, 11, 4, 0, 0), (.iload_n 3, 0, 0, 0, 0)] (77, [some (.ref 6), some (.int p), some (.int a), some (.int b), none], [.int b, .ref 23, .ref (sy_rf shX 24 a.toNatClampNeg), .ref 48], σ) [] (by decide +kernel) rfl trivial ?_
            refine sy_callV mX7_rowAt 23 [.int b] [.ref (sy_rf shX 24 a.toNatClampNeg), .ref 48] kX7_rowAt jX11_220 (by decide +kernel) rfl rfl (Nat.le_of_ble_eq_true rfl) (Nat.le_of_ble_eq_true rfl) (by decide) rfl ?_
            refine w_pl_rowAt (σ := σ) (i := b) (b4 m_1 c2 m_3 c4 m_5 c6 c8 c10) ?_
            show sy_E shX mX11_sum (80, [some (.ref 6), some (.int p), some (.int a), some (.int b), none], [.ref (sy_rf shX 24 b.toNatClampNeg), .ref (sy_rf shX 24 a.toNatClampNeg), .ref 48], σ) _
            refine sy_drop [some (.ref 6), some (.int p), none, none, none] ⟨rfl, rfl, trivial⟩ ?_
            refine sy_callV mX8_add 48 [.ref (sy_rf shX 24 a.toNatClampNeg), .ref (sy_rf shX 24 b.toNatClampNeg)] [] kX8_add jX11_234 (by decide +kernel) rfl rfl (Nat.le_of_ble_eq_true rfl) (Nat.le_of_ble_eq_true rfl) (by decide) rfl ?_
            exact k3 m_1 c2 m_3 c4 m_5 c6 c8 c10
      · intro c11
        show sy_E shX mX11_sum (30, [some (.ref 6), some (.int p), some (.int a), some (.int b), none], [.int 0], σ) _
        refine sy_bk [(.ifCond .ne 5, 0, 35, 0, 0), (.iconst (-1), 0, 0, (-1), 0)] (34, [some (.ref 6), some (.int p), some (.int a), some (.int b), none], [.int (-1)], σ) [¬ sy_cc .ne 0 0] (by decide +kernel) rfl ⟨(by decide : ¬ (¬ (0 : Int32) = 0)), trivial⟩ ?_
        exact sy_reti rfl (by decide +kernel) (k4 m_1 c2 m_3 c4 c11)
    · intro c12
      show sy_E shX mX11_sum (19, [some (.ref 6), some (.int p), some (.int a), some (.int b), none], [.int 0], σ) _
      refine sy_bk [(.ifCond .eq 14, 1, 33, 0, 0), (.iconst (-1), 0, 0, (-1), 0)] (34, [some (.ref 6), some (.int p), some (.int a), some (.int b), none], [.int (-1)], σ) [sy_cc .eq 0 0] (by decide +kernel) rfl ⟨(by decide : ((0 : Int32) = 0)), trivial⟩ ?_
      exact sy_reti rfl (by decide +kernel) (k5 m_1 c2 c12)
  · intro c13
    show sy_E shX mX11_sum (8, [some (.ref 6), some (.int p), some (.int a), some (.int b), none], [.int 0], σ) _
    refine sy_bk [(.ifCond .eq 25, 1, 33, 0, 0), (.iconst (-1), 0, 0, (-1), 0)] (34, [some (.ref 6), some (.int p), some (.int a), some (.int b), none], [.int (-1)], σ) [sy_cc .eq 0 0] (by decide +kernel) rfl ⟨(by decide : ((0 : Int32) = 0)), trivial⟩ ?_
    exact sy_reti rfl (by decide +kernel) (k6 c13)

set_option maxRecDepth 20000 in
theorem w_X_sum_83 {Q : Option Value → sy_S → Prop} {σ : sy_S} {l1 : Int32} {v : Int32}  (b1 : vp_in l1 6) (b2 : sy_okR shX 24 l1) (k1 : sy_E shX mX1_copyTo (0, sy_ent [.ref 39, .ref (sy_rf shX 24 l1.toNatClampNeg)] 2, [], (sy_up σ.1 31 l1.toNatClampNeg 16, σ.2)) (fun r9 σ9 => sy_E shX mX11_sum (102, [none, none, none, none, some (.int v)], r9.toList ++ [], σ9) Q)) : sy_E shX mX11_sum (83, [some (.ref 6), some (.int l1), none, none, none], [.int v], σ) Q := by
  refine sy_bk [(.istore 4, 0, 0, 0, 0), (.aload_n 0, 0, 0, 0, 0), (.getfield 53, 11, 6, 0, 0), (.aload_n 0, 0, 0, 0, 0), (.getfield 41, 11, 4, 0, 0), (.iload_n 1, 0, 0, 0, 0), (.bipush 16, 0, 0, 16, 0)] (96, [some (.ref 6), some (.int l1), none, none, some (.int v)], [.int 16, .int l1, .ref 23, .ref 39], σ) [] (by decide +kernel) rfl trivial ?_
  refine sy_callV mX7_hold 23 [.int l1, .int 16] [.ref 39] kX7_hold jX11_213 (by decide +kernel) rfl rfl (Nat.le_of_ble_eq_true rfl) (Nat.le_of_ble_eq_true rfl) (by decide) rfl ?_
  refine w_pl_hold (σ := σ) (i := l1) (len := 16) b1 b2 ?_
  show sy_E shX mX11_sum (99, [some (.ref 6), some (.int l1), none, none, some (.int v)], [.ref (sy_rf shX 24 l1.toNatClampNeg), .ref 39], (sy_up σ.1 31 l1.toNatClampNeg 16, σ.2)) _
  refine sy_drop [none, none, none, none, some (.int v)] ⟨rfl, trivial⟩ ?_
  refine sy_callV mX1_copyTo 39 [.ref (sy_rf shX 24 l1.toNatClampNeg)] [] kX1_copyTo jX11_152 (by decide +kernel) rfl rfl (Nat.le_of_ble_eq_true rfl) (Nat.le_of_ble_eq_true rfl) (by decide) rfl ?_
  exact k1

set_option maxRecDepth 20000 in
theorem w_X_sum_102 {Q : Option Value → sy_S → Prop} {σ : sy_S} {l4 : Int32}   (k1 : Q (some (.int l4)) σ) : sy_E shX mX11_sum (102, [none, none, none, none, some (.int l4)], [], σ) Q := by
  refine sy_bk [(.iload 4, 0, 0, 0, 0)] (104, [none, none, none, none, some (.int l4)], [.int l4], σ) [] (by decide +kernel) rfl trivial ?_
  exact sy_reti rfl (by decide +kernel) (k1)

set_option maxRecDepth 20000 in
theorem w_X_nought_0 {Q : Option Value → sy_S → Prop} {σ : sy_S} {p : Int32}   (k1 : ∀ (m_1 : Nat), px p6 p = some m_1 → sy_E shX mX8_startAtNought (0, sy_ent [.ref 48] 1, [], σ) (fun r9 σ9 => sy_E shX mX11_nought (20, [some (.ref 6), some (.int p)], r9.toList ++ [], σ9) Q)) (k2 : px p6 p = none → Q (some (.int (-1))) σ) : sy_E shX mX11_nought (0, sy_ent [.ref 6, .int p] 2, [], σ) Q := by
  show sy_E shX mX11_nought (0, [some (.ref 6), some (.int p)], [], σ) _
  refine sy_bk [(.aload_n 0, 0, 0, 0, 0), (.getfield 41, 11, 4, 0, 0), (.iload_n 1, 0, 0, 0, 0)] (5, [some (.ref 6), some (.int p)], [.int p, .ref 23], σ) [] (by decide +kernel) rfl trivial ?_
  refine sy_callV mX7_has 23 [.int p] [] kX7_has jX11_210 (by decide +kernel) rfl rfl (Nat.le_of_ble_eq_true rfl) (Nat.le_of_ble_eq_true rfl) (by decide) rfl ?_
  refine e_pl_has (σ := σ) (i := p) ?_ ?_
  · intro m_1 c2
    show sy_E shX mX11_nought (8, [some (.ref 6), some (.int p)], [.int 1], σ) _
    refine sy_bk [(.ifCond .ne 5, 1, 13, 0, 0), (.aload_n 0, 0, 0, 0, 0), (.getfield 72, 11, 9, 0, 0)] (17, [some (.ref 6), some (.int p)], [.ref 48], σ) [sy_cc .ne 1 0] (by decide +kernel) rfl ⟨(by decide : (¬ (1 : Int32) = 0)), trivial⟩ ?_
    refine sy_callV mX8_startAtNought 48 [] [] kX8_startAtNought jX11_238 (by decide +kernel) rfl rfl (Nat.le_of_ble_eq_true rfl) (Nat.le_of_ble_eq_true rfl) (by decide) rfl ?_
    exact k1 m_1 c2
  · intro c3
    show sy_E shX mX11_nought (8, [some (.ref 6), some (.int p)], [.int 0], σ) _
    refine sy_bk [(.ifCond .ne 5, 0, 13, 0, 0), (.iconst (-1), 0, 0, (-1), 0)] (12, [some (.ref 6), some (.int p)], [.int (-1)], σ) [¬ sy_cc .ne 0 0] (by decide +kernel) rfl ⟨(by decide : ¬ (¬ (0 : Int32) = 0)), trivial⟩ ?_
    exact sy_reti rfl (by decide +kernel) (k2 c3)

set_option maxRecDepth 20000 in
theorem w_X_nought_20 {Q : Option Value → sy_S → Prop} {σ : sy_S} {l1 : Int32}   (k1 : sy_E shX mX11_holdResult (0, sy_ent [.ref 6, .int l1] 3, [], σ) (fun r9 σ9 => sy_E shX mX11_nought (25, [none, none], r9.toList ++ [], σ9) Q)) : sy_E shX mX11_nought (20, [some (.ref 6), some (.int l1)], [], σ) Q := by
  refine sy_bk [(.aload_n 0, 0, 0, 0, 0), (.iload_n 1, 0, 0, 0, 0)] (22, [some (.ref 6), some (.int l1)], [.int l1, .ref 6], σ) [] (by decide +kernel) rfl trivial ?_
  refine sy_drop [none, none] trivial ?_
  refine sy_callV mX11_holdResult 6 [.int l1] [] kX11_holdResult jX11_241 (by decide +kernel) rfl rfl (Nat.le_of_ble_eq_true rfl) (Nat.le_of_ble_eq_true rfl) (by decide) rfl ?_
  exact k1

set_option maxRecDepth 20000 in
theorem w_X_nought_25 {Q : Option Value → sy_S → Prop} {σ : sy_S} {v : Int32}   (k1 : Q (some (.int v)) σ) : sy_E shX mX11_nought (25, [none, none], [.int v], σ) Q := by
  exact sy_reti rfl (by decide +kernel) (k1)

set_option maxRecDepth 20000 in
theorem w_X_times_0 {Q : Option Value → sy_S → Prop} {σ : sy_S} {p : Int32} {a : Int32} {k : Int32}  (b1 : ∀ (m_1 : Nat), px p6 p = some m_1 → ∀ (m_3 : Nat), px p6 a = some m_3 → ¬ (k < 0) → k ≤ 1000000000 → vp_in a 6) (b2 : ∀ (m_1 : Nat), px p6 p = some m_1 → ∀ (m_3 : Nat), px p6 a = some m_3 → ¬ (k < 0) → k ≤ 1000000000 → ¬ ((σ.1 31 a.toNatClampNeg) < 0) → sy_okR shX 24 a) (k1 : ∀ (m_1 : Nat), px p6 p = some m_1 → ∀ (m_3 : Nat), px p6 a = some m_3 → k < 0 → Q (some (.int (-2))) σ) (k2 : ∀ (m_1 : Nat), px p6 p = some m_1 → ∀ (m_3 : Nat), px p6 a = some m_3 → ¬ (k < 0) → k ≤ 1000000000 → (σ.1 31 a.toNatClampNeg) < 0 → Q (some (.int (-6))) σ) (k3 : ∀ (m_1 : Nat), px p6 p = some m_1 → ∀ (m_3 : Nat), px p6 a = some m_3 → ¬ (k < 0) → k ≤ 1000000000 → ¬ ((σ.1 31 a.toNatClampNeg) < 0) → sy_E shX mX8_multiply (0, sy_ent [.ref 48, .ref (sy_rf shX 24 a.toNatClampNeg), .int k] 5, [], σ) (fun r9 σ9 => sy_E shX mX11_times (67, [some (.ref 6), some (.int p), none, none], r9.toList ++ [], σ9) Q)) (k4 : ∀ (m_1 : Nat), px p6 p = some m_1 → ∀ (m_3 : Nat), px p6 a = some m_3 → ¬ (k < 0) → ¬ (k ≤ 1000000000) → Q (some (.int (-2))) σ) (k5 : ∀ (m_1 : Nat), px p6 p = some m_1 → px p6 a = none → Q (some (.int (-1))) σ) (k6 : px p6 p = none → Q (some (.int (-1))) σ) : sy_E shX mX11_times (0, sy_ent [.ref 6, .int p, .int a, .int k] 4, [], σ) Q := by
  show sy_E shX mX11_times (0, [some (.ref 6), some (.int p), some (.int a), some (.int k)], [], σ) _
  refine sy_bk [(.aload_n 0, 0, 0, 0, 0), (.getfield 41, 11, 4, 0, 0), (.iload_n 1, 0, 0, 0, 0)] (5, [some (.ref 6), some (.int p), some (.int a), some (.int k)], [.int p, .ref 23], σ) [] (by decide +kernel) rfl trivial ?_
  refine sy_callV mX7_has 23 [.int p] [] kX7_has jX11_210 (by decide +kernel) rfl rfl (Nat.le_of_ble_eq_true rfl) (Nat.le_of_ble_eq_true rfl) (by decide) rfl ?_
  refine e_pl_has (σ := σ) (i := p) ?_ ?_
  · intro m_1 c2
    show sy_E shX mX11_times (8, [some (.ref 6), some (.int p), some (.int a), some (.int k)], [.int 1], σ) _
    refine sy_bk [(.ifCond .eq 14, 0, 22, 0, 0), (.aload_n 0, 0, 0, 0, 0), (.getfield 41, 11, 4, 0, 0), (.iload_n 2, 0, 0, 0, 0)] (16, [some (.ref 6), some (.int p), some (.int a), some (.int k)], [.int a, .ref 23], σ) [¬ sy_cc .eq 1 0] (by decide +kernel) rfl ⟨(by decide : ¬ ((1 : Int32) = 0)), trivial⟩ ?_
    refine sy_callV mX7_has 23 [.int a] [] kX7_has jX11_210 (by decide +kernel) rfl rfl (Nat.le_of_ble_eq_true rfl) (Nat.le_of_ble_eq_true rfl) (by decide) rfl ?_
    refine e_pl_has (σ := σ) (i := a) ?_ ?_
    · intro m_3 c4
      show sy_E shX mX11_times (19, [some (.ref 6), some (.int p), some (.int a), some (.int k)], [.int 1], σ) _
      refine sy_bk [(.ifCond .ne 5, 1, 24, 0, 0), (.iload_n 3, 0, 0, 0, 0)] (25, [some (.ref 6), some (.int p), some (.int a), some (.int k)], [.int k], σ) [sy_cc .ne 1 0] (by decide +kernel) rfl ⟨(by decide : (¬ (1 : Int32) = 0)), trivial⟩ ?_
      by_cases c5 : k < 0
      · refine sy_bk [(.ifCond .lt 9, 1, 34, 0, 0)] (34, [some (.ref 6), some (.int p), some (.int a), some (.int k)], [], σ) [sy_cc .lt k 0] (by decide +kernel) rfl ⟨c5, trivial⟩ ?_
        refine sy_bk [(.bipush (-2), 0, 0, (-2), 0)] (36, [some (.ref 6), some (.int p), some (.int a), some (.int k)], [.int (-2)], σ) [] (by decide +kernel) rfl trivial ?_
        exact sy_reti rfl (by decide +kernel) (k1 m_1 c2 m_3 c4 c5)
      · refine sy_bk [(.ifCond .lt 9, 0, 34, 0, 0)] (28, [some (.ref 6), some (.int p), some (.int a), some (.int k)], [], σ) [¬ sy_cc .lt k 0] (by decide +kernel) rfl ⟨c5, trivial⟩ ?_
        refine sy_bk [(.iload_n 3, 0, 0, 0, 0), (.ldc 244, 0, 0, 1000000000, 0)] (31, [some (.ref 6), some (.int p), some (.int a), some (.int k)], [.int 1000000000, .int k], σ) [] (by decide +kernel) rfl trivial ?_
        by_cases c6 : k ≤ 1000000000
        · refine sy_bk [(.if_icmp .le 6, 1, 37, 0, 0)] (37, [some (.ref 6), some (.int p), some (.int a), some (.int k)], [], σ) [sy_cc .le k 1000000000] (by decide +kernel) rfl ⟨c6, trivial⟩ ?_
          refine sy_bk [(.aload_n 0, 0, 0, 0, 0), (.getfield 41, 11, 4, 0, 0), (.iload_n 2, 0, 0, 0, 0)] (42, [some (.ref 6), some (.int p), some (.int a), some (.int k)], [.int a, .ref 23], σ) [] (by decide +kernel) rfl trivial ?_
          refine sy_callV mX7_holds 23 [.int a] [] kX7_holds jX11_217 (by decide +kernel) rfl rfl (Nat.le_of_ble_eq_true rfl) (Nat.le_of_ble_eq_true rfl) (by decide) rfl ?_
          refine w_pl_holds (σ := σ) (i := a) (b1 m_1 c2 m_3 c4 c5 c6) ?_ ?_
          · intro c7
            show sy_E shX mX11_times (45, [some (.ref 6), some (.int p), some (.int a), some (.int k)], [.int 0], σ) _
            refine sy_bk [(.ifCond .ne 6, 0, 51, 0, 0), (.bipush (-6), 0, 0, (-6), 0)] (50, [some (.ref 6), some (.int p), some (.int a), some (.int k)], [.int (-6)], σ) [¬ sy_cc .ne 0 0] (by decide +kernel) rfl ⟨(by decide : ¬ (¬ (0 : Int32) = 0)), trivial⟩ ?_
            exact sy_reti rfl (by decide +kernel) (k2 m_1 c2 m_3 c4 c5 c6 c7)
          · intro c8
            show sy_E shX mX11_times (45, [some (.ref 6), some (.int p), some (.int a), some (.int k)], [.int 1], σ) _
            refine sy_bk [(.ifCond .ne 6, 1, 51, 0, 0), (.aload_n 0, 0, 0, 0, 0), (.getfield 72, 11, 9, 0, 0), (.aload_n 0, 0, 0, 0, 0), (.getfield 41, 11, 4, 0, 0), (.iload_n 2, 0, 0, 0, 0)] (60, [some (.ref 6), some (.int p), some (.int a), some (.int k)], [.int a, .ref 23, .ref 48], σ) [sy_cc .ne 1 0] (by decide +kernel) rfl ⟨(by decide : (¬ (1 : Int32) = 0)), trivial⟩ ?_
            refine sy_callV mX7_rowAt 23 [.int a] [.ref 48] kX7_rowAt jX11_220 (by decide +kernel) rfl rfl (Nat.le_of_ble_eq_true rfl) (Nat.le_of_ble_eq_true rfl) (by decide) rfl ?_
            refine w_pl_rowAt (σ := σ) (i := a) (b2 m_1 c2 m_3 c4 c5 c6 c8) ?_
            show sy_E shX mX11_times (63, [some (.ref 6), some (.int p), some (.int a), some (.int k)], [.ref (sy_rf shX 24 a.toNatClampNeg), .ref 48], σ) _
            refine sy_bk [(.iload_n 3, 0, 0, 0, 0)] (64, [some (.ref 6), some (.int p), some (.int a), some (.int k)], [.int k, .ref (sy_rf shX 24 a.toNatClampNeg), .ref 48], σ) [] (by decide +kernel) rfl trivial ?_
            refine sy_drop [some (.ref 6), some (.int p), none, none] ⟨rfl, rfl, trivial⟩ ?_
            refine sy_callV mX8_multiply 48 [.ref (sy_rf shX 24 a.toNatClampNeg), .int k] [] kX8_multiply jX11_245 (by decide +kernel) rfl rfl (Nat.le_of_ble_eq_true rfl) (Nat.le_of_ble_eq_true rfl) (by decide) rfl ?_
            exact k3 m_1 c2 m_3 c4 c5 c6 c8
        · refine sy_bk [(.if_icmp .le 6, 0, 37, 0, 0)] (34, [some (.ref 6), some (.int p), some (.int a), some (.int k)], [], σ) [¬ sy_cc .le k 1000000000] (by decide +kernel) rfl ⟨c6, trivial⟩ ?_
          refine sy_bk [(.bipush (-2), 0, 0, (-2), 0)] (36, [some (.ref 6), some (.int p), some (.int a), some (.int k)], [.int (-2)], σ) [] (by decide +kernel) rfl trivial ?_
          exact sy_reti rfl (by decide +kernel) (k4 m_1 c2 m_3 c4 c5 c6)
    · intro c9
      show sy_E shX mX11_times (19, [some (.ref 6), some (.int p), some (.int a), some (.int k)], [.int 0], σ) _
      refine sy_bk [(.ifCond .ne 5, 0, 24, 0, 0), (.iconst (-1), 0, 0, (-1), 0)] (23, [some (.ref 6), some (.int p), some (.int a), some (.int k)], [.int (-1)], σ) [¬ sy_cc .ne 0 0] (by decide +kernel) rfl ⟨(by decide : ¬ (¬ (0 : Int32) = 0)), trivial⟩ ?_
      exact sy_reti rfl (by decide +kernel) (k5 m_1 c2 c9)
  · intro c10
    show sy_E shX mX11_times (8, [some (.ref 6), some (.int p), some (.int a), some (.int k)], [.int 0], σ) _
    refine sy_bk [(.ifCond .eq 14, 1, 22, 0, 0), (.iconst (-1), 0, 0, (-1), 0)] (23, [some (.ref 6), some (.int p), some (.int a), some (.int k)], [.int (-1)], σ) [sy_cc .eq 0 0] (by decide +kernel) rfl ⟨(by decide : ((0 : Int32) = 0)), trivial⟩ ?_
    exact sy_reti rfl (by decide +kernel) (k6 c10)

set_option maxRecDepth 20000 in
theorem w_X_times_67 {Q : Option Value → sy_S → Prop} {σ : sy_S} {l1 : Int32}   (k1 : sy_E shX mX11_holdResult (0, sy_ent [.ref 6, .int l1] 3, [], σ) (fun r9 σ9 => sy_E shX mX11_times (72, [none, none, none, none], r9.toList ++ [], σ9) Q)) : sy_E shX mX11_times (67, [some (.ref 6), some (.int l1), none, none], [], σ) Q := by
  refine sy_bk [(.aload_n 0, 0, 0, 0, 0), (.iload_n 1, 0, 0, 0, 0)] (69, [some (.ref 6), some (.int l1), none, none], [.int l1, .ref 6], σ) [] (by decide +kernel) rfl trivial ?_
  refine sy_drop [none, none, none, none] trivial ?_
  refine sy_callV mX11_holdResult 6 [.int l1] [] kX11_holdResult jX11_241 (by decide +kernel) rfl rfl (Nat.le_of_ble_eq_true rfl) (Nat.le_of_ble_eq_true rfl) (by decide) rfl ?_
  exact k1

set_option maxRecDepth 20000 in
theorem w_X_times_72 {Q : Option Value → sy_S → Prop} {σ : sy_S} {v : Int32}   (k1 : Q (some (.int v)) σ) : sy_E shX mX11_times (72, [none, none, none, none], [.int v], σ) Q := by
  exact sy_reti rfl (by decide +kernel) (k1)

set_option maxRecDepth 20000 in
theorem w_X_opposite_0 {Q : Option Value → sy_S → Prop} {σ : sy_S} {p : Int32} {a : Int32}  (b1 : ∀ (m_1 : Nat), px p6 p = some m_1 → ∀ (m_3 : Nat), px p6 a = some m_3 → vp_in a 6) (b2 : ∀ (m_1 : Nat), px p6 p = some m_1 → ∀ (m_3 : Nat), px p6 a = some m_3 → ¬ ((σ.1 31 a.toNatClampNeg) < 0) → sy_okR shX 24 a) (k1 : ∀ (m_1 : Nat), px p6 p = some m_1 → ∀ (m_3 : Nat), px p6 a = some m_3 → (σ.1 31 a.toNatClampNeg) < 0 → Q (some (.int (-6))) σ) (k2 : ∀ (m_1 : Nat), px p6 p = some m_1 → ∀ (m_3 : Nat), px p6 a = some m_3 → ¬ ((σ.1 31 a.toNatClampNeg) < 0) → sy_E shX mX8_negate (0, sy_ent [.ref 48, .ref (sy_rf shX 24 a.toNatClampNeg)] 3, [], σ) (fun r9 σ9 => sy_E shX mX11_opposite (53, [some (.ref 6), some (.int p), none], r9.toList ++ [], σ9) Q)) (k3 : ∀ (m_1 : Nat), px p6 p = some m_1 → px p6 a = none → Q (some (.int (-1))) σ) (k4 : px p6 p = none → Q (some (.int (-1))) σ) : sy_E shX mX11_opposite (0, sy_ent [.ref 6, .int p, .int a] 3, [], σ) Q := by
  show sy_E shX mX11_opposite (0, [some (.ref 6), some (.int p), some (.int a)], [], σ) _
  refine sy_bk [(.aload_n 0, 0, 0, 0, 0), (.getfield 41, 11, 4, 0, 0), (.iload_n 1, 0, 0, 0, 0)] (5, [some (.ref 6), some (.int p), some (.int a)], [.int p, .ref 23], σ) [] (by decide +kernel) rfl trivial ?_
  refine sy_callV mX7_has 23 [.int p] [] kX7_has jX11_210 (by decide +kernel) rfl rfl (Nat.le_of_ble_eq_true rfl) (Nat.le_of_ble_eq_true rfl) (by decide) rfl ?_
  refine e_pl_has (σ := σ) (i := p) ?_ ?_
  · intro m_1 c2
    show sy_E shX mX11_opposite (8, [some (.ref 6), some (.int p), some (.int a)], [.int 1], σ) _
    refine sy_bk [(.ifCond .eq 14, 0, 22, 0, 0), (.aload_n 0, 0, 0, 0, 0), (.getfield 41, 11, 4, 0, 0), (.iload_n 2, 0, 0, 0, 0)] (16, [some (.ref 6), some (.int p), some (.int a)], [.int a, .ref 23], σ) [¬ sy_cc .eq 1 0] (by decide +kernel) rfl ⟨(by decide : ¬ ((1 : Int32) = 0)), trivial⟩ ?_
    refine sy_callV mX7_has 23 [.int a] [] kX7_has jX11_210 (by decide +kernel) rfl rfl (Nat.le_of_ble_eq_true rfl) (Nat.le_of_ble_eq_true rfl) (by decide) rfl ?_
    refine e_pl_has (σ := σ) (i := a) ?_ ?_
    · intro m_3 c4
      show sy_E shX mX11_opposite (19, [some (.ref 6), some (.int p), some (.int a)], [.int 1], σ) _
      refine sy_bk [(.ifCond .ne 5, 1, 24, 0, 0), (.aload_n 0, 0, 0, 0, 0), (.getfield 41, 11, 4, 0, 0), (.iload_n 2, 0, 0, 0, 0)] (29, [some (.ref 6), some (.int p), some (.int a)], [.int a, .ref 23], σ) [sy_cc .ne 1 0] (by decide +kernel) rfl ⟨(by decide : (¬ (1 : Int32) = 0)), trivial⟩ ?_
      refine sy_callV mX7_holds 23 [.int a] [] kX7_holds jX11_217 (by decide +kernel) rfl rfl (Nat.le_of_ble_eq_true rfl) (Nat.le_of_ble_eq_true rfl) (by decide) rfl ?_
      refine w_pl_holds (σ := σ) (i := a) (b1 m_1 c2 m_3 c4) ?_ ?_
      · intro c5
        show sy_E shX mX11_opposite (32, [some (.ref 6), some (.int p), some (.int a)], [.int 0], σ) _
        refine sy_bk [(.ifCond .ne 6, 0, 38, 0, 0), (.bipush (-6), 0, 0, (-6), 0)] (37, [some (.ref 6), some (.int p), some (.int a)], [.int (-6)], σ) [¬ sy_cc .ne 0 0] (by decide +kernel) rfl ⟨(by decide : ¬ (¬ (0 : Int32) = 0)), trivial⟩ ?_
        exact sy_reti rfl (by decide +kernel) (k1 m_1 c2 m_3 c4 c5)
      · intro c6
        show sy_E shX mX11_opposite (32, [some (.ref 6), some (.int p), some (.int a)], [.int 1], σ) _
        refine sy_bk [(.ifCond .ne 6, 1, 38, 0, 0), (.aload_n 0, 0, 0, 0, 0), (.getfield 72, 11, 9, 0, 0), (.aload_n 0, 0, 0, 0, 0), (.getfield 41, 11, 4, 0, 0), (.iload_n 2, 0, 0, 0, 0)] (47, [some (.ref 6), some (.int p), some (.int a)], [.int a, .ref 23, .ref 48], σ) [sy_cc .ne 1 0] (by decide +kernel) rfl ⟨(by decide : (¬ (1 : Int32) = 0)), trivial⟩ ?_
        refine sy_callV mX7_rowAt 23 [.int a] [.ref 48] kX7_rowAt jX11_220 (by decide +kernel) rfl rfl (Nat.le_of_ble_eq_true rfl) (Nat.le_of_ble_eq_true rfl) (by decide) rfl ?_
        refine w_pl_rowAt (σ := σ) (i := a) (b2 m_1 c2 m_3 c4 c6) ?_
        show sy_E shX mX11_opposite (50, [some (.ref 6), some (.int p), some (.int a)], [.ref (sy_rf shX 24 a.toNatClampNeg), .ref 48], σ) _
        refine sy_drop [some (.ref 6), some (.int p), none] ⟨rfl, rfl, trivial⟩ ?_
        refine sy_callV mX8_negate 48 [.ref (sy_rf shX 24 a.toNatClampNeg)] [] kX8_negate jX11_248 (by decide +kernel) rfl rfl (Nat.le_of_ble_eq_true rfl) (Nat.le_of_ble_eq_true rfl) (by decide) rfl ?_
        exact k2 m_1 c2 m_3 c4 c6
    · intro c7
      show sy_E shX mX11_opposite (19, [some (.ref 6), some (.int p), some (.int a)], [.int 0], σ) _
      refine sy_bk [(.ifCond .ne 5, 0, 24, 0, 0), (.iconst (-1), 0, 0, (-1), 0)] (23, [some (.ref 6), some (.int p), some (.int a)], [.int (-1)], σ) [¬ sy_cc .ne 0 0] (by decide +kernel) rfl ⟨(by decide : ¬ (¬ (0 : Int32) = 0)), trivial⟩ ?_
      exact sy_reti rfl (by decide +kernel) (k3 m_1 c2 c7)
  · intro c8
    show sy_E shX mX11_opposite (8, [some (.ref 6), some (.int p), some (.int a)], [.int 0], σ) _
    refine sy_bk [(.ifCond .eq 14, 1, 22, 0, 0), (.iconst (-1), 0, 0, (-1), 0)] (23, [some (.ref 6), some (.int p), some (.int a)], [.int (-1)], σ) [sy_cc .eq 0 0] (by decide +kernel) rfl ⟨(by decide : ((0 : Int32) = 0)), trivial⟩ ?_
    exact sy_reti rfl (by decide +kernel) (k4 c8)

set_option maxRecDepth 20000 in
theorem w_X_opposite_53 {Q : Option Value → sy_S → Prop} {σ : sy_S} {l1 : Int32}   (k1 : sy_E shX mX11_holdResult (0, sy_ent [.ref 6, .int l1] 3, [], σ) (fun r9 σ9 => sy_E shX mX11_opposite (58, [none, none, none], r9.toList ++ [], σ9) Q)) : sy_E shX mX11_opposite (53, [some (.ref 6), some (.int l1), none], [], σ) Q := by
  refine sy_bk [(.aload_n 0, 0, 0, 0, 0), (.iload_n 1, 0, 0, 0, 0)] (55, [some (.ref 6), some (.int l1), none], [.int l1, .ref 6], σ) [] (by decide +kernel) rfl trivial ?_
  refine sy_drop [none, none, none] trivial ?_
  refine sy_callV mX11_holdResult 6 [.int l1] [] kX11_holdResult jX11_241 (by decide +kernel) rfl rfl (Nat.le_of_ble_eq_true rfl) (Nat.le_of_ble_eq_true rfl) (by decide) rfl ?_
  exact k1

set_option maxRecDepth 20000 in
theorem w_X_opposite_58 {Q : Option Value → sy_S → Prop} {σ : sy_S} {v : Int32}   (k1 : Q (some (.int v)) σ) : sy_E shX mX11_opposite (58, [none, none, none], [.int v], σ) Q := by
  exact sy_reti rfl (by decide +kernel) (k1)

set_option maxRecDepth 20000 in
theorem w_X_order_0 {Q : Option Value → sy_S → Prop} {σ : sy_S} {p : Int32}  (b1 : ∀ (m_1 : Nat), px p6 p = some m_1 → vp_in p 6) (b2 : ∀ (m_1 : Nat), px p6 p = some m_1 → ¬ ((σ.1 31 p.toNatClampNeg) < 0) → sy_okR shX 24 p) (k1 : ∀ (m_1 : Nat), px p6 p = some m_1 → (σ.1 31 p.toNatClampNeg) < 0 → Q (some (.int (-6))) σ) (k2 : ∀ (m_1 : Nat), px p6 p = some m_1 → ¬ ((σ.1 31 p.toNatClampNeg) < 0) → sy_E shX mX8_leastToNought (0, sy_ent [.ref 48, .ref (sy_rf shX 24 p.toNatClampNeg), .int 2000] 4, [], σ) (fun r9 σ9 => sy_E shX mX11_order (45, [none, none, none], r9.toList ++ [], σ9) Q)) (k3 : px p6 p = none → Q (some (.int (-1))) σ) : sy_E shX mX11_order (0, sy_ent [.ref 6, .int p] 3, [], σ) Q := by
  show sy_E shX mX11_order (0, [some (.ref 6), some (.int p), none], [], σ) _
  refine sy_bk [(.aload_n 0, 0, 0, 0, 0), (.getfield 41, 11, 4, 0, 0), (.iload_n 1, 0, 0, 0, 0)] (5, [some (.ref 6), some (.int p), none], [.int p, .ref 23], σ) [] (by decide +kernel) rfl trivial ?_
  refine sy_callV mX7_has 23 [.int p] [] kX7_has jX11_210 (by decide +kernel) rfl rfl (Nat.le_of_ble_eq_true rfl) (Nat.le_of_ble_eq_true rfl) (by decide) rfl ?_
  refine e_pl_has (σ := σ) (i := p) ?_ ?_
  · intro m_1 c2
    show sy_E shX mX11_order (8, [some (.ref 6), some (.int p), none], [.int 1], σ) _
    refine sy_bk [(.ifCond .ne 5, 1, 13, 0, 0), (.aload_n 0, 0, 0, 0, 0), (.getfield 41, 11, 4, 0, 0), (.iload_n 1, 0, 0, 0, 0)] (18, [some (.ref 6), some (.int p), none], [.int p, .ref 23], σ) [sy_cc .ne 1 0] (by decide +kernel) rfl ⟨(by decide : (¬ (1 : Int32) = 0)), trivial⟩ ?_
    refine sy_callV mX7_holds 23 [.int p] [] kX7_holds jX11_217 (by decide +kernel) rfl rfl (Nat.le_of_ble_eq_true rfl) (Nat.le_of_ble_eq_true rfl) (by decide) rfl ?_
    refine w_pl_holds (σ := σ) (i := p) (b1 m_1 c2) ?_ ?_
    · intro c3
      show sy_E shX mX11_order (21, [some (.ref 6), some (.int p), none], [.int 0], σ) _
      refine sy_bk [(.ifCond .ne 6, 0, 27, 0, 0), (.bipush (-6), 0, 0, (-6), 0)] (26, [some (.ref 6), some (.int p), none], [.int (-6)], σ) [¬ sy_cc .ne 0 0] (by decide +kernel) rfl ⟨(by decide : ¬ (¬ (0 : Int32) = 0)), trivial⟩ ?_
      exact sy_reti rfl (by decide +kernel) (k1 m_1 c2 c3)
    · intro c4
      show sy_E shX mX11_order (21, [some (.ref 6), some (.int p), none], [.int 1], σ) _
      refine sy_bk [(.ifCond .ne 6, 1, 27, 0, 0), (.aload_n 0, 0, 0, 0, 0), (.getfield 72, 11, 9, 0, 0), (.aload_n 0, 0, 0, 0, 0), (.getfield 41, 11, 4, 0, 0), (.iload_n 1, 0, 0, 0, 0)] (36, [some (.ref 6), some (.int p), none], [.int p, .ref 23, .ref 48], σ) [sy_cc .ne 1 0] (by decide +kernel) rfl ⟨(by decide : (¬ (1 : Int32) = 0)), trivial⟩ ?_
      refine sy_callV mX7_rowAt 23 [.int p] [.ref 48] kX7_rowAt jX11_220 (by decide +kernel) rfl rfl (Nat.le_of_ble_eq_true rfl) (Nat.le_of_ble_eq_true rfl) (by decide) rfl ?_
      refine w_pl_rowAt (σ := σ) (i := p) (b2 m_1 c2 c4) ?_
      show sy_E shX mX11_order (39, [some (.ref 6), some (.int p), none], [.ref (sy_rf shX 24 p.toNatClampNeg), .ref 48], σ) _
      refine sy_bk [(.sipush 2000, 0, 0, 2000, 0)] (42, [some (.ref 6), some (.int p), none], [.int 2000, .ref (sy_rf shX 24 p.toNatClampNeg), .ref 48], σ) [] (by decide +kernel) rfl trivial ?_
      refine sy_drop [none, none, none] trivial ?_
      refine sy_callV mX8_leastToNought 48 [.ref (sy_rf shX 24 p.toNatClampNeg), .int 2000] [] kX8_leastToNought jX11_251 (by decide +kernel) rfl rfl (Nat.le_of_ble_eq_true rfl) (Nat.le_of_ble_eq_true rfl) (by decide) rfl ?_
      exact k2 m_1 c2 c4
  · intro c5
    show sy_E shX mX11_order (8, [some (.ref 6), some (.int p), none], [.int 0], σ) _
    refine sy_bk [(.ifCond .ne 5, 0, 13, 0, 0), (.iconst (-1), 0, 0, (-1), 0)] (12, [some (.ref 6), some (.int p), none], [.int (-1)], σ) [¬ sy_cc .ne 0 0] (by decide +kernel) rfl ⟨(by decide : ¬ (¬ (0 : Int32) = 0)), trivial⟩ ?_
    exact sy_reti rfl (by decide +kernel) (k3 c5)

set_option maxRecDepth 20000 in
theorem w_X_order_45 {Q : Option Value → sy_S → Prop} {σ : sy_S} {v : Int32}   (k1 : v ≤ 0 → Q (some (.int (-5))) σ) (k2 : ¬ (v ≤ 0) → Q (some (.int v)) σ) : sy_E shX mX11_order (45, [none, none, none], [.int v], σ) Q := by
  refine sy_bk [(.istore_n 2, 0, 0, 0, 0), (.iload_n 2, 0, 0, 0, 0)] (47, [none, none, some (.int v)], [.int v], σ) [] (by decide +kernel) rfl trivial ?_
  by_cases c1 : v ≤ 0
  · refine sy_bk [(.ifCond .le 7, 1, 54, 0, 0)] (54, [none, none, some (.int v)], [], σ) [sy_cc .le v 0] (by decide +kernel) rfl ⟨c1, trivial⟩ ?_
    refine sy_bk [(.bipush (-5), 0, 0, (-5), 0)] (56, [none, none, some (.int v)], [.int (-5)], σ) [] (by decide +kernel) rfl trivial ?_
    exact sy_reti rfl (by decide +kernel) (k1 c1)
  · refine sy_bk [(.ifCond .le 7, 0, 54, 0, 0)] (50, [none, none, some (.int v)], [], σ) [¬ sy_cc .le v 0] (by decide +kernel) rfl ⟨c1, trivial⟩ ?_
    refine sy_bk [(.iload_n 2, 0, 0, 0, 0), (.goto 5, 0, 56, 0, 0)] (56, [none, none, some (.int v)], [.int v], σ) [] (by decide +kernel) rfl trivial ?_
    exact sy_reti rfl (by decide +kernel) (k2 c1)

set_option maxRecDepth 20000 in
theorem w_X_one_0 {Q : Option Value → sy_S → Prop} {σ : sy_S} {a : Int32} {b : Int32}  (b1 : ∀ (m_1 : Nat), px p6 a = some m_1 → ∀ (m_3 : Nat), px p6 b = some m_3 → vp_in a 6) (b2 : ∀ (m_1 : Nat), px p6 a = some m_1 → ∀ (m_3 : Nat), px p6 b = some m_3 → ¬ ((σ.1 31 a.toNatClampNeg) < 0) → vp_in b 6) (b3 : ∀ (m_1 : Nat), px p6 a = some m_1 → ∀ (m_3 : Nat), px p6 b = some m_3 → ¬ ((σ.1 31 a.toNatClampNeg) < 0) → ¬ ((σ.1 31 b.toNatClampNeg) < 0) → sy_okR shX 24 a) (b4 : ∀ (m_1 : Nat), px p6 a = some m_1 → ∀ (m_3 : Nat), px p6 b = some m_3 → ¬ ((σ.1 31 a.toNatClampNeg) < 0) → ¬ ((σ.1 31 b.toNatClampNeg) < 0) → sy_okR shX 24 b) (k1 : ∀ (m_1 : Nat), px p6 a = some m_1 → ∀ (m_3 : Nat), px p6 b = some m_3 → (σ.1 31 a.toNatClampNeg) < 0 → Q (some (.int (-6))) σ) (k2 : ∀ (m_1 : Nat), px p6 a = some m_1 → ∀ (m_3 : Nat), px p6 b = some m_3 → ¬ ((σ.1 31 a.toNatClampNeg) < 0) → (σ.1 31 b.toNatClampNeg) < 0 → Q (some (.int (-6))) σ) (k3 : ∀ (m_1 : Nat), px p6 a = some m_1 → ∀ (m_3 : Nat), px p6 b = some m_3 → ¬ ((σ.1 31 a.toNatClampNeg) < 0) → ¬ ((σ.1 31 b.toNatClampNeg) < 0) → sy_E shX mX11_alike (0, sy_ent [.ref (sy_rf shX 24 a.toNatClampNeg), .ref (sy_rf shX 24 b.toNatClampNeg)] 3, [], σ) (fun r9 σ9 => sy_E shX mX11_one (68, [some (.ref 6), some (.int a), some (.int b)], r9.toList ++ [], σ9) Q)) (k4 : ∀ (m_1 : Nat), px p6 a = some m_1 → px p6 b = none → Q (some (.int (-1))) σ) (k5 : px p6 a = none → Q (some (.int (-1))) σ) : sy_E shX mX11_one (0, sy_ent [.ref 6, .int a, .int b] 3, [], σ) Q := by
  show sy_E shX mX11_one (0, [some (.ref 6), some (.int a), some (.int b)], [], σ) _
  refine sy_bk [(.aload_n 0, 0, 0, 0, 0), (.getfield 41, 11, 4, 0, 0), (.iload_n 1, 0, 0, 0, 0)] (5, [some (.ref 6), some (.int a), some (.int b)], [.int a, .ref 23], σ) [] (by decide +kernel) rfl trivial ?_
  refine sy_callV mX7_has 23 [.int a] [] kX7_has jX11_210 (by decide +kernel) rfl rfl (Nat.le_of_ble_eq_true rfl) (Nat.le_of_ble_eq_true rfl) (by decide) rfl ?_
  refine e_pl_has (σ := σ) (i := a) ?_ ?_
  · intro m_1 c2
    show sy_E shX mX11_one (8, [some (.ref 6), some (.int a), some (.int b)], [.int 1], σ) _
    refine sy_bk [(.ifCond .eq 14, 0, 22, 0, 0), (.aload_n 0, 0, 0, 0, 0), (.getfield 41, 11, 4, 0, 0), (.iload_n 2, 0, 0, 0, 0)] (16, [some (.ref 6), some (.int a), some (.int b)], [.int b, .ref 23], σ) [¬ sy_cc .eq 1 0] (by decide +kernel) rfl ⟨(by decide : ¬ ((1 : Int32) = 0)), trivial⟩ ?_
    refine sy_callV mX7_has 23 [.int b] [] kX7_has jX11_210 (by decide +kernel) rfl rfl (Nat.le_of_ble_eq_true rfl) (Nat.le_of_ble_eq_true rfl) (by decide) rfl ?_
    refine e_pl_has (σ := σ) (i := b) ?_ ?_
    · intro m_3 c4
      show sy_E shX mX11_one (19, [some (.ref 6), some (.int a), some (.int b)], [.int 1], σ) _
      refine sy_bk [(.ifCond .ne 5, 1, 24, 0, 0), (.aload_n 0, 0, 0, 0, 0), (.getfield 41, 11, 4, 0, 0), (.iload_n 1, 0, 0, 0, 0)] (29, [some (.ref 6), some (.int a), some (.int b)], [.int a, .ref 23], σ) [sy_cc .ne 1 0] (by decide +kernel) rfl ⟨(by decide : (¬ (1 : Int32) = 0)), trivial⟩ ?_
      refine sy_callV mX7_holds 23 [.int a] [] kX7_holds jX11_217 (by decide +kernel) rfl rfl (Nat.le_of_ble_eq_true rfl) (Nat.le_of_ble_eq_true rfl) (by decide) rfl ?_
      refine w_pl_holds (σ := σ) (i := a) (b1 m_1 c2 m_3 c4) ?_ ?_
      · intro c5
        show sy_E shX mX11_one (32, [some (.ref 6), some (.int a), some (.int b)], [.int 0], σ) _
        refine sy_bk [(.ifCond .eq 14, 1, 46, 0, 0), (.bipush (-6), 0, 0, (-6), 0)] (48, [some (.ref 6), some (.int a), some (.int b)], [.int (-6)], σ) [sy_cc .eq 0 0] (by decide +kernel) rfl ⟨(by decide : ((0 : Int32) = 0)), trivial⟩ ?_
        exact sy_reti rfl (by decide +kernel) (k1 m_1 c2 m_3 c4 c5)
      · intro c6
        show sy_E shX mX11_one (32, [some (.ref 6), some (.int a), some (.int b)], [.int 1], σ) _
        refine sy_bk [(.ifCond .eq 14, 0, 46, 0, 0), (.aload_n 0, 0, 0, 0, 0), (.getfield 41, 11, 4, 0, 0), (.iload_n 2, 0, 0, 0, 0)] (40, [some (.ref 6), some (.int a), some (.int b)], [.int b, .ref 23], σ) [¬ sy_cc .eq 1 0] (by decide +kernel) rfl ⟨(by decide : ¬ ((1 : Int32) = 0)), trivial⟩ ?_
        refine sy_callV mX7_holds 23 [.int b] [] kX7_holds jX11_217 (by decide +kernel) rfl rfl (Nat.le_of_ble_eq_true rfl) (Nat.le_of_ble_eq_true rfl) (by decide) rfl ?_
        refine w_pl_holds (σ := σ) (i := b) (b2 m_1 c2 m_3 c4 c6) ?_ ?_
        · intro c7
          show sy_E shX mX11_one (43, [some (.ref 6), some (.int a), some (.int b)], [.int 0], σ) _
          refine sy_bk [(.ifCond .ne 6, 0, 49, 0, 0), (.bipush (-6), 0, 0, (-6), 0)] (48, [some (.ref 6), some (.int a), some (.int b)], [.int (-6)], σ) [¬ sy_cc .ne 0 0] (by decide +kernel) rfl ⟨(by decide : ¬ (¬ (0 : Int32) = 0)), trivial⟩ ?_
          exact sy_reti rfl (by decide +kernel) (k2 m_1 c2 m_3 c4 c6 c7)
        · intro c8
          show sy_E shX mX11_one (43, [some (.ref 6), some (.int a), some (.int b)], [.int 1], σ) _
          refine sy_bk [(.ifCond .ne 6, 1, 49, 0, 0), (.aload_n 0, 0, 0, 0, 0), (.getfield 41, 11, 4, 0, 0), (.iload_n 1, 0, 0, 0, 0)] (54, [some (.ref 6), some (.int a), some (.int b)], [.int a, .ref 23], σ) [sy_cc .ne 1 0] (by decide +kernel) rfl ⟨(by decide : (¬ (1 : Int32) = 0)), trivial⟩ ?_
          refine sy_callV mX7_rowAt 23 [.int a] [] kX7_rowAt jX11_220 (by decide +kernel) rfl rfl (Nat.le_of_ble_eq_true rfl) (Nat.le_of_ble_eq_true rfl) (by decide) rfl ?_
          refine w_pl_rowAt (σ := σ) (i := a) (b3 m_1 c2 m_3 c4 c6 c8) ?_
          show sy_E shX mX11_one (57, [some (.ref 6), some (.int a), some (.int b)], [.ref (sy_rf shX 24 a.toNatClampNeg)], σ) _
          refine sy_bk [(.aload_n 0, 0, 0, 0, 0), (.getfield 41, 11, 4, 0, 0), (.iload_n 2, 0, 0, 0, 0)] (62, [some (.ref 6), some (.int a), some (.int b)], [.int b, .ref 23, .ref (sy_rf shX 24 a.toNatClampNeg)], σ) [] (by decide +kernel) rfl trivial ?_
          refine sy_callV mX7_rowAt 23 [.int b] [.ref (sy_rf shX 24 a.toNatClampNeg)] kX7_rowAt jX11_220 (by decide +kernel) rfl rfl (Nat.le_of_ble_eq_true rfl) (Nat.le_of_ble_eq_true rfl) (by decide) rfl ?_
          refine w_pl_rowAt (σ := σ) (i := b) (b4 m_1 c2 m_3 c4 c6 c8) ?_
          show sy_E shX mX11_one (65, [some (.ref 6), some (.int a), some (.int b)], [.ref (sy_rf shX 24 b.toNatClampNeg), .ref (sy_rf shX 24 a.toNatClampNeg)], σ) _
          refine sy_callS mX11_alike [.ref (sy_rf shX 24 a.toNatClampNeg), .ref (sy_rf shX 24 b.toNatClampNeg)] [] kX11_alike jX11_255 (by decide +kernel) rfl rfl (Nat.le_of_ble_eq_true rfl) (Nat.le_of_ble_eq_true rfl) (by decide) ?_
          exact k3 m_1 c2 m_3 c4 c6 c8
    · intro c9
      show sy_E shX mX11_one (19, [some (.ref 6), some (.int a), some (.int b)], [.int 0], σ) _
      refine sy_bk [(.ifCond .ne 5, 0, 24, 0, 0), (.iconst (-1), 0, 0, (-1), 0)] (23, [some (.ref 6), some (.int a), some (.int b)], [.int (-1)], σ) [¬ sy_cc .ne 0 0] (by decide +kernel) rfl ⟨(by decide : ¬ (¬ (0 : Int32) = 0)), trivial⟩ ?_
      exact sy_reti rfl (by decide +kernel) (k4 m_1 c2 c9)
  · intro c10
    show sy_E shX mX11_one (8, [some (.ref 6), some (.int a), some (.int b)], [.int 0], σ) _
    refine sy_bk [(.ifCond .eq 14, 1, 22, 0, 0), (.iconst (-1), 0, 0, (-1), 0)] (23, [some (.ref 6), some (.int a), some (.int b)], [.int (-1)], σ) [sy_cc .eq 0 0] (by decide +kernel) rfl ⟨(by decide : ((0 : Int32) = 0)), trivial⟩ ?_
    exact sy_reti rfl (by decide +kernel) (k5 c10)

set_option maxRecDepth 20000 in
theorem w_X_one_68 {Q : Option Value → sy_S → Prop} {σ : sy_S} {l1 : Int32} {l2 : Int32} {v : Int32}  (b1 : v = 0 → sy_okR shX 24 l1) (b2 : v = 0 → sy_okR shX 24 l2) (k1 : v = 0 → sy_E shX mX8_areOne (0, sy_ent [.ref 48, .ref (sy_rf shX 24 l1.toNatClampNeg), .ref (sy_rf shX 24 l2.toNatClampNeg)] 3, [], σ) (fun r9 σ9 => sy_E shX mX11_one (96, [none, none, none], r9.toList ++ [], σ9) Q)) (k2 : ¬ (v = 0) → Q (some (.int 2)) σ) : sy_E shX mX11_one (68, [some (.ref 6), some (.int l1), some (.int l2)], [.int v], σ) Q := by
  by_cases c1 : v = 0
  · refine sy_bk [(.ifCond .eq 5, 1, 73, 0, 0)] (73, [some (.ref 6), some (.int l1), some (.int l2)], [], σ) [sy_cc .eq v 0] (by decide +kernel) rfl ⟨c1, trivial⟩ ?_
    refine sy_bk [(.aload_n 0, 0, 0, 0, 0), (.getfield 72, 11, 9, 0, 0), (.aload_n 0, 0, 0, 0, 0), (.getfield 41, 11, 4, 0, 0), (.iload_n 1, 0, 0, 0, 0)] (82, [some (.ref 6), some (.int l1), some (.int l2)], [.int l1, .ref 23, .ref 48], σ) [] (by decide +kernel) rfl trivial ?_
    refine sy_callV mX7_rowAt 23 [.int l1] [.ref 48] kX7_rowAt jX11_220 (by decide +kernel) rfl rfl (Nat.le_of_ble_eq_true rfl) (Nat.le_of_ble_eq_true rfl) (by decide) rfl ?_
    refine w_pl_rowAt (σ := σ) (i := l1) (b1 c1) ?_
    show sy_E shX mX11_one (85, [some (.ref 6), some (.int l1), some (.int l2)], [.ref (sy_rf shX 24 l1.toNatClampNeg), .ref 48], σ) _
    refine sy_bk [(.aload_n 0, 0, 0, 0, 0), (.getfield 41, 11, 4, 0, 0), (.iload_n 2, 0, 0, 0, 0)] (90, [some (.ref 6), some (.int l1), some (.int l2)], [.int l2, .ref 23, .ref (sy_rf shX 24 l1.toNatClampNeg), .ref 48], σ) [] (by decide +kernel) rfl trivial ?_
    refine sy_callV mX7_rowAt 23 [.int l2] [.ref (sy_rf shX 24 l1.toNatClampNeg), .ref 48] kX7_rowAt jX11_220 (by decide +kernel) rfl rfl (Nat.le_of_ble_eq_true rfl) (Nat.le_of_ble_eq_true rfl) (by decide) rfl ?_
    refine w_pl_rowAt (σ := σ) (i := l2) (b2 c1) ?_
    show sy_E shX mX11_one (93, [some (.ref 6), some (.int l1), some (.int l2)], [.ref (sy_rf shX 24 l2.toNatClampNeg), .ref (sy_rf shX 24 l1.toNatClampNeg), .ref 48], σ) _
    refine sy_drop [none, none, none] trivial ?_
    refine sy_callV mX8_areOne 48 [.ref (sy_rf shX 24 l1.toNatClampNeg), .ref (sy_rf shX 24 l2.toNatClampNeg)] [] kX8_areOne jX11_259 (by decide +kernel) rfl rfl (Nat.le_of_ble_eq_true rfl) (Nat.le_of_ble_eq_true rfl) (by decide) rfl ?_
    exact k1 c1
  · refine sy_bk [(.ifCond .eq 5, 0, 73, 0, 0)] (71, [some (.ref 6), some (.int l1), some (.int l2)], [], σ) [¬ sy_cc .eq v 0] (by decide +kernel) rfl ⟨c1, trivial⟩ ?_
    refine sy_bk [(.iconst 2, 0, 0, 2, 0)] (72, [some (.ref 6), some (.int l1), some (.int l2)], [.int 2], σ) [] (by decide +kernel) rfl trivial ?_
    exact sy_reti rfl (by decide +kernel) (k2 c1)

set_option maxRecDepth 20000 in
theorem w_X_one_96 {Q : Option Value → sy_S → Prop} {σ : sy_S} {v : Int32}   (k1 : v = 0 → Q (some (.int 0)) σ) (k2 : ¬ (v = 0) → Q (some (.int 1)) σ) : sy_E shX mX11_one (96, [none, none, none], [.int v], σ) Q := by
  by_cases c1 : v = 0
  · refine sy_bk [(.ifCond .eq 7, 1, 103, 0, 0)] (103, [none, none, none], [], σ) [sy_cc .eq v 0] (by decide +kernel) rfl ⟨c1, trivial⟩ ?_
    refine sy_bk [(.iconst 0, 0, 0, 0, 0)] (104, [none, none, none], [.int 0], σ) [] (by decide +kernel) rfl trivial ?_
    exact sy_reti rfl (by decide +kernel) (k1 c1)
  · refine sy_bk [(.ifCond .eq 7, 0, 103, 0, 0)] (99, [none, none, none], [], σ) [¬ sy_cc .eq v 0] (by decide +kernel) rfl ⟨c1, trivial⟩ ?_
    refine sy_bk [(.iconst 1, 0, 0, 1, 0), (.goto 4, 0, 104, 0, 0)] (104, [none, none, none], [.int 1], σ) [] (by decide +kernel) rfl trivial ?_
    exact sy_reti rfl (by decide +kernel) (k2 c1)

set_option maxRecDepth 20000 in
theorem w_X_group_0 {Q : Option Value → sy_S → Prop} {σ : sy_S}    (k1 : sy_E shX mX5_determinant (0, sy_ent [.ref 55, .ref 0] 6, [], σ) (fun r9 σ9 => sy_E shX mX11_group (11, [none], r9.toList ++ [], σ9) Q)) : sy_E shX mX11_group (0, sy_ent [.ref 6] 1, [], σ) Q := by
  show sy_E shX mX11_group (0, [some (.ref 6)], [], σ) _
  refine sy_bk [(.aload_n 0, 0, 0, 0, 0), (.getfield 86, 11, 11, 0, 0), (.aload_n 0, 0, 0, 0, 0), (.getfield 16, 11, 0, 0, 0)] (8, [some (.ref 6)], [.ref 0, .ref 55], σ) [] (by decide +kernel) rfl trivial ?_
  refine sy_drop [none] trivial ?_
  refine sy_callV mX5_determinant 55 [.ref 0] [] kX5_determinant jX11_262 (by decide +kernel) rfl rfl (Nat.le_of_ble_eq_true rfl) (Nat.le_of_ble_eq_true rfl) (by decide) rfl ?_
  exact k1

set_option maxRecDepth 20000 in
theorem w_X_group_11 {Q : Option Value → sy_S → Prop} {σ : sy_S} {v : Int64}   (k1 : Q (some (.long v)) σ) : sy_E shX mX11_group (11, [none], [.long v], σ) Q := by
  exact sy_retl rfl (by decide +kernel) (k1)

set_option maxRecDepth 20000 in
theorem w_X_burn_0 {Q : Option Value → sy_S → Prop} {σ : sy_S} {p : Int32} {w : Int32} {G : sg_G}  (b1 : gx G σ.1) (b2 : ∀ (m_1 : Nat), px (sg_p G) (w - 100) = some m_1 → ∀ (m_3 : Nat), px p6 p = some m_3 → vp_in p 6) (b3 : ∀ (m_1 : Nat), px (sg_p G) (w - 100) = some m_1 → ∀ (m_3 : Nat), px p6 p = some m_3 → ¬ ((σ.1 31 p.toNatClampNeg) < 0) → sy_okR shX 24 p) (b4 : px (sg_p G) (w - 100) = none → ∀ (m_9 : Nat), px p6 p = some m_9 → ¬ (w < 0) → w ≤ 2 → vp_in p 6) (b5 : px (sg_p G) (w - 100) = none → ∀ (m_9 : Nat), px p6 p = some m_9 → ¬ (w < 0) → w ≤ 2 → ¬ ((σ.1 31 p.toNatClampNeg) < 0) → sy_okR shX 24 p) (k1 : ∀ (m_1 : Nat), px (sg_p G) (w - 100) = some m_1 → ∀ (m_3 : Nat), px p6 p = some m_3 → (σ.1 31 p.toNatClampNeg) < 0 → Q (some (.int (-6))) σ) (k2 : ∀ (m_1 : Nat), px (sg_p G) (w - 100) = some m_1 → ∀ (m_3 : Nat), px p6 p = some m_3 → ¬ ((σ.1 31 p.toNatClampNeg) < 0) → sy_E shX mX2_spread (0, sy_ent [.ref 53, .ref (sy_rf shX 24 p.toNatClampNeg)] 3, [], σ) (fun r9 σ9 => sy_E shX mX11_burn (67, [some (.ref 6), none, some (.int w), some (.int 1), none, none], r9.toList ++ [], σ9) Q)) (k3 : ∀ (m_1 : Nat), px (sg_p G) (w - 100) = some m_1 → px p6 p = none → Q (some (.int (-1))) σ) (k4 : px (sg_p G) (w - 100) = none → ∀ (m_9 : Nat), px p6 p = some m_9 → w < 0 → Q (some (.int (-1))) σ) (k5 : px (sg_p G) (w - 100) = none → ∀ (m_9 : Nat), px p6 p = some m_9 → ¬ (w < 0) → w ≤ 2 → (σ.1 31 p.toNatClampNeg) < 0 → Q (some (.int (-6))) σ) (k6 : px (sg_p G) (w - 100) = none → ∀ (m_9 : Nat), px p6 p = some m_9 → ¬ (w < 0) → w ≤ 2 → ¬ ((σ.1 31 p.toNatClampNeg) < 0) → sy_E shX mX2_spread (0, sy_ent [.ref 53, .ref (sy_rf shX 24 p.toNatClampNeg)] 3, [], σ) (fun r9 σ9 => sy_E shX mX11_burn (67, [some (.ref 6), none, some (.int w), some (.int 0), none, none], r9.toList ++ [], σ9) Q)) (k7 : px (sg_p G) (w - 100) = none → ∀ (m_9 : Nat), px p6 p = some m_9 → ¬ (w < 0) → ¬ (w ≤ 2) → Q (some (.int (-1))) σ) (k8 : px (sg_p G) (w - 100) = none → px p6 p = none → Q (some (.int (-1))) σ) : sy_E shX mX11_burn (0, sy_ent [.ref 6, .int p, .int w] 6, [], σ) Q := by
  show sy_E shX mX11_burn (0, [some (.ref 6), some (.int p), some (.int w), none, none, none], [], σ) _
  refine sy_bk [(.aload_n 0, 0, 0, 0, 0), (.getfield 16, 11, 0, 0, 0), (.iload_n 2, 0, 0, 0, 0), (.bipush 100, 0, 0, 100, 0), (.isub, 0, 0, 0, 0)] (8, [some (.ref 6), some (.int p), some (.int w), none, none, none], [.int (w - 100), .ref 0], σ) [] (by decide +kernel) rfl trivial ?_
  refine sy_callV mX3_isPlace 0 [.int (w - 100)] [] kX3_isPlace jX11_127 (by decide +kernel) rfl rfl (Nat.le_of_ble_eq_true rfl) (Nat.le_of_ble_eq_true rfl) (by decide) rfl ?_
  refine e_x_isPl (σ := σ) (cell := (w - 100)) b1 ?_ ?_
  · intro m_1 c2
    show sy_E shX mX11_burn (11, [some (.ref 6), some (.int p), some (.int w), none, none, none], [.int 1], σ) _
    refine sy_bk [(.istore_n 3, 0, 0, 0, 0), (.aload_n 0, 0, 0, 0, 0), (.getfield 41, 11, 4, 0, 0), (.iload_n 1, 0, 0, 0, 0)] (17, [some (.ref 6), some (.int p), some (.int w), some (.int 1), none, none], [.int p, .ref 23], σ) [] (by decide +kernel) rfl trivial ?_
    refine sy_callV mX7_has 23 [.int p] [] kX7_has jX11_210 (by decide +kernel) rfl rfl (Nat.le_of_ble_eq_true rfl) (Nat.le_of_ble_eq_true rfl) (by decide) rfl ?_
    refine e_pl_has (σ := σ) (i := p) ?_ ?_
    · intro m_3 c4
      show sy_E shX mX11_burn (20, [some (.ref 6), some (.int p), some (.int w), some (.int 1), none, none], [.int 1], σ) _
      refine sy_bk [(.ifCond .eq 16, 0, 36, 0, 0), (.iload_n 3, 0, 0, 0, 0), (.ifCond .ne 14, 1, 38, 0, 0), (.aload_n 0, 0, 0, 0, 0), (.getfield 41, 11, 4, 0, 0), (.iload_n 1, 0, 0, 0, 0)] (43, [some (.ref 6), some (.int p), some (.int w), some (.int 1), none, none], [.int p, .ref 23], σ) [¬ sy_cc .eq 1 0, sy_cc .ne 1 0] (by decide +kernel) rfl ⟨(by decide : ¬ ((1 : Int32) = 0)), (by decide : (¬ (1 : Int32) = 0)), trivial⟩ ?_
      refine sy_callV mX7_holds 23 [.int p] [] kX7_holds jX11_217 (by decide +kernel) rfl rfl (Nat.le_of_ble_eq_true rfl) (Nat.le_of_ble_eq_true rfl) (by decide) rfl ?_
      refine w_pl_holds (σ := σ) (i := p) (b2 m_1 c2 m_3 c4) ?_ ?_
      · intro c5
        show sy_E shX mX11_burn (46, [some (.ref 6), some (.int p), some (.int w), some (.int 1), none, none], [.int 0], σ) _
        refine sy_bk [(.ifCond .ne 6, 0, 52, 0, 0), (.bipush (-6), 0, 0, (-6), 0)] (51, [some (.ref 6), some (.int p), some (.int w), some (.int 1), none, none], [.int (-6)], σ) [¬ sy_cc .ne 0 0] (by decide +kernel) rfl ⟨(by decide : ¬ (¬ (0 : Int32) = 0)), trivial⟩ ?_
        exact sy_reti rfl (by decide +kernel) (k1 m_1 c2 m_3 c4 c5)
      · intro c6
        show sy_E shX mX11_burn (46, [some (.ref 6), some (.int p), some (.int w), some (.int 1), none, none], [.int 1], σ) _
        refine sy_bk [(.ifCond .ne 6, 1, 52, 0, 0), (.aload_n 0, 0, 0, 0, 0), (.getfield 79, 11, 10, 0, 0), (.aload_n 0, 0, 0, 0, 0), (.getfield 41, 11, 4, 0, 0), (.iload_n 1, 0, 0, 0, 0)] (61, [some (.ref 6), some (.int p), some (.int w), some (.int 1), none, none], [.int p, .ref 23, .ref 53], σ) [sy_cc .ne 1 0] (by decide +kernel) rfl ⟨(by decide : (¬ (1 : Int32) = 0)), trivial⟩ ?_
        refine sy_callV mX7_rowAt 23 [.int p] [.ref 53] kX7_rowAt jX11_220 (by decide +kernel) rfl rfl (Nat.le_of_ble_eq_true rfl) (Nat.le_of_ble_eq_true rfl) (by decide) rfl ?_
        refine w_pl_rowAt (σ := σ) (i := p) (b3 m_1 c2 m_3 c4 c6) ?_
        show sy_E shX mX11_burn (64, [some (.ref 6), some (.int p), some (.int w), some (.int 1), none, none], [.ref (sy_rf shX 24 p.toNatClampNeg), .ref 53], σ) _
        refine sy_drop [some (.ref 6), none, some (.int w), some (.int 1), none, none] ⟨rfl, rfl, rfl, trivial⟩ ?_
        refine sy_callV mX2_spread 53 [.ref (sy_rf shX 24 p.toNatClampNeg)] [] kX2_spread jX11_266 (by decide +kernel) rfl rfl (Nat.le_of_ble_eq_true rfl) (Nat.le_of_ble_eq_true rfl) (by decide) rfl ?_
        exact k2 m_1 c2 m_3 c4 c6
    · intro c7
      show sy_E shX mX11_burn (20, [some (.ref 6), some (.int p), some (.int w), some (.int 1), none, none], [.int 0], σ) _
      refine sy_bk [(.ifCond .eq 16, 1, 36, 0, 0), (.iconst (-1), 0, 0, (-1), 0)] (37, [some (.ref 6), some (.int p), some (.int w), some (.int 1), none, none], [.int (-1)], σ) [sy_cc .eq 0 0] (by decide +kernel) rfl ⟨(by decide : ((0 : Int32) = 0)), trivial⟩ ?_
      exact sy_reti rfl (by decide +kernel) (k3 m_1 c2 c7)
  · intro c8
    show sy_E shX mX11_burn (11, [some (.ref 6), some (.int p), some (.int w), none, none, none], [.int 0], σ) _
    refine sy_bk [(.istore_n 3, 0, 0, 0, 0), (.aload_n 0, 0, 0, 0, 0), (.getfield 41, 11, 4, 0, 0), (.iload_n 1, 0, 0, 0, 0)] (17, [some (.ref 6), some (.int p), some (.int w), some (.int 0), none, none], [.int p, .ref 23], σ) [] (by decide +kernel) rfl trivial ?_
    refine sy_callV mX7_has 23 [.int p] [] kX7_has jX11_210 (by decide +kernel) rfl rfl (Nat.le_of_ble_eq_true rfl) (Nat.le_of_ble_eq_true rfl) (by decide) rfl ?_
    refine e_pl_has (σ := σ) (i := p) ?_ ?_
    · intro m_9 c10
      show sy_E shX mX11_burn (20, [some (.ref 6), some (.int p), some (.int w), some (.int 0), none, none], [.int 1], σ) _
      refine sy_bk [(.ifCond .eq 16, 0, 36, 0, 0), (.iload_n 3, 0, 0, 0, 0), (.ifCond .ne 14, 0, 38, 0, 0), (.iload_n 2, 0, 0, 0, 0)] (28, [some (.ref 6), some (.int p), some (.int w), some (.int 0), none, none], [.int w], σ) [¬ sy_cc .eq 1 0, ¬ sy_cc .ne 0 0] (by decide +kernel) rfl ⟨(by decide : ¬ ((1 : Int32) = 0)), (by decide : ¬ (¬ (0 : Int32) = 0)), trivial⟩ ?_
      by_cases c11 : w < 0
      · refine sy_bk [(.ifCond .lt 8, 1, 36, 0, 0)] (36, [some (.ref 6), some (.int p), some (.int w), some (.int 0), none, none], [], σ) [sy_cc .lt w 0] (by decide +kernel) rfl ⟨c11, trivial⟩ ?_
        refine sy_bk [(.iconst (-1), 0, 0, (-1), 0)] (37, [some (.ref 6), some (.int p), some (.int w), some (.int 0), none, none], [.int (-1)], σ) [] (by decide +kernel) rfl trivial ?_
        exact sy_reti rfl (by decide +kernel) (k4 c8 m_9 c10 c11)
      · refine sy_bk [(.ifCond .lt 8, 0, 36, 0, 0)] (31, [some (.ref 6), some (.int p), some (.int w), some (.int 0), none, none], [], σ) [¬ sy_cc .lt w 0] (by decide +kernel) rfl ⟨c11, trivial⟩ ?_
        refine sy_bk [(.iload_n 2, 0, 0, 0, 0), (.iconst 2, 0, 0, 2, 0)] (33, [some (.ref 6), some (.int p), some (.int w), some (.int 0), none, none], [.int 2, .int w], σ) [] (by decide +kernel) rfl trivial ?_
        by_cases c12 : w ≤ 2
        · refine sy_bk [(.if_icmp .le 5, 1, 38, 0, 0)] (38, [some (.ref 6), some (.int p), some (.int w), some (.int 0), none, none], [], σ) [sy_cc .le w 2] (by decide +kernel) rfl ⟨c12, trivial⟩ ?_
          refine sy_bk [(.aload_n 0, 0, 0, 0, 0), (.getfield 41, 11, 4, 0, 0), (.iload_n 1, 0, 0, 0, 0)] (43, [some (.ref 6), some (.int p), some (.int w), some (.int 0), none, none], [.int p, .ref 23], σ) [] (by decide +kernel) rfl trivial ?_
          refine sy_callV mX7_holds 23 [.int p] [] kX7_holds jX11_217 (by decide +kernel) rfl rfl (Nat.le_of_ble_eq_true rfl) (Nat.le_of_ble_eq_true rfl) (by decide) rfl ?_
          refine w_pl_holds (σ := σ) (i := p) (b4 c8 m_9 c10 c11 c12) ?_ ?_
          · intro c13
            show sy_E shX mX11_burn (46, [some (.ref 6), some (.int p), some (.int w), some (.int 0), none, none], [.int 0], σ) _
            refine sy_bk [(.ifCond .ne 6, 0, 52, 0, 0), (.bipush (-6), 0, 0, (-6), 0)] (51, [some (.ref 6), some (.int p), some (.int w), some (.int 0), none, none], [.int (-6)], σ) [¬ sy_cc .ne 0 0] (by decide +kernel) rfl ⟨(by decide : ¬ (¬ (0 : Int32) = 0)), trivial⟩ ?_
            exact sy_reti rfl (by decide +kernel) (k5 c8 m_9 c10 c11 c12 c13)
          · intro c14
            show sy_E shX mX11_burn (46, [some (.ref 6), some (.int p), some (.int w), some (.int 0), none, none], [.int 1], σ) _
            refine sy_bk [(.ifCond .ne 6, 1, 52, 0, 0), (.aload_n 0, 0, 0, 0, 0), (.getfield 79, 11, 10, 0, 0), (.aload_n 0, 0, 0, 0, 0), (.getfield 41, 11, 4, 0, 0), (.iload_n 1, 0, 0, 0, 0)] (61, [some (.ref 6), some (.int p), some (.int w), some (.int 0), none, none], [.int p, .ref 23, .ref 53], σ) [sy_cc .ne 1 0] (by decide +kernel) rfl ⟨(by decide : (¬ (1 : Int32) = 0)), trivial⟩ ?_
            refine sy_callV mX7_rowAt 23 [.int p] [.ref 53] kX7_rowAt jX11_220 (by decide +kernel) rfl rfl (Nat.le_of_ble_eq_true rfl) (Nat.le_of_ble_eq_true rfl) (by decide) rfl ?_
            refine w_pl_rowAt (σ := σ) (i := p) (b5 c8 m_9 c10 c11 c12 c14) ?_
            show sy_E shX mX11_burn (64, [some (.ref 6), some (.int p), some (.int w), some (.int 0), none, none], [.ref (sy_rf shX 24 p.toNatClampNeg), .ref 53], σ) _
            refine sy_drop [some (.ref 6), none, some (.int w), some (.int 0), none, none] ⟨rfl, rfl, rfl, trivial⟩ ?_
            refine sy_callV mX2_spread 53 [.ref (sy_rf shX 24 p.toNatClampNeg)] [] kX2_spread jX11_266 (by decide +kernel) rfl rfl (Nat.le_of_ble_eq_true rfl) (Nat.le_of_ble_eq_true rfl) (by decide) rfl ?_
            exact k6 c8 m_9 c10 c11 c12 c14
        · refine sy_bk [(.if_icmp .le 5, 0, 38, 0, 0)] (36, [some (.ref 6), some (.int p), some (.int w), some (.int 0), none, none], [], σ) [¬ sy_cc .le w 2] (by decide +kernel) rfl ⟨c12, trivial⟩ ?_
          refine sy_bk [(.iconst (-1), 0, 0, (-1), 0)] (37, [some (.ref 6), some (.int p), some (.int w), some (.int 0), none, none], [.int (-1)], σ) [] (by decide +kernel) rfl trivial ?_
          exact sy_reti rfl (by decide +kernel) (k7 c8 m_9 c10 c11 c12)
    · intro c15
      show sy_E shX mX11_burn (20, [some (.ref 6), some (.int p), some (.int w), some (.int 0), none, none], [.int 0], σ) _
      refine sy_bk [(.ifCond .eq 16, 1, 36, 0, 0), (.iconst (-1), 0, 0, (-1), 0)] (37, [some (.ref 6), some (.int p), some (.int w), some (.int 0), none, none], [.int (-1)], σ) [sy_cc .eq 0 0] (by decide +kernel) rfl ⟨(by decide : ((0 : Int32) = 0)), trivial⟩ ?_
      exact sy_reti rfl (by decide +kernel) (k8 c8 c15)

set_option maxRecDepth 20000 in
theorem w_X_burn_67 {Q : Option Value → sy_S → Prop} {σ : sy_S} {l2 : Int32} {l3 : Int32} {v : Int32}  (b1 : ¬ (l3 = 0) → vp_in (l2 - 100) 16) (k1 : l3 = 0 → ¬ l2 = 1 → sy_E shX mX2_unburnt (0, sy_ent [.ref 53] 4, [], σ) (fun r9 σ9 => sy_E shX mX11_burn (114, [none, none, some (.int l2), none, none, none], r9.toList ++ [], σ9) Q)) (k2 : l3 = 0 → ¬ (¬ l2 = 1) → Q (some (.int v)) σ) (k3 : ¬ (l3 = 0) → (σ.1 54 (l2 - 100).toNatClampNeg) ≤ 0 → Q (some (.int (-5))) σ) (k4 : ¬ (l3 = 0) → ¬ ((σ.1 54 (l2 - 100).toNatClampNeg) ≤ 0) → Q (some (.int (σ.1 54 (l2 - 100).toNatClampNeg))) σ) : sy_E shX mX11_burn (67, [some (.ref 6), none, some (.int l2), some (.int l3), none, none], [.int v], σ) Q := by
  refine sy_bk [(.istore 4, 0, 0, 0, 0), (.iload_n 3, 0, 0, 0, 0)] (70, [some (.ref 6), none, some (.int l2), some (.int l3), some (.int v), none], [.int l3], σ) [] (by decide +kernel) rfl trivial ?_
  by_cases c1 : l3 = 0
  · refine sy_bk [(.ifCond .eq 29, 1, 99, 0, 0)] (99, [some (.ref 6), none, some (.int l2), some (.int l3), some (.int v), none], [], σ) [sy_cc .eq l3 0] (by decide +kernel) rfl ⟨c1, trivial⟩ ?_
    refine sy_bk [(.iload_n 2, 0, 0, 0, 0), (.iconst 1, 0, 0, 1, 0)] (101, [some (.ref 6), none, some (.int l2), some (.int l3), some (.int v), none], [.int 1, .int l2], σ) [] (by decide +kernel) rfl trivial ?_
    by_cases c2 : ¬ l2 = 1
    · refine sy_bk [(.if_icmp .ne 6, 1, 107, 0, 0)] (107, [some (.ref 6), none, some (.int l2), some (.int l3), some (.int v), none], [], σ) [sy_cc .ne l2 1] (by decide +kernel) rfl ⟨c2, trivial⟩ ?_
      refine sy_bk [(.aload_n 0, 0, 0, 0, 0), (.getfield 79, 11, 10, 0, 0)] (111, [some (.ref 6), none, some (.int l2), some (.int l3), some (.int v), none], [.ref 53], σ) [] (by decide +kernel) rfl trivial ?_
      refine sy_drop [none, none, some (.int l2), none, none, none] ⟨rfl, trivial⟩ ?_
      refine sy_callV mX2_unburnt 53 [] [] kX2_unburnt jX11_272 (by decide +kernel) rfl rfl (Nat.le_of_ble_eq_true rfl) (Nat.le_of_ble_eq_true rfl) (by decide) rfl ?_
      exact k1 c1 c2
    · refine sy_bk [(.if_icmp .ne 6, 0, 107, 0, 0)] (104, [some (.ref 6), none, some (.int l2), some (.int l3), some (.int v), none], [], σ) [¬ sy_cc .ne l2 1] (by decide +kernel) rfl ⟨c2, trivial⟩ ?_
      refine sy_bk [(.iload 4, 0, 0, 0, 0)] (106, [some (.ref 6), none, some (.int l2), some (.int l3), some (.int v), none], [.int v], σ) [] (by decide +kernel) rfl trivial ?_
      exact sy_reti rfl (by decide +kernel) (k2 c1 c2)
  · refine sy_bk [(.ifCond .eq 29, 0, 99, 0, 0)] (73, [some (.ref 6), none, some (.int l2), some (.int l3), some (.int v), none], [], σ) [¬ sy_cc .eq l3 0] (by decide +kernel) rfl ⟨c1, trivial⟩ ?_
    refine sy_bk [(.aload_n 0, 0, 0, 0, 0), (.getfield 79, 11, 10, 0, 0), (.iload_n 2, 0, 0, 0, 0), (.bipush 100, 0, 0, 100, 0), (.isub, 0, 0, 0, 0)] (81, [some (.ref 6), none, some (.int l2), some (.int l3), some (.int v), none], [.int (l2 - 100), .ref 53], σ) [] (by decide +kernel) rfl trivial ?_
    refine sy_callV mX2_roundAt 53 [.int (l2 - 100)] [] kX2_roundAt jX11_269 (by decide +kernel) rfl rfl (Nat.le_of_ble_eq_true rfl) (Nat.le_of_ble_eq_true rfl) (by decide) rfl ?_
    refine w_x_roundAt (σ := σ) (cell := (l2 - 100)) (b1 c1) ?_
    show sy_E shX mX11_burn (84, [some (.ref 6), none, some (.int l2), some (.int l3), some (.int v), none], [.int (σ.1 54 (l2 - 100).toNatClampNeg)], σ) _
    refine sy_bk [(.istore 5, 0, 0, 0, 0), (.iload 5, 0, 0, 0, 0)] (88, [some (.ref 6), none, some (.int l2), some (.int l3), some (.int v), some (.int (σ.1 54 (l2 - 100).toNatClampNeg))], [.int (σ.1 54 (l2 - 100).toNatClampNeg)], σ) [] (by decide +kernel) rfl trivial ?_
    by_cases c3 : (σ.1 54 (l2 - 100).toNatClampNeg) ≤ 0
    · refine sy_bk [(.ifCond .le 8, 1, 96, 0, 0)] (96, [some (.ref 6), none, some (.int l2), some (.int l3), some (.int v), some (.int (σ.1 54 (l2 - 100).toNatClampNeg))], [], σ) [sy_cc .le (σ.1 54 (l2 - 100).toNatClampNeg) 0] (by decide +kernel) rfl ⟨c3, trivial⟩ ?_
      refine sy_bk [(.bipush (-5), 0, 0, (-5), 0)] (98, [some (.ref 6), none, some (.int l2), some (.int l3), some (.int v), some (.int (σ.1 54 (l2 - 100).toNatClampNeg))], [.int (-5)], σ) [] (by decide +kernel) rfl trivial ?_
      exact sy_reti rfl (by decide +kernel) (k3 c1 c3)
    · refine sy_bk [(.ifCond .le 8, 0, 96, 0, 0)] (91, [some (.ref 6), none, some (.int l2), some (.int l3), some (.int v), some (.int (σ.1 54 (l2 - 100).toNatClampNeg))], [], σ) [¬ sy_cc .le (σ.1 54 (l2 - 100).toNatClampNeg) 0] (by decide +kernel) rfl ⟨c3, trivial⟩ ?_
      refine sy_bk [(.iload 5, 0, 0, 0, 0), (.goto 5, 0, 98, 0, 0)] (98, [some (.ref 6), none, some (.int l2), some (.int l3), some (.int v), some (.int (σ.1 54 (l2 - 100).toNatClampNeg))], [.int (σ.1 54 (l2 - 100).toNatClampNeg)], σ) [] (by decide +kernel) rfl trivial ?_
      exact sy_reti rfl (by decide +kernel) (k4 c1 c3)

set_option maxRecDepth 20000 in
theorem w_X_burn_114 {Q : Option Value → sy_S → Prop} {σ : sy_S} {l2 : Int32} {v : Int32}   (k1 : ¬ l2 = 2 → ¬ v = 0 → Q (some (.int 0)) σ) (k2 : ¬ l2 = 2 → ¬ (¬ v = 0) → Q (some (.int 1)) σ) (k3 : ¬ (¬ l2 = 2) → Q (some (.int v)) σ) : sy_E shX mX11_burn (114, [none, none, some (.int l2), none, none, none], [.int v], σ) Q := by
  refine sy_bk [(.istore 5, 0, 0, 0, 0), (.iload_n 2, 0, 0, 0, 0), (.iconst 2, 0, 0, 2, 0)] (118, [none, none, some (.int l2), none, none, some (.int v)], [.int 2, .int l2], σ) [] (by decide +kernel) rfl trivial ?_
  by_cases c1 : ¬ l2 = 2
  · refine sy_bk [(.if_icmp .ne 8, 1, 126, 0, 0)] (126, [none, none, some (.int l2), none, none, some (.int v)], [], σ) [sy_cc .ne l2 2] (by decide +kernel) rfl ⟨c1, trivial⟩ ?_
    refine sy_bk [(.iload 5, 0, 0, 0, 0)] (128, [none, none, some (.int l2), none, none, some (.int v)], [.int v], σ) [] (by decide +kernel) rfl trivial ?_
    by_cases c2 : ¬ v = 0
    · refine sy_bk [(.ifCond .ne 7, 1, 135, 0, 0)] (135, [none, none, some (.int l2), none, none, some (.int v)], [], σ) [sy_cc .ne v 0] (by decide +kernel) rfl ⟨c2, trivial⟩ ?_
      refine sy_bk [(.iconst 0, 0, 0, 0, 0)] (136, [none, none, some (.int l2), none, none, some (.int v)], [.int 0], σ) [] (by decide +kernel) rfl trivial ?_
      exact sy_reti rfl (by decide +kernel) (k1 c1 c2)
    · refine sy_bk [(.ifCond .ne 7, 0, 135, 0, 0)] (131, [none, none, some (.int l2), none, none, some (.int v)], [], σ) [¬ sy_cc .ne v 0] (by decide +kernel) rfl ⟨c2, trivial⟩ ?_
      refine sy_bk [(.iconst 1, 0, 0, 1, 0), (.goto 4, 0, 136, 0, 0)] (136, [none, none, some (.int l2), none, none, some (.int v)], [.int 1], σ) [] (by decide +kernel) rfl trivial ?_
      exact sy_reti rfl (by decide +kernel) (k2 c1 c2)
  · refine sy_bk [(.if_icmp .ne 8, 0, 126, 0, 0)] (121, [none, none, some (.int l2), none, none, some (.int v)], [], σ) [¬ sy_cc .ne l2 2] (by decide +kernel) rfl ⟨c1, trivial⟩ ?_
    refine sy_bk [(.iload 5, 0, 0, 0, 0), (.goto 13, 0, 136, 0, 0)] (136, [none, none, some (.int l2), none, none, some (.int v)], [.int v], σ) [] (by decide +kernel) rfl trivial ?_
    exact sy_reti rfl (by decide +kernel) (k3 c1)

set_option maxRecDepth 20000 in
theorem w_X_through_0 {Q : Option Value → sy_S → Prop} {σ : sy_S}    (k1 : (σ.1 0 7) ≤ 6 → sy_E shX mX11_through (31, [some (.ref 6), some (.int (1 <<< ((2 * (σ.1 0 7)) &&& 31))), some (.int 0), some (.int 0)], [], σ) Q) (k2 : ¬ ((σ.1 0 7) ≤ 6) → Q (some (.int (-3))) σ) : sy_E shX mX11_through (0, sy_ent [.ref 6] 4, [], σ) Q := by
  show sy_E shX mX11_through (0, [some (.ref 6), none, none, none], [], σ) _
  refine sy_bk [(.aload_n 0, 0, 0, 0, 0), (.getfield 16, 11, 0, 0, 0)] (4, [some (.ref 6), none, none, none], [.ref 0], σ) [] (by decide +kernel) rfl trivial ?_
  refine sy_callV mX3_placeCount 0 [] [] kX3_placeCount jX11_275 (by decide +kernel) rfl rfl (Nat.le_of_ble_eq_true rfl) (Nat.le_of_ble_eq_true rfl) (by decide) rfl ?_
  refine w_x_placeCount (σ := σ) ?_
  show sy_E shX mX11_through (7, [some (.ref 6), none, none, none], [.int (σ.1 0 7)], σ) _
  refine sy_bk [(.bipush 6, 0, 0, 6, 0)] (9, [some (.ref 6), none, none, none], [.int 6, .int (σ.1 0 7)], σ) [] (by decide +kernel) rfl trivial ?_
  by_cases c1 : (σ.1 0 7) ≤ 6
  · refine sy_bk [(.if_icmp .le 6, 1, 15, 0, 0)] (15, [some (.ref 6), none, none, none], [], σ) [sy_cc .le (σ.1 0 7) 6] (by decide +kernel) rfl ⟨c1, trivial⟩ ?_
    refine sy_bk [(.iconst 1, 0, 0, 1, 0), (.iconst 2, 0, 0, 2, 0), (.aload_n 0, 0, 0, 0, 0), (.getfield 16, 11, 0, 0, 0)] (21, [some (.ref 6), none, none, none], [.ref 0, .int 2, .int 1], σ) [] (by decide +kernel) rfl trivial ?_
    refine sy_callV mX3_placeCount 0 [] [.int 2, .int 1] kX3_placeCount jX11_275 (by decide +kernel) rfl rfl (Nat.le_of_ble_eq_true rfl) (Nat.le_of_ble_eq_true rfl) (by decide) rfl ?_
    refine w_x_placeCount (σ := σ) ?_
    show sy_E shX mX11_through (24, [some (.ref 6), none, none, none], [.int (σ.1 0 7), .int 2, .int 1], σ) _
    refine sy_bk [(.imul, 0, 0, 0, 0), (.ishl, 0, 0, 0, 0), (.istore_n 1, 0, 0, 0, 0), (.iconst 0, 0, 0, 0, 0), (.istore_n 2, 0, 0, 0, 0), (.iconst 0, 0, 0, 0, 0), (.istore_n 3, 0, 0, 0, 0)] (31, [some (.ref 6), some (.int (1 <<< ((2 * (σ.1 0 7)) &&& 31))), some (.int 0), some (.int 0)], [], σ) [] (by decide +kernel) rfl trivial ?_
    exact k1 c1
  · refine sy_bk [(.if_icmp .le 6, 0, 15, 0, 0)] (12, [some (.ref 6), none, none, none], [], σ) [¬ sy_cc .le (σ.1 0 7) 6] (by decide +kernel) rfl ⟨c1, trivial⟩ ?_
    refine sy_bk [(.bipush (-3), 0, 0, (-3), 0)] (14, [some (.ref 6), none, none, none], [.int (-3)], σ) [] (by decide +kernel) rfl trivial ?_
    exact sy_reti rfl (by decide +kernel) (k2 c1)

set_option maxRecDepth 20000 in
theorem w_X_through_31 {Q : Option Value → sy_S → Prop} {σ : sy_S} {l1 : Int32} {l2 : Int32} {l3 : Int32}   (k1 : l1 ≤ l3 → Q (some (.int l2)) σ) (k2 : ¬ (l1 ≤ l3) → sy_E shX mX3_unpack (0, sy_ent [.ref 0, .int l3, .ref 64] 5, [], σ) (fun r9 σ9 => sy_E shX mX11_through (48, [some (.ref 6), some (.int l1), some (.int l2), some (.int l3)], r9.toList ++ [], σ9) Q)) : sy_E shX mX11_through (31, [some (.ref 6), some (.int l1), some (.int l2), some (.int l3)], [], σ) Q := by
  refine sy_bk [(.iload_n 3, 0, 0, 0, 0), (.iload_n 1, 0, 0, 0, 0)] (33, [some (.ref 6), some (.int l1), some (.int l2), some (.int l3)], [.int l1, .int l3], σ) [] (by decide +kernel) rfl trivial ?_
  by_cases c1 : l1 ≤ l3
  · refine sy_bk [(.if_icmp .ge 46, 1, 79, 0, 0)] (79, [some (.ref 6), some (.int l1), some (.int l2), some (.int l3)], [], σ) [sy_cc .ge l3 l1] (by decide +kernel) rfl ⟨c1, trivial⟩ ?_
    refine sy_bk [(.iload_n 2, 0, 0, 0, 0)] (80, [some (.ref 6), some (.int l1), some (.int l2), some (.int l3)], [.int l2], σ) [] (by decide +kernel) rfl trivial ?_
    exact sy_reti rfl (by decide +kernel) (k1 c1)
  · refine sy_bk [(.if_icmp .ge 46, 0, 79, 0, 0)] (36, [some (.ref 6), some (.int l1), some (.int l2), some (.int l3)], [], σ) [¬ sy_cc .ge l3 l1] (by decide +kernel) rfl ⟨c1, trivial⟩ ?_
    refine sy_bk [(.aload_n 0, 0, 0, 0, 0), (.getfield 16, 11, 0, 0, 0), (.iload_n 3, 0, 0, 0, 0), (.aload_n 0, 0, 0, 0, 0), (.getfield 104, 11, 14, 0, 0)] (45, [some (.ref 6), some (.int l1), some (.int l2), some (.int l3)], [.ref 64, .int l3, .ref 0], σ) [] (by decide +kernel) rfl trivial ?_
    refine sy_callV mX3_unpack 0 [.int l3, .ref 64] [] kX3_unpack jX11_278 (by decide +kernel) rfl rfl (Nat.le_of_ble_eq_true rfl) (Nat.le_of_ble_eq_true rfl) (by decide) rfl ?_
    exact k2 c1

set_option maxRecDepth 20000 in
theorem w_X_through_48 {Q : Option Value → sy_S → Prop} {σ : sy_S} {l1 : Int32} {l2 : Int32} {l3 : Int32}   (k1 : sy_E shX mX2_spread (0, sy_ent [.ref 53, .ref 64] 3, [], σ) (fun r9 σ9 => sy_E shX mX11_through (59, [some (.ref 6), some (.int l1), some (.int l2), some (.int l3)], r9.toList ++ [], σ9) Q)) : sy_E shX mX11_through (48, [some (.ref 6), some (.int l1), some (.int l2), some (.int l3)], [], σ) Q := by
  refine sy_bk [(.aload_n 0, 0, 0, 0, 0), (.getfield 79, 11, 10, 0, 0), (.aload_n 0, 0, 0, 0, 0), (.getfield 104, 11, 14, 0, 0)] (56, [some (.ref 6), some (.int l1), some (.int l2), some (.int l3)], [.ref 64, .ref 53], σ) [] (by decide +kernel) rfl trivial ?_
  refine sy_callV mX2_spread 53 [.ref 64] [] kX2_spread jX11_266 (by decide +kernel) rfl rfl (Nat.le_of_ble_eq_true rfl) (Nat.le_of_ble_eq_true rfl) (by decide) rfl ?_
  exact k1

set_option maxRecDepth 20000 in
theorem w_X_through_59 {Q : Option Value → sy_S → Prop} {σ : sy_S} {l1 : Int32} {l2 : Int32} {l3 : Int32} {v : Int32}   (k1 : sy_E shX mX2_unburnt (0, sy_ent [.ref 53] 4, [], σ) (fun r9 σ9 => sy_E shX mX11_through (67, [some (.ref 6), some (.int l1), some (.int l2), some (.int l3)], r9.toList ++ [], σ9) Q)) : sy_E shX mX11_through (59, [some (.ref 6), some (.int l1), some (.int l2), some (.int l3)], [.int v], σ) Q := by
  refine sy_bk [(.pop, 0, 0, 0, 0), (.aload_n 0, 0, 0, 0, 0), (.getfield 79, 11, 10, 0, 0)] (64, [some (.ref 6), some (.int l1), some (.int l2), some (.int l3)], [.ref 53], σ) [] (by decide +kernel) rfl trivial ?_
  refine sy_callV mX2_unburnt 53 [] [] kX2_unburnt jX11_272 (by decide +kernel) rfl rfl (Nat.le_of_ble_eq_true rfl) (Nat.le_of_ble_eq_true rfl) (by decide) rfl ?_
  exact k1

set_option maxRecDepth 20000 in
theorem w_X_through_67 {Q : Option Value → sy_S → Prop} {σ : sy_S} {l1 : Int32} {l2 : Int32} {l3 : Int32} {v : Int32}   (k1 : ¬ v = 0 → sy_E shX mX11_through (31, [some (.ref 6), some (.int l1), some (.int l2), some (.int (l3 + 1))], [], σ) Q) (k2 : ¬ (¬ v = 0) → sy_E shX mX11_through (31, [some (.ref 6), some (.int l1), some (.int (l2 + 1)), some (.int (l3 + 1))], [], σ) Q) : sy_E shX mX11_through (67, [some (.ref 6), some (.int l1), some (.int l2), some (.int l3)], [.int v], σ) Q := by
  by_cases c1 : ¬ v = 0
  · refine sy_bk [(.ifCond .ne 6, 1, 73, 0, 0)] (73, [some (.ref 6), some (.int l1), some (.int l2), some (.int l3)], [], σ) [sy_cc .ne v 0] (by decide +kernel) rfl ⟨c1, trivial⟩ ?_
    refine sy_bk [(.iinc 3 1, 0, 0, 1, 0), (.goto (-45), 0, 31, 0, 0)] (31, [some (.ref 6), some (.int l1), some (.int l2), some (.int (l3 + 1))], [], σ) [] (by decide +kernel) rfl trivial ?_
    exact k1 c1
  · refine sy_bk [(.ifCond .ne 6, 0, 73, 0, 0)] (70, [some (.ref 6), some (.int l1), some (.int l2), some (.int l3)], [], σ) [¬ sy_cc .ne v 0] (by decide +kernel) rfl ⟨c1, trivial⟩ ?_
    refine sy_bk [(.iinc 2 1, 0, 0, 1, 0), (.iinc 3 1, 0, 0, 1, 0), (.goto (-45), 0, 31, 0, 0)] (31, [some (.ref 6), some (.int l1), some (.int (l2 + 1)), some (.int (l3 + 1))], [], σ) [] (by decide +kernel) rfl trivial ?_
    exact k2 c1

set_option maxRecDepth 20000 in
theorem w_X_avalanche_0 {Q : Option Value → sy_S → Prop} {σ : sy_S} {cell : Int32} {w : Int32} {G : sg_G}  (b1 : gx G σ.1) (k1 : ∀ (m_1 : Nat), px (sg_p G) cell = some m_1 → w < 0 → Q (some (.int (-1))) σ) (k2 : ∀ (m_1 : Nat), px (sg_p G) cell = some m_1 → ¬ (w < 0) → w ≤ 3 → sy_E shX mX3_isStable (0, sy_ent [.ref 0, .ref 7] 3, [], σ) (fun r9 σ9 => sy_E shX mX11_avalanche (33, [some (.ref 6), some (.int cell), some (.int w), none], r9.toList ++ [], σ9) Q)) (k3 : ∀ (m_1 : Nat), px (sg_p G) cell = some m_1 → ¬ (w < 0) → ¬ (w ≤ 3) → Q (some (.int (-1))) σ) (k4 : px (sg_p G) cell = none → Q (some (.int (-1))) σ) : sy_E shX mX11_avalanche (0, sy_ent [.ref 6, .int cell, .int w] 4, [], σ) Q := by
  show sy_E shX mX11_avalanche (0, [some (.ref 6), some (.int cell), some (.int w), none], [], σ) _
  refine sy_bk [(.aload_n 0, 0, 0, 0, 0), (.getfield 16, 11, 0, 0, 0), (.iload_n 1, 0, 0, 0, 0)] (5, [some (.ref 6), some (.int cell), some (.int w), none], [.int cell, .ref 0], σ) [] (by decide +kernel) rfl trivial ?_
  refine sy_callV mX3_isPlace 0 [.int cell] [] kX3_isPlace jX11_127 (by decide +kernel) rfl rfl (Nat.le_of_ble_eq_true rfl) (Nat.le_of_ble_eq_true rfl) (by decide) rfl ?_
  refine e_x_isPl (σ := σ) (cell := cell) b1 ?_ ?_
  · intro m_1 c2
    show sy_E shX mX11_avalanche (8, [some (.ref 6), some (.int cell), some (.int w), none], [.int 1], σ) _
    refine sy_bk [(.ifCond .eq 12, 0, 20, 0, 0), (.iload_n 2, 0, 0, 0, 0)] (12, [some (.ref 6), some (.int cell), some (.int w), none], [.int w], σ) [¬ sy_cc .eq 1 0] (by decide +kernel) rfl ⟨(by decide : ¬ ((1 : Int32) = 0)), trivial⟩ ?_
    by_cases c3 : w < 0
    · refine sy_bk [(.ifCond .lt 8, 1, 20, 0, 0)] (20, [some (.ref 6), some (.int cell), some (.int w), none], [], σ) [sy_cc .lt w 0] (by decide +kernel) rfl ⟨c3, trivial⟩ ?_
      refine sy_bk [(.iconst (-1), 0, 0, (-1), 0)] (21, [some (.ref 6), some (.int cell), some (.int w), none], [.int (-1)], σ) [] (by decide +kernel) rfl trivial ?_
      exact sy_reti rfl (by decide +kernel) (k1 m_1 c2 c3)
    · refine sy_bk [(.ifCond .lt 8, 0, 20, 0, 0)] (15, [some (.ref 6), some (.int cell), some (.int w), none], [], σ) [¬ sy_cc .lt w 0] (by decide +kernel) rfl ⟨c3, trivial⟩ ?_
      refine sy_bk [(.iload_n 2, 0, 0, 0, 0), (.iconst 3, 0, 0, 3, 0)] (17, [some (.ref 6), some (.int cell), some (.int w), none], [.int 3, .int w], σ) [] (by decide +kernel) rfl trivial ?_
      by_cases c4 : w ≤ 3
      · refine sy_bk [(.if_icmp .le 5, 1, 22, 0, 0)] (22, [some (.ref 6), some (.int cell), some (.int w), none], [], σ) [sy_cc .le w 3] (by decide +kernel) rfl ⟨c4, trivial⟩ ?_
        refine sy_bk [(.aload_n 0, 0, 0, 0, 0), (.getfield 16, 11, 0, 0, 0), (.aload_n 0, 0, 0, 0, 0), (.getfield 20, 11, 1, 0, 0)] (30, [some (.ref 6), some (.int cell), some (.int w), none], [.ref 7, .ref 0], σ) [] (by decide +kernel) rfl trivial ?_
        refine sy_callV mX3_isStable 0 [.ref 7] [] kX3_isStable jX11_282 (by decide +kernel) rfl rfl (Nat.le_of_ble_eq_true rfl) (Nat.le_of_ble_eq_true rfl) (by decide) rfl ?_
        exact k2 m_1 c2 c3 c4
      · refine sy_bk [(.if_icmp .le 5, 0, 22, 0, 0)] (20, [some (.ref 6), some (.int cell), some (.int w), none], [], σ) [¬ sy_cc .le w 3] (by decide +kernel) rfl ⟨c4, trivial⟩ ?_
        refine sy_bk [(.iconst (-1), 0, 0, (-1), 0)] (21, [some (.ref 6), some (.int cell), some (.int w), none], [.int (-1)], σ) [] (by decide +kernel) rfl trivial ?_
        exact sy_reti rfl (by decide +kernel) (k3 m_1 c2 c3 c4)
  · intro c5
    show sy_E shX mX11_avalanche (8, [some (.ref 6), some (.int cell), some (.int w), none], [.int 0], σ) _
    refine sy_bk [(.ifCond .eq 12, 1, 20, 0, 0), (.iconst (-1), 0, 0, (-1), 0)] (21, [some (.ref 6), some (.int cell), some (.int w), none], [.int (-1)], σ) [sy_cc .eq 0 0] (by decide +kernel) rfl ⟨(by decide : ((0 : Int32) = 0)), trivial⟩ ?_
    exact sy_reti rfl (by decide +kernel) (k4 c5)

set_option maxRecDepth 20000 in
theorem w_X_avalanche_33 {Q : Option Value → sy_S → Prop} {σ : sy_S} {l1 : Int32} {l2 : Int32} {v : Int32}   (k1 : ¬ v = 0 → sy_E shX mX1_begin (0, sy_ent [.ref 39, .ref 7] 2, [], σ) (fun r9 σ9 => sy_E shX mX11_avalanche (50, [some (.ref 6), some (.int l1), some (.int l2), none], r9.toList ++ [], σ9) Q)) (k2 : ¬ (¬ v = 0) → Q (some (.int (-3))) σ) : sy_E shX mX11_avalanche (33, [some (.ref 6), some (.int l1), some (.int l2), none], [.int v], σ) Q := by
  by_cases c1 : ¬ v = 0
  · refine sy_bk [(.ifCond .ne 6, 1, 39, 0, 0)] (39, [some (.ref 6), some (.int l1), some (.int l2), none], [], σ) [sy_cc .ne v 0] (by decide +kernel) rfl ⟨c1, trivial⟩ ?_
    refine sy_bk [(.aload_n 0, 0, 0, 0, 0), (.getfield 53, 11, 6, 0, 0), (.aload_n 0, 0, 0, 0, 0), (.getfield 20, 11, 1, 0, 0)] (47, [some (.ref 6), some (.int l1), some (.int l2), none], [.ref 7, .ref 39], σ) [] (by decide +kernel) rfl trivial ?_
    refine sy_callV mX1_begin 39 [.ref 7] [] kX1_begin jX11_146 (by decide +kernel) rfl rfl (Nat.le_of_ble_eq_true rfl) (Nat.le_of_ble_eq_true rfl) (by decide) rfl ?_
    exact k1 c1
  · refine sy_bk [(.ifCond .ne 6, 0, 39, 0, 0)] (36, [some (.ref 6), some (.int l1), some (.int l2), none], [], σ) [¬ sy_cc .ne v 0] (by decide +kernel) rfl ⟨c1, trivial⟩ ?_
    refine sy_bk [(.bipush (-3), 0, 0, (-3), 0)] (38, [some (.ref 6), some (.int l1), some (.int l2), none], [.int (-3)], σ) [] (by decide +kernel) rfl trivial ?_
    exact sy_reti rfl (by decide +kernel) (k2 c1)

set_option maxRecDepth 20000 in
theorem w_X_avalanche_50 {Q : Option Value → sy_S → Prop} {σ : sy_S} {l1 : Int32} {l2 : Int32}   (k1 : sy_E shX mX1_addGrain (0, sy_ent [.ref 39, .int l1] 2, [], σ) (fun r9 σ9 => sy_E shX mX11_avalanche (58, [some (.ref 6), none, some (.int l2), none], r9.toList ++ [], σ9) Q)) : sy_E shX mX11_avalanche (50, [some (.ref 6), some (.int l1), some (.int l2), none], [], σ) Q := by
  refine sy_bk [(.aload_n 0, 0, 0, 0, 0), (.getfield 53, 11, 6, 0, 0), (.iload_n 1, 0, 0, 0, 0)] (55, [some (.ref 6), some (.int l1), some (.int l2), none], [.int l1, .ref 39], σ) [] (by decide +kernel) rfl trivial ?_
  refine sy_drop [some (.ref 6), none, some (.int l2), none] ⟨rfl, rfl, trivial⟩ ?_
  refine sy_callV mX1_addGrain 39 [.int l1] [] kX1_addGrain jX11_286 (by decide +kernel) rfl rfl (Nat.le_of_ble_eq_true rfl) (Nat.le_of_ble_eq_true rfl) (by decide) rfl ?_
  exact k1

set_option maxRecDepth 20000 in
theorem w_X_avalanche_58 {Q : Option Value → sy_S → Prop} {σ : sy_S} {l2 : Int32}   (k1 : sy_E shX mX1_inRounds (0, sy_ent [.ref 39] 4, [], σ) (fun r9 σ9 => sy_E shX mX11_avalanche (65, [some (.ref 6), none, some (.int l2), none], r9.toList ++ [], σ9) Q)) : sy_E shX mX11_avalanche (58, [some (.ref 6), none, some (.int l2), none], [], σ) Q := by
  refine sy_bk [(.aload_n 0, 0, 0, 0, 0), (.getfield 53, 11, 6, 0, 0)] (62, [some (.ref 6), none, some (.int l2), none], [.ref 39], σ) [] (by decide +kernel) rfl trivial ?_
  refine sy_callV mX1_inRounds 39 [] [] kX1_inRounds jX11_183 (by decide +kernel) rfl rfl (Nat.le_of_ble_eq_true rfl) (Nat.le_of_ble_eq_true rfl) (by decide) rfl ?_
  exact k1

set_option maxRecDepth 20000 in
theorem w_X_avalanche_65 {Q : Option Value → sy_S → Prop} {σ : sy_S} {l2 : Int32} {v : Int32}   (k1 : l2 = 0 → sy_E shX mX1_toppled (0, sy_ent [.ref 39] 1, [], σ) (fun r9 σ9 => sy_E shX mX11_avalanche (99, [none, none, none, none], r9.toList ++ [], σ9) Q)) (k2 : ¬ l2 = 0 → l2 = 1 → sy_E shX mX1_area (0, sy_ent [.ref 39] 3, [], σ) (fun r9 σ9 => sy_E shX mX11_avalanche (107, [none, none, none, none], r9.toList ++ [], σ9) Q)) (k3 : ¬ l2 = 0 → ¬ l2 = 1 → l2 = 2 → sy_E shX mX1_lost (0, sy_ent [.ref 39] 4, [], σ) (fun r9 σ9 => sy_E shX mX11_avalanche (115, [none, none, none, none], r9.toList ++ [], σ9) Q)) (k4 : ¬ l2 = 0 → ¬ l2 = 1 → ¬ l2 = 2 → Q (some (.int v)) σ) : sy_E shX mX11_avalanche (65, [some (.ref 6), none, some (.int l2), none], [.int v], σ) Q := by
  refine sy_bk [(.istore_n 3, 0, 0, 0, 0), (.iload_n 2, 0, 0, 0, 0)] (67, [some (.ref 6), none, some (.int l2), some (.int v)], [.int l2], σ) [] (by decide +kernel) rfl trivial ?_
  by_cases c1 : l2 = 0
  · refine sy_bk [(.tableswitch 49 0 2 #[25, 33, 41], 1, 92, 0, 0)] (92, [some (.ref 6), none, some (.int l2), some (.int v)], [], σ) [l2 = 0] (by decide +kernel) rfl ⟨c1, trivial⟩ ?_
    refine sy_bk [(.aload_n 0, 0, 0, 0, 0), (.getfield 53, 11, 6, 0, 0)] (96, [some (.ref 6), none, some (.int l2), some (.int v)], [.ref 39], σ) [] (by decide +kernel) rfl trivial ?_
    refine sy_drop [none, none, none, none] trivial ?_
    refine sy_callV mX1_toppled 39 [] [] kX1_toppled jX11_290 (by decide +kernel) rfl rfl (Nat.le_of_ble_eq_true rfl) (Nat.le_of_ble_eq_true rfl) (by decide) rfl ?_
    exact k1 c1
  by_cases c2 : l2 = 1
  · refine sy_bk [(.tableswitch 49 0 2 #[25, 33, 41], 1, 100, 1, 0)] (100, [some (.ref 6), none, some (.int l2), some (.int v)], [], σ) [l2 = 1] (by decide +kernel) rfl ⟨c2, trivial⟩ ?_
    refine sy_bk [(.aload_n 0, 0, 0, 0, 0), (.getfield 53, 11, 6, 0, 0)] (104, [some (.ref 6), none, some (.int l2), some (.int v)], [.ref 39], σ) [] (by decide +kernel) rfl trivial ?_
    refine sy_drop [none, none, none, none] trivial ?_
    refine sy_callV mX1_area 39 [] [] kX1_area jX11_195 (by decide +kernel) rfl rfl (Nat.le_of_ble_eq_true rfl) (Nat.le_of_ble_eq_true rfl) (by decide) rfl ?_
    exact k2 c1 c2
  by_cases c3 : l2 = 2
  · refine sy_bk [(.tableswitch 49 0 2 #[25, 33, 41], 1, 108, 2, 0)] (108, [some (.ref 6), none, some (.int l2), some (.int v)], [], σ) [l2 = 2] (by decide +kernel) rfl ⟨c3, trivial⟩ ?_
    refine sy_bk [(.aload_n 0, 0, 0, 0, 0), (.getfield 53, 11, 6, 0, 0)] (112, [some (.ref 6), none, some (.int l2), some (.int v)], [.ref 39], σ) [] (by decide +kernel) rfl trivial ?_
    refine sy_drop [none, none, none, none] trivial ?_
    refine sy_callV mX1_lost 39 [] [] kX1_lost jX11_192 (by decide +kernel) rfl rfl (Nat.le_of_ble_eq_true rfl) (Nat.le_of_ble_eq_true rfl) (by decide) rfl ?_
    exact k3 c1 c2 c3
  refine sy_bk [(.tableswitch 49 0 2 #[25, 33, 41], 0, 116, 0, 0)] (116, [some (.ref 6), none, some (.int l2), some (.int v)], [], σ) [l2.toInt < 0 ∨ 2 < l2.toInt] (by decide +kernel) rfl ⟨sy_sw3 c1 c2 c3, trivial⟩ ?_
  refine sy_bk [(.iload_n 3, 0, 0, 0, 0)] (117, [some (.ref 6), none, some (.int l2), some (.int v)], [.int v], σ) [] (by decide +kernel) rfl trivial ?_
  exact sy_reti rfl (by decide +kernel) (k4 c1 c2 c3)

set_option maxRecDepth 20000 in
theorem w_X_avalanche_99 {Q : Option Value → sy_S → Prop} {σ : sy_S} {v : Int32}   (k1 : Q (some (.int v)) σ) : sy_E shX mX11_avalanche (99, [none, none, none, none], [.int v], σ) Q := by
  exact sy_reti rfl (by decide +kernel) (k1)

set_option maxRecDepth 20000 in
theorem w_X_avalanche_107 {Q : Option Value → sy_S → Prop} {σ : sy_S} {v : Int32}   (k1 : Q (some (.int v)) σ) : sy_E shX mX11_avalanche (107, [none, none, none, none], [.int v], σ) Q := by
  exact sy_reti rfl (by decide +kernel) (k1)

set_option maxRecDepth 20000 in
theorem w_X_avalanche_115 {Q : Option Value → sy_S → Prop} {σ : sy_S} {v : Int32}   (k1 : Q (some (.int v)) σ) : sy_E shX mX11_avalanche (115, [none, none, none, none], [.int v], σ) Q := by
  exact sy_reti rfl (by decide +kernel) (k1)

set_option maxRecDepth 20000 in
theorem w_X_again_0 {Q : Option Value → sy_S → Prop} {σ : sy_S} {cell : Int32} {w : Int32} {G : sg_G}  (b1 : gx G σ.1) (k1 : ∀ (m_1 : Nat), px (sg_p G) cell = some m_1 → w < 0 → Q (some (.int (-1))) σ) (k2 : ∀ (m_1 : Nat), px (sg_p G) cell = some m_1 → ¬ (w < 0) → w ≤ 1 → sy_E shX mX1_begin (0, sy_ent [.ref 39, .ref 7] 2, [], σ) (fun r9 σ9 => sy_E shX mX11_again (33, [some (.ref 6), some (.int cell), some (.int w), none, none, none], r9.toList ++ [], σ9) Q)) (k3 : ∀ (m_1 : Nat), px (sg_p G) cell = some m_1 → ¬ (w < 0) → ¬ (w ≤ 1) → Q (some (.int (-1))) σ) (k4 : px (sg_p G) cell = none → Q (some (.int (-1))) σ) : sy_E shX mX11_again (0, sy_ent [.ref 6, .int cell, .int w] 6, [], σ) Q := by
  show sy_E shX mX11_again (0, [some (.ref 6), some (.int cell), some (.int w), none, none, none], [], σ) _
  refine sy_bk [(.aload_n 0, 0, 0, 0, 0), (.getfield 16, 11, 0, 0, 0), (.iload_n 1, 0, 0, 0, 0)] (5, [some (.ref 6), some (.int cell), some (.int w), none, none, none], [.int cell, .ref 0], σ) [] (by decide +kernel) rfl trivial ?_
  refine sy_callV mX3_isPlace 0 [.int cell] [] kX3_isPlace jX11_127 (by decide +kernel) rfl rfl (Nat.le_of_ble_eq_true rfl) (Nat.le_of_ble_eq_true rfl) (by decide) rfl ?_
  refine e_x_isPl (σ := σ) (cell := cell) b1 ?_ ?_
  · intro m_1 c2
    show sy_E shX mX11_again (8, [some (.ref 6), some (.int cell), some (.int w), none, none, none], [.int 1], σ) _
    refine sy_bk [(.ifCond .eq 12, 0, 20, 0, 0), (.iload_n 2, 0, 0, 0, 0)] (12, [some (.ref 6), some (.int cell), some (.int w), none, none, none], [.int w], σ) [¬ sy_cc .eq 1 0] (by decide +kernel) rfl ⟨(by decide : ¬ ((1 : Int32) = 0)), trivial⟩ ?_
    by_cases c3 : w < 0
    · refine sy_bk [(.ifCond .lt 8, 1, 20, 0, 0)] (20, [some (.ref 6), some (.int cell), some (.int w), none, none, none], [], σ) [sy_cc .lt w 0] (by decide +kernel) rfl ⟨c3, trivial⟩ ?_
      refine sy_bk [(.iconst (-1), 0, 0, (-1), 0)] (21, [some (.ref 6), some (.int cell), some (.int w), none, none, none], [.int (-1)], σ) [] (by decide +kernel) rfl trivial ?_
      exact sy_reti rfl (by decide +kernel) (k1 m_1 c2 c3)
    · refine sy_bk [(.ifCond .lt 8, 0, 20, 0, 0)] (15, [some (.ref 6), some (.int cell), some (.int w), none, none, none], [], σ) [¬ sy_cc .lt w 0] (by decide +kernel) rfl ⟨c3, trivial⟩ ?_
      refine sy_bk [(.iload_n 2, 0, 0, 0, 0), (.iconst 1, 0, 0, 1, 0)] (17, [some (.ref 6), some (.int cell), some (.int w), none, none, none], [.int 1, .int w], σ) [] (by decide +kernel) rfl trivial ?_
      by_cases c4 : w ≤ 1
      · refine sy_bk [(.if_icmp .le 5, 1, 22, 0, 0)] (22, [some (.ref 6), some (.int cell), some (.int w), none, none, none], [], σ) [sy_cc .le w 1] (by decide +kernel) rfl ⟨c4, trivial⟩ ?_
        refine sy_bk [(.aload_n 0, 0, 0, 0, 0), (.getfield 53, 11, 6, 0, 0), (.aload_n 0, 0, 0, 0, 0), (.getfield 20, 11, 1, 0, 0)] (30, [some (.ref 6), some (.int cell), some (.int w), none, none, none], [.ref 7, .ref 39], σ) [] (by decide +kernel) rfl trivial ?_
        refine sy_callV mX1_begin 39 [.ref 7] [] kX1_begin jX11_146 (by decide +kernel) rfl rfl (Nat.le_of_ble_eq_true rfl) (Nat.le_of_ble_eq_true rfl) (by decide) rfl ?_
        exact k2 m_1 c2 c3 c4
      · refine sy_bk [(.if_icmp .le 5, 0, 22, 0, 0)] (20, [some (.ref 6), some (.int cell), some (.int w), none, none, none], [], σ) [¬ sy_cc .le w 1] (by decide +kernel) rfl ⟨c4, trivial⟩ ?_
        refine sy_bk [(.iconst (-1), 0, 0, (-1), 0)] (21, [some (.ref 6), some (.int cell), some (.int w), none, none, none], [.int (-1)], σ) [] (by decide +kernel) rfl trivial ?_
        exact sy_reti rfl (by decide +kernel) (k3 m_1 c2 c3 c4)
  · intro c5
    show sy_E shX mX11_again (8, [some (.ref 6), some (.int cell), some (.int w), none, none, none], [.int 0], σ) _
    refine sy_bk [(.ifCond .eq 12, 1, 20, 0, 0), (.iconst (-1), 0, 0, (-1), 0)] (21, [some (.ref 6), some (.int cell), some (.int w), none, none, none], [.int (-1)], σ) [sy_cc .eq 0 0] (by decide +kernel) rfl ⟨(by decide : ((0 : Int32) = 0)), trivial⟩ ?_
    exact sy_reti rfl (by decide +kernel) (k4 c5)

set_option maxRecDepth 20000 in
theorem w_X_again_33 {Q : Option Value → sy_S → Prop} {σ : sy_S} {l1 : Int32} {l2 : Int32}   (k1 : sy_E shX mX1_level (0, sy_ent [.ref 39] 9, [], σ) (fun r9 σ9 => sy_E shX mX11_again (40, [some (.ref 6), some (.int l1), some (.int l2), none, none, none], r9.toList ++ [], σ9) Q)) : sy_E shX mX11_again (33, [some (.ref 6), some (.int l1), some (.int l2), none, none, none], [], σ) Q := by
  refine sy_bk [(.aload_n 0, 0, 0, 0, 0), (.getfield 53, 11, 6, 0, 0)] (37, [some (.ref 6), some (.int l1), some (.int l2), none, none, none], [.ref 39], σ) [] (by decide +kernel) rfl trivial ?_
  refine sy_callV mX1_level 39 [] [] kX1_level jX11_149 (by decide +kernel) rfl rfl (Nat.le_of_ble_eq_true rfl) (Nat.le_of_ble_eq_true rfl) (by decide) rfl ?_
  exact k1

set_option maxRecDepth 20000 in
theorem w_X_again_40 {Q : Option Value → sy_S → Prop} {σ : sy_S} {l1 : Int32} {l2 : Int32} {v : Int32}   (k1 : sy_E shX mX6_clear (0, sy_ent [.ref 57] 1, [], σ) (fun r9 σ9 => sy_E shX mX11_again (48, [some (.ref 6), some (.int l1), some (.int l2), none, none, none], r9.toList ++ [], σ9) Q)) : sy_E shX mX11_again (40, [some (.ref 6), some (.int l1), some (.int l2), none, none, none], [.int v], σ) Q := by
  refine sy_bk [(.pop, 0, 0, 0, 0), (.aload_n 0, 0, 0, 0, 0), (.getfield 93, 11, 12, 0, 0)] (45, [some (.ref 6), some (.int l1), some (.int l2), none, none, none], [.ref 57], σ) [] (by decide +kernel) rfl trivial ?_
  refine sy_callV mX6_clear 57 [] [] kX6_clear jX11_293 (by decide +kernel) rfl rfl (Nat.le_of_ble_eq_true rfl) (Nat.le_of_ble_eq_true rfl) (by decide) rfl ?_
  exact k1

set_option maxRecDepth 20000 in
theorem w_X_again_48 {Q : Option Value → sy_S → Prop} {σ : sy_S} {l1 : Int32} {l2 : Int32}   (k1 : sy_E shX mX1_code (0, sy_ent [.ref 39] 1, [], σ) (fun r9 σ9 => sy_E shX mX11_again (59, [some (.ref 6), some (.int l1), some (.int l2), none, none, none], r9.toList ++ [.ref 57], σ9) Q)) : sy_E shX mX11_again (48, [some (.ref 6), some (.int l1), some (.int l2), none, none, none], [], σ) Q := by
  refine sy_bk [(.aload_n 0, 0, 0, 0, 0), (.getfield 93, 11, 12, 0, 0), (.aload_n 0, 0, 0, 0, 0), (.getfield 53, 11, 6, 0, 0)] (56, [some (.ref 6), some (.int l1), some (.int l2), none, none, none], [.ref 39, .ref 57], σ) [] (by decide +kernel) rfl trivial ?_
  refine sy_callV mX1_code 39 [] [.ref 57] kX1_code jX11_296 (by decide +kernel) rfl rfl (Nat.le_of_ble_eq_true rfl) (Nat.le_of_ble_eq_true rfl) (by decide) rfl ?_
  exact k1

set_option maxRecDepth 20000 in
theorem w_X_again_59 {Q : Option Value → sy_S → Prop} {σ : sy_S} {l1 : Int32} {l2 : Int32} {v : Int32}   (k1 : sy_E shX mX6_add (0, sy_ent [.ref 57, .int v] 3, [], σ) (fun r9 σ9 => sy_E shX mX11_again (62, [some (.ref 6), some (.int l1), some (.int l2), none, none, none], r9.toList ++ [], σ9) Q)) : sy_E shX mX11_again (59, [some (.ref 6), some (.int l1), some (.int l2), none, none, none], [.int v, .ref 57], σ) Q := by
  refine sy_callV mX6_add 57 [.int v] [] kX6_add jX11_299 (by decide +kernel) rfl rfl (Nat.le_of_ble_eq_true rfl) (Nat.le_of_ble_eq_true rfl) (by decide) rfl ?_
  exact k1

set_option maxRecDepth 20000 in
theorem w_X_again_62 {Q : Option Value → sy_S → Prop} {σ : sy_S} {l1 : Int32} {l2 : Int32}   (k1 : sy_E shX mX11_again (64, [some (.ref 6), some (.int l1), some (.int l2), some (.int 1), none, none], [], σ) Q) : sy_E shX mX11_again (62, [some (.ref 6), some (.int l1), some (.int l2), none, none, none], [], σ) Q := by
  refine sy_bk [(.iconst 1, 0, 0, 1, 0), (.istore_n 3, 0, 0, 0, 0)] (64, [some (.ref 6), some (.int l1), some (.int l2), some (.int 1), none, none], [], σ) [] (by decide +kernel) rfl trivial ?_
  exact k1

set_option maxRecDepth 20000 in
theorem w_X_again_64 {Q : Option Value → sy_S → Prop} {σ : sy_S} {l1 : Int32} {l2 : Int32} {l3 : Int32}   (k1 : 2000 < l3 → Q (some (.int (-5))) σ) (k2 : ¬ (2000 < l3) → sy_E shX mX1_addGrain (0, sy_ent [.ref 39, .int l1] 2, [], σ) (fun r9 σ9 => sy_E shX mX11_again (79, [some (.ref 6), some (.int l1), some (.int l2), some (.int l3), none, none], r9.toList ++ [], σ9) Q)) : sy_E shX mX11_again (64, [some (.ref 6), some (.int l1), some (.int l2), some (.int l3), none, none], [], σ) Q := by
  refine sy_bk [(.iload_n 3, 0, 0, 0, 0), (.sipush 2000, 0, 0, 2000, 0)] (68, [some (.ref 6), some (.int l1), some (.int l2), some (.int l3), none, none], [.int 2000, .int l3], σ) [] (by decide +kernel) rfl trivial ?_
  by_cases c1 : 2000 < l3
  · refine sy_bk [(.if_icmp .gt 73, 1, 141, 0, 0)] (141, [some (.ref 6), some (.int l1), some (.int l2), some (.int l3), none, none], [], σ) [sy_cc .gt l3 2000] (by decide +kernel) rfl ⟨c1, trivial⟩ ?_
    refine sy_bk [(.bipush (-5), 0, 0, (-5), 0)] (143, [some (.ref 6), some (.int l1), some (.int l2), some (.int l3), none, none], [.int (-5)], σ) [] (by decide +kernel) rfl trivial ?_
    exact sy_reti rfl (by decide +kernel) (k1 c1)
  · refine sy_bk [(.if_icmp .gt 73, 0, 141, 0, 0)] (71, [some (.ref 6), some (.int l1), some (.int l2), some (.int l3), none, none], [], σ) [¬ sy_cc .gt l3 2000] (by decide +kernel) rfl ⟨c1, trivial⟩ ?_
    refine sy_bk [(.aload_n 0, 0, 0, 0, 0), (.getfield 53, 11, 6, 0, 0), (.iload_n 1, 0, 0, 0, 0)] (76, [some (.ref 6), some (.int l1), some (.int l2), some (.int l3), none, none], [.int l1, .ref 39], σ) [] (by decide +kernel) rfl trivial ?_
    refine sy_callV mX1_addGrain 39 [.int l1] [] kX1_addGrain jX11_286 (by decide +kernel) rfl rfl (Nat.le_of_ble_eq_true rfl) (Nat.le_of_ble_eq_true rfl) (by decide) rfl ?_
    exact k2 c1

set_option maxRecDepth 20000 in
theorem w_X_again_79 {Q : Option Value → sy_S → Prop} {σ : sy_S} {l1 : Int32} {l2 : Int32} {l3 : Int32}   (k1 : sy_E shX mX1_level (0, sy_ent [.ref 39] 9, [], σ) (fun r9 σ9 => sy_E shX mX11_again (86, [some (.ref 6), some (.int l1), some (.int l2), some (.int l3), none, none], r9.toList ++ [], σ9) Q)) : sy_E shX mX11_again (79, [some (.ref 6), some (.int l1), some (.int l2), some (.int l3), none, none], [], σ) Q := by
  refine sy_bk [(.aload_n 0, 0, 0, 0, 0), (.getfield 53, 11, 6, 0, 0)] (83, [some (.ref 6), some (.int l1), some (.int l2), some (.int l3), none, none], [.ref 39], σ) [] (by decide +kernel) rfl trivial ?_
  refine sy_callV mX1_level 39 [] [] kX1_level jX11_149 (by decide +kernel) rfl rfl (Nat.le_of_ble_eq_true rfl) (Nat.le_of_ble_eq_true rfl) (by decide) rfl ?_
  exact k1

set_option maxRecDepth 20000 in
theorem w_X_again_86 {Q : Option Value → sy_S → Prop} {σ : sy_S} {l1 : Int32} {l2 : Int32} {l3 : Int32} {v : Int32}   (k1 : sy_E shX mX1_code (0, sy_ent [.ref 39] 1, [], σ) (fun r9 σ9 => sy_E shX mX11_again (94, [some (.ref 6), some (.int l1), some (.int l2), some (.int l3), none, none], r9.toList ++ [], σ9) Q)) : sy_E shX mX11_again (86, [some (.ref 6), some (.int l1), some (.int l2), some (.int l3), none, none], [.int v], σ) Q := by
  refine sy_bk [(.pop, 0, 0, 0, 0), (.aload_n 0, 0, 0, 0, 0), (.getfield 53, 11, 6, 0, 0)] (91, [some (.ref 6), some (.int l1), some (.int l2), some (.int l3), none, none], [.ref 39], σ) [] (by decide +kernel) rfl trivial ?_
  refine sy_callV mX1_code 39 [] [] kX1_code jX11_296 (by decide +kernel) rfl rfl (Nat.le_of_ble_eq_true rfl) (Nat.le_of_ble_eq_true rfl) (by decide) rfl ?_
  exact k1

set_option maxRecDepth 20000 in
theorem w_X_again_94 {Q : Option Value → sy_S → Prop} {σ : sy_S} {l1 : Int32} {l2 : Int32} {l3 : Int32} {v : Int32}   (k1 : sy_E shX mX6_find (0, sy_ent [.ref 57, .int v] 4, [], σ) (fun r9 σ9 => sy_E shX mX11_again (105, [some (.ref 6), some (.int l1), some (.int l2), some (.int l3), some (.int v), none], r9.toList ++ [], σ9) Q)) : sy_E shX mX11_again (94, [some (.ref 6), some (.int l1), some (.int l2), some (.int l3), none, none], [.int v], σ) Q := by
  refine sy_bk [(.istore 4, 0, 0, 0, 0), (.aload_n 0, 0, 0, 0, 0), (.getfield 93, 11, 12, 0, 0), (.iload 4, 0, 0, 0, 0)] (102, [some (.ref 6), some (.int l1), some (.int l2), some (.int l3), some (.int v), none], [.int v, .ref 57], σ) [] (by decide +kernel) rfl trivial ?_
  refine sy_callV mX6_find 57 [.int v] [] kX6_find jX11_301 (by decide +kernel) rfl rfl (Nat.le_of_ble_eq_true rfl) (Nat.le_of_ble_eq_true rfl) (by decide) rfl ?_
  exact k1

set_option maxRecDepth 20000 in
theorem w_X_again_105 {Q : Option Value → sy_S → Prop} {σ : sy_S} {l1 : Int32} {l2 : Int32} {l3 : Int32} {l4 : Int32} {v : Int32}   (k1 : v < 0 → sy_E shX mX6_add (0, sy_ent [.ref 57, .int l4] 3, [], σ) (fun r9 σ9 => sy_E shX mX11_again (135, [some (.ref 6), some (.int l1), some (.int l2), some (.int l3), none, none], r9.toList ++ [], σ9) Q)) (k2 : ¬ (v < 0) → ¬ l2 = 0 → Q (some (.int v)) σ) (k3 : ¬ (v < 0) → ¬ (¬ l2 = 0) → Q (some (.int (l3 - v))) σ) : sy_E shX mX11_again (105, [some (.ref 6), some (.int l1), some (.int l2), some (.int l3), some (.int l4), none], [.int v], σ) Q := by
  refine sy_bk [(.istore 5, 0, 0, 0, 0), (.iload 5, 0, 0, 0, 0)] (109, [some (.ref 6), some (.int l1), some (.int l2), some (.int l3), some (.int l4), some (.int v)], [.int v], σ) [] (by decide +kernel) rfl trivial ?_
  by_cases c1 : v < 0
  · refine sy_bk [(.ifCond .lt 17, 1, 126, 0, 0)] (126, [some (.ref 6), some (.int l1), some (.int l2), some (.int l3), some (.int l4), some (.int v)], [], σ) [sy_cc .lt v 0] (by decide +kernel) rfl ⟨c1, trivial⟩ ?_
    refine sy_bk [(.aload_n 0, 0, 0, 0, 0), (.getfield 93, 11, 12, 0, 0), (.iload 4, 0, 0, 0, 0)] (132, [some (.ref 6), some (.int l1), some (.int l2), some (.int l3), some (.int l4), some (.int v)], [.int l4, .ref 57], σ) [] (by decide +kernel) rfl trivial ?_
    refine sy_drop [some (.ref 6), some (.int l1), some (.int l2), some (.int l3), none, none] ⟨rfl, rfl, rfl, rfl, trivial⟩ ?_
    refine sy_callV mX6_add 57 [.int l4] [] kX6_add jX11_299 (by decide +kernel) rfl rfl (Nat.le_of_ble_eq_true rfl) (Nat.le_of_ble_eq_true rfl) (by decide) rfl ?_
    exact k1 c1
  · refine sy_bk [(.ifCond .lt 17, 0, 126, 0, 0)] (112, [some (.ref 6), some (.int l1), some (.int l2), some (.int l3), some (.int l4), some (.int v)], [], σ) [¬ sy_cc .lt v 0] (by decide +kernel) rfl ⟨c1, trivial⟩ ?_
    refine sy_bk [(.iload_n 2, 0, 0, 0, 0)] (113, [some (.ref 6), some (.int l1), some (.int l2), some (.int l3), some (.int l4), some (.int v)], [.int l2], σ) [] (by decide +kernel) rfl trivial ?_
    by_cases c2 : ¬ l2 = 0
    · refine sy_bk [(.ifCond .ne 10, 1, 123, 0, 0)] (123, [some (.ref 6), some (.int l1), some (.int l2), some (.int l3), some (.int l4), some (.int v)], [], σ) [sy_cc .ne l2 0] (by decide +kernel) rfl ⟨c2, trivial⟩ ?_
      refine sy_bk [(.iload 5, 0, 0, 0, 0)] (125, [some (.ref 6), some (.int l1), some (.int l2), some (.int l3), some (.int l4), some (.int v)], [.int v], σ) [] (by decide +kernel) rfl trivial ?_
      exact sy_reti rfl (by decide +kernel) (k2 c1 c2)
    · refine sy_bk [(.ifCond .ne 10, 0, 123, 0, 0)] (116, [some (.ref 6), some (.int l1), some (.int l2), some (.int l3), some (.int l4), some (.int v)], [], σ) [¬ sy_cc .ne l2 0] (by decide +kernel) rfl ⟨c2, trivial⟩ ?_
      refine sy_bk [(.iload_n 3, 0, 0, 0, 0), (.iload 5, 0, 0, 0, 0), (.isub, 0, 0, 0, 0), (.goto 5, 0, 125, 0, 0)] (125, [some (.ref 6), some (.int l1), some (.int l2), some (.int l3), some (.int l4), some (.int v)], [.int (l3 - v)], σ) [] (by decide +kernel) rfl trivial ?_
      exact sy_reti rfl (by decide +kernel) (k3 c1 c2)

set_option maxRecDepth 20000 in
theorem w_X_again_135 {Q : Option Value → sy_S → Prop} {σ : sy_S} {l1 : Int32} {l2 : Int32} {l3 : Int32}   (k1 : sy_E shX mX11_again (64, [some (.ref 6), some (.int l1), some (.int l2), some (.int (l3 + 1)), none, none], [], σ) Q) : sy_E shX mX11_again (135, [some (.ref 6), some (.int l1), some (.int l2), some (.int l3), none, none], [], σ) Q := by
  refine sy_bk [(.iinc 3 1, 0, 0, 1, 0), (.goto (-74), 0, 64, 0, 0)] (64, [some (.ref 6), some (.int l1), some (.int l2), some (.int (l3 + 1)), none, none], [], σ) [] (by decide +kernel) rfl trivial ?_
  exact k1

set_option maxRecDepth 20000 in
theorem w_X_lots_0 {Q : Option Value → sy_S → Prop} {σ : sy_S} {z : Int32} {n : Int32} {w : Int32}   (k1 : w < 0 → Q (some (.int (-1))) σ) (k2 : ¬ (w < 0) → w ≤ 3 → n < 1 → Q (some (.int (-2))) σ) (k3 : ¬ (w < 0) → w ≤ 3 → ¬ (n < 1) → n ≤ 200 → ¬ (σ.1 0 7) = 0 → sy_E shX mX11_scatter (0, sy_ent [.ref 6, .int z, .int n] 7, [], σ) (fun r9 σ9 => sy_E shX mX11_lots (51, [some (.ref 6), none, none, some (.int w)], r9.toList ++ [], σ9) Q)) (k4 : ¬ (w < 0) → w ≤ 3 → ¬ (n < 1) → n ≤ 200 → ¬ (¬ (σ.1 0 7) = 0) → Q (some (.int (-3))) σ) (k5 : ¬ (w < 0) → w ≤ 3 → ¬ (n < 1) → ¬ (n ≤ 200) → Q (some (.int (-2))) σ) (k6 : ¬ (w < 0) → ¬ (w ≤ 3) → 100 ≤ w → n < 1 → Q (some (.int (-2))) σ) (k7 : ¬ (w < 0) → ¬ (w ≤ 3) → 100 ≤ w → ¬ (n < 1) → n ≤ 200 → ¬ (σ.1 0 7) = 0 → sy_E shX mX11_scatter (0, sy_ent [.ref 6, .int z, .int n] 7, [], σ) (fun r9 σ9 => sy_E shX mX11_lots (51, [some (.ref 6), none, none, some (.int w)], r9.toList ++ [], σ9) Q)) (k8 : ¬ (w < 0) → ¬ (w ≤ 3) → 100 ≤ w → ¬ (n < 1) → n ≤ 200 → ¬ (¬ (σ.1 0 7) = 0) → Q (some (.int (-3))) σ) (k9 : ¬ (w < 0) → ¬ (w ≤ 3) → 100 ≤ w → ¬ (n < 1) → ¬ (n ≤ 200) → Q (some (.int (-2))) σ) (k10 : ¬ (w < 0) → ¬ (w ≤ 3) → ¬ (100 ≤ w) → Q (some (.int (-1))) σ) : sy_E shX mX11_lots (0, sy_ent [.ref 6, .int z, .int n, .int w] 4, [], σ) Q := by
  show sy_E shX mX11_lots (0, [some (.ref 6), some (.int z), some (.int n), some (.int w)], [], σ) _
  refine sy_bk [(.iload_n 3, 0, 0, 0, 0)] (1, [some (.ref 6), some (.int z), some (.int n), some (.int w)], [.int w], σ) [] (by decide +kernel) rfl trivial ?_
  by_cases c1 : w < 0
  · refine sy_bk [(.ifCond .lt 14, 1, 15, 0, 0)] (15, [some (.ref 6), some (.int z), some (.int n), some (.int w)], [], σ) [sy_cc .lt w 0] (by decide +kernel) rfl ⟨c1, trivial⟩ ?_
    refine sy_bk [(.iconst (-1), 0, 0, (-1), 0)] (16, [some (.ref 6), some (.int z), some (.int n), some (.int w)], [.int (-1)], σ) [] (by decide +kernel) rfl trivial ?_
    exact sy_reti rfl (by decide +kernel) (k1 c1)
  · refine sy_bk [(.ifCond .lt 14, 0, 15, 0, 0)] (4, [some (.ref 6), some (.int z), some (.int n), some (.int w)], [], σ) [¬ sy_cc .lt w 0] (by decide +kernel) rfl ⟨c1, trivial⟩ ?_
    refine sy_bk [(.iload_n 3, 0, 0, 0, 0), (.iconst 3, 0, 0, 3, 0)] (6, [some (.ref 6), some (.int z), some (.int n), some (.int w)], [.int 3, .int w], σ) [] (by decide +kernel) rfl trivial ?_
    by_cases c2 : w ≤ 3
    · refine sy_bk [(.if_icmp .le 11, 1, 17, 0, 0)] (17, [some (.ref 6), some (.int z), some (.int n), some (.int w)], [], σ) [sy_cc .le w 3] (by decide +kernel) rfl ⟨c2, trivial⟩ ?_
      refine sy_bk [(.iload_n 2, 0, 0, 0, 0), (.iconst 1, 0, 0, 1, 0)] (19, [some (.ref 6), some (.int z), some (.int n), some (.int w)], [.int 1, .int n], σ) [] (by decide +kernel) rfl trivial ?_
      by_cases c3 : n < 1
      · refine sy_bk [(.if_icmp .lt 10, 1, 29, 0, 0)] (29, [some (.ref 6), some (.int z), some (.int n), some (.int w)], [], σ) [sy_cc .lt n 1] (by decide +kernel) rfl ⟨c3, trivial⟩ ?_
        refine sy_bk [(.bipush (-2), 0, 0, (-2), 0)] (31, [some (.ref 6), some (.int z), some (.int n), some (.int w)], [.int (-2)], σ) [] (by decide +kernel) rfl trivial ?_
        exact sy_reti rfl (by decide +kernel) (k2 c1 c2 c3)
      · refine sy_bk [(.if_icmp .lt 10, 0, 29, 0, 0)] (22, [some (.ref 6), some (.int z), some (.int n), some (.int w)], [], σ) [¬ sy_cc .lt n 1] (by decide +kernel) rfl ⟨c3, trivial⟩ ?_
        refine sy_bk [(.iload_n 2, 0, 0, 0, 0), (.sipush 200, 0, 0, 200, 0)] (26, [some (.ref 6), some (.int z), some (.int n), some (.int w)], [.int 200, .int n], σ) [] (by decide +kernel) rfl trivial ?_
        by_cases c4 : n ≤ 200
        · refine sy_bk [(.if_icmp .le 6, 1, 32, 0, 0)] (32, [some (.ref 6), some (.int z), some (.int n), some (.int w)], [], σ) [sy_cc .le n 200] (by decide +kernel) rfl ⟨c4, trivial⟩ ?_
          refine sy_bk [(.aload_n 0, 0, 0, 0, 0), (.getfield 16, 11, 0, 0, 0)] (36, [some (.ref 6), some (.int z), some (.int n), some (.int w)], [.ref 0], σ) [] (by decide +kernel) rfl trivial ?_
          refine sy_callV mX3_placeCount 0 [] [] kX3_placeCount jX11_275 (by decide +kernel) rfl rfl (Nat.le_of_ble_eq_true rfl) (Nat.le_of_ble_eq_true rfl) (by decide) rfl ?_
          refine w_x_placeCount (σ := σ) ?_
          show sy_E shX mX11_lots (39, [some (.ref 6), some (.int z), some (.int n), some (.int w)], [.int (σ.1 0 7)], σ) _
          by_cases c5 : ¬ (σ.1 0 7) = 0
          · refine sy_bk [(.ifCond .ne 6, 1, 45, 0, 0)] (45, [some (.ref 6), some (.int z), some (.int n), some (.int w)], [], σ) [sy_cc .ne (σ.1 0 7) 0] (by decide +kernel) rfl ⟨c5, trivial⟩ ?_
            refine sy_bk [(.aload_n 0, 0, 0, 0, 0), (.iload_n 1, 0, 0, 0, 0), (.iload_n 2, 0, 0, 0, 0)] (48, [some (.ref 6), some (.int z), some (.int n), some (.int w)], [.int n, .int z, .ref 6], σ) [] (by decide +kernel) rfl trivial ?_
            refine sy_drop [some (.ref 6), none, none, some (.int w)] ⟨rfl, rfl, trivial⟩ ?_
            refine sy_callV mX11_scatter 6 [.int z, .int n] [] kX11_scatter jX11_304 (by decide +kernel) rfl rfl (Nat.le_of_ble_eq_true rfl) (Nat.le_of_ble_eq_true rfl) (by decide) rfl ?_
            exact k3 c1 c2 c3 c4 c5
          · refine sy_bk [(.ifCond .ne 6, 0, 45, 0, 0)] (42, [some (.ref 6), some (.int z), some (.int n), some (.int w)], [], σ) [¬ sy_cc .ne (σ.1 0 7) 0] (by decide +kernel) rfl ⟨c5, trivial⟩ ?_
            refine sy_bk [(.bipush (-3), 0, 0, (-3), 0)] (44, [some (.ref 6), some (.int z), some (.int n), some (.int w)], [.int (-3)], σ) [] (by decide +kernel) rfl trivial ?_
            exact sy_reti rfl (by decide +kernel) (k4 c1 c2 c3 c4 c5)
        · refine sy_bk [(.if_icmp .le 6, 0, 32, 0, 0)] (29, [some (.ref 6), some (.int z), some (.int n), some (.int w)], [], σ) [¬ sy_cc .le n 200] (by decide +kernel) rfl ⟨c4, trivial⟩ ?_
          refine sy_bk [(.bipush (-2), 0, 0, (-2), 0)] (31, [some (.ref 6), some (.int z), some (.int n), some (.int w)], [.int (-2)], σ) [] (by decide +kernel) rfl trivial ?_
          exact sy_reti rfl (by decide +kernel) (k5 c1 c2 c3 c4)
    · refine sy_bk [(.if_icmp .le 11, 0, 17, 0, 0)] (9, [some (.ref 6), some (.int z), some (.int n), some (.int w)], [], σ) [¬ sy_cc .le w 3] (by decide +kernel) rfl ⟨c2, trivial⟩ ?_
      refine sy_bk [(.iload_n 3, 0, 0, 0, 0), (.bipush 100, 0, 0, 100, 0)] (12, [some (.ref 6), some (.int z), some (.int n), some (.int w)], [.int 100, .int w], σ) [] (by decide +kernel) rfl trivial ?_
      by_cases c6 : 100 ≤ w
      · refine sy_bk [(.if_icmp .ge 5, 1, 17, 0, 0)] (17, [some (.ref 6), some (.int z), some (.int n), some (.int w)], [], σ) [sy_cc .ge w 100] (by decide +kernel) rfl ⟨c6, trivial⟩ ?_
        refine sy_bk [(.iload_n 2, 0, 0, 0, 0), (.iconst 1, 0, 0, 1, 0)] (19, [some (.ref 6), some (.int z), some (.int n), some (.int w)], [.int 1, .int n], σ) [] (by decide +kernel) rfl trivial ?_
        by_cases c7 : n < 1
        · refine sy_bk [(.if_icmp .lt 10, 1, 29, 0, 0)] (29, [some (.ref 6), some (.int z), some (.int n), some (.int w)], [], σ) [sy_cc .lt n 1] (by decide +kernel) rfl ⟨c7, trivial⟩ ?_
          refine sy_bk [(.bipush (-2), 0, 0, (-2), 0)] (31, [some (.ref 6), some (.int z), some (.int n), some (.int w)], [.int (-2)], σ) [] (by decide +kernel) rfl trivial ?_
          exact sy_reti rfl (by decide +kernel) (k6 c1 c2 c6 c7)
        · refine sy_bk [(.if_icmp .lt 10, 0, 29, 0, 0)] (22, [some (.ref 6), some (.int z), some (.int n), some (.int w)], [], σ) [¬ sy_cc .lt n 1] (by decide +kernel) rfl ⟨c7, trivial⟩ ?_
          refine sy_bk [(.iload_n 2, 0, 0, 0, 0), (.sipush 200, 0, 0, 200, 0)] (26, [some (.ref 6), some (.int z), some (.int n), some (.int w)], [.int 200, .int n], σ) [] (by decide +kernel) rfl trivial ?_
          by_cases c8 : n ≤ 200
          · refine sy_bk [(.if_icmp .le 6, 1, 32, 0, 0)] (32, [some (.ref 6), some (.int z), some (.int n), some (.int w)], [], σ) [sy_cc .le n 200] (by decide +kernel) rfl ⟨c8, trivial⟩ ?_
            refine sy_bk [(.aload_n 0, 0, 0, 0, 0), (.getfield 16, 11, 0, 0, 0)] (36, [some (.ref 6), some (.int z), some (.int n), some (.int w)], [.ref 0], σ) [] (by decide +kernel) rfl trivial ?_
            refine sy_callV mX3_placeCount 0 [] [] kX3_placeCount jX11_275 (by decide +kernel) rfl rfl (Nat.le_of_ble_eq_true rfl) (Nat.le_of_ble_eq_true rfl) (by decide) rfl ?_
            refine w_x_placeCount (σ := σ) ?_
            show sy_E shX mX11_lots (39, [some (.ref 6), some (.int z), some (.int n), some (.int w)], [.int (σ.1 0 7)], σ) _
            by_cases c9 : ¬ (σ.1 0 7) = 0
            · refine sy_bk [(.ifCond .ne 6, 1, 45, 0, 0)] (45, [some (.ref 6), some (.int z), some (.int n), some (.int w)], [], σ) [sy_cc .ne (σ.1 0 7) 0] (by decide +kernel) rfl ⟨c9, trivial⟩ ?_
              refine sy_bk [(.aload_n 0, 0, 0, 0, 0), (.iload_n 1, 0, 0, 0, 0), (.iload_n 2, 0, 0, 0, 0)] (48, [some (.ref 6), some (.int z), some (.int n), some (.int w)], [.int n, .int z, .ref 6], σ) [] (by decide +kernel) rfl trivial ?_
              refine sy_drop [some (.ref 6), none, none, some (.int w)] ⟨rfl, rfl, trivial⟩ ?_
              refine sy_callV mX11_scatter 6 [.int z, .int n] [] kX11_scatter jX11_304 (by decide +kernel) rfl rfl (Nat.le_of_ble_eq_true rfl) (Nat.le_of_ble_eq_true rfl) (by decide) rfl ?_
              exact k7 c1 c2 c6 c7 c8 c9
            · refine sy_bk [(.ifCond .ne 6, 0, 45, 0, 0)] (42, [some (.ref 6), some (.int z), some (.int n), some (.int w)], [], σ) [¬ sy_cc .ne (σ.1 0 7) 0] (by decide +kernel) rfl ⟨c9, trivial⟩ ?_
              refine sy_bk [(.bipush (-3), 0, 0, (-3), 0)] (44, [some (.ref 6), some (.int z), some (.int n), some (.int w)], [.int (-3)], σ) [] (by decide +kernel) rfl trivial ?_
              exact sy_reti rfl (by decide +kernel) (k8 c1 c2 c6 c7 c8 c9)
          · refine sy_bk [(.if_icmp .le 6, 0, 32, 0, 0)] (29, [some (.ref 6), some (.int z), some (.int n), some (.int w)], [], σ) [¬ sy_cc .le n 200] (by decide +kernel) rfl ⟨c8, trivial⟩ ?_
            refine sy_bk [(.bipush (-2), 0, 0, (-2), 0)] (31, [some (.ref 6), some (.int z), some (.int n), some (.int w)], [.int (-2)], σ) [] (by decide +kernel) rfl trivial ?_
            exact sy_reti rfl (by decide +kernel) (k9 c1 c2 c6 c7 c8)
      · refine sy_bk [(.if_icmp .ge 5, 0, 17, 0, 0)] (15, [some (.ref 6), some (.int z), some (.int n), some (.int w)], [], σ) [¬ sy_cc .ge w 100] (by decide +kernel) rfl ⟨c6, trivial⟩ ?_
        refine sy_bk [(.iconst (-1), 0, 0, (-1), 0)] (16, [some (.ref 6), some (.int z), some (.int n), some (.int w)], [.int (-1)], σ) [] (by decide +kernel) rfl trivial ?_
        exact sy_reti rfl (by decide +kernel) (k10 c1 c2 c6)

set_option maxRecDepth 20000 in
theorem w_X_lots_51 {Q : Option Value → sy_S → Prop} {σ : sy_S} {l3 : Int32}  (b1 : ¬ l3 = 0 → ¬ l3 = 1 → ¬ l3 = 2 → ¬ l3 = 3 → 400 ≤ l3 → ¬ ((l3 - 400) < 0) → ¬ ((σ.1 61 2) ≤ (l3 - 400)) → vp_in (l3 - 400) 200) (b2 : ¬ l3 = 0 → ¬ l3 = 1 → ¬ l3 = 2 → ¬ l3 = 3 → ¬ (400 ≤ l3) → ¬ ((l3 - 100) < 0) → ¬ ((σ.1 61 2) ≤ (l3 - 100)) → vp_in (l3 - 100) 200) (k1 : l3 = 0 → sy_E shX mX1_lost (0, sy_ent [.ref 39] 4, [], σ) (fun r9 σ9 => sy_E shX mX11_lots (91, [none, none, none, none], r9.toList ++ [], σ9) Q)) (k2 : ¬ l3 = 0 → l3 = 1 → Q (some (.int (σ.1 61 3))) σ) (k3 : ¬ l3 = 0 → ¬ l3 = 1 → l3 = 2 → Q (some (.int (σ.1 61 4))) σ) (k4 : ¬ l3 = 0 → ¬ l3 = 1 → ¬ l3 = 2 → l3 = 3 → Q (some (.int (σ.1 61 2))) σ) (k5 : ¬ l3 = 0 → ¬ l3 = 1 → ¬ l3 = 2 → ¬ l3 = 3 → 400 ≤ l3 → (l3 - 400) < 0 → Q (some (.int (-5))) σ) (k6 : ¬ l3 = 0 → ¬ l3 = 1 → ¬ l3 = 2 → ¬ l3 = 3 → 400 ≤ l3 → ¬ ((l3 - 400) < 0) → (σ.1 61 2) ≤ (l3 - 400) → Q (some (.int (-5))) σ) (k7 : ¬ l3 = 0 → ¬ l3 = 1 → ¬ l3 = 2 → ¬ l3 = 3 → 400 ≤ l3 → ¬ ((l3 - 400) < 0) → ¬ ((σ.1 61 2) ≤ (l3 - 400)) → Q (some (.int (σ.1 63 (l3 - 400).toNatClampNeg))) σ) (k8 : ¬ l3 = 0 → ¬ l3 = 1 → ¬ l3 = 2 → ¬ l3 = 3 → ¬ (400 ≤ l3) → (l3 - 100) < 0 → Q (some (.int (-5))) σ) (k9 : ¬ l3 = 0 → ¬ l3 = 1 → ¬ l3 = 2 → ¬ l3 = 3 → ¬ (400 ≤ l3) → ¬ ((l3 - 100) < 0) → (σ.1 61 2) ≤ (l3 - 100) → Q (some (.int (-5))) σ) (k10 : ¬ l3 = 0 → ¬ l3 = 1 → ¬ l3 = 2 → ¬ l3 = 3 → ¬ (400 ≤ l3) → ¬ ((l3 - 100) < 0) → ¬ ((σ.1 61 2) ≤ (l3 - 100)) → Q (some (.int (σ.1 62 (l3 - 100).toNatClampNeg))) σ) : sy_E shX mX11_lots (51, [some (.ref 6), none, none, some (.int l3)], [], σ) Q := by
  refine sy_bk [(.iload_n 3, 0, 0, 0, 0)] (52, [some (.ref 6), none, none, some (.int l3)], [.int l3], σ) [] (by decide +kernel) rfl trivial ?_
  by_cases c1 : l3 = 0
  · refine sy_bk [(.tableswitch 64 0 3 #[32, 40, 48, 56], 1, 84, 0, 0)] (84, [some (.ref 6), none, none, some (.int l3)], [], σ) [l3 = 0] (by decide +kernel) rfl ⟨c1, trivial⟩ ?_
    refine sy_bk [(.aload_n 0, 0, 0, 0, 0), (.getfield 53, 11, 6, 0, 0)] (88, [some (.ref 6), none, none, some (.int l3)], [.ref 39], σ) [] (by decide +kernel) rfl trivial ?_
    refine sy_drop [none, none, none, none] trivial ?_
    refine sy_callV mX1_lost 39 [] [] kX1_lost jX11_192 (by decide +kernel) rfl rfl (Nat.le_of_ble_eq_true rfl) (Nat.le_of_ble_eq_true rfl) (by decide) rfl ?_
    exact k1 c1
  by_cases c2 : l3 = 1
  · refine sy_bk [(.tableswitch 64 0 3 #[32, 40, 48, 56], 1, 92, 1, 0)] (92, [some (.ref 6), none, none, some (.int l3)], [], σ) [l3 = 1] (by decide +kernel) rfl ⟨c2, trivial⟩ ?_
    refine sy_bk [(.aload_n 0, 0, 0, 0, 0), (.getfield 100, 11, 13, 0, 0)] (96, [some (.ref 6), none, none, some (.int l3)], [.ref 61], σ) [] (by decide +kernel) rfl trivial ?_
    refine sy_callV mX9_together 61 [] [] kX9_together jX11_307 (by decide +kernel) rfl rfl (Nat.le_of_ble_eq_true rfl) (Nat.le_of_ble_eq_true rfl) (by decide) rfl ?_
    refine w_x_ytogether (σ := σ) ?_
    show sy_E shX mX11_lots (99, [some (.ref 6), none, none, some (.int l3)], [.int (σ.1 61 3)], σ) _
    exact sy_reti rfl (by decide +kernel) (k2 c1 c2)
  by_cases c3 : l3 = 2
  · refine sy_bk [(.tableswitch 64 0 3 #[32, 40, 48, 56], 1, 100, 2, 0)] (100, [some (.ref 6), none, none, some (.int l3)], [], σ) [l3 = 2] (by decide +kernel) rfl ⟨c3, trivial⟩ ?_
    refine sy_bk [(.aload_n 0, 0, 0, 0, 0), (.getfield 100, 11, 13, 0, 0)] (104, [some (.ref 6), none, none, some (.int l3)], [.ref 61], σ) [] (by decide +kernel) rfl trivial ?_
    refine sy_callV mX9_greatest 61 [] [] kX9_greatest jX11_310 (by decide +kernel) rfl rfl (Nat.le_of_ble_eq_true rfl) (Nat.le_of_ble_eq_true rfl) (by decide) rfl ?_
    refine w_x_ygreatest (σ := σ) ?_
    show sy_E shX mX11_lots (107, [some (.ref 6), none, none, some (.int l3)], [.int (σ.1 61 4)], σ) _
    exact sy_reti rfl (by decide +kernel) (k3 c1 c2 c3)
  by_cases c4 : l3 = 3
  · refine sy_bk [(.tableswitch 64 0 3 #[32, 40, 48, 56], 1, 108, 3, 0)] (108, [some (.ref 6), none, none, some (.int l3)], [], σ) [l3 = 3] (by decide +kernel) rfl ⟨c4, trivial⟩ ?_
    refine sy_bk [(.aload_n 0, 0, 0, 0, 0), (.getfield 100, 11, 13, 0, 0)] (112, [some (.ref 6), none, none, some (.int l3)], [.ref 61], σ) [] (by decide +kernel) rfl trivial ?_
    refine sy_callV mX9_unlike 61 [] [] kX9_unlike jX11_313 (by decide +kernel) rfl rfl (Nat.le_of_ble_eq_true rfl) (Nat.le_of_ble_eq_true rfl) (by decide) rfl ?_
    refine w_x_yunlike (σ := σ) ?_
    show sy_E shX mX11_lots (115, [some (.ref 6), none, none, some (.int l3)], [.int (σ.1 61 2)], σ) _
    exact sy_reti rfl (by decide +kernel) (k4 c1 c2 c3 c4)
  refine sy_bk [(.tableswitch 64 0 3 #[32, 40, 48, 56], 0, 116, 0, 0)] (116, [some (.ref 6), none, none, some (.int l3)], [], σ) [l3.toInt < 0 ∨ 3 < l3.toInt] (by decide +kernel) rfl ⟨sy_sw4 c1 c2 c3 c4, trivial⟩ ?_
  refine sy_bk [(.iload_n 3, 0, 0, 0, 0), (.sipush 400, 0, 0, 400, 0)] (120, [some (.ref 6), none, none, some (.int l3)], [.int 400, .int l3], σ) [] (by decide +kernel) rfl trivial ?_
  by_cases c5 : 400 ≤ l3
  · refine sy_bk [(.if_icmp .ge 17, 1, 137, 0, 0)] (137, [some (.ref 6), none, none, some (.int l3)], [], σ) [sy_cc .ge l3 400] (by decide +kernel) rfl ⟨c5, trivial⟩ ?_
    refine sy_bk [(.aload_n 0, 0, 0, 0, 0), (.getfield 100, 11, 13, 0, 0), (.iload_n 3, 0, 0, 0, 0), (.sipush 400, 0, 0, 400, 0), (.isub, 0, 0, 0, 0)] (146, [some (.ref 6), none, none, some (.int l3)], [.int (l3 - 400), .ref 61], σ) [] (by decide +kernel) rfl trivial ?_
    refine sy_callV mX9_oftenAt 61 [.int (l3 - 400)] [] kX9_oftenAt jX11_319 (by decide +kernel) rfl rfl (Nat.le_of_ble_eq_true rfl) (Nat.le_of_ble_eq_true rfl) (by decide) rfl ?_
    refine w_x_yoftenAt (σ := σ) (i := (l3 - 400)) (fun c1b c2b => (b1 c1 c2 c3 c4 c5 c1b c2b)) ?_ ?_ ?_
    · intro c6
      show sy_E shX mX11_lots (149, [some (.ref 6), none, none, some (.int l3)], [.int (-5)], σ) _
      exact sy_reti rfl (by decide +kernel) (k5 c1 c2 c3 c4 c5 c6)
    · intro c7 c8
      show sy_E shX mX11_lots (149, [some (.ref 6), none, none, some (.int l3)], [.int (-5)], σ) _
      exact sy_reti rfl (by decide +kernel) (k6 c1 c2 c3 c4 c5 c7 c8)
    · intro c9 c10
      show sy_E shX mX11_lots (149, [some (.ref 6), none, none, some (.int l3)], [.int (σ.1 63 (l3 - 400).toNatClampNeg)], σ) _
      exact sy_reti rfl (by decide +kernel) (k7 c1 c2 c3 c4 c5 c9 c10)
  · refine sy_bk [(.if_icmp .ge 17, 0, 137, 0, 0)] (123, [some (.ref 6), none, none, some (.int l3)], [], σ) [¬ sy_cc .ge l3 400] (by decide +kernel) rfl ⟨c5, trivial⟩ ?_
    refine sy_bk [(.aload_n 0, 0, 0, 0, 0), (.getfield 100, 11, 13, 0, 0), (.iload_n 3, 0, 0, 0, 0), (.bipush 100, 0, 0, 100, 0), (.isub, 0, 0, 0, 0)] (131, [some (.ref 6), none, none, some (.int l3)], [.int (l3 - 100), .ref 61], σ) [] (by decide +kernel) rfl trivial ?_
    refine sy_callV mX9_sizeAt 61 [.int (l3 - 100)] [] kX9_sizeAt jX11_316 (by decide +kernel) rfl rfl (Nat.le_of_ble_eq_true rfl) (Nat.le_of_ble_eq_true rfl) (by decide) rfl ?_
    refine w_x_ysizeAt (σ := σ) (i := (l3 - 100)) (fun c1b c2b => (b2 c1 c2 c3 c4 c5 c1b c2b)) ?_ ?_ ?_
    · intro c11
      show sy_E shX mX11_lots (134, [some (.ref 6), none, none, some (.int l3)], [.int (-5)], σ) _
      refine sy_bk [(.goto 15, 0, 149, 0, 0)] (149, [some (.ref 6), none, none, some (.int l3)], [.int (-5)], σ) [] (by decide +kernel) rfl trivial ?_
      exact sy_reti rfl (by decide +kernel) (k8 c1 c2 c3 c4 c5 c11)
    · intro c12 c13
      show sy_E shX mX11_lots (134, [some (.ref 6), none, none, some (.int l3)], [.int (-5)], σ) _
      refine sy_bk [(.goto 15, 0, 149, 0, 0)] (149, [some (.ref 6), none, none, some (.int l3)], [.int (-5)], σ) [] (by decide +kernel) rfl trivial ?_
      exact sy_reti rfl (by decide +kernel) (k9 c1 c2 c3 c4 c5 c12 c13)
    · intro c14 c15
      show sy_E shX mX11_lots (134, [some (.ref 6), none, none, some (.int l3)], [.int (σ.1 62 (l3 - 100).toNatClampNeg)], σ) _
      refine sy_bk [(.goto 15, 0, 149, 0, 0)] (149, [some (.ref 6), none, none, some (.int l3)], [.int (σ.1 62 (l3 - 100).toNatClampNeg)], σ) [] (by decide +kernel) rfl trivial ?_
      exact sy_reti rfl (by decide +kernel) (k10 c1 c2 c3 c4 c5 c14 c15)

set_option maxRecDepth 20000 in
theorem w_X_lots_91 {Q : Option Value → sy_S → Prop} {σ : sy_S} {v : Int32}   (k1 : Q (some (.int v)) σ) : sy_E shX mX11_lots (91, [none, none, none, none], [.int v], σ) Q := by
  exact sy_reti rfl (by decide +kernel) (k1)

set_option maxRecDepth 20000 in
theorem w_X_judge_0 {Q : Option Value → sy_S → Prop} {σ : sy_S} {q : Int32}   (k1 : ∀ (m_1 : Nat), px p4 q = some m_1 → sy_E shX mX11_judge (13, [some (.ref 6), some (.int q), none, none], [], σ) Q) (k2 : px p4 q = none → Q (some (.int (-1))) σ) : sy_E shX mX11_judge (0, sy_ent [.ref 6, .int q] 4, [], σ) Q := by
  show sy_E shX mX11_judge (0, [some (.ref 6), some (.int q), none, none], [], σ) _
  refine sy_bk [(.aload_n 0, 0, 0, 0, 0), (.getfield 45, 11, 5, 0, 0), (.iload_n 1, 0, 0, 0, 0)] (5, [some (.ref 6), some (.int q), none, none], [.int q, .ref 32], σ) [] (by decide +kernel) rfl trivial ?_
  refine sy_callV mX7_has 32 [.int q] [] kX7_has jX11_210 (by decide +kernel) rfl rfl (Nat.le_of_ble_eq_true rfl) (Nat.le_of_ble_eq_true rfl) (by decide) rfl ?_
  refine e_li_has (σ := σ) (i := q) ?_ ?_
  · intro m_1 c2
    show sy_E shX mX11_judge (8, [some (.ref 6), some (.int q), none, none], [.int 1], σ) _
    refine sy_bk [(.ifCond .ne 5, 1, 13, 0, 0)] (13, [some (.ref 6), some (.int q), none, none], [], σ) [sy_cc .ne 1 0] (by decide +kernel) rfl ⟨(by decide : (¬ (1 : Int32) = 0)), trivial⟩ ?_
    exact k1 m_1 c2
  · intro c3
    show sy_E shX mX11_judge (8, [some (.ref 6), some (.int q), none, none], [.int 0], σ) _
    refine sy_bk [(.ifCond .ne 5, 0, 13, 0, 0), (.iconst (-1), 0, 0, (-1), 0)] (12, [some (.ref 6), some (.int q), none, none], [.int (-1)], σ) [¬ sy_cc .ne 0 0] (by decide +kernel) rfl ⟨(by decide : ¬ (¬ (0 : Int32) = 0)), trivial⟩ ?_
    exact sy_reti rfl (by decide +kernel) (k2 c3)

set_option maxRecDepth 20000 in
theorem w_X_judge_13 {Q : Option Value → sy_S → Prop} {σ : sy_S} {l1 : Int32}  (b1 : vp_in l1 4) (b2 : ¬ ((σ.1 38 l1.toNatClampNeg) < 0) → sy_okR shX 33 l1) (k1 : (σ.1 38 l1.toNatClampNeg) < 0 → Q (some (.int (-11))) σ) (k2 : ¬ ((σ.1 38 l1.toNatClampNeg) < 0) → sy_E shX mX1_begin (0, sy_ent [.ref 39, .ref 7] 2, [], σ) (fun r9 σ9 => sy_E shX mX11_judge (47, [some (.ref 6), some (.int l1), some (.ref (sy_rf shX 33 l1.toNatClampNeg)), none], r9.toList ++ [], σ9) Q)) : sy_E shX mX11_judge (13, [some (.ref 6), some (.int l1), none, none], [], σ) Q := by
  refine sy_bk [(.aload_n 0, 0, 0, 0, 0), (.getfield 45, 11, 5, 0, 0), (.iload_n 1, 0, 0, 0, 0)] (18, [some (.ref 6), some (.int l1), none, none], [.int l1, .ref 32], σ) [] (by decide +kernel) rfl trivial ?_
  refine sy_callV mX7_holds 32 [.int l1] [] kX7_holds jX11_217 (by decide +kernel) rfl rfl (Nat.le_of_ble_eq_true rfl) (Nat.le_of_ble_eq_true rfl) (by decide) rfl ?_
  refine w_li_holds (σ := σ) (i := l1) b1 ?_ ?_
  · intro c1
    show sy_E shX mX11_judge (21, [some (.ref 6), some (.int l1), none, none], [.int 0], σ) _
    refine sy_bk [(.ifCond .ne 6, 0, 27, 0, 0), (.bipush (-11), 0, 0, (-11), 0)] (26, [some (.ref 6), some (.int l1), none, none], [.int (-11)], σ) [¬ sy_cc .ne 0 0] (by decide +kernel) rfl ⟨(by decide : ¬ (¬ (0 : Int32) = 0)), trivial⟩ ?_
    exact sy_reti rfl (by decide +kernel) (k1 c1)
  · intro c2
    show sy_E shX mX11_judge (21, [some (.ref 6), some (.int l1), none, none], [.int 1], σ) _
    refine sy_bk [(.ifCond .ne 6, 1, 27, 0, 0), (.aload_n 0, 0, 0, 0, 0), (.getfield 45, 11, 5, 0, 0), (.iload_n 1, 0, 0, 0, 0)] (32, [some (.ref 6), some (.int l1), none, none], [.int l1, .ref 32], σ) [sy_cc .ne 1 0] (by decide +kernel) rfl ⟨(by decide : (¬ (1 : Int32) = 0)), trivial⟩ ?_
    refine sy_callV mX7_rowAt 32 [.int l1] [] kX7_rowAt jX11_220 (by decide +kernel) rfl rfl (Nat.le_of_ble_eq_true rfl) (Nat.le_of_ble_eq_true rfl) (by decide) rfl ?_
    refine w_li_rowAt (σ := σ) (i := l1) (b2 c2) ?_
    show sy_E shX mX11_judge (35, [some (.ref 6), some (.int l1), none, none], [.ref (sy_rf shX 33 l1.toNatClampNeg)], σ) _
    refine sy_bk [(.astore_n 2, 0, 0, 0, 0), (.aload_n 0, 0, 0, 0, 0), (.getfield 53, 11, 6, 0, 0), (.aload_n 0, 0, 0, 0, 0), (.getfield 20, 11, 1, 0, 0)] (44, [some (.ref 6), some (.int l1), some (.ref (sy_rf shX 33 l1.toNatClampNeg)), none], [.ref 7, .ref 39], σ) [] (by decide +kernel) rfl trivial ?_
    refine sy_callV mX1_begin 39 [.ref 7] [] kX1_begin jX11_146 (by decide +kernel) rfl rfl (Nat.le_of_ble_eq_true rfl) (Nat.le_of_ble_eq_true rfl) (by decide) rfl ?_
    exact k2 c2

set_option maxRecDepth 20000 in
theorem w_X_judge_47 {Q : Option Value → sy_S → Prop} {σ : sy_S} {l1 : Int32}   (k1 : sy_E shX mX11_judge (49, [some (.ref 6), some (.int l1), some (.ref (sy_rf shX 33 l1.toNatClampNeg)), some (.int 0)], [], σ) Q) : sy_E shX mX11_judge (47, [some (.ref 6), some (.int l1), some (.ref (sy_rf shX 33 l1.toNatClampNeg)), none], [], σ) Q := by
  refine sy_bk [(.iconst 0, 0, 0, 0, 0), (.istore_n 3, 0, 0, 0, 0)] (49, [some (.ref 6), some (.int l1), some (.ref (sy_rf shX 33 l1.toNatClampNeg)), some (.int 0)], [], σ) [] (by decide +kernel) rfl trivial ?_
  exact k1

set_option maxRecDepth 20000 in
theorem w_X_judge_49 {Q : Option Value → sy_S → Prop} {σ : sy_S} {l1 : Int32} {l3 : Int32} (hk0 : shX[sy_rf shX 33 l1.toNatClampNeg]? = some (0, 40, [])) (b1 : vp_in l1 4) (b2 : ¬ ((σ.1 38 l1.toNatClampNeg) ≤ l3) → vp_in l3 40) (k1 : (σ.1 38 l1.toNatClampNeg) ≤ l3 → Q (some (.int (-5))) σ) (k2 : ¬ ((σ.1 38 l1.toNatClampNeg) ≤ l3) → sy_E shX mX1_toppleOnce (0, sy_ent [.ref 39, .int (σ.1 (sy_rf shX 33 l1.toNatClampNeg) l3.toNatClampNeg)] 2, [], σ) (fun r9 σ9 => sy_E shX mX11_judge (71, [some (.ref 6), some (.int l1), some (.ref (sy_rf shX 33 l1.toNatClampNeg)), some (.int l3)], r9.toList ++ [], σ9) Q)) : sy_E shX mX11_judge (49, [some (.ref 6), some (.int l1), some (.ref (sy_rf shX 33 l1.toNatClampNeg)), some (.int l3)], [], σ) Q := by
  refine sy_bk [(.iload_n 3, 0, 0, 0, 0), (.aload_n 0, 0, 0, 0, 0), (.getfield 45, 11, 5, 0, 0), (.iload_n 1, 0, 0, 0, 0)] (55, [some (.ref 6), some (.int l1), some (.ref (sy_rf shX 33 l1.toNatClampNeg)), some (.int l3)], [.int l1, .ref 32, .int l3], σ) [] (by decide +kernel) rfl trivial ?_
  refine sy_callV mX7_lengthOf 32 [.int l1] [.int l3] kX7_lengthOf jX11_322 (by decide +kernel) rfl rfl (Nat.le_of_ble_eq_true rfl) (Nat.le_of_ble_eq_true rfl) (by decide) rfl ?_
  refine w_li_lengthOf (σ := σ) (i := l1) b1 ?_
  show sy_E shX mX11_judge (58, [some (.ref 6), some (.int l1), some (.ref (sy_rf shX 33 l1.toNatClampNeg)), some (.int l3)], [.int (σ.1 38 l1.toNatClampNeg), .int l3], σ) _
  by_cases c1 : (σ.1 38 l1.toNatClampNeg) ≤ l3
  · refine sy_bk [(.if_icmp .ge 24, 1, 82, 0, 0)] (82, [some (.ref 6), some (.int l1), some (.ref (sy_rf shX 33 l1.toNatClampNeg)), some (.int l3)], [], σ) [sy_cc .ge l3 (σ.1 38 l1.toNatClampNeg)] (by decide +kernel) rfl ⟨c1, trivial⟩ ?_
    refine sy_bk [(.bipush (-5), 0, 0, (-5), 0)] (84, [some (.ref 6), some (.int l1), some (.ref (sy_rf shX 33 l1.toNatClampNeg)), some (.int l3)], [.int (-5)], σ) [] (by decide +kernel) rfl trivial ?_
    exact sy_reti rfl (by decide +kernel) (k1 c1)
  · refine sy_bk [(.if_icmp .ge 24, 0, 82, 0, 0)] (61, [some (.ref 6), some (.int l1), some (.ref (sy_rf shX 33 l1.toNatClampNeg)), some (.int l3)], [], σ) [¬ sy_cc .ge l3 (σ.1 38 l1.toNatClampNeg)] (by decide +kernel) rfl ⟨c1, trivial⟩ ?_
    refine sy_bk [(.aload_n 0, 0, 0, 0, 0), (.getfield 53, 11, 6, 0, 0), (.aload_n 2, 0, 0, 0, 0), (.iload_n 3, 0, 0, 0, 0), (.iaload, 0, 0, 0, 0)] (68, [some (.ref 6), some (.int l1), some (.ref (sy_rf shX 33 l1.toNatClampNeg)), some (.int l3)], [.int (σ.1 (sy_rf shX 33 l1.toNatClampNeg) l3.toNatClampNeg), .ref 39], σ) [sy_okA shX 0 (sy_rf shX 33 l1.toNatClampNeg) l3] (by decide +kernel) rfl ⟨⟨40, _, hk0, (b2 c1)⟩, trivial⟩ ?_
    refine sy_callV mX1_toppleOnce 39 [.int (σ.1 (sy_rf shX 33 l1.toNatClampNeg) l3.toNatClampNeg)] [] kX1_toppleOnce jX11_325 (by decide +kernel) rfl rfl (Nat.le_of_ble_eq_true rfl) (Nat.le_of_ble_eq_true rfl) (by decide) rfl ?_
    exact k2 c1

set_option maxRecDepth 20000 in
theorem w_X_judge_71 {Q : Option Value → sy_S → Prop} {σ : sy_S} {l1 : Int32} {l3 : Int32} {v : Int32}   (k1 : ¬ v = 0 → sy_E shX mX11_judge (49, [some (.ref 6), some (.int l1), some (.ref (sy_rf shX 33 l1.toNatClampNeg)), some (.int (l3 + 1))], [], σ) Q) (k2 : ¬ (¬ v = 0) → Q (some (.int l3)) σ) : sy_E shX mX11_judge (71, [some (.ref 6), some (.int l1), some (.ref (sy_rf shX 33 l1.toNatClampNeg)), some (.int l3)], [.int v], σ) Q := by
  by_cases c1 : ¬ v = 0
  · refine sy_bk [(.ifCond .ne 5, 1, 76, 0, 0)] (76, [some (.ref 6), some (.int l1), some (.ref (sy_rf shX 33 l1.toNatClampNeg)), some (.int l3)], [], σ) [sy_cc .ne v 0] (by decide +kernel) rfl ⟨c1, trivial⟩ ?_
    refine sy_bk [(.iinc 3 1, 0, 0, 1, 0), (.goto (-30), 0, 49, 0, 0)] (49, [some (.ref 6), some (.int l1), some (.ref (sy_rf shX 33 l1.toNatClampNeg)), some (.int (l3 + 1))], [], σ) [] (by decide +kernel) rfl trivial ?_
    exact k1 c1
  · refine sy_bk [(.ifCond .ne 5, 0, 76, 0, 0)] (74, [some (.ref 6), some (.int l1), some (.ref (sy_rf shX 33 l1.toNatClampNeg)), some (.int l3)], [], σ) [¬ sy_cc .ne v 0] (by decide +kernel) rfl ⟨c1, trivial⟩ ?_
    refine sy_bk [(.iload_n 3, 0, 0, 0, 0)] (75, [some (.ref 6), some (.int l1), some (.ref (sy_rf shX 33 l1.toNatClampNeg)), some (.int l3)], [.int l3], σ) [] (by decide +kernel) rfl trivial ?_
    exact sy_reti rfl (by decide +kernel) (k2 c1)

set_option maxRecDepth 20000 in
theorem w_X_steadies_0 {Q : Option Value → sy_S → Prop} {σ : sy_S} {q : Int32}  (b1 : ∀ (m_1 : Nat), px p4 q = some m_1 → vp_in q 4) (b2 : ∀ (m_1 : Nat), px p4 q = some m_1 → ¬ ((σ.1 38 q.toNatClampNeg) < 0) → sy_okR shX 33 q) (k1 : ∀ (m_1 : Nat), px p4 q = some m_1 → (σ.1 38 q.toNatClampNeg) < 0 → Q (some (.int (-11))) σ) (k2 : ∀ (m_1 : Nat), px p4 q = some m_1 → ¬ ((σ.1 38 q.toNatClampNeg) < 0) → sy_E shX mX11_firstUntold (0, sy_ent [.ref 6, .ref (sy_rf shX 33 q.toNatClampNeg), .int (σ.1 38 q.toNatClampNeg)] 4, [], σ) (fun r9 σ9 => sy_E shX mX11_steadies (49, [some (.ref 6), none, some (.ref (sy_rf shX 33 q.toNatClampNeg)), none], r9.toList ++ [], σ9) Q)) (k3 : px p4 q = none → Q (some (.int (-1))) σ) : sy_E shX mX11_steadies (0, sy_ent [.ref 6, .int q] 4, [], σ) Q := by
  show sy_E shX mX11_steadies (0, [some (.ref 6), some (.int q), none, none], [], σ) _
  refine sy_bk [(.aload_n 0, 0, 0, 0, 0), (.getfield 45, 11, 5, 0, 0), (.iload_n 1, 0, 0, 0, 0)] (5, [some (.ref 6), some (.int q), none, none], [.int q, .ref 32], σ) [] (by decide +kernel) rfl trivial ?_
  refine sy_callV mX7_has 32 [.int q] [] kX7_has jX11_210 (by decide +kernel) rfl rfl (Nat.le_of_ble_eq_true rfl) (Nat.le_of_ble_eq_true rfl) (by decide) rfl ?_
  refine e_li_has (σ := σ) (i := q) ?_ ?_
  · intro m_1 c2
    show sy_E shX mX11_steadies (8, [some (.ref 6), some (.int q), none, none], [.int 1], σ) _
    refine sy_bk [(.ifCond .ne 5, 1, 13, 0, 0), (.aload_n 0, 0, 0, 0, 0), (.getfield 45, 11, 5, 0, 0), (.iload_n 1, 0, 0, 0, 0)] (18, [some (.ref 6), some (.int q), none, none], [.int q, .ref 32], σ) [sy_cc .ne 1 0] (by decide +kernel) rfl ⟨(by decide : (¬ (1 : Int32) = 0)), trivial⟩ ?_
    refine sy_callV mX7_holds 32 [.int q] [] kX7_holds jX11_217 (by decide +kernel) rfl rfl (Nat.le_of_ble_eq_true rfl) (Nat.le_of_ble_eq_true rfl) (by decide) rfl ?_
    refine w_li_holds (σ := σ) (i := q) (b1 m_1 c2) ?_ ?_
    · intro c3
      show sy_E shX mX11_steadies (21, [some (.ref 6), some (.int q), none, none], [.int 0], σ) _
      refine sy_bk [(.ifCond .ne 6, 0, 27, 0, 0), (.bipush (-11), 0, 0, (-11), 0)] (26, [some (.ref 6), some (.int q), none, none], [.int (-11)], σ) [¬ sy_cc .ne 0 0] (by decide +kernel) rfl ⟨(by decide : ¬ (¬ (0 : Int32) = 0)), trivial⟩ ?_
      exact sy_reti rfl (by decide +kernel) (k1 m_1 c2 c3)
    · intro c4
      show sy_E shX mX11_steadies (21, [some (.ref 6), some (.int q), none, none], [.int 1], σ) _
      refine sy_bk [(.ifCond .ne 6, 1, 27, 0, 0), (.aload_n 0, 0, 0, 0, 0), (.getfield 45, 11, 5, 0, 0), (.iload_n 1, 0, 0, 0, 0)] (32, [some (.ref 6), some (.int q), none, none], [.int q, .ref 32], σ) [sy_cc .ne 1 0] (by decide +kernel) rfl ⟨(by decide : (¬ (1 : Int32) = 0)), trivial⟩ ?_
      refine sy_callV mX7_rowAt 32 [.int q] [] kX7_rowAt jX11_220 (by decide +kernel) rfl rfl (Nat.le_of_ble_eq_true rfl) (Nat.le_of_ble_eq_true rfl) (by decide) rfl ?_
      refine w_li_rowAt (σ := σ) (i := q) (b2 m_1 c2 c4) ?_
      show sy_E shX mX11_steadies (35, [some (.ref 6), some (.int q), none, none], [.ref (sy_rf shX 33 q.toNatClampNeg)], σ) _
      refine sy_bk [(.astore_n 2, 0, 0, 0, 0), (.aload_n 0, 0, 0, 0, 0), (.aload_n 2, 0, 0, 0, 0), (.aload_n 0, 0, 0, 0, 0), (.getfield 45, 11, 5, 0, 0), (.iload_n 1, 0, 0, 0, 0)] (43, [some (.ref 6), some (.int q), some (.ref (sy_rf shX 33 q.toNatClampNeg)), none], [.int q, .ref 32, .ref (sy_rf shX 33 q.toNatClampNeg), .ref 6], σ) [] (by decide +kernel) rfl trivial ?_
      refine sy_callV mX7_lengthOf 32 [.int q] [.ref (sy_rf shX 33 q.toNatClampNeg), .ref 6] kX7_lengthOf jX11_322 (by decide +kernel) rfl rfl (Nat.le_of_ble_eq_true rfl) (Nat.le_of_ble_eq_true rfl) (by decide) rfl ?_
      refine w_li_lengthOf (σ := σ) (i := q) (b1 m_1 c2) ?_
      show sy_E shX mX11_steadies (46, [some (.ref 6), some (.int q), some (.ref (sy_rf shX 33 q.toNatClampNeg)), none], [.int (σ.1 38 q.toNatClampNeg), .ref (sy_rf shX 33 q.toNatClampNeg), .ref 6], σ) _
      refine sy_drop [some (.ref 6), none, some (.ref (sy_rf shX 33 q.toNatClampNeg)), none] ⟨rfl, rfl, trivial⟩ ?_
      refine sy_callV mX11_firstUntold 6 [.ref (sy_rf shX 33 q.toNatClampNeg), .int (σ.1 38 q.toNatClampNeg)] [] kX11_firstUntold jX11_328 (by decide +kernel) rfl rfl (Nat.le_of_ble_eq_true rfl) (Nat.le_of_ble_eq_true rfl) (by decide) rfl ?_
      exact k2 m_1 c2 c4
  · intro c5
    show sy_E shX mX11_steadies (8, [some (.ref 6), some (.int q), none, none], [.int 0], σ) _
    refine sy_bk [(.ifCond .ne 5, 0, 13, 0, 0), (.iconst (-1), 0, 0, (-1), 0)] (12, [some (.ref 6), some (.int q), none, none], [.int (-1)], σ) [¬ sy_cc .ne 0 0] (by decide +kernel) rfl ⟨(by decide : ¬ (¬ (0 : Int32) = 0)), trivial⟩ ?_
    exact sy_reti rfl (by decide +kernel) (k3 c5)

set_option maxRecDepth 20000 in
theorem w_X_steadies_49 {Q : Option Value → sy_S → Prop} {σ : sy_S} {q : Int32} {v : Int32}   (k1 : v < 0 → sy_E shX mX11_firstUnsteady (0, sy_ent [.ref 6, .ref (sy_rf shX 33 q.toNatClampNeg)] 6, [], σ) (fun r9 σ9 => sy_E shX mX11_steadies (63, [none, none, none, none], r9.toList ++ [], σ9) Q)) (k2 : ¬ (v < 0) → Q (some (.int v)) σ) : sy_E shX mX11_steadies (49, [some (.ref 6), none, some (.ref (sy_rf shX 33 q.toNatClampNeg)), none], [.int v], σ) Q := by
  refine sy_bk [(.istore_n 3, 0, 0, 0, 0), (.iload_n 3, 0, 0, 0, 0)] (51, [some (.ref 6), none, some (.ref (sy_rf shX 33 q.toNatClampNeg)), some (.int v)], [.int v], σ) [] (by decide +kernel) rfl trivial ?_
  by_cases c1 : v < 0
  · refine sy_bk [(.ifCond .lt 7, 1, 58, 0, 0)] (58, [some (.ref 6), none, some (.ref (sy_rf shX 33 q.toNatClampNeg)), some (.int v)], [], σ) [sy_cc .lt v 0] (by decide +kernel) rfl ⟨c1, trivial⟩ ?_
    refine sy_bk [(.aload_n 0, 0, 0, 0, 0), (.aload_n 2, 0, 0, 0, 0)] (60, [some (.ref 6), none, some (.ref (sy_rf shX 33 q.toNatClampNeg)), some (.int v)], [.ref (sy_rf shX 33 q.toNatClampNeg), .ref 6], σ) [] (by decide +kernel) rfl trivial ?_
    refine sy_drop [none, none, none, none] trivial ?_
    refine sy_callV mX11_firstUnsteady 6 [.ref (sy_rf shX 33 q.toNatClampNeg)] [] kX11_firstUnsteady jX11_331 (by decide +kernel) rfl rfl (Nat.le_of_ble_eq_true rfl) (Nat.le_of_ble_eq_true rfl) (by decide) rfl ?_
    exact k1 c1
  · refine sy_bk [(.ifCond .lt 7, 0, 58, 0, 0)] (54, [some (.ref 6), none, some (.ref (sy_rf shX 33 q.toNatClampNeg)), some (.int v)], [], σ) [¬ sy_cc .lt v 0] (by decide +kernel) rfl ⟨c1, trivial⟩ ?_
    refine sy_bk [(.iload_n 3, 0, 0, 0, 0), (.goto 8, 0, 63, 0, 0)] (63, [some (.ref 6), none, some (.ref (sy_rf shX 33 q.toNatClampNeg)), some (.int v)], [.int v], σ) [] (by decide +kernel) rfl trivial ?_
    exact sy_reti rfl (by decide +kernel) (k2 c1)

set_option maxRecDepth 20000 in
theorem w_X_steadies_63 {Q : Option Value → sy_S → Prop} {σ : sy_S} {v : Int32}   (k1 : Q (some (.int v)) σ) : sy_E shX mX11_steadies (63, [none, none, none, none], [.int v], σ) Q := by
  exact sy_reti rfl (by decide +kernel) (k1)

set_option maxRecDepth 20000 in
theorem w_X_film_0 {Q : Option Value → sy_S → Prop} {σ : sy_S} {q : Int32}   (k1 : ∀ (m_1 : Nat), px p4 q = some m_1 → sy_E shX mX11_film (13, [some (.ref 6), some (.int q), none, none, none], [], σ) Q) (k2 : px p4 q = none → Q (some (.int (-1))) σ) : sy_E shX mX11_film (0, sy_ent [.ref 6, .int q] 5, [], σ) Q := by
  show sy_E shX mX11_film (0, [some (.ref 6), some (.int q), none, none, none], [], σ) _
  refine sy_bk [(.aload_n 0, 0, 0, 0, 0), (.getfield 45, 11, 5, 0, 0), (.iload_n 1, 0, 0, 0, 0)] (5, [some (.ref 6), some (.int q), none, none, none], [.int q, .ref 32], σ) [] (by decide +kernel) rfl trivial ?_
  refine sy_callV mX7_has 32 [.int q] [] kX7_has jX11_210 (by decide +kernel) rfl rfl (Nat.le_of_ble_eq_true rfl) (Nat.le_of_ble_eq_true rfl) (by decide) rfl ?_
  refine e_li_has (σ := σ) (i := q) ?_ ?_
  · intro m_1 c2
    show sy_E shX mX11_film (8, [some (.ref 6), some (.int q), none, none, none], [.int 1], σ) _
    refine sy_bk [(.ifCond .ne 5, 1, 13, 0, 0)] (13, [some (.ref 6), some (.int q), none, none, none], [], σ) [sy_cc .ne 1 0] (by decide +kernel) rfl ⟨(by decide : (¬ (1 : Int32) = 0)), trivial⟩ ?_
    exact k1 m_1 c2
  · intro c3
    show sy_E shX mX11_film (8, [some (.ref 6), some (.int q), none, none, none], [.int 0], σ) _
    refine sy_bk [(.ifCond .ne 5, 0, 13, 0, 0), (.iconst (-1), 0, 0, (-1), 0)] (12, [some (.ref 6), some (.int q), none, none, none], [.int (-1)], σ) [¬ sy_cc .ne 0 0] (by decide +kernel) rfl ⟨(by decide : ¬ (¬ (0 : Int32) = 0)), trivial⟩ ?_
    exact sy_reti rfl (by decide +kernel) (k2 c3)

set_option maxRecDepth 20000 in
theorem w_X_film_13 {Q : Option Value → sy_S → Prop} {σ : sy_S} {l1 : Int32}   (k1 : sy_E shX mX1_begin (0, sy_ent [.ref 39, .ref 7] 2, [], σ) (fun r9 σ9 => sy_E shX mX11_film (32, [some (.ref 6), some (.int l1), some (.int (σ.1 0 7)), none, none], r9.toList ++ [], σ9) Q)) : sy_E shX mX11_film (13, [some (.ref 6), some (.int l1), none, none, none], [], σ) Q := by
  refine sy_bk [(.aload_n 0, 0, 0, 0, 0), (.getfield 16, 11, 0, 0, 0)] (17, [some (.ref 6), some (.int l1), none, none, none], [.ref 0], σ) [] (by decide +kernel) rfl trivial ?_
  refine sy_callV mX3_placeCount 0 [] [] kX3_placeCount jX11_275 (by decide +kernel) rfl rfl (Nat.le_of_ble_eq_true rfl) (Nat.le_of_ble_eq_true rfl) (by decide) rfl ?_
  refine w_x_placeCount (σ := σ) ?_
  show sy_E shX mX11_film (20, [some (.ref 6), some (.int l1), none, none, none], [.int (σ.1 0 7)], σ) _
  refine sy_bk [(.istore_n 2, 0, 0, 0, 0), (.aload_n 0, 0, 0, 0, 0), (.getfield 53, 11, 6, 0, 0), (.aload_n 0, 0, 0, 0, 0), (.getfield 20, 11, 1, 0, 0)] (29, [some (.ref 6), some (.int l1), some (.int (σ.1 0 7)), none, none], [.ref 7, .ref 39], σ) [] (by decide +kernel) rfl trivial ?_
  refine sy_callV mX1_begin 39 [.ref 7] [] kX1_begin jX11_146 (by decide +kernel) rfl rfl (Nat.le_of_ble_eq_true rfl) (Nat.le_of_ble_eq_true rfl) (by decide) rfl ?_
  exact k1

set_option maxRecDepth 20000 in
theorem w_X_film_32 {Q : Option Value → sy_S → Prop} {σ : sy_S} {l1 : Int32} {l2 : Int32}   (k1 : sy_E shX mX1_level (0, sy_ent [.ref 39] 9, [], σ) (fun r9 σ9 => sy_E shX mX11_film (39, [some (.ref 6), some (.int l1), some (.int l2), none, none], r9.toList ++ [], σ9) Q)) : sy_E shX mX11_film (32, [some (.ref 6), some (.int l1), some (.int l2), none, none], [], σ) Q := by
  refine sy_bk [(.aload_n 0, 0, 0, 0, 0), (.getfield 53, 11, 6, 0, 0)] (36, [some (.ref 6), some (.int l1), some (.int l2), none, none], [.ref 39], σ) [] (by decide +kernel) rfl trivial ?_
  refine sy_callV mX1_level 39 [] [] kX1_level jX11_149 (by decide +kernel) rfl rfl (Nat.le_of_ble_eq_true rfl) (Nat.le_of_ble_eq_true rfl) (by decide) rfl ?_
  exact k1

set_option maxRecDepth 20000 in
theorem w_X_film_39 {Q : Option Value → sy_S → Prop} {σ : sy_S} {l1 : Int32} {l2 : Int32} {v : Int32}  (b1 : vp_in l1 4) (b2 : sy_okR shX 33 l1) (k1 : sy_E shX mX11_film (53, [some (.ref 6), none, some (.int l2), some (.ref (sy_rf shX 33 l1.toNatClampNeg)), some (.int 0)], [], (sy_up σ.1 38 l1.toNatClampNeg l2, σ.2)) Q) : sy_E shX mX11_film (39, [some (.ref 6), some (.int l1), some (.int l2), none, none], [.int v], σ) Q := by
  refine sy_bk [(.pop, 0, 0, 0, 0), (.aload_n 0, 0, 0, 0, 0), (.getfield 45, 11, 5, 0, 0), (.iload_n 1, 0, 0, 0, 0), (.iload_n 2, 0, 0, 0, 0)] (46, [some (.ref 6), some (.int l1), some (.int l2), none, none], [.int l2, .int l1, .ref 32], σ) [] (by decide +kernel) rfl trivial ?_
  refine sy_callV mX7_hold 32 [.int l1, .int l2] [] kX7_hold jX11_213 (by decide +kernel) rfl rfl (Nat.le_of_ble_eq_true rfl) (Nat.le_of_ble_eq_true rfl) (by decide) rfl ?_
  refine w_li_hold (σ := σ) (i := l1) (len := l2) b1 b2 ?_
  show sy_E shX mX11_film (49, [some (.ref 6), some (.int l1), some (.int l2), none, none], [.ref (sy_rf shX 33 l1.toNatClampNeg)], (sy_up σ.1 38 l1.toNatClampNeg l2, σ.2)) _
  refine sy_bk [(.astore_n 3, 0, 0, 0, 0), (.iconst 0, 0, 0, 0, 0), (.istore 4, 0, 0, 0, 0)] (53, [some (.ref 6), some (.int l1), some (.int l2), some (.ref (sy_rf shX 33 l1.toNatClampNeg)), some (.int 0)], [], (sy_up σ.1 38 l1.toNatClampNeg l2, σ.2)) [] (by decide +kernel) rfl trivial ?_
  refine sy_drop [some (.ref 6), none, some (.int l2), some (.ref (sy_rf shX 33 l1.toNatClampNeg)), some (.int 0)] ⟨rfl, rfl, rfl, rfl, trivial⟩ ?_
  exact k1

set_option maxRecDepth 20000 in
theorem w_X_film_53 {Q : Option Value → sy_S → Prop} {σ : sy_S} {l2 : Int32} {l4 : Int32} {l1 : Int32}  (b1 : ¬ (l2 ≤ l4) → vp_in l4 16) (k1 : l2 ≤ l4 → Q (some (.int l2)) σ) (k2 : ¬ (l2 ≤ l4) → sy_E shX mX1_countAt (0, sy_ent [.ref 39, .int (σ.1 2 l4.toNatClampNeg)] 2, [], σ) (fun r9 σ9 => sy_E shX mX11_film (78, [some (.ref 6), none, some (.int l2), some (.ref (sy_rf shX 33 l1.toNatClampNeg)), some (.int l4)], r9.toList ++ [.int l4, .ref (sy_rf shX 33 l1.toNatClampNeg)], σ9) Q)) : sy_E shX mX11_film (53, [some (.ref 6), none, some (.int l2), some (.ref (sy_rf shX 33 l1.toNatClampNeg)), some (.int l4)], [], σ) Q := by
  refine sy_bk [(.iload 4, 0, 0, 0, 0), (.iload_n 2, 0, 0, 0, 0)] (56, [some (.ref 6), none, some (.int l2), some (.ref (sy_rf shX 33 l1.toNatClampNeg)), some (.int l4)], [.int l2, .int l4], σ) [] (by decide +kernel) rfl trivial ?_
  by_cases c1 : l2 ≤ l4
  · refine sy_bk [(.if_icmp .ge 29, 1, 85, 0, 0)] (85, [some (.ref 6), none, some (.int l2), some (.ref (sy_rf shX 33 l1.toNatClampNeg)), some (.int l4)], [], σ) [sy_cc .ge l4 l2] (by decide +kernel) rfl ⟨c1, trivial⟩ ?_
    refine sy_bk [(.iload_n 2, 0, 0, 0, 0)] (86, [some (.ref 6), none, some (.int l2), some (.ref (sy_rf shX 33 l1.toNatClampNeg)), some (.int l4)], [.int l2], σ) [] (by decide +kernel) rfl trivial ?_
    exact sy_reti rfl (by decide +kernel) (k1 c1)
  · refine sy_bk [(.if_icmp .ge 29, 0, 85, 0, 0)] (59, [some (.ref 6), none, some (.int l2), some (.ref (sy_rf shX 33 l1.toNatClampNeg)), some (.int l4)], [], σ) [¬ sy_cc .ge l4 l2] (by decide +kernel) rfl ⟨c1, trivial⟩ ?_
    refine sy_bk [(.aload_n 3, 0, 0, 0, 0), (.iload 4, 0, 0, 0, 0), (.aload_n 0, 0, 0, 0, 0), (.getfield 53, 11, 6, 0, 0), (.aload_n 0, 0, 0, 0, 0), (.getfield 16, 11, 0, 0, 0), (.iload 4, 0, 0, 0, 0)] (72, [some (.ref 6), none, some (.int l2), some (.ref (sy_rf shX 33 l1.toNatClampNeg)), some (.int l4)], [.int l4, .ref 0, .ref 39, .int l4, .ref (sy_rf shX 33 l1.toNatClampNeg)], σ) [] (by decide +kernel) rfl trivial ?_
    refine sy_callV mX3_placeAt 0 [.int l4] [.ref 39, .int l4, .ref (sy_rf shX 33 l1.toNatClampNeg)] kX3_placeAt jX11_334 (by decide +kernel) rfl rfl (Nat.le_of_ble_eq_true rfl) (Nat.le_of_ble_eq_true rfl) (by decide) rfl ?_
    refine w_x_placeAt (σ := σ) (cell := l4) (b1 c1) ?_
    show sy_E shX mX11_film (75, [some (.ref 6), none, some (.int l2), some (.ref (sy_rf shX 33 l1.toNatClampNeg)), some (.int l4)], [.int (σ.1 2 l4.toNatClampNeg), .ref 39, .int l4, .ref (sy_rf shX 33 l1.toNatClampNeg)], σ) _
    refine sy_callV mX1_countAt 39 [.int (σ.1 2 l4.toNatClampNeg)] [.int l4, .ref (sy_rf shX 33 l1.toNatClampNeg)] kX1_countAt jX11_186 (by decide +kernel) rfl rfl (Nat.le_of_ble_eq_true rfl) (Nat.le_of_ble_eq_true rfl) (by decide) rfl ?_
    exact k2 c1

set_option maxRecDepth 20000 in
theorem w_X_film_78 {Q : Option Value → sy_S → Prop} {σ : sy_S} {l2 : Int32} {l4 : Int32} {s0 : Int32} {v : Int32} {l1 : Int32} (hk0 : shX[sy_rf shX 33 l1.toNatClampNeg]? = some (0, 40, [])) (b1 : vp_in s0 40) (k1 : sy_E shX mX11_film (53, [some (.ref 6), none, some (.int l2), some (.ref (sy_rf shX 33 l1.toNatClampNeg)), some (.int (l4 + 1))], [], (sy_up σ.1 (sy_rf shX 33 l1.toNatClampNeg) s0.toNatClampNeg v, σ.2)) Q) : sy_E shX mX11_film (78, [some (.ref 6), none, some (.int l2), some (.ref (sy_rf shX 33 l1.toNatClampNeg)), some (.int l4)], [.int v, .int s0, .ref (sy_rf shX 33 l1.toNatClampNeg)], σ) Q := by
  refine sy_bk [(.iastore, 0, 0, 0, 0), (.iinc 4 1, 0, 0, 1, 0), (.goto (-29), 0, 53, 0, 0)] (53, [some (.ref 6), none, some (.int l2), some (.ref (sy_rf shX 33 l1.toNatClampNeg)), some (.int (l4 + 1))], [], (sy_up σ.1 (sy_rf shX 33 l1.toNatClampNeg) s0.toNatClampNeg v, σ.2)) [sy_okA shX 0 (sy_rf shX 33 l1.toNatClampNeg) s0] (by decide +kernel) rfl ⟨⟨40, _, hk0, b1⟩, trivial⟩ ?_
  exact k1

set_option maxRecDepth 20000 in
theorem w_X_list_0 {Q : Option Value → sy_S → Prop} {σ : sy_S} {q : Int32} {n : Int32}  (b1 : ∀ (m_1 : Nat), px p4 q = some m_1 → n ≤ 40 → 0 ≤ n → vp_in q 4) (b2 : ∀ (m_1 : Nat), px p4 q = some m_1 → n ≤ 40 → 0 ≤ n → sy_okR shX 33 q) (k1 : ∀ (m_1 : Nat), px p4 q = some m_1 → n ≤ 40 → 0 ≤ n → sy_E shX mJ7_fill_53178 (0, sy_ent [.ref (sy_rf shX 33 q.toNatClampNeg), .int 0] 4, [], (sy_up σ.1 38 q.toNatClampNeg n, σ.2)) (fun r9 σ9 => sy_E shX mX11_list (42, [none, none, none], r9.toList ++ [], σ9) Q)) (k2 : ∀ (m_1 : Nat), px p4 q = some m_1 → n ≤ 40 → ¬ (0 ≤ n) → Q (some (.int (-14))) σ) (k3 : ∀ (m_1 : Nat), px p4 q = some m_1 → ¬ (n ≤ 40) → Q (some (.int (-2))) σ) (k4 : px p4 q = none → Q (some (.int (-1))) σ) : sy_E shX mX11_list (0, sy_ent [.ref 6, .int q, .int n] 3, [], σ) Q := by
  show sy_E shX mX11_list (0, [some (.ref 6), some (.int q), some (.int n)], [], σ) _
  refine sy_bk [(.aload_n 0, 0, 0, 0, 0), (.getfield 45, 11, 5, 0, 0), (.iload_n 1, 0, 0, 0, 0)] (5, [some (.ref 6), some (.int q), some (.int n)], [.int q, .ref 32], σ) [] (by decide +kernel) rfl trivial ?_
  refine sy_callV mX7_has 32 [.int q] [] kX7_has jX11_210 (by decide +kernel) rfl rfl (Nat.le_of_ble_eq_true rfl) (Nat.le_of_ble_eq_true rfl) (by decide) rfl ?_
  refine e_li_has (σ := σ) (i := q) ?_ ?_
  · intro m_1 c2
    show sy_E shX mX11_list (8, [some (.ref 6), some (.int q), some (.int n)], [.int 1], σ) _
    refine sy_bk [(.ifCond .ne 5, 1, 13, 0, 0), (.iload_n 2, 0, 0, 0, 0), (.bipush 40, 0, 0, 40, 0)] (16, [some (.ref 6), some (.int q), some (.int n)], [.int 40, .int n], σ) [sy_cc .ne 1 0] (by decide +kernel) rfl ⟨(by decide : (¬ (1 : Int32) = 0)), trivial⟩ ?_
    by_cases c3 : n ≤ 40
    · refine sy_bk [(.if_icmp .le 6, 1, 22, 0, 0)] (22, [some (.ref 6), some (.int q), some (.int n)], [], σ) [sy_cc .le n 40] (by decide +kernel) rfl ⟨c3, trivial⟩ ?_
      refine sy_bk [(.iload_n 2, 0, 0, 0, 0)] (23, [some (.ref 6), some (.int q), some (.int n)], [.int n], σ) [] (by decide +kernel) rfl trivial ?_
      by_cases c4 : 0 ≤ n
      · refine sy_bk [(.ifCond .ge 6, 1, 29, 0, 0)] (29, [some (.ref 6), some (.int q), some (.int n)], [], σ) [sy_cc .ge n 0] (by decide +kernel) rfl ⟨c4, trivial⟩ ?_
        refine sy_bk [(.aload_n 0, 0, 0, 0, 0), (.getfield 45, 11, 5, 0, 0), (.iload_n 1, 0, 0, 0, 0), (.iload_n 2, 0, 0, 0, 0)] (35, [some (.ref 6), some (.int q), some (.int n)], [.int n, .int q, .ref 32], σ) [] (by decide +kernel) rfl trivial ?_
        refine sy_callV mX7_hold 32 [.int q, .int n] [] kX7_hold jX11_213 (by decide +kernel) rfl rfl (Nat.le_of_ble_eq_true rfl) (Nat.le_of_ble_eq_true rfl) (by decide) rfl ?_
        refine w_li_hold (σ := σ) (i := q) (len := n) (b1 m_1 c2 c3 c4) (b2 m_1 c2 c3 c4) ?_
        show sy_E shX mX11_list (38, [some (.ref 6), some (.int q), some (.int n)], [.ref (sy_rf shX 33 q.toNatClampNeg)], (sy_up σ.1 38 q.toNatClampNeg n, σ.2)) _
        refine sy_bk [(.iconst 0, 0, 0, 0, 0)] (39, [some (.ref 6), some (.int q), some (.int n)], [.int 0, .ref (sy_rf shX 33 q.toNatClampNeg)], (sy_up σ.1 38 q.toNatClampNeg n, σ.2)) [] (by decide +kernel) rfl trivial ?_
        refine sy_drop [none, none, none] trivial ?_
        refine sy_callS mJ7_fill_53178 [.ref (sy_rf shX 33 q.toNatClampNeg), .int 0] [] kJ7_fill_53178 jX11_114 (by decide +kernel) rfl rfl (Nat.le_of_ble_eq_true rfl) (Nat.le_of_ble_eq_true rfl) (by decide) ?_
        exact k1 m_1 c2 c3 c4
      · refine sy_bk [(.ifCond .ge 6, 0, 29, 0, 0)] (26, [some (.ref 6), some (.int q), some (.int n)], [], σ) [¬ sy_cc .ge n 0] (by decide +kernel) rfl ⟨c4, trivial⟩ ?_
        refine sy_bk [(.bipush (-14), 0, 0, (-14), 0)] (28, [some (.ref 6), some (.int q), some (.int n)], [.int (-14)], σ) [] (by decide +kernel) rfl trivial ?_
        exact sy_reti rfl (by decide +kernel) (k2 m_1 c2 c3 c4)
    · refine sy_bk [(.if_icmp .le 6, 0, 22, 0, 0)] (19, [some (.ref 6), some (.int q), some (.int n)], [], σ) [¬ sy_cc .le n 40] (by decide +kernel) rfl ⟨c3, trivial⟩ ?_
      refine sy_bk [(.bipush (-2), 0, 0, (-2), 0)] (21, [some (.ref 6), some (.int q), some (.int n)], [.int (-2)], σ) [] (by decide +kernel) rfl trivial ?_
      exact sy_reti rfl (by decide +kernel) (k3 m_1 c2 c3)
  · intro c5
    show sy_E shX mX11_list (8, [some (.ref 6), some (.int q), some (.int n)], [.int 0], σ) _
    refine sy_bk [(.ifCond .ne 5, 0, 13, 0, 0), (.iconst (-1), 0, 0, (-1), 0)] (12, [some (.ref 6), some (.int q), some (.int n)], [.int (-1)], σ) [¬ sy_cc .ne 0 0] (by decide +kernel) rfl ⟨(by decide : ¬ (¬ (0 : Int32) = 0)), trivial⟩ ?_
    exact sy_reti rfl (by decide +kernel) (k4 c5)

set_option maxRecDepth 20000 in
theorem w_X_list_42 {Q : Option Value → sy_S → Prop} {σ : sy_S}    (k1 : Q (some (.int 1)) σ) : sy_E shX mX11_list (42, [none, none, none], [], σ) Q := by
  refine sy_bk [(.iconst 1, 0, 0, 1, 0)] (43, [none, none, none], [.int 1], σ) [] (by decide +kernel) rfl trivial ?_
  exact sy_reti rfl (by decide +kernel) (k1)

set_option maxRecDepth 20000 in
theorem w_X_put_0 {Q : Option Value → sy_S → Prop} {σ : sy_S} {q : Int32} {i : Int32} {v : Int32}   (k1 : ∀ (m_1 : Nat), px p4 q = some m_1 → sy_E shX mX11_put (13, [some (.ref 6), some (.int q), some (.int i), some (.int v)], [], σ) Q) (k2 : px p4 q = none → Q (some (.int (-1))) σ) : sy_E shX mX11_put (0, sy_ent [.ref 6, .int q, .int i, .int v] 4, [], σ) Q := by
  show sy_E shX mX11_put (0, [some (.ref 6), some (.int q), some (.int i), some (.int v)], [], σ) _
  refine sy_bk [(.aload_n 0, 0, 0, 0, 0), (.getfield 45, 11, 5, 0, 0), (.iload_n 1, 0, 0, 0, 0)] (5, [some (.ref 6), some (.int q), some (.int i), some (.int v)], [.int q, .ref 32], σ) [] (by decide +kernel) rfl trivial ?_
  refine sy_callV mX7_has 32 [.int q] [] kX7_has jX11_210 (by decide +kernel) rfl rfl (Nat.le_of_ble_eq_true rfl) (Nat.le_of_ble_eq_true rfl) (by decide) rfl ?_
  refine e_li_has (σ := σ) (i := q) ?_ ?_
  · intro m_1 c2
    show sy_E shX mX11_put (8, [some (.ref 6), some (.int q), some (.int i), some (.int v)], [.int 1], σ) _
    refine sy_bk [(.ifCond .ne 5, 1, 13, 0, 0)] (13, [some (.ref 6), some (.int q), some (.int i), some (.int v)], [], σ) [sy_cc .ne 1 0] (by decide +kernel) rfl ⟨(by decide : (¬ (1 : Int32) = 0)), trivial⟩ ?_
    exact k1 m_1 c2
  · intro c3
    show sy_E shX mX11_put (8, [some (.ref 6), some (.int q), some (.int i), some (.int v)], [.int 0], σ) _
    refine sy_bk [(.ifCond .ne 5, 0, 13, 0, 0), (.iconst (-1), 0, 0, (-1), 0)] (12, [some (.ref 6), some (.int q), some (.int i), some (.int v)], [.int (-1)], σ) [¬ sy_cc .ne 0 0] (by decide +kernel) rfl ⟨(by decide : ¬ (¬ (0 : Int32) = 0)), trivial⟩ ?_
    exact sy_reti rfl (by decide +kernel) (k2 c3)

set_option maxRecDepth 20000 in
theorem w_X_put_13 {Q : Option Value → sy_S → Prop} {σ : sy_S} {l1 : Int32} {l2 : Int32} {l3 : Int32} (hk0 : shX[sy_rf shX 33 l1.toNatClampNeg]? = some (0, 40, [])) (b1 : vp_in l1 4) (b2 : ¬ ((σ.1 38 l1.toNatClampNeg) < 0) → ¬ (l2 < 0) → l2 < (σ.1 38 l1.toNatClampNeg) → sy_okR shX 33 l1) (b3 : ¬ ((σ.1 38 l1.toNatClampNeg) < 0) → ¬ (l2 < 0) → l2 < (σ.1 38 l1.toNatClampNeg) → vp_in l2 40) (k1 : (σ.1 38 l1.toNatClampNeg) < 0 → Q (some (.int (-11))) σ) (k2 : ¬ ((σ.1 38 l1.toNatClampNeg) < 0) → l2 < 0 → Q (some (.int (-13))) σ) (k3 : ¬ ((σ.1 38 l1.toNatClampNeg) < 0) → ¬ (l2 < 0) → l2 < (σ.1 38 l1.toNatClampNeg) → Q (some (.int 1)) (sy_up σ.1 (sy_rf shX 33 l1.toNatClampNeg) l2.toNatClampNeg l3, σ.2)) (k4 : ¬ ((σ.1 38 l1.toNatClampNeg) < 0) → ¬ (l2 < 0) → ¬ (l2 < (σ.1 38 l1.toNatClampNeg)) → Q (some (.int (-13))) σ) : sy_E shX mX11_put (13, [some (.ref 6), some (.int l1), some (.int l2), some (.int l3)], [], σ) Q := by
  refine sy_bk [(.aload_n 0, 0, 0, 0, 0), (.getfield 45, 11, 5, 0, 0), (.iload_n 1, 0, 0, 0, 0)] (18, [some (.ref 6), some (.int l1), some (.int l2), some (.int l3)], [.int l1, .ref 32], σ) [] (by decide +kernel) rfl trivial ?_
  refine sy_callV mX7_holds 32 [.int l1] [] kX7_holds jX11_217 (by decide +kernel) rfl rfl (Nat.le_of_ble_eq_true rfl) (Nat.le_of_ble_eq_true rfl) (by decide) rfl ?_
  refine w_li_holds (σ := σ) (i := l1) b1 ?_ ?_
  · intro c1
    show sy_E shX mX11_put (21, [some (.ref 6), some (.int l1), some (.int l2), some (.int l3)], [.int 0], σ) _
    refine sy_bk [(.ifCond .ne 6, 0, 27, 0, 0), (.bipush (-11), 0, 0, (-11), 0)] (26, [some (.ref 6), some (.int l1), some (.int l2), some (.int l3)], [.int (-11)], σ) [¬ sy_cc .ne 0 0] (by decide +kernel) rfl ⟨(by decide : ¬ (¬ (0 : Int32) = 0)), trivial⟩ ?_
    exact sy_reti rfl (by decide +kernel) (k1 c1)
  · intro c2
    show sy_E shX mX11_put (21, [some (.ref 6), some (.int l1), some (.int l2), some (.int l3)], [.int 1], σ) _
    refine sy_bk [(.ifCond .ne 6, 1, 27, 0, 0), (.iload_n 2, 0, 0, 0, 0)] (28, [some (.ref 6), some (.int l1), some (.int l2), some (.int l3)], [.int l2], σ) [sy_cc .ne 1 0] (by decide +kernel) rfl ⟨(by decide : (¬ (1 : Int32) = 0)), trivial⟩ ?_
    by_cases c3 : l2 < 0
    · refine sy_bk [(.ifCond .lt 15, 1, 43, 0, 0)] (43, [some (.ref 6), some (.int l1), some (.int l2), some (.int l3)], [], σ) [sy_cc .lt l2 0] (by decide +kernel) rfl ⟨c3, trivial⟩ ?_
      refine sy_bk [(.bipush (-13), 0, 0, (-13), 0)] (45, [some (.ref 6), some (.int l1), some (.int l2), some (.int l3)], [.int (-13)], σ) [] (by decide +kernel) rfl trivial ?_
      exact sy_reti rfl (by decide +kernel) (k2 c2 c3)
    · refine sy_bk [(.ifCond .lt 15, 0, 43, 0, 0)] (31, [some (.ref 6), some (.int l1), some (.int l2), some (.int l3)], [], σ) [¬ sy_cc .lt l2 0] (by decide +kernel) rfl ⟨c3, trivial⟩ ?_
      refine sy_bk [(.iload_n 2, 0, 0, 0, 0), (.aload_n 0, 0, 0, 0, 0), (.getfield 45, 11, 5, 0, 0), (.iload_n 1, 0, 0, 0, 0)] (37, [some (.ref 6), some (.int l1), some (.int l2), some (.int l3)], [.int l1, .ref 32, .int l2], σ) [] (by decide +kernel) rfl trivial ?_
      refine sy_callV mX7_lengthOf 32 [.int l1] [.int l2] kX7_lengthOf jX11_322 (by decide +kernel) rfl rfl (Nat.le_of_ble_eq_true rfl) (Nat.le_of_ble_eq_true rfl) (by decide) rfl ?_
      refine w_li_lengthOf (σ := σ) (i := l1) b1 ?_
      show sy_E shX mX11_put (40, [some (.ref 6), some (.int l1), some (.int l2), some (.int l3)], [.int (σ.1 38 l1.toNatClampNeg), .int l2], σ) _
      by_cases c4 : l2 < (σ.1 38 l1.toNatClampNeg)
      · refine sy_bk [(.if_icmp .lt 6, 1, 46, 0, 0)] (46, [some (.ref 6), some (.int l1), some (.int l2), some (.int l3)], [], σ) [sy_cc .lt l2 (σ.1 38 l1.toNatClampNeg)] (by decide +kernel) rfl ⟨c4, trivial⟩ ?_
        refine sy_bk [(.aload_n 0, 0, 0, 0, 0), (.getfield 45, 11, 5, 0, 0), (.iload_n 1, 0, 0, 0, 0)] (51, [some (.ref 6), some (.int l1), some (.int l2), some (.int l3)], [.int l1, .ref 32], σ) [] (by decide +kernel) rfl trivial ?_
        refine sy_callV mX7_rowAt 32 [.int l1] [] kX7_rowAt jX11_220 (by decide +kernel) rfl rfl (Nat.le_of_ble_eq_true rfl) (Nat.le_of_ble_eq_true rfl) (by decide) rfl ?_
        refine w_li_rowAt (σ := σ) (i := l1) (b2 c2 c3 c4) ?_
        show sy_E shX mX11_put (54, [some (.ref 6), some (.int l1), some (.int l2), some (.int l3)], [.ref (sy_rf shX 33 l1.toNatClampNeg)], σ) _
        refine sy_bk [(.iload_n 2, 0, 0, 0, 0), (.iload_n 3, 0, 0, 0, 0), (.iastore, 0, 0, 0, 0), (.iconst 1, 0, 0, 1, 0)] (58, [some (.ref 6), some (.int l1), some (.int l2), some (.int l3)], [.int 1], (sy_up σ.1 (sy_rf shX 33 l1.toNatClampNeg) l2.toNatClampNeg l3, σ.2)) [sy_okA shX 0 (sy_rf shX 33 l1.toNatClampNeg) l2] (by decide +kernel) rfl ⟨⟨40, _, hk0, (b3 c2 c3 c4)⟩, trivial⟩ ?_
        exact sy_reti rfl (by decide +kernel) (k3 c2 c3 c4)
      · refine sy_bk [(.if_icmp .lt 6, 0, 46, 0, 0)] (43, [some (.ref 6), some (.int l1), some (.int l2), some (.int l3)], [], σ) [¬ sy_cc .lt l2 (σ.1 38 l1.toNatClampNeg)] (by decide +kernel) rfl ⟨c4, trivial⟩ ?_
        refine sy_bk [(.bipush (-13), 0, 0, (-13), 0)] (45, [some (.ref 6), some (.int l1), some (.int l2), some (.int l3)], [.int (-13)], σ) [] (by decide +kernel) rfl trivial ?_
        exact sy_reti rfl (by decide +kernel) (k4 c2 c3 c4)

set_option maxRecDepth 20000 in
theorem w_X_get_0 {Q : Option Value → sy_S → Prop} {σ : sy_S} {q : Int32} {i : Int32}   (k1 : ∀ (m_1 : Nat), px p4 q = some m_1 → sy_E shX mX11_get (11, [some (.ref 6), some (.int q), some (.int i)], [], σ) Q) (k2 : px p4 q = none → Q (some (.long (-9223372036854775808))) σ) : sy_E shX mX11_get (0, sy_ent [.ref 6, .int q, .int i] 3, [], σ) Q := by
  show sy_E shX mX11_get (0, [some (.ref 6), some (.int q), some (.int i)], [], σ) _
  refine sy_bk [(.aload_n 0, 0, 0, 0, 0), (.getfield 45, 11, 5, 0, 0), (.iload_n 1, 0, 0, 0, 0)] (5, [some (.ref 6), some (.int q), some (.int i)], [.int q, .ref 32], σ) [] (by decide +kernel) rfl trivial ?_
  refine sy_callV mX7_has 32 [.int q] [] kX7_has jX11_210 (by decide +kernel) rfl rfl (Nat.le_of_ble_eq_true rfl) (Nat.le_of_ble_eq_true rfl) (by decide) rfl ?_
  refine e_li_has (σ := σ) (i := q) ?_ ?_
  · intro m_1 c2
    show sy_E shX mX11_get (8, [some (.ref 6), some (.int q), some (.int i)], [.int 1], σ) _
    refine sy_bk [(.ifCond .eq 19, 0, 27, 0, 0)] (11, [some (.ref 6), some (.int q), some (.int i)], [], σ) [¬ sy_cc .eq 1 0] (by decide +kernel) rfl ⟨(by decide : ¬ ((1 : Int32) = 0)), trivial⟩ ?_
    exact k1 m_1 c2
  · intro c3
    show sy_E shX mX11_get (8, [some (.ref 6), some (.int q), some (.int i)], [.int 0], σ) _
    refine sy_bk [(.ifCond .eq 19, 1, 27, 0, 0), (.ldc2_w 337, 0, 0, 0, (-9223372036854775808))] (30, [some (.ref 6), some (.int q), some (.int i)], [.long (-9223372036854775808)], σ) [sy_cc .eq 0 0] (by decide +kernel) rfl ⟨(by decide : ((0 : Int32) = 0)), trivial⟩ ?_
    exact sy_retl rfl (by decide +kernel) (k2 c3)

set_option maxRecDepth 20000 in
theorem w_X_get_11 {Q : Option Value → sy_S → Prop} {σ : sy_S} {l1 : Int32} {l2 : Int32} (hk0 : shX[sy_rf shX 33 l1.toNatClampNeg]? = some (0, 40, [])) (b1 : ¬ (l2 < 0) → vp_in l1 4) (b2 : ¬ (l2 < 0) → l2 < (σ.1 38 l1.toNatClampNeg) → sy_okR shX 33 l1) (b3 : ¬ (l2 < 0) → l2 < (σ.1 38 l1.toNatClampNeg) → vp_in l2 40) (k1 : l2 < 0 → Q (some (.long (-9223372036854775808))) σ) (k2 : ¬ (l2 < 0) → l2 < (σ.1 38 l1.toNatClampNeg) → Q (some (.long ((σ.1 (sy_rf shX 33 l1.toNatClampNeg) l2.toNatClampNeg).toInt64))) σ) (k3 : ¬ (l2 < 0) → ¬ (l2 < (σ.1 38 l1.toNatClampNeg)) → Q (some (.long (-9223372036854775808))) σ) : sy_E shX mX11_get (11, [some (.ref 6), some (.int l1), some (.int l2)], [], σ) Q := by
  refine sy_bk [(.iload_n 2, 0, 0, 0, 0)] (12, [some (.ref 6), some (.int l1), some (.int l2)], [.int l2], σ) [] (by decide +kernel) rfl trivial ?_
  by_cases c1 : l2 < 0
  · refine sy_bk [(.ifCond .lt 15, 1, 27, 0, 0)] (27, [some (.ref 6), some (.int l1), some (.int l2)], [], σ) [sy_cc .lt l2 0] (by decide +kernel) rfl ⟨c1, trivial⟩ ?_
    refine sy_bk [(.ldc2_w 337, 0, 0, 0, (-9223372036854775808))] (30, [some (.ref 6), some (.int l1), some (.int l2)], [.long (-9223372036854775808)], σ) [] (by decide +kernel) rfl trivial ?_
    exact sy_retl rfl (by decide +kernel) (k1 c1)
  · refine sy_bk [(.ifCond .lt 15, 0, 27, 0, 0)] (15, [some (.ref 6), some (.int l1), some (.int l2)], [], σ) [¬ sy_cc .lt l2 0] (by decide +kernel) rfl ⟨c1, trivial⟩ ?_
    refine sy_bk [(.iload_n 2, 0, 0, 0, 0), (.aload_n 0, 0, 0, 0, 0), (.getfield 45, 11, 5, 0, 0), (.iload_n 1, 0, 0, 0, 0)] (21, [some (.ref 6), some (.int l1), some (.int l2)], [.int l1, .ref 32, .int l2], σ) [] (by decide +kernel) rfl trivial ?_
    refine sy_callV mX7_lengthOf 32 [.int l1] [.int l2] kX7_lengthOf jX11_322 (by decide +kernel) rfl rfl (Nat.le_of_ble_eq_true rfl) (Nat.le_of_ble_eq_true rfl) (by decide) rfl ?_
    refine w_li_lengthOf (σ := σ) (i := l1) (b1 c1) ?_
    show sy_E shX mX11_get (24, [some (.ref 6), some (.int l1), some (.int l2)], [.int (σ.1 38 l1.toNatClampNeg), .int l2], σ) _
    by_cases c2 : l2 < (σ.1 38 l1.toNatClampNeg)
    · refine sy_bk [(.if_icmp .lt 7, 1, 31, 0, 0)] (31, [some (.ref 6), some (.int l1), some (.int l2)], [], σ) [sy_cc .lt l2 (σ.1 38 l1.toNatClampNeg)] (by decide +kernel) rfl ⟨c2, trivial⟩ ?_
      refine sy_bk [(.aload_n 0, 0, 0, 0, 0), (.getfield 45, 11, 5, 0, 0), (.iload_n 1, 0, 0, 0, 0)] (36, [some (.ref 6), some (.int l1), some (.int l2)], [.int l1, .ref 32], σ) [] (by decide +kernel) rfl trivial ?_
      refine sy_callV mX7_rowAt 32 [.int l1] [] kX7_rowAt jX11_220 (by decide +kernel) rfl rfl (Nat.le_of_ble_eq_true rfl) (Nat.le_of_ble_eq_true rfl) (by decide) rfl ?_
      refine w_li_rowAt (σ := σ) (i := l1) (b2 c1 c2) ?_
      show sy_E shX mX11_get (39, [some (.ref 6), some (.int l1), some (.int l2)], [.ref (sy_rf shX 33 l1.toNatClampNeg)], σ) _
      refine sy_bk [(.iload_n 2, 0, 0, 0, 0), (.iaload, 0, 0, 0, 0), (.i2l, 0, 0, 0, 0)] (42, [some (.ref 6), some (.int l1), some (.int l2)], [.long ((σ.1 (sy_rf shX 33 l1.toNatClampNeg) l2.toNatClampNeg).toInt64)], σ) [sy_okA shX 0 (sy_rf shX 33 l1.toNatClampNeg) l2] (by decide +kernel) rfl ⟨⟨40, _, hk0, (b3 c1 c2)⟩, trivial⟩ ?_
      exact sy_retl rfl (by decide +kernel) (k2 c1 c2)
    · refine sy_bk [(.if_icmp .lt 7, 0, 31, 0, 0)] (27, [some (.ref 6), some (.int l1), some (.int l2)], [], σ) [¬ sy_cc .lt l2 (σ.1 38 l1.toNatClampNeg)] (by decide +kernel) rfl ⟨c2, trivial⟩ ?_
      refine sy_bk [(.ldc2_w 337, 0, 0, 0, (-9223372036854775808))] (30, [some (.ref 6), some (.int l1), some (.int l2)], [.long (-9223372036854775808)], σ) [] (by decide +kernel) rfl trivial ?_
      exact sy_retl rfl (by decide +kernel) (k3 c1 c2)

set_option maxRecDepth 20000 in
theorem w_X_undo_0 {Q : Option Value → sy_S → Prop} {σ : sy_S}    (k1 : (σ.1 8 1) ≤ 0 → Q (some (.int (-3))) σ) (k2 : ¬ ((σ.1 8 1) ≤ 0) → sy_E shX mX0_back (0, sy_ent [.ref 8, .ref 7] 2, [], σ) (fun r9 σ9 => sy_E shX mX11_undo (21, [none], r9.toList ++ [], σ9) Q)) : sy_E shX mX11_undo (0, sy_ent [.ref 6] 1, [], σ) Q := by
  show sy_E shX mX11_undo (0, [some (.ref 6)], [], σ) _
  refine sy_bk [(.aload_n 0, 0, 0, 0, 0), (.getfield 27, 11, 2, 0, 0)] (4, [some (.ref 6)], [.ref 8], σ) [] (by decide +kernel) rfl trivial ?_
  refine sy_callV mX0_undoable 8 [] [] kX0_undoable jX11_339 (by decide +kernel) rfl rfl (Nat.le_of_ble_eq_true rfl) (Nat.le_of_ble_eq_true rfl) (by decide) rfl ?_
  refine w_x_undoable (σ := σ) ?_
  show sy_E shX mX11_undo (7, [some (.ref 6)], [.int (σ.1 8 1)], σ) _
  by_cases c1 : (σ.1 8 1) ≤ 0
  · refine sy_bk [(.ifCond .le 17, 1, 24, 0, 0)] (24, [some (.ref 6)], [], σ) [sy_cc .le (σ.1 8 1) 0] (by decide +kernel) rfl ⟨c1, trivial⟩ ?_
    refine sy_bk [(.bipush (-3), 0, 0, (-3), 0)] (26, [some (.ref 6)], [.int (-3)], σ) [] (by decide +kernel) rfl trivial ?_
    exact sy_reti rfl (by decide +kernel) (k1 c1)
  · refine sy_bk [(.ifCond .le 17, 0, 24, 0, 0)] (10, [some (.ref 6)], [], σ) [¬ sy_cc .le (σ.1 8 1) 0] (by decide +kernel) rfl ⟨c1, trivial⟩ ?_
    refine sy_bk [(.aload_n 0, 0, 0, 0, 0), (.getfield 27, 11, 2, 0, 0), (.aload_n 0, 0, 0, 0, 0), (.getfield 20, 11, 1, 0, 0)] (18, [some (.ref 6)], [.ref 7, .ref 8], σ) [] (by decide +kernel) rfl trivial ?_
    refine sy_drop [none] trivial ?_
    refine sy_callV mX0_back 8 [.ref 7] [] kX0_back jX11_342 (by decide +kernel) rfl rfl (Nat.le_of_ble_eq_true rfl) (Nat.le_of_ble_eq_true rfl) (by decide) rfl ?_
    exact k2 c1

set_option maxRecDepth 20000 in
theorem w_X_undo_21 {Q : Option Value → sy_S → Prop} {σ : sy_S} {v : Int32}   (k1 : Q (some (.int v)) σ) : sy_E shX mX11_undo (21, [none], [.int v], σ) Q := by
  refine sy_bk [(.goto 5, 0, 26, 0, 0)] (26, [none], [.int v], σ) [] (by decide +kernel) rfl trivial ?_
  exact sy_reti rfl (by decide +kernel) (k1)

set_option maxRecDepth 20000 in
theorem w_X_redo_0 {Q : Option Value → sy_S → Prop} {σ : sy_S}    (k1 : ((σ.1 8 2) - (σ.1 8 1)) ≤ 0 → Q (some (.int (-3))) σ) (k2 : ¬ (((σ.1 8 2) - (σ.1 8 1)) ≤ 0) → sy_E shX mX0_forth (0, sy_ent [.ref 8, .ref 7] 2, [], σ) (fun r9 σ9 => sy_E shX mX11_redo (21, [none], r9.toList ++ [], σ9) Q)) : sy_E shX mX11_redo (0, sy_ent [.ref 6] 1, [], σ) Q := by
  show sy_E shX mX11_redo (0, [some (.ref 6)], [], σ) _
  refine sy_bk [(.aload_n 0, 0, 0, 0, 0), (.getfield 27, 11, 2, 0, 0)] (4, [some (.ref 6)], [.ref 8], σ) [] (by decide +kernel) rfl trivial ?_
  refine sy_callV mX0_redoable 8 [] [] kX0_redoable jX11_345 (by decide +kernel) rfl rfl (Nat.le_of_ble_eq_true rfl) (Nat.le_of_ble_eq_true rfl) (by decide) rfl ?_
  refine w_x_redoable (σ := σ) ?_
  show sy_E shX mX11_redo (7, [some (.ref 6)], [.int ((σ.1 8 2) - (σ.1 8 1))], σ) _
  by_cases c1 : ((σ.1 8 2) - (σ.1 8 1)) ≤ 0
  · refine sy_bk [(.ifCond .le 17, 1, 24, 0, 0)] (24, [some (.ref 6)], [], σ) [sy_cc .le ((σ.1 8 2) - (σ.1 8 1)) 0] (by decide +kernel) rfl ⟨c1, trivial⟩ ?_
    refine sy_bk [(.bipush (-3), 0, 0, (-3), 0)] (26, [some (.ref 6)], [.int (-3)], σ) [] (by decide +kernel) rfl trivial ?_
    exact sy_reti rfl (by decide +kernel) (k1 c1)
  · refine sy_bk [(.ifCond .le 17, 0, 24, 0, 0)] (10, [some (.ref 6)], [], σ) [¬ sy_cc .le ((σ.1 8 2) - (σ.1 8 1)) 0] (by decide +kernel) rfl ⟨c1, trivial⟩ ?_
    refine sy_bk [(.aload_n 0, 0, 0, 0, 0), (.getfield 27, 11, 2, 0, 0), (.aload_n 0, 0, 0, 0, 0), (.getfield 20, 11, 1, 0, 0)] (18, [some (.ref 6)], [.ref 7, .ref 8], σ) [] (by decide +kernel) rfl trivial ?_
    refine sy_drop [none] trivial ?_
    refine sy_callV mX0_forth 8 [.ref 7] [] kX0_forth jX11_348 (by decide +kernel) rfl rfl (Nat.le_of_ble_eq_true rfl) (Nat.le_of_ble_eq_true rfl) (by decide) rfl ?_
    exact k2 c1

set_option maxRecDepth 20000 in
theorem w_X_redo_21 {Q : Option Value → sy_S → Prop} {σ : sy_S} {v : Int32}   (k1 : Q (some (.int v)) σ) : sy_E shX mX11_redo (21, [none], [.int v], σ) Q := by
  refine sy_bk [(.goto 5, 0, 26, 0, 0)] (26, [none], [.int v], σ) [] (by decide +kernel) rfl trivial ?_
  exact sy_reti rfl (by decide +kernel) (k1)

set_option maxRecDepth 20000 in
theorem w_X_count_0 {Q : Option Value → sy_S → Prop} {σ : sy_S} {w : Int32}   (k1 : w = 0 → Q (some (.int ((σ.1 0 5) * (σ.1 0 6)))) σ) (k2 : ¬ w = 0 → w = 1 → Q (some (.int (σ.1 0 6))) σ) (k3 : ¬ w = 0 → ¬ w = 1 → w = 2 → Q (some (.int (σ.1 0 7))) σ) (k4 : ¬ w = 0 → ¬ w = 1 → ¬ w = 2 → w = 3 → sy_E shX mX3_grainsOf (0, sy_ent [.ref 0, .ref 7] 4, [], σ) (fun r9 σ9 => sy_E shX mX11_count (87, [none, none], r9.toList ++ [], σ9) Q)) (k5 : ¬ w = 0 → ¬ w = 1 → ¬ w = 2 → ¬ w = 3 → w = 4 → sy_E shX mX7_heldCount (0, sy_ent [.ref 23] 3, [], σ) (fun r9 σ9 => sy_E shX mX11_count (95, [none, none], r9.toList ++ [], σ9) Q)) (k6 : ¬ w = 0 → ¬ w = 1 → ¬ w = 2 → ¬ w = 3 → ¬ w = 4 → w = 5 → Q (some (.int (σ.1 19 3))) σ) (k7 : ¬ w = 0 → ¬ w = 1 → ¬ w = 2 → ¬ w = 3 → ¬ w = 4 → ¬ w = 5 → w = 6 → Q (some (.int (σ.1 19 4))) σ) (k8 : ¬ w = 0 → ¬ w = 1 → ¬ w = 2 → ¬ w = 3 → ¬ w = 4 → ¬ w = 5 → ¬ w = 6 → w = 7 → Q (some (.int (σ.1 8 1))) σ) (k9 : ¬ w = 0 → ¬ w = 1 → ¬ w = 2 → ¬ w = 3 → ¬ w = 4 → ¬ w = 5 → ¬ w = 6 → ¬ w = 7 → w = 8 → Q (some (.int ((σ.1 8 2) - (σ.1 8 1)))) σ) (k10 : ¬ w = 0 → ¬ w = 1 → ¬ w = 2 → ¬ w = 3 → ¬ w = 4 → ¬ w = 5 → ¬ w = 6 → ¬ w = 7 → ¬ w = 8 → Q (some (.int (-2))) σ) : sy_E shX mX11_count (0, sy_ent [.ref 6, .int w] 2, [], σ) Q := by
  show sy_E shX mX11_count (0, [some (.ref 6), some (.int w)], [], σ) _
  refine sy_bk [(.iload_n 1, 0, 0, 0, 0)] (1, [some (.ref 6), some (.int w)], [.int w], σ) [] (by decide +kernel) rfl trivial ?_
  by_cases c1 : w = 0
  · refine sy_bk [(.tableswitch 127 0 8 #[51, 59, 67, 75, 87, 95, 103, 111, 119], 1, 52, 0, 0)] (52, [some (.ref 6), some (.int w)], [], σ) [w = 0] (by decide +kernel) rfl ⟨c1, trivial⟩ ?_
    refine sy_bk [(.aload_n 0, 0, 0, 0, 0), (.getfield 16, 11, 0, 0, 0)] (56, [some (.ref 6), some (.int w)], [.ref 0], σ) [] (by decide +kernel) rfl trivial ?_
    refine sy_callV mX3_cellCount 0 [] [] kX3_cellCount jX11_107 (by decide +kernel) rfl rfl (Nat.le_of_ble_eq_true rfl) (Nat.le_of_ble_eq_true rfl) (by decide) rfl ?_
    refine w_x_cellCount (σ := σ) ?_
    show sy_E shX mX11_count (59, [some (.ref 6), some (.int w)], [.int ((σ.1 0 5) * (σ.1 0 6))], σ) _
    exact sy_reti rfl (by decide +kernel) (k1 c1)
  by_cases c2 : w = 1
  · refine sy_bk [(.tableswitch 127 0 8 #[51, 59, 67, 75, 87, 95, 103, 111, 119], 1, 60, 1, 0)] (60, [some (.ref 6), some (.int w)], [], σ) [w = 1] (by decide +kernel) rfl ⟨c2, trivial⟩ ?_
    refine sy_bk [(.aload_n 0, 0, 0, 0, 0), (.getfield 16, 11, 0, 0, 0)] (64, [some (.ref 6), some (.int w)], [.ref 0], σ) [] (by decide +kernel) rfl trivial ?_
    refine sy_callV mX3_columnCount 0 [] [] kX3_columnCount jX11_351 (by decide +kernel) rfl rfl (Nat.le_of_ble_eq_true rfl) (Nat.le_of_ble_eq_true rfl) (by decide) rfl ?_
    refine w_x_columnCount (σ := σ) ?_
    show sy_E shX mX11_count (67, [some (.ref 6), some (.int w)], [.int (σ.1 0 6)], σ) _
    exact sy_reti rfl (by decide +kernel) (k2 c1 c2)
  by_cases c3 : w = 2
  · refine sy_bk [(.tableswitch 127 0 8 #[51, 59, 67, 75, 87, 95, 103, 111, 119], 1, 68, 2, 0)] (68, [some (.ref 6), some (.int w)], [], σ) [w = 2] (by decide +kernel) rfl ⟨c3, trivial⟩ ?_
    refine sy_bk [(.aload_n 0, 0, 0, 0, 0), (.getfield 16, 11, 0, 0, 0)] (72, [some (.ref 6), some (.int w)], [.ref 0], σ) [] (by decide +kernel) rfl trivial ?_
    refine sy_callV mX3_placeCount 0 [] [] kX3_placeCount jX11_275 (by decide +kernel) rfl rfl (Nat.le_of_ble_eq_true rfl) (Nat.le_of_ble_eq_true rfl) (by decide) rfl ?_
    refine w_x_placeCount (σ := σ) ?_
    show sy_E shX mX11_count (75, [some (.ref 6), some (.int w)], [.int (σ.1 0 7)], σ) _
    exact sy_reti rfl (by decide +kernel) (k3 c1 c2 c3)
  by_cases c4 : w = 3
  · refine sy_bk [(.tableswitch 127 0 8 #[51, 59, 67, 75, 87, 95, 103, 111, 119], 1, 76, 3, 0)] (76, [some (.ref 6), some (.int w)], [], σ) [w = 3] (by decide +kernel) rfl ⟨c4, trivial⟩ ?_
    refine sy_bk [(.aload_n 0, 0, 0, 0, 0), (.getfield 16, 11, 0, 0, 0), (.aload_n 0, 0, 0, 0, 0), (.getfield 20, 11, 1, 0, 0)] (84, [some (.ref 6), some (.int w)], [.ref 7, .ref 0], σ) [] (by decide +kernel) rfl trivial ?_
    refine sy_drop [none, none] trivial ?_
    refine sy_callV mX3_grainsOf 0 [.ref 7] [] kX3_grainsOf jX11_230 (by decide +kernel) rfl rfl (Nat.le_of_ble_eq_true rfl) (Nat.le_of_ble_eq_true rfl) (by decide) rfl ?_
    exact k4 c1 c2 c3 c4
  by_cases c5 : w = 4
  · refine sy_bk [(.tableswitch 127 0 8 #[51, 59, 67, 75, 87, 95, 103, 111, 119], 1, 88, 4, 0)] (88, [some (.ref 6), some (.int w)], [], σ) [w = 4] (by decide +kernel) rfl ⟨c5, trivial⟩ ?_
    refine sy_bk [(.aload_n 0, 0, 0, 0, 0), (.getfield 41, 11, 4, 0, 0)] (92, [some (.ref 6), some (.int w)], [.ref 23], σ) [] (by decide +kernel) rfl trivial ?_
    refine sy_drop [none, none] trivial ?_
    refine sy_callV mX7_heldCount 23 [] [] kX7_heldCount jX11_352 (by decide +kernel) rfl rfl (Nat.le_of_ble_eq_true rfl) (Nat.le_of_ble_eq_true rfl) (by decide) rfl ?_
    exact k5 c1 c2 c3 c4 c5
  by_cases c6 : w = 5
  · refine sy_bk [(.tableswitch 127 0 8 #[51, 59, 67, 75, 87, 95, 103, 111, 119], 1, 96, 5, 0)] (96, [some (.ref 6), some (.int w)], [], σ) [w = 5] (by decide +kernel) rfl ⟨c6, trivial⟩ ?_
    refine sy_bk [(.aload_n 0, 0, 0, 0, 0), (.getfield 34, 11, 3, 0, 0)] (100, [some (.ref 6), some (.int w)], [.ref 19], σ) [] (by decide +kernel) rfl trivial ?_
    refine sy_callV mX10_length 19 [] [] kX10_length jX11_355 (by decide +kernel) rfl rfl (Nat.le_of_ble_eq_true rfl) (Nat.le_of_ble_eq_true rfl) (by decide) rfl ?_
    refine w_x_tlength (σ := σ) ?_
    show sy_E shX mX11_count (103, [some (.ref 6), some (.int w)], [.int (σ.1 19 3)], σ) _
    exact sy_reti rfl (by decide +kernel) (k6 c1 c2 c3 c4 c5 c6)
  by_cases c7 : w = 6
  · refine sy_bk [(.tableswitch 127 0 8 #[51, 59, 67, 75, 87, 95, 103, 111, 119], 1, 104, 6, 0)] (104, [some (.ref 6), some (.int w)], [], σ) [w = 6] (by decide +kernel) rfl ⟨c7, trivial⟩ ?_
    refine sy_bk [(.aload_n 0, 0, 0, 0, 0), (.getfield 34, 11, 3, 0, 0)] (108, [some (.ref 6), some (.int w)], [.ref 19], σ) [] (by decide +kernel) rfl trivial ?_
    refine sy_callV mX10_codeCount 19 [] [] kX10_codeCount jX11_358 (by decide +kernel) rfl rfl (Nat.le_of_ble_eq_true rfl) (Nat.le_of_ble_eq_true rfl) (by decide) rfl ?_
    refine w_x_tcodeCount (σ := σ) ?_
    show sy_E shX mX11_count (111, [some (.ref 6), some (.int w)], [.int (σ.1 19 4)], σ) _
    exact sy_reti rfl (by decide +kernel) (k7 c1 c2 c3 c4 c5 c6 c7)
  by_cases c8 : w = 7
  · refine sy_bk [(.tableswitch 127 0 8 #[51, 59, 67, 75, 87, 95, 103, 111, 119], 1, 112, 7, 0)] (112, [some (.ref 6), some (.int w)], [], σ) [w = 7] (by decide +kernel) rfl ⟨c8, trivial⟩ ?_
    refine sy_bk [(.aload_n 0, 0, 0, 0, 0), (.getfield 27, 11, 2, 0, 0)] (116, [some (.ref 6), some (.int w)], [.ref 8], σ) [] (by decide +kernel) rfl trivial ?_
    refine sy_callV mX0_undoable 8 [] [] kX0_undoable jX11_339 (by decide +kernel) rfl rfl (Nat.le_of_ble_eq_true rfl) (Nat.le_of_ble_eq_true rfl) (by decide) rfl ?_
    refine w_x_undoable (σ := σ) ?_
    show sy_E shX mX11_count (119, [some (.ref 6), some (.int w)], [.int (σ.1 8 1)], σ) _
    exact sy_reti rfl (by decide +kernel) (k8 c1 c2 c3 c4 c5 c6 c7 c8)
  by_cases c9 : w = 8
  · refine sy_bk [(.tableswitch 127 0 8 #[51, 59, 67, 75, 87, 95, 103, 111, 119], 1, 120, 8, 0)] (120, [some (.ref 6), some (.int w)], [], σ) [w = 8] (by decide +kernel) rfl ⟨c9, trivial⟩ ?_
    refine sy_bk [(.aload_n 0, 0, 0, 0, 0), (.getfield 27, 11, 2, 0, 0)] (124, [some (.ref 6), some (.int w)], [.ref 8], σ) [] (by decide +kernel) rfl trivial ?_
    refine sy_callV mX0_redoable 8 [] [] kX0_redoable jX11_345 (by decide +kernel) rfl rfl (Nat.le_of_ble_eq_true rfl) (Nat.le_of_ble_eq_true rfl) (by decide) rfl ?_
    refine w_x_redoable (σ := σ) ?_
    show sy_E shX mX11_count (127, [some (.ref 6), some (.int w)], [.int ((σ.1 8 2) - (σ.1 8 1))], σ) _
    exact sy_reti rfl (by decide +kernel) (k9 c1 c2 c3 c4 c5 c6 c7 c8 c9)
  refine sy_bk [(.tableswitch 127 0 8 #[51, 59, 67, 75, 87, 95, 103, 111, 119], 0, 128, 0, 0)] (128, [some (.ref 6), some (.int w)], [], σ) [w.toInt < 0 ∨ 8 < w.toInt] (by decide +kernel) rfl ⟨sy_sw9 c1 c2 c3 c4 c5 c6 c7 c8 c9, trivial⟩ ?_
  refine sy_bk [(.bipush (-2), 0, 0, (-2), 0)] (130, [some (.ref 6), some (.int w)], [.int (-2)], σ) [] (by decide +kernel) rfl trivial ?_
  exact sy_reti rfl (by decide +kernel) (k10 c1 c2 c3 c4 c5 c6 c7 c8 c9)

set_option maxRecDepth 20000 in
theorem w_X_count_87 {Q : Option Value → sy_S → Prop} {σ : sy_S} {v : Int32}   (k1 : Q (some (.int v)) σ) : sy_E shX mX11_count (87, [none, none], [.int v], σ) Q := by
  exact sy_reti rfl (by decide +kernel) (k1)

set_option maxRecDepth 20000 in
theorem w_X_count_95 {Q : Option Value → sy_S → Prop} {σ : sy_S} {v : Int32}   (k1 : Q (some (.int v)) σ) : sy_E shX mX11_count (95, [none, none], [.int v], σ) Q := by
  exact sy_reti rfl (by decide +kernel) (k1)
