/-! walks of the model's basics (by program: wip/whole/gen/p30.py) -/
set_option maxRecDepth 20000 in
theorem w_m_in {Q : Option Value → sy_S → Prop} {σ : sy_S} {v : Int64} {lo : Int64} {hi : Int64}   (k1 : v < lo → Q (some (.int 0)) σ) (k2 : ¬ (v < lo) → hi < v → Q (some (.int 0)) σ) (k3 : ¬ (v < lo) → ¬ (hi < v) → Q (some (.int 1)) σ) : sy_E shM mX12_in (0, sy_ent [.long v, .long lo, .long hi] 6, [], σ) Q := by
  show sy_E shM mX12_in (0, [some (.long v), none, some (.long lo), none, some (.long hi), none], [], σ) _
  refine sy_bk [(.lload_n 0, 0, 0, 0, 0), (.lload_n 2, 0, 0, 0, 0), (.lcmp, 0, 0, 0, 0)] (3, [some (.long v), none, some (.long lo), none, some (.long hi), none], [.int (lg_cmp v lo)], σ) [] (by decide +kernel) rfl trivial ?_
  by_cases c1 : v < lo
  · refine sy_bk [(.ifCond .lt 14, 1, 17, 0, 0)] (17, [some (.long v), none, some (.long lo), none, some (.long hi), none], [], σ) [sy_cc .lt (lg_cmp v lo) 0] (by decide +kernel) rfl ⟨(sy_lc_lt.mpr c1), trivial⟩ ?_
    refine sy_bk [(.iconst 0, 0, 0, 0, 0)] (18, [some (.long v), none, some (.long lo), none, some (.long hi), none], [.int 0], σ) [] (by decide +kernel) rfl trivial ?_
    exact sy_retz rfl (by decide +kernel) (Or.inl rfl) (k1 c1)
  · refine sy_bk [(.ifCond .lt 14, 0, 17, 0, 0)] (6, [some (.long v), none, some (.long lo), none, some (.long hi), none], [], σ) [¬ sy_cc .lt (lg_cmp v lo) 0] (by decide +kernel) rfl ⟨(fun q => c1 (sy_lc_lt.mp q)), trivial⟩ ?_
    refine sy_bk [(.lload_n 0, 0, 0, 0, 0), (.lload 4, 0, 0, 0, 0), (.lcmp, 0, 0, 0, 0)] (10, [some (.long v), none, some (.long lo), none, some (.long hi), none], [.int (lg_cmp v hi)], σ) [] (by decide +kernel) rfl trivial ?_
    by_cases c2 : hi < v
    · refine sy_bk [(.ifCond .gt 7, 1, 17, 0, 0)] (17, [some (.long v), none, some (.long lo), none, some (.long hi), none], [], σ) [sy_cc .gt (lg_cmp v hi) 0] (by decide +kernel) rfl ⟨(sy_lc_gt.mpr c2), trivial⟩ ?_
      refine sy_bk [(.iconst 0, 0, 0, 0, 0)] (18, [some (.long v), none, some (.long lo), none, some (.long hi), none], [.int 0], σ) [] (by decide +kernel) rfl trivial ?_
      exact sy_retz rfl (by decide +kernel) (Or.inl rfl) (k2 c1 c2)
    · refine sy_bk [(.ifCond .gt 7, 0, 17, 0, 0)] (13, [some (.long v), none, some (.long lo), none, some (.long hi), none], [], σ) [¬ sy_cc .gt (lg_cmp v hi) 0] (by decide +kernel) rfl ⟨(fun q => c2 (sy_lc_gt.mp q)), trivial⟩ ?_
      refine sy_bk [(.iconst 1, 0, 0, 1, 0), (.goto 4, 0, 18, 0, 0)] (18, [some (.long v), none, some (.long lo), none, some (.long hi), none], [.int 1], σ) [] (by decide +kernel) rfl trivial ?_
      exact sy_retz rfl (by decide +kernel) (Or.inr rfl) (k3 c1 c2)

theorem e_m_in {Q : Option Value → sy_S → Prop} {σ : sy_S} {v lo hi : Int64} (k1 : lo ≤ v ∧ v ≤ hi → Q (some (.int 1)) σ) (k0 : ¬ (lo ≤ v ∧ v ≤ hi) → Q (some (.int 0)) σ) : sy_E shM mX12_in (0, sy_ent [.long v, .long lo, .long hi] 6, [], σ) Q := by
  refine w_m_in (fun a => k0 (fun q => ?_)) (fun a b => k0 (fun q => ?_)) (fun a b => k1 ⟨?_, ?_⟩)
  · rw [sy_l_lt] at a; have := sy_l_le.mp q.1; omega
  · rw [sy_l_lt] at b; have := sy_l_le.mp q.2; omega
  · rw [sy_l_lt] at a; rw [sy_l_le]; omega
  · rw [sy_l_lt] at b; rw [sy_l_le]; omega

set_option maxRecDepth 20000 in
theorem w_m_cells {Q : Option Value → sy_S → Prop} {σ : sy_S}    (k1 : Q (some (.int ((σ.1 0 0) * (σ.1 0 1)))) σ) : sy_E shM mX12_cells (0, sy_ent [.ref 0] 1, [], σ) Q := by
  show sy_E shM mX12_cells (0, [some (.ref 0)], [], σ) _
  refine sy_bk [(.aload_n 0, 0, 0, 0, 0), (.getfield 9, 12, 0, 0, 0), (.aload_n 0, 0, 0, 0, 0), (.getfield 15, 12, 1, 0, 0), (.imul, 0, 0, 0, 0)] (9, [some (.ref 0)], [.int ((σ.1 0 0) * (σ.1 0 1))], σ) [] (by decide +kernel) rfl trivial ?_
  exact sy_reti rfl (by decide +kernel) (k1)

set_option maxRecDepth 20000 in
theorem w_m_isPlace {Q : Option Value → sy_S → Prop} {σ : sy_S} {c : Int32}  (b1 : (0 ≤ c.toInt64 ∧ c.toInt64 ≤ ((((σ.1 0 0) * (σ.1 0 1)) - 1).toInt64)) → vp_in c 16) (k1 : (0 ≤ c.toInt64 ∧ c.toInt64 ≤ ((((σ.1 0 0) * (σ.1 0 1)) - 1).toInt64)) → ¬ (σ.1 1 c.toNatClampNeg) = 0 → Q (some (.int 0)) σ) (k2 : (0 ≤ c.toInt64 ∧ c.toInt64 ≤ ((((σ.1 0 0) * (σ.1 0 1)) - 1).toInt64)) → ¬ (¬ (σ.1 1 c.toNatClampNeg) = 0) → Q (some (.int 1)) σ) (k3 : (¬ (0 ≤ c.toInt64 ∧ c.toInt64 ≤ ((((σ.1 0 0) * (σ.1 0 1)) - 1).toInt64))) → Q (some (.int 0)) σ) : sy_E shM mX12_isPlace (0, sy_ent [.ref 0, .int c] 2, [], σ) Q := by
  show sy_E shM mX12_isPlace (0, [some (.ref 0), some (.int c)], [], σ) _
  refine sy_bk [(.iload_n 1, 0, 0, 0, 0), (.i2l, 0, 0, 0, 0), (.lconst 0, 0, 0, 0, 0), (.aload_n 0, 0, 0, 0, 0)] (4, [some (.ref 0), some (.int c)], [.ref 0, .long 0, .long c.toInt64], σ) [] (by decide +kernel) rfl trivial ?_
  refine sy_callV mX12_cells 0 [] [.long 0, .long c.toInt64] kX12_cells jX12_105 (by decide +kernel) rfl rfl (Nat.le_of_ble_eq_true rfl) (Nat.le_of_ble_eq_true rfl) (by decide) rfl ?_
  refine w_m_cells (σ := σ) ?_
  show sy_E shM mX12_isPlace (7, [some (.ref 0), some (.int c)], [.int ((σ.1 0 0) * (σ.1 0 1)), .long 0, .long c.toInt64], σ) _
  refine sy_bk [(.iconst 1, 0, 0, 1, 0), (.isub, 0, 0, 0, 0), (.i2l, 0, 0, 0, 0)] (10, [some (.ref 0), some (.int c)], [.long ((((σ.1 0 0) * (σ.1 0 1)) - 1).toInt64), .long 0, .long c.toInt64], σ) [] (by decide +kernel) rfl trivial ?_
  refine sy_callS mX12_in [.long c.toInt64, .long 0, .long ((((σ.1 0 0) * (σ.1 0 1)) - 1).toInt64)] [] kX12_in jX12_109 (by decide +kernel) rfl rfl (Nat.le_of_ble_eq_true rfl) (Nat.le_of_ble_eq_true rfl) (by decide) ?_
  refine e_m_in (σ := σ) (v := c.toInt64) (lo := 0) (hi := ((((σ.1 0 0) * (σ.1 0 1)) - 1).toInt64)) ?_ ?_
  · intro c1
    show sy_E shM mX12_isPlace (13, [some (.ref 0), some (.int c)], [.int 1], σ) _
    refine sy_bk [(.ifCond .eq 16, 0, 29, 0, 0), (.aload_n 0, 0, 0, 0, 0), (.getfield 18, 12, 2, 0, 0), (.iload_n 1, 0, 0, 0, 0), (.baload, 0, 0, 0, 0)] (22, [some (.ref 0), some (.int c)], [.int (σ.1 1 c.toNatClampNeg)], σ) [¬ sy_cc .eq 1 0, sy_okA shM 1 1 c] (by decide +kernel) rfl ⟨(by decide : ¬ ((1 : Int32) = 0)), ⟨16, _, rfl, (b1 c1)⟩, trivial⟩ ?_
    by_cases c2 : ¬ (σ.1 1 c.toNatClampNeg) = 0
    · refine sy_bk [(.ifCond .ne 7, 1, 29, 0, 0)] (29, [some (.ref 0), some (.int c)], [], σ) [sy_cc .ne (σ.1 1 c.toNatClampNeg) 0] (by decide +kernel) rfl ⟨c2, trivial⟩ ?_
      refine sy_bk [(.iconst 0, 0, 0, 0, 0)] (30, [some (.ref 0), some (.int c)], [.int 0], σ) [] (by decide +kernel) rfl trivial ?_
      exact sy_retz rfl (by decide +kernel) (Or.inl rfl) (k1 c1 c2)
    · refine sy_bk [(.ifCond .ne 7, 0, 29, 0, 0)] (25, [some (.ref 0), some (.int c)], [], σ) [¬ sy_cc .ne (σ.1 1 c.toNatClampNeg) 0] (by decide +kernel) rfl ⟨c2, trivial⟩ ?_
      refine sy_bk [(.iconst 1, 0, 0, 1, 0), (.goto 4, 0, 30, 0, 0)] (30, [some (.ref 0), some (.int c)], [.int 1], σ) [] (by decide +kernel) rfl trivial ?_
      exact sy_retz rfl (by decide +kernel) (Or.inr rfl) (k2 c1 c2)
  · intro c3
    show sy_E shM mX12_isPlace (13, [some (.ref 0), some (.int c)], [.int 0], σ) _
    refine sy_bk [(.ifCond .eq 16, 1, 29, 0, 0), (.iconst 0, 0, 0, 0, 0)] (30, [some (.ref 0), some (.int c)], [.int 0], σ) [sy_cc .eq 0 0] (by decide +kernel) rfl ⟨(by decide : ((0 : Int32) = 0)), trivial⟩ ?_
    exact sy_retz rfl (by decide +kernel) (Or.inl rfl) (k3 c3)

set_option maxRecDepth 20000 in
theorem w_m_link {Q : Option Value → sy_S → Prop} {σ : sy_S} {c : Int32} {row : Int32} {col : Int32}  (b1 : (0 ≤ row.toInt64 ∧ row.toInt64 ≤ (((σ.1 0 0) - 1).toInt64)) → (0 ≤ col.toInt64 ∧ col.toInt64 ≤ (((σ.1 0 1) - 1).toInt64)) → vp_in (((σ.1 0 1) * row) + col) 16) (b2 : (0 ≤ row.toInt64 ∧ row.toInt64 ≤ (((σ.1 0 0) - 1).toInt64)) → (0 ≤ col.toInt64 ∧ col.toInt64 ≤ (((σ.1 0 1) - 1).toInt64)) → ¬ (¬ (σ.1 1 ((((σ.1 0 1) * row) + col).toNatClampNeg)) = 0) → vp_in c 16) (b3 : (0 ≤ row.toInt64 ∧ row.toInt64 ≤ (((σ.1 0 0) - 1).toInt64)) → (0 ≤ col.toInt64 ∧ col.toInt64 ≤ (((σ.1 0 1) - 1).toInt64)) → ¬ (¬ (σ.1 1 ((((σ.1 0 1) * row) + col).toNatClampNeg)) = 0) → vp_in ((4 * c) + (σ.1 4 c.toNatClampNeg)) 64) (k1 : (0 ≤ row.toInt64 ∧ row.toInt64 ≤ (((σ.1 0 0) - 1).toInt64)) → (0 ≤ col.toInt64 ∧ col.toInt64 ≤ (((σ.1 0 1) - 1).toInt64)) → ¬ (σ.1 1 ((((σ.1 0 1) * row) + col).toNatClampNeg)) = 0 → Q none σ) (k2 : (0 ≤ row.toInt64 ∧ row.toInt64 ≤ (((σ.1 0 0) - 1).toInt64)) → (0 ≤ col.toInt64 ∧ col.toInt64 ≤ (((σ.1 0 1) - 1).toInt64)) → ¬ (¬ (σ.1 1 ((((σ.1 0 1) * row) + col).toNatClampNeg)) = 0) → Q none (sy_up (sy_up σ.1 3 (((4 * c) + (σ.1 4 c.toNatClampNeg)).toNatClampNeg) (((σ.1 0 1) * row) + col)) 4 c.toNatClampNeg ((σ.1 4 c.toNatClampNeg) + 1), σ.2)) (k3 : (0 ≤ row.toInt64 ∧ row.toInt64 ≤ (((σ.1 0 0) - 1).toInt64)) → (¬ (0 ≤ col.toInt64 ∧ col.toInt64 ≤ (((σ.1 0 1) - 1).toInt64))) → Q none σ) (k4 : (¬ (0 ≤ row.toInt64 ∧ row.toInt64 ≤ (((σ.1 0 0) - 1).toInt64))) → Q none σ) : sy_E shM mX12_link (0, sy_ent [.ref 0, .int c, .int row, .int col] 4, [], σ) Q := by
  show sy_E shM mX12_link (0, [some (.ref 0), some (.int c), some (.int row), some (.int col)], [], σ) _
  refine sy_bk [(.iload_n 2, 0, 0, 0, 0), (.i2l, 0, 0, 0, 0), (.lconst 0, 0, 0, 0, 0), (.aload_n 0, 0, 0, 0, 0), (.getfield 9, 12, 0, 0, 0), (.iconst 1, 0, 0, 1, 0), (.isub, 0, 0, 0, 0), (.i2l, 0, 0, 0, 0)] (10, [some (.ref 0), some (.int c), some (.int row), some (.int col)], [.long (((σ.1 0 0) - 1).toInt64), .long 0, .long row.toInt64], σ) [] (by decide +kernel) rfl trivial ?_
  refine sy_callS mX12_in [.long row.toInt64, .long 0, .long (((σ.1 0 0) - 1).toInt64)] [] kX12_in jX12_109 (by decide +kernel) rfl rfl (Nat.le_of_ble_eq_true rfl) (Nat.le_of_ble_eq_true rfl) (by decide) ?_
  refine e_m_in (σ := σ) (v := row.toInt64) (lo := 0) (hi := (((σ.1 0 0) - 1).toInt64)) ?_ ?_
  · intro c1
    show sy_E shM mX12_link (13, [some (.ref 0), some (.int c), some (.int row), some (.int col)], [.int 1], σ) _
    refine sy_bk [(.ifCond .eq 68, 0, 81, 0, 0), (.iload_n 3, 0, 0, 0, 0), (.i2l, 0, 0, 0, 0), (.lconst 0, 0, 0, 0, 0), (.aload_n 0, 0, 0, 0, 0), (.getfield 15, 12, 1, 0, 0), (.iconst 1, 0, 0, 1, 0), (.isub, 0, 0, 0, 0), (.i2l, 0, 0, 0, 0)] (26, [some (.ref 0), some (.int c), some (.int row), some (.int col)], [.long (((σ.1 0 1) - 1).toInt64), .long 0, .long col.toInt64], σ) [¬ sy_cc .eq 1 0] (by decide +kernel) rfl ⟨(by decide : ¬ ((1 : Int32) = 0)), trivial⟩ ?_
    refine sy_callS mX12_in [.long col.toInt64, .long 0, .long (((σ.1 0 1) - 1).toInt64)] [] kX12_in jX12_109 (by decide +kernel) rfl rfl (Nat.le_of_ble_eq_true rfl) (Nat.le_of_ble_eq_true rfl) (by decide) ?_
    refine e_m_in (σ := σ) (v := col.toInt64) (lo := 0) (hi := (((σ.1 0 1) - 1).toInt64)) ?_ ?_
    · intro c2
      show sy_E shM mX12_link (29, [some (.ref 0), some (.int c), some (.int row), some (.int col)], [.int 1], σ) _
      refine sy_bk [(.ifCond .eq 52, 0, 81, 0, 0), (.aload_n 0, 0, 0, 0, 0), (.getfield 18, 12, 2, 0, 0), (.aload_n 0, 0, 0, 0, 0), (.getfield 15, 12, 1, 0, 0), (.iload_n 2, 0, 0, 0, 0), (.imul, 0, 0, 0, 0), (.iload_n 3, 0, 0, 0, 0), (.iadd, 0, 0, 0, 0), (.baload, 0, 0, 0, 0)] (45, [some (.ref 0), some (.int c), some (.int row), some (.int col)], [.int (σ.1 1 ((((σ.1 0 1) * row) + col).toNatClampNeg))], σ) [¬ sy_cc .eq 1 0, sy_okA shM 1 1 (((σ.1 0 1) * row) + col)] (by decide +kernel) rfl ⟨(by decide : ¬ ((1 : Int32) = 0)), ⟨16, _, rfl, (b1 c1 c2)⟩, trivial⟩ ?_
      by_cases c3 : ¬ (σ.1 1 ((((σ.1 0 1) * row) + col).toNatClampNeg)) = 0
      · refine sy_bk [(.ifCond .ne 36, 1, 81, 0, 0)] (81, [some (.ref 0), some (.int c), some (.int row), some (.int col)], [], σ) [sy_cc .ne (σ.1 1 ((((σ.1 0 1) * row) + col).toNatClampNeg)) 0] (by decide +kernel) rfl ⟨c3, trivial⟩ ?_
        exact sy_retv rfl (by decide +kernel) (k1 c1 c2 c3)
      · refine sy_bk [(.ifCond .ne 36, 0, 81, 0, 0)] (48, [some (.ref 0), some (.int c), some (.int row), some (.int col)], [], σ) [¬ sy_cc .ne (σ.1 1 ((((σ.1 0 1) * row) + col).toNatClampNeg)) 0] (by decide +kernel) rfl ⟨c3, trivial⟩ ?_
        refine sy_bk [(.aload_n 0, 0, 0, 0, 0), (.getfield 26, 12, 4, 0, 0), (.iconst 4, 0, 0, 4, 0), (.iload_n 1, 0, 0, 0, 0), (.imul, 0, 0, 0, 0), (.aload_n 0, 0, 0, 0, 0), (.getfield 29, 12, 5, 0, 0), (.iload_n 1, 0, 0, 0, 0), (.iaload, 0, 0, 0, 0), (.iadd, 0, 0, 0, 0), (.aload_n 0, 0, 0, 0, 0), (.getfield 15, 12, 1, 0, 0), (.iload_n 2, 0, 0, 0, 0), (.imul, 0, 0, 0, 0), (.iload_n 3, 0, 0, 0, 0), (.iadd, 0, 0, 0, 0), (.iastore, 0, 0, 0, 0), (.aload_n 0, 0, 0, 0, 0), (.getfield 29, 12, 5, 0, 0), (.iload_n 1, 0, 0, 0, 0), (.dup2, 0, 0, 0, 0), (.iaload, 0, 0, 0, 0), (.iconst 1, 0, 0, 1, 0), (.iadd, 0, 0, 0, 0), (.iastore, 0, 0, 0, 0)] (81, [some (.ref 0), some (.int c), some (.int row), some (.int col)], [], (sy_up (sy_up σ.1 3 (((4 * c) + (σ.1 4 c.toNatClampNeg)).toNatClampNeg) (((σ.1 0 1) * row) + col)) 4 c.toNatClampNeg ((σ.1 4 c.toNatClampNeg) + 1), σ.2)) [sy_okA shM 0 4 c, sy_okA shM 0 3 ((4 * c) + (σ.1 4 c.toNatClampNeg)), sy_okA shM 0 4 c, sy_okA shM 0 4 c] (by decide +kernel) rfl ⟨⟨16, _, rfl, (b2 c1 c2 c3)⟩, ⟨64, _, rfl, (b3 c1 c2 c3)⟩, ⟨16, _, rfl, (b2 c1 c2 c3)⟩, ⟨16, _, rfl, (b2 c1 c2 c3)⟩, trivial⟩ ?_
        exact sy_retv rfl (by decide +kernel) (k2 c1 c2 c3)
    · intro c4
      show sy_E shM mX12_link (29, [some (.ref 0), some (.int c), some (.int row), some (.int col)], [.int 0], σ) _
      refine sy_bk [(.ifCond .eq 52, 1, 81, 0, 0)] (81, [some (.ref 0), some (.int c), some (.int row), some (.int col)], [], σ) [sy_cc .eq 0 0] (by decide +kernel) rfl ⟨(by decide : ((0 : Int32) = 0)), trivial⟩ ?_
      exact sy_retv rfl (by decide +kernel) (k3 c1 c4)
  · intro c5
    show sy_E shM mX12_link (13, [some (.ref 0), some (.int c), some (.int row), some (.int col)], [.int 0], σ) _
    refine sy_bk [(.ifCond .eq 68, 1, 81, 0, 0)] (81, [some (.ref 0), some (.int c), some (.int row), some (.int col)], [], σ) [sy_cc .eq 0 0] (by decide +kernel) rfl ⟨(by decide : ((0 : Int32) = 0)), trivial⟩ ?_
    exact sy_retv rfl (by decide +kernel) (k4 c5)

set_option maxRecDepth 20000 in
theorem w_m_links_0 {Q : Option Value → sy_S → Prop} {σ : sy_S}    (k1 : sy_E shM mX12_links (2, [some (.ref 0), some (.int 0)], [], σ) Q) : sy_E shM mX12_links (0, sy_ent [.ref 0] 2, [], σ) Q := by
  show sy_E shM mX12_links (0, [some (.ref 0), none], [], σ) _
  refine sy_bk [(.iconst 0, 0, 0, 0, 0), (.istore_n 1, 0, 0, 0, 0)] (2, [some (.ref 0), some (.int 0)], [], σ) [] (by decide +kernel) rfl trivial ?_
  exact k1

set_option maxRecDepth 20000 in
theorem w_m_links_2 {Q : Option Value → sy_S → Prop} {σ : sy_S} {c : Int32}  (b1 : ¬ (((σ.1 0 0) * (σ.1 0 1)) ≤ c) → vp_in c 16) (b2 : ¬ (((σ.1 0 0) * (σ.1 0 1)) ≤ c) → ¬ (σ.1 0 1) = 0) (k1 : ((σ.1 0 0) * (σ.1 0 1)) ≤ c → Q none σ) (k2 : ¬ (((σ.1 0 0) * (σ.1 0 1)) ≤ c) → sy_E shM mX12_link (0, sy_ent [.ref 0, .int c, .int ((c / (σ.1 0 1)) - 1), .int (c - c / (σ.1 0 1) * (σ.1 0 1))] 4, [], (sy_up σ.1 4 c.toNatClampNeg 0, σ.2)) (fun r9 σ9 => sy_E shM mX12_links (36, [some (.ref 0), some (.int c)], r9.toList ++ [], σ9) Q)) : sy_E shM mX12_links (2, [some (.ref 0), some (.int c)], [], σ) Q := by
  refine sy_bk [(.iload_n 1, 0, 0, 0, 0), (.aload_n 0, 0, 0, 0, 0)] (4, [some (.ref 0), some (.int c)], [.ref 0, .int c], σ) [] (by decide +kernel) rfl trivial ?_
  refine sy_callV mX12_cells 0 [] [.int c] kX12_cells jX12_105 (by decide +kernel) rfl rfl (Nat.le_of_ble_eq_true rfl) (Nat.le_of_ble_eq_true rfl) (by decide) rfl ?_
  refine w_m_cells (σ := σ) ?_
  show sy_E shM mX12_links (7, [some (.ref 0), some (.int c)], [.int ((σ.1 0 0) * (σ.1 0 1)), .int c], σ) _
  by_cases c1 : ((σ.1 0 0) * (σ.1 0 1)) ≤ c
  · refine sy_bk [(.if_icmp .ge 92, 1, 99, 0, 0)] (99, [some (.ref 0), some (.int c)], [], σ) [sy_cc .ge c ((σ.1 0 0) * (σ.1 0 1))] (by decide +kernel) rfl ⟨c1, trivial⟩ ?_
    exact sy_retv rfl (by decide +kernel) (k1 c1)
  · refine sy_bk [(.if_icmp .ge 92, 0, 99, 0, 0)] (10, [some (.ref 0), some (.int c)], [], σ) [¬ sy_cc .ge c ((σ.1 0 0) * (σ.1 0 1))] (by decide +kernel) rfl ⟨c1, trivial⟩ ?_
    refine sy_bk [(.aload_n 0, 0, 0, 0, 0), (.getfield 29, 12, 5, 0, 0), (.iload_n 1, 0, 0, 0, 0), (.iconst 0, 0, 0, 0, 0), (.iastore, 0, 0, 0, 0), (.aload_n 0, 0, 0, 0, 0), (.iload_n 1, 0, 0, 0, 0), (.iload_n 1, 0, 0, 0, 0), (.aload_n 0, 0, 0, 0, 0), (.getfield 15, 12, 1, 0, 0), (.idiv, 0, 0, 0, 0), (.iconst 1, 0, 0, 1, 0), (.isub, 0, 0, 0, 0), (.iload_n 1, 0, 0, 0, 0), (.aload_n 0, 0, 0, 0, 0), (.getfield 15, 12, 1, 0, 0), (.irem, 0, 0, 0, 0)] (33, [some (.ref 0), some (.int c)], [.int (c - c / (σ.1 0 1) * (σ.1 0 1)), .int ((c / (σ.1 0 1)) - 1), .int c, .ref 0], (sy_up σ.1 4 c.toNatClampNeg 0, σ.2)) [sy_okA shM 0 4 c, ¬ (σ.1 0 1) = 0, ¬ (σ.1 0 1) = 0] (by decide +kernel) rfl ⟨⟨16, _, rfl, (b1 c1)⟩, (b2 c1), (b2 c1), trivial⟩ ?_
    refine sy_callV mX12_link 0 [.int c, .int ((c / (σ.1 0 1)) - 1), .int (c - c / (σ.1 0 1) * (σ.1 0 1))] [] kX12_link jX12_113 (by decide +kernel) rfl rfl (Nat.le_of_ble_eq_true rfl) (Nat.le_of_ble_eq_true rfl) (by decide) rfl ?_
    exact k2 c1

set_option maxRecDepth 20000 in
theorem w_m_links_36 {Q : Option Value → sy_S → Prop} {σ : sy_S} {c : Int32}  (b1 : ¬ (σ.1 0 1) = 0) (k1 : sy_E shM mX12_link (0, sy_ent [.ref 0, .int c, .int (c / (σ.1 0 1)), .int ((c - c / (σ.1 0 1) * (σ.1 0 1)) - 1)] 4, [], σ) (fun r9 σ9 => sy_E shM mX12_links (55, [some (.ref 0), some (.int c)], r9.toList ++ [], σ9) Q)) : sy_E shM mX12_links (36, [some (.ref 0), some (.int c)], [], σ) Q := by
  refine sy_bk [(.aload_n 0, 0, 0, 0, 0), (.iload_n 1, 0, 0, 0, 0), (.iload_n 1, 0, 0, 0, 0), (.aload_n 0, 0, 0, 0, 0), (.getfield 15, 12, 1, 0, 0), (.idiv, 0, 0, 0, 0), (.iload_n 1, 0, 0, 0, 0), (.aload_n 0, 0, 0, 0, 0), (.getfield 15, 12, 1, 0, 0), (.irem, 0, 0, 0, 0), (.iconst 1, 0, 0, 1, 0), (.isub, 0, 0, 0, 0)] (52, [some (.ref 0), some (.int c)], [.int ((c - c / (σ.1 0 1) * (σ.1 0 1)) - 1), .int (c / (σ.1 0 1)), .int c, .ref 0], σ) [¬ (σ.1 0 1) = 0, ¬ (σ.1 0 1) = 0] (by decide +kernel) rfl ⟨b1, b1, trivial⟩ ?_
  refine sy_callV mX12_link 0 [.int c, .int (c / (σ.1 0 1)), .int ((c - c / (σ.1 0 1) * (σ.1 0 1)) - 1)] [] kX12_link jX12_113 (by decide +kernel) rfl rfl (Nat.le_of_ble_eq_true rfl) (Nat.le_of_ble_eq_true rfl) (by decide) rfl ?_
  exact k1

set_option maxRecDepth 20000 in
theorem w_m_links_55 {Q : Option Value → sy_S → Prop} {σ : sy_S} {c : Int32}  (b1 : ¬ (σ.1 0 1) = 0) (k1 : sy_E shM mX12_link (0, sy_ent [.ref 0, .int c, .int (c / (σ.1 0 1)), .int ((c - c / (σ.1 0 1) * (σ.1 0 1)) + 1)] 4, [], σ) (fun r9 σ9 => sy_E shM mX12_links (74, [some (.ref 0), some (.int c)], r9.toList ++ [], σ9) Q)) : sy_E shM mX12_links (55, [some (.ref 0), some (.int c)], [], σ) Q := by
  refine sy_bk [(.aload_n 0, 0, 0, 0, 0), (.iload_n 1, 0, 0, 0, 0), (.iload_n 1, 0, 0, 0, 0), (.aload_n 0, 0, 0, 0, 0), (.getfield 15, 12, 1, 0, 0), (.idiv, 0, 0, 0, 0), (.iload_n 1, 0, 0, 0, 0), (.aload_n 0, 0, 0, 0, 0), (.getfield 15, 12, 1, 0, 0), (.irem, 0, 0, 0, 0), (.iconst 1, 0, 0, 1, 0), (.iadd, 0, 0, 0, 0)] (71, [some (.ref 0), some (.int c)], [.int ((c - c / (σ.1 0 1) * (σ.1 0 1)) + 1), .int (c / (σ.1 0 1)), .int c, .ref 0], σ) [¬ (σ.1 0 1) = 0, ¬ (σ.1 0 1) = 0] (by decide +kernel) rfl ⟨b1, b1, trivial⟩ ?_
  refine sy_callV mX12_link 0 [.int c, .int (c / (σ.1 0 1)), .int ((c - c / (σ.1 0 1) * (σ.1 0 1)) + 1)] [] kX12_link jX12_113 (by decide +kernel) rfl rfl (Nat.le_of_ble_eq_true rfl) (Nat.le_of_ble_eq_true rfl) (by decide) rfl ?_
  exact k1

set_option maxRecDepth 20000 in
theorem w_m_links_74 {Q : Option Value → sy_S → Prop} {σ : sy_S} {c : Int32}  (b1 : ¬ (σ.1 0 1) = 0) (k1 : sy_E shM mX12_link (0, sy_ent [.ref 0, .int c, .int ((c / (σ.1 0 1)) + 1), .int (c - c / (σ.1 0 1) * (σ.1 0 1))] 4, [], σ) (fun r9 σ9 => sy_E shM mX12_links (93, [some (.ref 0), some (.int c)], r9.toList ++ [], σ9) Q)) : sy_E shM mX12_links (74, [some (.ref 0), some (.int c)], [], σ) Q := by
  refine sy_bk [(.aload_n 0, 0, 0, 0, 0), (.iload_n 1, 0, 0, 0, 0), (.iload_n 1, 0, 0, 0, 0), (.aload_n 0, 0, 0, 0, 0), (.getfield 15, 12, 1, 0, 0), (.idiv, 0, 0, 0, 0), (.iconst 1, 0, 0, 1, 0), (.iadd, 0, 0, 0, 0), (.iload_n 1, 0, 0, 0, 0), (.aload_n 0, 0, 0, 0, 0), (.getfield 15, 12, 1, 0, 0), (.irem, 0, 0, 0, 0)] (90, [some (.ref 0), some (.int c)], [.int (c - c / (σ.1 0 1) * (σ.1 0 1)), .int ((c / (σ.1 0 1)) + 1), .int c, .ref 0], σ) [¬ (σ.1 0 1) = 0, ¬ (σ.1 0 1) = 0] (by decide +kernel) rfl ⟨b1, b1, trivial⟩ ?_
  refine sy_callV mX12_link 0 [.int c, .int ((c / (σ.1 0 1)) + 1), .int (c - c / (σ.1 0 1) * (σ.1 0 1))] [] kX12_link jX12_113 (by decide +kernel) rfl rfl (Nat.le_of_ble_eq_true rfl) (Nat.le_of_ble_eq_true rfl) (by decide) rfl ?_
  exact k1

set_option maxRecDepth 20000 in
theorem w_m_links_93 {Q : Option Value → sy_S → Prop} {σ : sy_S} {c : Int32}   (k1 : sy_E shM mX12_links (2, [some (.ref 0), some (.int (c + 1))], [], σ) Q) : sy_E shM mX12_links (93, [some (.ref 0), some (.int c)], [], σ) Q := by
  refine sy_bk [(.iinc 1 1, 0, 0, 1, 0), (.goto (-94), 0, 2, 0, 0)] (2, [some (.ref 0), some (.int (c + 1))], [], σ) [] (by decide +kernel) rfl trivial ?_
  exact k1

set_option maxRecDepth 20000 in
theorem w_m_copies_0 {Q : Option Value → sy_S → Prop} {σ : sy_S} {a : Nat} {k : Nat} (ha : shM[a]? = some (0, 16, [])) (hk : shM[k]? = some (0, 16, []))  (k1 : sy_E shM mX12_copies (2, [some (.ref a), some (.ref k), some (.int 0)], [], σ) Q) : sy_E shM mX12_copies (0, sy_ent [.ref a, .ref k] 3, [], σ) Q := by
  show sy_E shM mX12_copies (0, [some (.ref a), some (.ref k), none], [], σ) _
  refine sy_bk [(.iconst 0, 0, 0, 0, 0), (.istore_n 2, 0, 0, 0, 0)] (2, [some (.ref a), some (.ref k), some (.int 0)], [], σ) [] (by decide +kernel) rfl trivial ?_
  exact k1

set_option maxRecDepth 20000 in
theorem w_m_copies_2 {Q : Option Value → sy_S → Prop} {σ : sy_S} {a : Nat} {k : Nat} {i : Int32} (ha : shM[a]? = some (0, 16, [])) (hk : shM[k]? = some (0, 16, [])) (b1 : ¬ (16 ≤ i) → vp_in i 16) (k1 : 16 ≤ i → Q none σ) (k2 : ¬ (16 ≤ i) → sy_E shM mX12_copies (2, [some (.ref a), some (.ref k), some (.int (i + 1))], [], (sy_up σ.1 k i.toNatClampNeg (σ.1 a i.toNatClampNeg), σ.2)) Q) : sy_E shM mX12_copies (2, [some (.ref a), some (.ref k), some (.int i)], [], σ) Q := by
  refine sy_bk [(.iload_n 2, 0, 0, 0, 0), (.bipush 16, 0, 0, 16, 0)] (5, [some (.ref a), some (.ref k), some (.int i)], [.int 16, .int i], σ) [] (by decide +kernel) rfl trivial ?_
  by_cases c1 : 16 ≤ i
  · refine sy_bk [(.if_icmp .ge 15, 1, 20, 0, 0)] (20, [some (.ref a), some (.ref k), some (.int i)], [], σ) [sy_cc .ge i 16] (by decide +kernel) rfl ⟨c1, trivial⟩ ?_
    exact sy_retv rfl (by decide +kernel) (k1 c1)
  · refine sy_bk [(.if_icmp .ge 15, 0, 20, 0, 0)] (8, [some (.ref a), some (.ref k), some (.int i)], [], σ) [¬ sy_cc .ge i 16] (by decide +kernel) rfl ⟨c1, trivial⟩ ?_
    refine sy_bk [(.aload_n 1, 0, 0, 0, 0), (.iload_n 2, 0, 0, 0, 0), (.aload_n 0, 0, 0, 0, 0), (.iload_n 2, 0, 0, 0, 0), (.iaload, 0, 0, 0, 0), (.iastore, 0, 0, 0, 0), (.iinc 2 1, 0, 0, 1, 0), (.goto (-15), 0, 2, 0, 0)] (2, [some (.ref a), some (.ref k), some (.int (i + 1))], [], (sy_up σ.1 k i.toNatClampNeg (σ.1 a i.toNatClampNeg), σ.2)) [sy_okA shM 0 a i, sy_okA shM 0 k i] (by decide +kernel) rfl ⟨⟨16, _, ha, (b1 c1)⟩, ⟨16, _, hk, (b1 c1)⟩, trivial⟩ ?_
    exact k2 c1

set_option maxRecDepth 20000 in
theorem w_m_places_0 {Q : Option Value → sy_S → Prop} {σ : sy_S}    (k1 : sy_E shM mX12_places (4, [some (.ref 0), some (.int 0), some (.int 0)], [], σ) Q) : sy_E shM mX12_places (0, sy_ent [.ref 0] 3, [], σ) Q := by
  show sy_E shM mX12_places (0, [some (.ref 0), none, none], [], σ) _
  refine sy_bk [(.iconst 0, 0, 0, 0, 0), (.istore_n 1, 0, 0, 0, 0), (.iconst 0, 0, 0, 0, 0), (.istore_n 2, 0, 0, 0, 0)] (4, [some (.ref 0), some (.int 0), some (.int 0)], [], σ) [] (by decide +kernel) rfl trivial ?_
  exact k1

set_option maxRecDepth 20000 in
theorem w_m_places_4 {Q : Option Value → sy_S → Prop} {σ : sy_S} {s : Int32} {i : Int32}  (b1 : ¬ (((σ.1 0 0) * (σ.1 0 1)) ≤ i) → vp_in i 16) (k1 : ((σ.1 0 0) * (σ.1 0 1)) ≤ i → Q (some (.int s)) σ) (k2 : ¬ (((σ.1 0 0) * (σ.1 0 1)) ≤ i) → (σ.1 1 i.toNatClampNeg) = 0 → sy_E shM mX12_places (4, [some (.ref 0), some (.int (s + 1)), some (.int (i + 1))], [], σ) Q) (k3 : ¬ (((σ.1 0 0) * (σ.1 0 1)) ≤ i) → ¬ ((σ.1 1 i.toNatClampNeg) = 0) → sy_E shM mX12_places (4, [some (.ref 0), some (.int (s + 0)), some (.int (i + 1))], [], σ) Q) : sy_E shM mX12_places (4, [some (.ref 0), some (.int s), some (.int i)], [], σ) Q := by
  refine sy_bk [(.iload_n 2, 0, 0, 0, 0), (.aload_n 0, 0, 0, 0, 0)] (6, [some (.ref 0), some (.int s), some (.int i)], [.ref 0, .int i], σ) [] (by decide +kernel) rfl trivial ?_
  refine sy_callV mX12_cells 0 [] [.int i] kX12_cells jX12_105 (by decide +kernel) rfl rfl (Nat.le_of_ble_eq_true rfl) (Nat.le_of_ble_eq_true rfl) (by decide) rfl ?_
  refine w_m_cells (σ := σ) ?_
  show sy_E shM mX12_places (9, [some (.ref 0), some (.int s), some (.int i)], [.int ((σ.1 0 0) * (σ.1 0 1)), .int i], σ) _
  by_cases c1 : ((σ.1 0 0) * (σ.1 0 1)) ≤ i
  · refine sy_bk [(.if_icmp .ge 26, 1, 35, 0, 0)] (35, [some (.ref 0), some (.int s), some (.int i)], [], σ) [sy_cc .ge i ((σ.1 0 0) * (σ.1 0 1))] (by decide +kernel) rfl ⟨c1, trivial⟩ ?_
    refine sy_bk [(.iload_n 1, 0, 0, 0, 0)] (36, [some (.ref 0), some (.int s), some (.int i)], [.int s], σ) [] (by decide +kernel) rfl trivial ?_
    exact sy_reti rfl (by decide +kernel) (k1 c1)
  · refine sy_bk [(.if_icmp .ge 26, 0, 35, 0, 0)] (12, [some (.ref 0), some (.int s), some (.int i)], [], σ) [¬ sy_cc .ge i ((σ.1 0 0) * (σ.1 0 1))] (by decide +kernel) rfl ⟨c1, trivial⟩ ?_
    refine sy_bk [(.iload_n 1, 0, 0, 0, 0), (.aload_n 0, 0, 0, 0, 0), (.getfield 18, 12, 2, 0, 0), (.iload_n 2, 0, 0, 0, 0), (.baload, 0, 0, 0, 0)] (19, [some (.ref 0), some (.int s), some (.int i)], [.int (σ.1 1 i.toNatClampNeg), .int s], σ) [sy_okA shM 1 1 i] (by decide +kernel) rfl ⟨⟨16, _, rfl, (b1 c1)⟩, trivial⟩ ?_
    by_cases c2 : (σ.1 1 i.toNatClampNeg) = 0
    · refine sy_bk [(.ifCond .eq 7, 1, 26, 0, 0)] (26, [some (.ref 0), some (.int s), some (.int i)], [.int s], σ) [sy_cc .eq (σ.1 1 i.toNatClampNeg) 0] (by decide +kernel) rfl ⟨c2, trivial⟩ ?_
      refine sy_bk [(.iconst 1, 0, 0, 1, 0), (.iadd, 0, 0, 0, 0), (.istore_n 1, 0, 0, 0, 0), (.iinc 2 1, 0, 0, 1, 0), (.goto (-28), 0, 4, 0, 0)] (4, [some (.ref 0), some (.int (s + 1)), some (.int (i + 1))], [], σ) [] (by decide +kernel) rfl trivial ?_
      exact k2 c1 c2
    · refine sy_bk [(.ifCond .eq 7, 0, 26, 0, 0)] (22, [some (.ref 0), some (.int s), some (.int i)], [.int s], σ) [¬ sy_cc .eq (σ.1 1 i.toNatClampNeg) 0] (by decide +kernel) rfl ⟨c2, trivial⟩ ?_
      refine sy_bk [(.iconst 0, 0, 0, 0, 0), (.goto 4, 0, 27, 0, 0), (.iadd, 0, 0, 0, 0), (.istore_n 1, 0, 0, 0, 0), (.iinc 2 1, 0, 0, 1, 0), (.goto (-28), 0, 4, 0, 0)] (4, [some (.ref 0), some (.int (s + 0)), some (.int (i + 1))], [], σ) [] (by decide +kernel) rfl trivial ?_
      exact k3 c1 c2

set_option maxRecDepth 20000 in
theorem w_m_topples_0 {Q : Option Value → sy_S → Prop} {σ : sy_S} {k : Nat} {c : Int32} {t : Int32} (hk : shM[k]? = some (0, 16, [])) (b1 : vp_in c 16) (k1 : sy_E shM mX12_topples (12, [some (.ref 0), some (.ref k), some (.int c), some (.int t), some (.int 0)], [], (sy_up σ.1 k c.toNatClampNeg ((σ.1 k c.toNatClampNeg) - (4 * t)), σ.2)) Q) : sy_E shM mX12_topples (0, sy_ent [.ref 0, .ref k, .int c, .int t] 5, [], σ) Q := by
  show sy_E shM mX12_topples (0, [some (.ref 0), some (.ref k), some (.int c), some (.int t), none], [], σ) _
  refine sy_bk [(.aload_n 1, 0, 0, 0, 0), (.iload_n 2, 0, 0, 0, 0), (.dup2, 0, 0, 0, 0), (.iaload, 0, 0, 0, 0), (.iconst 4, 0, 0, 4, 0), (.iload_n 3, 0, 0, 0, 0), (.imul, 0, 0, 0, 0), (.isub, 0, 0, 0, 0), (.iastore, 0, 0, 0, 0), (.iconst 0, 0, 0, 0, 0), (.istore 4, 0, 0, 0, 0)] (12, [some (.ref 0), some (.ref k), some (.int c), some (.int t), some (.int 0)], [], (sy_up σ.1 k c.toNatClampNeg ((σ.1 k c.toNatClampNeg) - (4 * t)), σ.2)) [sy_okA shM 0 k c, sy_okA shM 0 k c] (by decide +kernel) rfl ⟨⟨16, _, hk, b1⟩, ⟨16, _, hk, b1⟩, trivial⟩ ?_
  exact k1

set_option maxRecDepth 20000 in
theorem w_m_topples_12 {Q : Option Value → sy_S → Prop} {σ : sy_S} {k : Nat} {c : Int32} {t : Int32} {i : Int32} (hk : shM[k]? = some (0, 16, [])) (b1 : vp_in c 16) (b2 : ¬ ((σ.1 4 c.toNatClampNeg) ≤ i) → vp_in ((4 * c) + i) 64) (b3 : ¬ ((σ.1 4 c.toNatClampNeg) ≤ i) → vp_in (σ.1 3 (((4 * c) + i).toNatClampNeg)) 16) (k1 : (σ.1 4 c.toNatClampNeg) ≤ i → Q none (sy_up (sy_up σ.1 5 c.toNatClampNeg ((σ.1 5 c.toNatClampNeg) + t)) 0 7 ((σ.1 0 7) + (t * (4 - (σ.1 4 c.toNatClampNeg)))), σ.2)) (k2 : ¬ ((σ.1 4 c.toNatClampNeg) ≤ i) → sy_E shM mX12_topples (12, [some (.ref 0), some (.ref k), some (.int c), some (.int t), some (.int (i + 1))], [], (sy_up σ.1 k ((σ.1 3 (((4 * c) + i).toNatClampNeg)).toNatClampNeg) ((σ.1 k ((σ.1 3 (((4 * c) + i).toNatClampNeg)).toNatClampNeg)) + t), σ.2)) Q) : sy_E shM mX12_topples (12, [some (.ref 0), some (.ref k), some (.int c), some (.int t), some (.int i)], [], σ) Q := by
  refine sy_bk [(.iload 4, 0, 0, 0, 0), (.aload_n 0, 0, 0, 0, 0), (.getfield 29, 12, 5, 0, 0), (.iload_n 2, 0, 0, 0, 0), (.iaload, 0, 0, 0, 0)] (20, [some (.ref 0), some (.ref k), some (.int c), some (.int t), some (.int i)], [.int (σ.1 4 c.toNatClampNeg), .int i], σ) [sy_okA shM 0 4 c] (by decide +kernel) rfl ⟨⟨16, _, rfl, b1⟩, trivial⟩ ?_
  by_cases c1 : (σ.1 4 c.toNatClampNeg) ≤ i
  · refine sy_bk [(.if_icmp .ge 26, 1, 46, 0, 0)] (46, [some (.ref 0), some (.ref k), some (.int c), some (.int t), some (.int i)], [], σ) [sy_cc .ge i (σ.1 4 c.toNatClampNeg)] (by decide +kernel) rfl ⟨c1, trivial⟩ ?_
    refine sy_bk [(.aload_n 0, 0, 0, 0, 0), (.getfield 32, 12, 6, 0, 0), (.iload_n 2, 0, 0, 0, 0), (.dup2, 0, 0, 0, 0), (.iaload, 0, 0, 0, 0), (.iload_n 3, 0, 0, 0, 0), (.iadd, 0, 0, 0, 0), (.iastore, 0, 0, 0, 0), (.aload_n 0, 0, 0, 0, 0), (.dup, 0, 0, 0, 0), (.getfield 117, 12, 7, 0, 0), (.iload_n 3, 0, 0, 0, 0), (.iconst 4, 0, 0, 4, 0), (.aload_n 0, 0, 0, 0, 0), (.getfield 29, 12, 5, 0, 0), (.iload_n 2, 0, 0, 0, 0), (.iaload, 0, 0, 0, 0), (.isub, 0, 0, 0, 0), (.imul, 0, 0, 0, 0), (.iadd, 0, 0, 0, 0), (.putfield 117, 12, 7, 0, 0)] (75, [some (.ref 0), some (.ref k), some (.int c), some (.int t), some (.int i)], [], (sy_up (sy_up σ.1 5 c.toNatClampNeg ((σ.1 5 c.toNatClampNeg) + t)) 0 7 ((σ.1 0 7) + (t * (4 - (σ.1 4 c.toNatClampNeg)))), σ.2)) [sy_okA shM 0 5 c, sy_okA shM 0 5 c, sy_okA shM 0 4 c] (by decide +kernel) rfl ⟨⟨16, _, rfl, b1⟩, ⟨16, _, rfl, b1⟩, ⟨16, _, rfl, b1⟩, trivial⟩ ?_
    exact sy_retv rfl (by decide +kernel) (k1 c1)
  · refine sy_bk [(.if_icmp .ge 26, 0, 46, 0, 0)] (23, [some (.ref 0), some (.ref k), some (.int c), some (.int t), some (.int i)], [], σ) [¬ sy_cc .ge i (σ.1 4 c.toNatClampNeg)] (by decide +kernel) rfl ⟨c1, trivial⟩ ?_
    refine sy_bk [(.aload_n 1, 0, 0, 0, 0), (.aload_n 0, 0, 0, 0, 0), (.getfield 26, 12, 4, 0, 0), (.iconst 4, 0, 0, 4, 0), (.iload_n 2, 0, 0, 0, 0), (.imul, 0, 0, 0, 0), (.iload 4, 0, 0, 0, 0), (.iadd, 0, 0, 0, 0), (.iaload, 0, 0, 0, 0), (.dup2, 0, 0, 0, 0), (.iaload, 0, 0, 0, 0), (.iload_n 3, 0, 0, 0, 0), (.iadd, 0, 0, 0, 0), (.iastore, 0, 0, 0, 0), (.iinc 4 1, 0, 0, 1, 0), (.goto (-31), 0, 12, 0, 0)] (12, [some (.ref 0), some (.ref k), some (.int c), some (.int t), some (.int (i + 1))], [], (sy_up σ.1 k ((σ.1 3 (((4 * c) + i).toNatClampNeg)).toNatClampNeg) ((σ.1 k ((σ.1 3 (((4 * c) + i).toNatClampNeg)).toNatClampNeg)) + t), σ.2)) [sy_okA shM 0 3 ((4 * c) + i), sy_okA shM 0 k (σ.1 3 (((4 * c) + i).toNatClampNeg)), sy_okA shM 0 k (σ.1 3 (((4 * c) + i).toNatClampNeg))] (by decide +kernel) rfl ⟨⟨64, _, rfl, (b2 c1)⟩, ⟨16, _, hk, (b3 c1)⟩, ⟨16, _, hk, (b3 c1)⟩, trivial⟩ ?_
    exact k2 c1

set_option maxRecDepth 20000 in
theorem w_m_begins_0 {Q : Option Value → sy_S → Prop} {σ : sy_S}    (k1 : sy_E shM mX12_begins (7, [some (.ref 0), some (.int 0)], [], (sy_up σ.1 0 7 0, σ.2)) Q) : sy_E shM mX12_begins (0, sy_ent [.ref 0] 2, [], σ) Q := by
  show sy_E shM mX12_begins (0, [some (.ref 0), none], [], σ) _
  refine sy_bk [(.aload_n 0, 0, 0, 0, 0), (.iconst 0, 0, 0, 0, 0), (.putfield 117, 12, 7, 0, 0), (.iconst 0, 0, 0, 0, 0), (.istore_n 1, 0, 0, 0, 0)] (7, [some (.ref 0), some (.int 0)], [], (sy_up σ.1 0 7 0, σ.2)) [] (by decide +kernel) rfl trivial ?_
  exact k1

set_option maxRecDepth 20000 in
theorem w_m_begins_7 {Q : Option Value → sy_S → Prop} {σ : sy_S} {i : Int32}  (b1 : ¬ (16 ≤ i) → vp_in i 16) (k1 : 16 ≤ i → Q none σ) (k2 : ¬ (16 ≤ i) → sy_E shM mX12_begins (7, [some (.ref 0), some (.int (i + 1))], [], (sy_up σ.1 5 i.toNatClampNeg 0, σ.2)) Q) : sy_E shM mX12_begins (7, [some (.ref 0), some (.int i)], [], σ) Q := by
  refine sy_bk [(.iload_n 1, 0, 0, 0, 0), (.bipush 16, 0, 0, 16, 0)] (10, [some (.ref 0), some (.int i)], [.int 16, .int i], σ) [] (by decide +kernel) rfl trivial ?_
  by_cases c1 : 16 ≤ i
  · refine sy_bk [(.if_icmp .ge 16, 1, 26, 0, 0)] (26, [some (.ref 0), some (.int i)], [], σ) [sy_cc .ge i 16] (by decide +kernel) rfl ⟨c1, trivial⟩ ?_
    exact sy_retv rfl (by decide +kernel) (k1 c1)
  · refine sy_bk [(.if_icmp .ge 16, 0, 26, 0, 0)] (13, [some (.ref 0), some (.int i)], [], σ) [¬ sy_cc .ge i 16] (by decide +kernel) rfl ⟨c1, trivial⟩ ?_
    refine sy_bk [(.aload_n 0, 0, 0, 0, 0), (.getfield 32, 12, 6, 0, 0), (.iload_n 1, 0, 0, 0, 0), (.iconst 0, 0, 0, 0, 0), (.iastore, 0, 0, 0, 0), (.iinc 1 1, 0, 0, 1, 0), (.goto (-16), 0, 7, 0, 0)] (7, [some (.ref 0), some (.int (i + 1))], [], (sy_up σ.1 5 i.toNatClampNeg 0, σ.2)) [sy_okA shM 0 5 i] (by decide +kernel) rfl ⟨⟨16, _, rfl, (b1 c1)⟩, trivial⟩ ?_
    exact k2 c1

set_option maxRecDepth 20000 in
theorem w_m_may {Q : Option Value → sy_S → Prop} {σ : sy_S} {k : Nat} {c : Int32} (hk : shM[k]? = some (0, 16, [])) (b1 : vp_in c 16) (k1 : ¬ (σ.1 1 c.toNatClampNeg) = 0 → Q (some (.int 0)) σ) (k2 : ¬ (¬ (σ.1 1 c.toNatClampNeg) = 0) → (σ.1 k c.toNatClampNeg) < 4 → Q (some (.int 0)) σ) (k3 : ¬ (¬ (σ.1 1 c.toNatClampNeg) = 0) → ¬ ((σ.1 k c.toNatClampNeg) < 4) → Q (some (.int 1)) σ) : sy_E shM mX12_may (0, sy_ent [.ref 0, .ref k, .int c] 3, [], σ) Q := by
  show sy_E shM mX12_may (0, [some (.ref 0), some (.ref k), some (.int c)], [], σ) _
  refine sy_bk [(.aload_n 0, 0, 0, 0, 0), (.getfield 18, 12, 2, 0, 0), (.iload_n 2, 0, 0, 0, 0), (.baload, 0, 0, 0, 0)] (6, [some (.ref 0), some (.ref k), some (.int c)], [.int (σ.1 1 c.toNatClampNeg)], σ) [sy_okA shM 1 1 c] (by decide +kernel) rfl ⟨⟨16, _, rfl, b1⟩, trivial⟩ ?_
  by_cases c1 : ¬ (σ.1 1 c.toNatClampNeg) = 0
  · refine sy_bk [(.ifCond .ne 14, 1, 20, 0, 0)] (20, [some (.ref 0), some (.ref k), some (.int c)], [], σ) [sy_cc .ne (σ.1 1 c.toNatClampNeg) 0] (by decide +kernel) rfl ⟨c1, trivial⟩ ?_
    refine sy_bk [(.iconst 0, 0, 0, 0, 0)] (21, [some (.ref 0), some (.ref k), some (.int c)], [.int 0], σ) [] (by decide +kernel) rfl trivial ?_
    exact sy_retz rfl (by decide +kernel) (Or.inl rfl) (k1 c1)
  · refine sy_bk [(.ifCond .ne 14, 0, 20, 0, 0)] (9, [some (.ref 0), some (.ref k), some (.int c)], [], σ) [¬ sy_cc .ne (σ.1 1 c.toNatClampNeg) 0] (by decide +kernel) rfl ⟨c1, trivial⟩ ?_
    refine sy_bk [(.aload_n 1, 0, 0, 0, 0), (.iload_n 2, 0, 0, 0, 0), (.iaload, 0, 0, 0, 0), (.iconst 4, 0, 0, 4, 0)] (13, [some (.ref 0), some (.ref k), some (.int c)], [.int 4, .int (σ.1 k c.toNatClampNeg)], σ) [sy_okA shM 0 k c] (by decide +kernel) rfl ⟨⟨16, _, hk, b1⟩, trivial⟩ ?_
    by_cases c2 : (σ.1 k c.toNatClampNeg) < 4
    · refine sy_bk [(.if_icmp .lt 7, 1, 20, 0, 0)] (20, [some (.ref 0), some (.ref k), some (.int c)], [], σ) [sy_cc .lt (σ.1 k c.toNatClampNeg) 4] (by decide +kernel) rfl ⟨c2, trivial⟩ ?_
      refine sy_bk [(.iconst 0, 0, 0, 0, 0)] (21, [some (.ref 0), some (.ref k), some (.int c)], [.int 0], σ) [] (by decide +kernel) rfl trivial ?_
      exact sy_retz rfl (by decide +kernel) (Or.inl rfl) (k2 c1 c2)
    · refine sy_bk [(.if_icmp .lt 7, 0, 20, 0, 0)] (16, [some (.ref 0), some (.ref k), some (.int c)], [], σ) [¬ sy_cc .lt (σ.1 k c.toNatClampNeg) 4] (by decide +kernel) rfl ⟨c2, trivial⟩ ?_
      refine sy_bk [(.iconst 1, 0, 0, 1, 0), (.goto 4, 0, 21, 0, 0)] (21, [some (.ref 0), some (.ref k), some (.int c)], [.int 1], σ) [] (by decide +kernel) rfl trivial ?_
      exact sy_retz rfl (by decide +kernel) (Or.inr rfl) (k3 c1 c2)

set_option maxRecDepth 20000 in
theorem w_m_isStable_0 {Q : Option Value → sy_S → Prop} {σ : sy_S} {k : Nat} (hk : shM[k]? = some (0, 16, []))  (k1 : sy_E shM mX12_isStable (4, [some (.ref 0), some (.ref k), some (.int 1), some (.int 0)], [], σ) Q) : sy_E shM mX12_isStable (0, sy_ent [.ref 0, .ref k] 4, [], σ) Q := by
  show sy_E shM mX12_isStable (0, [some (.ref 0), some (.ref k), none, none], [], σ) _
  refine sy_bk [(.iconst 1, 0, 0, 1, 0), (.istore_n 2, 0, 0, 0, 0), (.iconst 0, 0, 0, 0, 0), (.istore_n 3, 0, 0, 0, 0)] (4, [some (.ref 0), some (.ref k), some (.int 1), some (.int 0)], [], σ) [] (by decide +kernel) rfl trivial ?_
  exact k1

set_option maxRecDepth 20000 in
theorem w_m_isStable_4 {Q : Option Value → sy_S → Prop} {σ : sy_S} {k : Nat} {s : Int32} {i : Int32} (hk : shM[k]? = some (0, 16, [])) (b1 : ((σ.1 0 0) * (σ.1 0 1)) ≤ i → s = 0 ∨ s = 1) (k1 : ((σ.1 0 0) * (σ.1 0 1)) ≤ i → Q (some (.int s)) σ) (k2 : ¬ (((σ.1 0 0) * (σ.1 0 1)) ≤ i) → sy_E shM mX12_may (0, sy_ent [.ref 0, .ref k, .int i] 3, [], σ) (fun r9 σ9 => sy_E shM mX12_isStable (19, [some (.ref 0), some (.ref k), none, some (.int i)], r9.toList ++ [.int s], σ9) Q)) : sy_E shM mX12_isStable (4, [some (.ref 0), some (.ref k), some (.int s), some (.int i)], [], σ) Q := by
  refine sy_bk [(.iload_n 3, 0, 0, 0, 0), (.aload_n 0, 0, 0, 0, 0)] (6, [some (.ref 0), some (.ref k), some (.int s), some (.int i)], [.ref 0, .int i], σ) [] (by decide +kernel) rfl trivial ?_
  refine sy_callV mX12_cells 0 [] [.int i] kX12_cells jX12_105 (by decide +kernel) rfl rfl (Nat.le_of_ble_eq_true rfl) (Nat.le_of_ble_eq_true rfl) (by decide) rfl ?_
  refine w_m_cells (σ := σ) ?_
  show sy_E shM mX12_isStable (9, [some (.ref 0), some (.ref k), some (.int s), some (.int i)], [.int ((σ.1 0 0) * (σ.1 0 1)), .int i], σ) _
  by_cases c1 : ((σ.1 0 0) * (σ.1 0 1)) ≤ i
  · refine sy_bk [(.if_icmp .ge 26, 1, 35, 0, 0)] (35, [some (.ref 0), some (.ref k), some (.int s), some (.int i)], [], σ) [sy_cc .ge i ((σ.1 0 0) * (σ.1 0 1))] (by decide +kernel) rfl ⟨c1, trivial⟩ ?_
    refine sy_bk [(.iload_n 2, 0, 0, 0, 0)] (36, [some (.ref 0), some (.ref k), some (.int s), some (.int i)], [.int s], σ) [] (by decide +kernel) rfl trivial ?_
    exact sy_retz rfl (by decide +kernel) (b1 c1) (k1 c1)
  · refine sy_bk [(.if_icmp .ge 26, 0, 35, 0, 0)] (12, [some (.ref 0), some (.ref k), some (.int s), some (.int i)], [], σ) [¬ sy_cc .ge i ((σ.1 0 0) * (σ.1 0 1))] (by decide +kernel) rfl ⟨c1, trivial⟩ ?_
    refine sy_bk [(.iload_n 2, 0, 0, 0, 0), (.aload_n 0, 0, 0, 0, 0), (.aload_n 1, 0, 0, 0, 0), (.iload_n 3, 0, 0, 0, 0)] (16, [some (.ref 0), some (.ref k), some (.int s), some (.int i)], [.int i, .ref k, .ref 0, .int s], σ) [] (by decide +kernel) rfl trivial ?_
    refine sy_drop [some (.ref 0), some (.ref k), none, some (.int i)] ⟨rfl, rfl, rfl, trivial⟩ ?_
    refine sy_callV mX12_may 0 [.ref k, .int i] [.int s] kX12_may jX12_120 (by decide +kernel) rfl rfl (Nat.le_of_ble_eq_true rfl) (Nat.le_of_ble_eq_true rfl) (by decide) rfl ?_
    exact k2 c1

set_option maxRecDepth 20000 in
theorem w_m_isStable_19 {Q : Option Value → sy_S → Prop} {σ : sy_S} {k : Nat} {s : Int32} {i : Int32} {v : Int32} (hk : shM[k]? = some (0, 16, []))  (k1 : ¬ v = 0 → sy_E shM mX12_isStable (4, [some (.ref 0), some (.ref k), some (.int (s &&& 0)), some (.int (i + 1))], [], σ) Q) (k2 : ¬ (¬ v = 0) → sy_E shM mX12_isStable (4, [some (.ref 0), some (.ref k), some (.int (s &&& 1)), some (.int (i + 1))], [], σ) Q) : sy_E shM mX12_isStable (19, [some (.ref 0), some (.ref k), none, some (.int i)], [.int v, .int s], σ) Q := by
  by_cases c1 : ¬ v = 0
  · refine sy_bk [(.ifCond .ne 7, 1, 26, 0, 0)] (26, [some (.ref 0), some (.ref k), none, some (.int i)], [.int s], σ) [sy_cc .ne v 0] (by decide +kernel) rfl ⟨c1, trivial⟩ ?_
    refine sy_bk [(.iconst 0, 0, 0, 0, 0), (.iand, 0, 0, 0, 0), (.istore_n 2, 0, 0, 0, 0), (.iinc 3 1, 0, 0, 1, 0), (.goto (-28), 0, 4, 0, 0)] (4, [some (.ref 0), some (.ref k), some (.int (s &&& 0)), some (.int (i + 1))], [], σ) [] (by decide +kernel) rfl trivial ?_
    exact k1 c1
  · refine sy_bk [(.ifCond .ne 7, 0, 26, 0, 0)] (22, [some (.ref 0), some (.ref k), none, some (.int i)], [.int s], σ) [¬ sy_cc .ne v 0] (by decide +kernel) rfl ⟨c1, trivial⟩ ?_
    refine sy_bk [(.iconst 1, 0, 0, 1, 0), (.goto 4, 0, 27, 0, 0), (.iand, 0, 0, 0, 0), (.istore_n 2, 0, 0, 0, 0), (.iinc 3 1, 0, 0, 1, 0), (.goto (-28), 0, 4, 0, 0)] (4, [some (.ref 0), some (.ref k), some (.int (s &&& 1)), some (.int (i + 1))], [], σ) [] (by decide +kernel) rfl trivial ?_
    exact k2 c1

set_option maxRecDepth 20000 in
theorem w_m_size_0 {Q : Option Value → sy_S → Prop} {σ : sy_S}    (k1 : sy_E shM mX12_sizeCounted (4, [some (.ref 0), some (.int 0), some (.int 0)], [], σ) Q) : sy_E shM mX12_sizeCounted (0, sy_ent [.ref 0] 3, [], σ) Q := by
  show sy_E shM mX12_sizeCounted (0, [some (.ref 0), none, none], [], σ) _
  refine sy_bk [(.iconst 0, 0, 0, 0, 0), (.istore_n 1, 0, 0, 0, 0), (.iconst 0, 0, 0, 0, 0), (.istore_n 2, 0, 0, 0, 0)] (4, [some (.ref 0), some (.int 0), some (.int 0)], [], σ) [] (by decide +kernel) rfl trivial ?_
  exact k1

set_option maxRecDepth 20000 in
theorem w_m_size_4 {Q : Option Value → sy_S → Prop} {σ : sy_S} {s : Int32} {i : Int32}  (b1 : ¬ (16 ≤ i) → vp_in i 16) (k1 : 16 ≤ i → Q (some (.int s)) σ) (k2 : ¬ (16 ≤ i) → sy_E shM mX12_sizeCounted (4, [some (.ref 0), some (.int (s + (σ.1 5 i.toNatClampNeg))), some (.int (i + 1))], [], σ) Q) : sy_E shM mX12_sizeCounted (4, [some (.ref 0), some (.int s), some (.int i)], [], σ) Q := by
  refine sy_bk [(.iload_n 2, 0, 0, 0, 0), (.bipush 16, 0, 0, 16, 0)] (7, [some (.ref 0), some (.int s), some (.int i)], [.int 16, .int i], σ) [] (by decide +kernel) rfl trivial ?_
  by_cases c1 : 16 ≤ i
  · refine sy_bk [(.if_icmp .ge 18, 1, 25, 0, 0)] (25, [some (.ref 0), some (.int s), some (.int i)], [], σ) [sy_cc .ge i 16] (by decide +kernel) rfl ⟨c1, trivial⟩ ?_
    refine sy_bk [(.iload_n 1, 0, 0, 0, 0)] (26, [some (.ref 0), some (.int s), some (.int i)], [.int s], σ) [] (by decide +kernel) rfl trivial ?_
    exact sy_reti rfl (by decide +kernel) (k1 c1)
  · refine sy_bk [(.if_icmp .ge 18, 0, 25, 0, 0)] (10, [some (.ref 0), some (.int s), some (.int i)], [], σ) [¬ sy_cc .ge i 16] (by decide +kernel) rfl ⟨c1, trivial⟩ ?_
    refine sy_bk [(.iload_n 1, 0, 0, 0, 0), (.aload_n 0, 0, 0, 0, 0), (.getfield 32, 12, 6, 0, 0), (.iload_n 2, 0, 0, 0, 0), (.iaload, 0, 0, 0, 0), (.iadd, 0, 0, 0, 0), (.istore_n 1, 0, 0, 0, 0), (.iinc 2 1, 0, 0, 1, 0), (.goto (-18), 0, 4, 0, 0)] (4, [some (.ref 0), some (.int (s + (σ.1 5 i.toNatClampNeg))), some (.int (i + 1))], [], σ) [sy_okA shM 0 5 i] (by decide +kernel) rfl ⟨⟨16, _, rfl, (b1 c1)⟩, trivial⟩ ?_
    exact k2 c1

set_option maxRecDepth 20000 in
theorem w_m_settles_0 {Q : Option Value → sy_S → Prop} {σ : sy_S} {k : Nat} (hk : shM[k]? = some (0, 16, []))  (k1 : sy_E shM mX12_begins (0, sy_ent [.ref 0] 2, [], σ) (fun r9 σ9 => sy_E shM mX12_settles (4, [some (.ref 0), some (.ref k), none], r9.toList ++ [], σ9) Q)) : sy_E shM mX12_settles (0, sy_ent [.ref 0, .ref k] 3, [], σ) Q := by
  show sy_E shM mX12_settles (0, [some (.ref 0), some (.ref k), none], [], σ) _
  refine sy_bk [(.aload_n 0, 0, 0, 0, 0)] (1, [some (.ref 0), some (.ref k), none], [.ref 0], σ) [] (by decide +kernel) rfl trivial ?_
  refine sy_callV mX12_begins 0 [] [] kX12_begins jX12_124 (by decide +kernel) rfl rfl (Nat.le_of_ble_eq_true rfl) (Nat.le_of_ble_eq_true rfl) (by decide) rfl ?_
  exact k1

set_option maxRecDepth 20000 in
theorem w_m_settles_4 {Q : Option Value → sy_S → Prop} {σ : sy_S} {k : Nat} (hk : shM[k]? = some (0, 16, []))  (k1 : sy_E shM mX12_isStable (0, sy_ent [.ref 0, .ref k] 4, [], σ) (fun r9 σ9 => sy_E shM mX12_settles (9, [some (.ref 0), some (.ref k), none], r9.toList ++ [], σ9) Q)) : sy_E shM mX12_settles (4, [some (.ref 0), some (.ref k), none], [], σ) Q := by
  refine sy_bk [(.aload_n 0, 0, 0, 0, 0), (.aload_n 1, 0, 0, 0, 0)] (6, [some (.ref 0), some (.ref k), none], [.ref k, .ref 0], σ) [] (by decide +kernel) rfl trivial ?_
  refine sy_callV mX12_isStable 0 [.ref k] [] kX12_isStable jX12_127 (by decide +kernel) rfl rfl (Nat.le_of_ble_eq_true rfl) (Nat.le_of_ble_eq_true rfl) (by decide) rfl ?_
  exact k1

set_option maxRecDepth 20000 in
theorem w_m_settles_9 {Q : Option Value → sy_S → Prop} {σ : sy_S} {k : Nat} {v : Int32} (hk : shM[k]? = some (0, 16, []))  (k1 : ¬ v = 0 → sy_E shM mX12_sizeCounted (0, sy_ent [.ref 0] 3, [], σ) (fun r9 σ9 => sy_E shM mX12_settles (55, [none, none, none], r9.toList ++ [], σ9) Q)) (k2 : ¬ (¬ v = 0) → sy_E shM mX12_settles (14, [some (.ref 0), some (.ref k), some (.int 0)], [], σ) Q) : sy_E shM mX12_settles (9, [some (.ref 0), some (.ref k), none], [.int v], σ) Q := by
  by_cases c1 : ¬ v = 0
  · refine sy_bk [(.ifCond .ne 42, 1, 51, 0, 0)] (51, [some (.ref 0), some (.ref k), none], [], σ) [sy_cc .ne v 0] (by decide +kernel) rfl ⟨c1, trivial⟩ ?_
    refine sy_bk [(.aload_n 0, 0, 0, 0, 0)] (52, [some (.ref 0), some (.ref k), none], [.ref 0], σ) [] (by decide +kernel) rfl trivial ?_
    refine sy_drop [none, none, none] trivial ?_
    refine sy_callV mX12_sizeCounted 0 [] [] kX12_sizeCounted jX12_135 (by decide +kernel) rfl rfl (Nat.le_of_ble_eq_true rfl) (Nat.le_of_ble_eq_true rfl) (by decide) rfl ?_
    exact k1 c1
  · refine sy_bk [(.ifCond .ne 42, 0, 51, 0, 0)] (12, [some (.ref 0), some (.ref k), none], [], σ) [¬ sy_cc .ne v 0] (by decide +kernel) rfl ⟨c1, trivial⟩ ?_
    refine sy_bk [(.iconst 0, 0, 0, 0, 0), (.istore_n 2, 0, 0, 0, 0)] (14, [some (.ref 0), some (.ref k), some (.int 0)], [], σ) [] (by decide +kernel) rfl trivial ?_
    exact k2 c1

set_option maxRecDepth 20000 in
theorem w_m_settles_14 {Q : Option Value → sy_S → Prop} {σ : sy_S} {k : Nat} {i : Int32} (hk : shM[k]? = some (0, 16, []))  (k1 : ((σ.1 0 0) * (σ.1 0 1)) ≤ i → sy_E shM mX12_settles (4, [some (.ref 0), some (.ref k), none], [], σ) Q) (k2 : ¬ (((σ.1 0 0) * (σ.1 0 1)) ≤ i) → sy_E shM mX12_may (0, sy_ent [.ref 0, .ref k, .int i] 3, [], σ) (fun r9 σ9 => sy_E shM mX12_settles (28, [some (.ref 0), some (.ref k), some (.int i)], r9.toList ++ [], σ9) Q)) : sy_E shM mX12_settles (14, [some (.ref 0), some (.ref k), some (.int i)], [], σ) Q := by
  refine sy_bk [(.iload_n 2, 0, 0, 0, 0), (.aload_n 0, 0, 0, 0, 0)] (16, [some (.ref 0), some (.ref k), some (.int i)], [.ref 0, .int i], σ) [] (by decide +kernel) rfl trivial ?_
  refine sy_callV mX12_cells 0 [] [.int i] kX12_cells jX12_105 (by decide +kernel) rfl rfl (Nat.le_of_ble_eq_true rfl) (Nat.le_of_ble_eq_true rfl) (by decide) rfl ?_
  refine w_m_cells (σ := σ) ?_
  show sy_E shM mX12_settles (19, [some (.ref 0), some (.ref k), some (.int i)], [.int ((σ.1 0 0) * (σ.1 0 1)), .int i], σ) _
  by_cases c1 : ((σ.1 0 0) * (σ.1 0 1)) ≤ i
  · refine sy_bk [(.if_icmp .ge 29, 1, 48, 0, 0)] (48, [some (.ref 0), some (.ref k), some (.int i)], [], σ) [sy_cc .ge i ((σ.1 0 0) * (σ.1 0 1))] (by decide +kernel) rfl ⟨c1, trivial⟩ ?_
    refine sy_bk [(.goto (-44), 0, 4, 0, 0)] (4, [some (.ref 0), some (.ref k), some (.int i)], [], σ) [] (by decide +kernel) rfl trivial ?_
    refine sy_drop [some (.ref 0), some (.ref k), none] ⟨rfl, rfl, trivial⟩ ?_
    exact k1 c1
  · refine sy_bk [(.if_icmp .ge 29, 0, 48, 0, 0)] (22, [some (.ref 0), some (.ref k), some (.int i)], [], σ) [¬ sy_cc .ge i ((σ.1 0 0) * (σ.1 0 1))] (by decide +kernel) rfl ⟨c1, trivial⟩ ?_
    refine sy_bk [(.aload_n 0, 0, 0, 0, 0), (.aload_n 1, 0, 0, 0, 0), (.iload_n 2, 0, 0, 0, 0)] (25, [some (.ref 0), some (.ref k), some (.int i)], [.int i, .ref k, .ref 0], σ) [] (by decide +kernel) rfl trivial ?_
    refine sy_callV mX12_may 0 [.ref k, .int i] [] kX12_may jX12_120 (by decide +kernel) rfl rfl (Nat.le_of_ble_eq_true rfl) (Nat.le_of_ble_eq_true rfl) (by decide) rfl ?_
    exact k2 c1

set_option maxRecDepth 20000 in
theorem w_m_settles_28 {Q : Option Value → sy_S → Prop} {σ : sy_S} {k : Nat} {i : Int32} {v : Int32} (hk : shM[k]? = some (0, 16, [])) (b1 : ¬ (v = 0) → vp_in i 16) (k1 : v = 0 → sy_E shM mX12_settles (14, [some (.ref 0), some (.ref k), some (.int (i + 1))], [], σ) Q) (k2 : ¬ (v = 0) → sy_E shM mX12_topples (0, sy_ent [.ref 0, .ref k, .int i, .int ((σ.1 k i.toNatClampNeg) / 4)] 5, [], σ) (fun r9 σ9 => sy_E shM mX12_settles (42, [some (.ref 0), some (.ref k), some (.int i)], r9.toList ++ [], σ9) Q)) : sy_E shM mX12_settles (28, [some (.ref 0), some (.ref k), some (.int i)], [.int v], σ) Q := by
  by_cases c1 : v = 0
  · refine sy_bk [(.ifCond .eq 14, 1, 42, 0, 0)] (42, [some (.ref 0), some (.ref k), some (.int i)], [], σ) [sy_cc .eq v 0] (by decide +kernel) rfl ⟨c1, trivial⟩ ?_
    refine sy_bk [(.iinc 2 1, 0, 0, 1, 0), (.goto (-31), 0, 14, 0, 0)] (14, [some (.ref 0), some (.ref k), some (.int (i + 1))], [], σ) [] (by decide +kernel) rfl trivial ?_
    exact k1 c1
  · refine sy_bk [(.ifCond .eq 14, 0, 42, 0, 0)] (31, [some (.ref 0), some (.ref k), some (.int i)], [], σ) [¬ sy_cc .eq v 0] (by decide +kernel) rfl ⟨c1, trivial⟩ ?_
    refine sy_bk [(.aload_n 0, 0, 0, 0, 0), (.aload_n 1, 0, 0, 0, 0), (.iload_n 2, 0, 0, 0, 0), (.aload_n 1, 0, 0, 0, 0), (.iload_n 2, 0, 0, 0, 0), (.iaload, 0, 0, 0, 0), (.iconst 4, 0, 0, 4, 0), (.idiv, 0, 0, 0, 0)] (39, [some (.ref 0), some (.ref k), some (.int i)], [.int ((σ.1 k i.toNatClampNeg) / 4), .int i, .ref k, .ref 0], σ) [sy_okA shM 0 k i, ¬ (4 : Int32) = 0] (by decide +kernel) rfl ⟨⟨16, _, hk, (b1 c1)⟩, (by decide), trivial⟩ ?_
    refine sy_callV mX12_topples 0 [.ref k, .int i, .int ((σ.1 k i.toNatClampNeg) / 4)] [] kX12_topples jX12_131 (by decide +kernel) rfl rfl (Nat.le_of_ble_eq_true rfl) (Nat.le_of_ble_eq_true rfl) (by decide) rfl ?_
    exact k2 c1

set_option maxRecDepth 20000 in
theorem w_m_settles_42 {Q : Option Value → sy_S → Prop} {σ : sy_S} {k : Nat} {i : Int32} (hk : shM[k]? = some (0, 16, []))  (k1 : sy_E shM mX12_settles (14, [some (.ref 0), some (.ref k), some (.int (i + 1))], [], σ) Q) : sy_E shM mX12_settles (42, [some (.ref 0), some (.ref k), some (.int i)], [], σ) Q := by
  refine sy_bk [(.iinc 2 1, 0, 0, 1, 0), (.goto (-31), 0, 14, 0, 0)] (14, [some (.ref 0), some (.ref k), some (.int (i + 1))], [], σ) [] (by decide +kernel) rfl trivial ?_
  exact k1

set_option maxRecDepth 20000 in
theorem w_m_settles_55 {Q : Option Value → sy_S → Prop} {σ : sy_S} {v : Int32}   (k1 : Q (some (.int v)) σ) : sy_E shM mX12_settles (55, [none, none, none], [.int v], σ) Q := by
  exact sy_reti rfl (by decide +kernel) (k1)

set_option maxRecDepth 20000 in
theorem w_m_rounds_0 {Q : Option Value → sy_S → Prop} {σ : sy_S} {k : Nat} (hk : shM[k]? = some (0, 16, []))  (k1 : sy_E shM mX12_begins (0, sy_ent [.ref 0] 2, [], σ) (fun r9 σ9 => sy_E shM mX12_roundsOf (4, [some (.ref 0), some (.ref k), none, none], r9.toList ++ [], σ9) Q)) : sy_E shM mX12_roundsOf (0, sy_ent [.ref 0, .ref k] 4, [], σ) Q := by
  show sy_E shM mX12_roundsOf (0, [some (.ref 0), some (.ref k), none, none], [], σ) _
  refine sy_bk [(.aload_n 0, 0, 0, 0, 0)] (1, [some (.ref 0), some (.ref k), none, none], [.ref 0], σ) [] (by decide +kernel) rfl trivial ?_
  refine sy_callV mX12_begins 0 [] [] kX12_begins jX12_124 (by decide +kernel) rfl rfl (Nat.le_of_ble_eq_true rfl) (Nat.le_of_ble_eq_true rfl) (by decide) rfl ?_
  exact k1

set_option maxRecDepth 20000 in
theorem w_m_rounds_4 {Q : Option Value → sy_S → Prop} {σ : sy_S} {k : Nat} (hk : shM[k]? = some (0, 16, []))  (k1 : sy_E shM mX12_roundsOf (6, [some (.ref 0), some (.ref k), some (.int 0), none], [], σ) Q) : sy_E shM mX12_roundsOf (4, [some (.ref 0), some (.ref k), none, none], [], σ) Q := by
  refine sy_bk [(.iconst 0, 0, 0, 0, 0), (.istore_n 2, 0, 0, 0, 0)] (6, [some (.ref 0), some (.ref k), some (.int 0), none], [], σ) [] (by decide +kernel) rfl trivial ?_
  exact k1

set_option maxRecDepth 20000 in
theorem w_m_rounds_6 {Q : Option Value → sy_S → Prop} {σ : sy_S} {k : Nat} {n : Int32} (hk : shM[k]? = some (0, 16, []))  (k1 : sy_E shM mX12_isStable (0, sy_ent [.ref 0, .ref k] 4, [], σ) (fun r9 σ9 => sy_E shM mX12_roundsOf (11, [some (.ref 0), some (.ref k), some (.int n), none], r9.toList ++ [], σ9) Q)) : sy_E shM mX12_roundsOf (6, [some (.ref 0), some (.ref k), some (.int n), none], [], σ) Q := by
  refine sy_bk [(.aload_n 0, 0, 0, 0, 0), (.aload_n 1, 0, 0, 0, 0)] (8, [some (.ref 0), some (.ref k), some (.int n), none], [.ref k, .ref 0], σ) [] (by decide +kernel) rfl trivial ?_
  refine sy_callV mX12_isStable 0 [.ref k] [] kX12_isStable jX12_127 (by decide +kernel) rfl rfl (Nat.le_of_ble_eq_true rfl) (Nat.le_of_ble_eq_true rfl) (by decide) rfl ?_
  exact k1

set_option maxRecDepth 20000 in
theorem w_m_rounds_11 {Q : Option Value → sy_S → Prop} {σ : sy_S} {k : Nat} {n : Int32} {v : Int32} (hk : shM[k]? = some (0, 16, []))  (k1 : ¬ v = 0 → Q (some (.int n)) σ) (k2 : ¬ (¬ v = 0) → sy_E shM mX12_roundsOf (16, [some (.ref 0), some (.ref k), some (.int n), some (.int 0)], [], σ) Q) : sy_E shM mX12_roundsOf (11, [some (.ref 0), some (.ref k), some (.int n), none], [.int v], σ) Q := by
  by_cases c1 : ¬ v = 0
  · refine sy_bk [(.ifCond .ne 69, 1, 80, 0, 0)] (80, [some (.ref 0), some (.ref k), some (.int n), none], [], σ) [sy_cc .ne v 0] (by decide +kernel) rfl ⟨c1, trivial⟩ ?_
    refine sy_bk [(.iload_n 2, 0, 0, 0, 0)] (81, [some (.ref 0), some (.ref k), some (.int n), none], [.int n], σ) [] (by decide +kernel) rfl trivial ?_
    exact sy_reti rfl (by decide +kernel) (k1 c1)
  · refine sy_bk [(.ifCond .ne 69, 0, 80, 0, 0)] (14, [some (.ref 0), some (.ref k), some (.int n), none], [], σ) [¬ sy_cc .ne v 0] (by decide +kernel) rfl ⟨c1, trivial⟩ ?_
    refine sy_bk [(.iconst 0, 0, 0, 0, 0), (.istore_n 3, 0, 0, 0, 0)] (16, [some (.ref 0), some (.ref k), some (.int n), some (.int 0)], [], σ) [] (by decide +kernel) rfl trivial ?_
    exact k2 c1

set_option maxRecDepth 20000 in
theorem w_m_rounds_16 {Q : Option Value → sy_S → Prop} {σ : sy_S} {k : Nat} {n : Int32} {i : Int32} (hk : shM[k]? = some (0, 16, []))  (k1 : ((σ.1 0 0) * (σ.1 0 1)) ≤ i → sy_E shM mX12_roundsOf (44, [some (.ref 0), some (.ref k), some (.int n), some (.int 0)], [], σ) Q) (k2 : ¬ (((σ.1 0 0) * (σ.1 0 1)) ≤ i) → sy_E shM mX12_may (0, sy_ent [.ref 0, .ref k, .int i] 3, [], σ) (fun r9 σ9 => sy_E shM mX12_roundsOf (35, [some (.ref 0), some (.ref k), some (.int n), some (.int i)], r9.toList ++ [.int i, .ref 6], σ9) Q)) : sy_E shM mX12_roundsOf (16, [some (.ref 0), some (.ref k), some (.int n), some (.int i)], [], σ) Q := by
  refine sy_bk [(.iload_n 3, 0, 0, 0, 0), (.aload_n 0, 0, 0, 0, 0)] (18, [some (.ref 0), some (.ref k), some (.int n), some (.int i)], [.ref 0, .int i], σ) [] (by decide +kernel) rfl trivial ?_
  refine sy_callV mX12_cells 0 [] [.int i] kX12_cells jX12_105 (by decide +kernel) rfl rfl (Nat.le_of_ble_eq_true rfl) (Nat.le_of_ble_eq_true rfl) (by decide) rfl ?_
  refine w_m_cells (σ := σ) ?_
  show sy_E shM mX12_roundsOf (21, [some (.ref 0), some (.ref k), some (.int n), some (.int i)], [.int ((σ.1 0 0) * (σ.1 0 1)), .int i], σ) _
  by_cases c1 : ((σ.1 0 0) * (σ.1 0 1)) ≤ i
  · refine sy_bk [(.if_icmp .ge 21, 1, 42, 0, 0)] (42, [some (.ref 0), some (.ref k), some (.int n), some (.int i)], [], σ) [sy_cc .ge i ((σ.1 0 0) * (σ.1 0 1))] (by decide +kernel) rfl ⟨c1, trivial⟩ ?_
    refine sy_bk [(.iconst 0, 0, 0, 0, 0), (.istore_n 3, 0, 0, 0, 0)] (44, [some (.ref 0), some (.ref k), some (.int n), some (.int 0)], [], σ) [] (by decide +kernel) rfl trivial ?_
    exact k1 c1
  · refine sy_bk [(.if_icmp .ge 21, 0, 42, 0, 0)] (24, [some (.ref 0), some (.ref k), some (.int n), some (.int i)], [], σ) [¬ sy_cc .ge i ((σ.1 0 0) * (σ.1 0 1))] (by decide +kernel) rfl ⟨c1, trivial⟩ ?_
    refine sy_bk [(.aload_n 0, 0, 0, 0, 0), (.getfield 35, 12, 8, 0, 0), (.iload_n 3, 0, 0, 0, 0), (.aload_n 0, 0, 0, 0, 0), (.aload_n 1, 0, 0, 0, 0), (.iload_n 3, 0, 0, 0, 0)] (32, [some (.ref 0), some (.ref k), some (.int n), some (.int i)], [.int i, .ref k, .ref 0, .int i, .ref 6], σ) [] (by decide +kernel) rfl trivial ?_
    refine sy_callV mX12_may 0 [.ref k, .int i] [.int i, .ref 6] kX12_may jX12_120 (by decide +kernel) rfl rfl (Nat.le_of_ble_eq_true rfl) (Nat.le_of_ble_eq_true rfl) (by decide) rfl ?_
    exact k2 c1

set_option maxRecDepth 20000 in
theorem w_m_rounds_35 {Q : Option Value → sy_S → Prop} {σ : sy_S} {k : Nat} {n : Int32} {i : Int32} {v : Int32} (hk : shM[k]? = some (0, 16, [])) (b1 : vp_in i 16) (k1 : sy_E shM mX12_roundsOf (16, [some (.ref 0), some (.ref k), some (.int n), some (.int (i + 1))], [], (sy_up σ.1 6 i.toNatClampNeg (vp_nar .boolean v), σ.2)) Q) : sy_E shM mX12_roundsOf (35, [some (.ref 0), some (.ref k), some (.int n), some (.int i)], [.int v, .int i, .ref 6], σ) Q := by
  refine sy_bk [(.bastore, 0, 0, 0, 0), (.iinc 3 1, 0, 0, 1, 0), (.goto (-23), 0, 16, 0, 0)] (16, [some (.ref 0), some (.ref k), some (.int n), some (.int (i + 1))], [], (sy_up σ.1 6 i.toNatClampNeg (vp_nar .boolean v), σ.2)) [sy_okA shM 1 6 i] (by decide +kernel) rfl ⟨⟨16, _, rfl, b1⟩, trivial⟩ ?_
  exact k1

set_option maxRecDepth 20000 in
theorem w_m_rounds_44 {Q : Option Value → sy_S → Prop} {σ : sy_S} {k : Nat} {n : Int32} {i : Int32} (hk : shM[k]? = some (0, 16, [])) (b1 : ¬ (((σ.1 0 0) * (σ.1 0 1)) ≤ i) → vp_in i 16) (k1 : ((σ.1 0 0) * (σ.1 0 1)) ≤ i → sy_E shM mX12_roundsOf (6, [some (.ref 0), some (.ref k), some (.int (n + 1)), none], [], σ) Q) (k2 : ¬ (((σ.1 0 0) * (σ.1 0 1)) ≤ i) → (σ.1 6 i.toNatClampNeg) = 0 → sy_E shM mX12_roundsOf (44, [some (.ref 0), some (.ref k), some (.int n), some (.int (i + 1))], [], σ) Q) (k3 : ¬ (((σ.1 0 0) * (σ.1 0 1)) ≤ i) → ¬ ((σ.1 6 i.toNatClampNeg) = 0) → sy_E shM mX12_topples (0, sy_ent [.ref 0, .ref k, .int i, .int 1] 5, [], σ) (fun r9 σ9 => sy_E shM mX12_roundsOf (68, [some (.ref 0), some (.ref k), some (.int n), some (.int i)], r9.toList ++ [], σ9) Q)) : sy_E shM mX12_roundsOf (44, [some (.ref 0), some (.ref k), some (.int n), some (.int i)], [], σ) Q := by
  refine sy_bk [(.iload_n 3, 0, 0, 0, 0), (.aload_n 0, 0, 0, 0, 0)] (46, [some (.ref 0), some (.ref k), some (.int n), some (.int i)], [.ref 0, .int i], σ) [] (by decide +kernel) rfl trivial ?_
  refine sy_callV mX12_cells 0 [] [.int i] kX12_cells jX12_105 (by decide +kernel) rfl rfl (Nat.le_of_ble_eq_true rfl) (Nat.le_of_ble_eq_true rfl) (by decide) rfl ?_
  refine w_m_cells (σ := σ) ?_
  show sy_E shM mX12_roundsOf (49, [some (.ref 0), some (.ref k), some (.int n), some (.int i)], [.int ((σ.1 0 0) * (σ.1 0 1)), .int i], σ) _
  by_cases c1 : ((σ.1 0 0) * (σ.1 0 1)) ≤ i
  · refine sy_bk [(.if_icmp .ge 25, 1, 74, 0, 0)] (74, [some (.ref 0), some (.ref k), some (.int n), some (.int i)], [], σ) [sy_cc .ge i ((σ.1 0 0) * (σ.1 0 1))] (by decide +kernel) rfl ⟨c1, trivial⟩ ?_
    refine sy_bk [(.iinc 2 1, 0, 0, 1, 0), (.goto (-71), 0, 6, 0, 0)] (6, [some (.ref 0), some (.ref k), some (.int (n + 1)), some (.int i)], [], σ) [] (by decide +kernel) rfl trivial ?_
    refine sy_drop [some (.ref 0), some (.ref k), some (.int (n + 1)), none] ⟨rfl, rfl, rfl, trivial⟩ ?_
    exact k1 c1
  · refine sy_bk [(.if_icmp .ge 25, 0, 74, 0, 0)] (52, [some (.ref 0), some (.ref k), some (.int n), some (.int i)], [], σ) [¬ sy_cc .ge i ((σ.1 0 0) * (σ.1 0 1))] (by decide +kernel) rfl ⟨c1, trivial⟩ ?_
    refine sy_bk [(.aload_n 0, 0, 0, 0, 0), (.getfield 35, 12, 8, 0, 0), (.iload_n 3, 0, 0, 0, 0), (.baload, 0, 0, 0, 0)] (58, [some (.ref 0), some (.ref k), some (.int n), some (.int i)], [.int (σ.1 6 i.toNatClampNeg)], σ) [sy_okA shM 1 6 i] (by decide +kernel) rfl ⟨⟨16, _, rfl, (b1 c1)⟩, trivial⟩ ?_
    by_cases c2 : (σ.1 6 i.toNatClampNeg) = 0
    · refine sy_bk [(.ifCond .eq 10, 1, 68, 0, 0)] (68, [some (.ref 0), some (.ref k), some (.int n), some (.int i)], [], σ) [sy_cc .eq (σ.1 6 i.toNatClampNeg) 0] (by decide +kernel) rfl ⟨c2, trivial⟩ ?_
      refine sy_bk [(.iinc 3 1, 0, 0, 1, 0), (.goto (-27), 0, 44, 0, 0)] (44, [some (.ref 0), some (.ref k), some (.int n), some (.int (i + 1))], [], σ) [] (by decide +kernel) rfl trivial ?_
      exact k2 c1 c2
    · refine sy_bk [(.ifCond .eq 10, 0, 68, 0, 0)] (61, [some (.ref 0), some (.ref k), some (.int n), some (.int i)], [], σ) [¬ sy_cc .eq (σ.1 6 i.toNatClampNeg) 0] (by decide +kernel) rfl ⟨c2, trivial⟩ ?_
      refine sy_bk [(.aload_n 0, 0, 0, 0, 0), (.aload_n 1, 0, 0, 0, 0), (.iload_n 3, 0, 0, 0, 0), (.iconst 1, 0, 0, 1, 0)] (65, [some (.ref 0), some (.ref k), some (.int n), some (.int i)], [.int 1, .int i, .ref k, .ref 0], σ) [] (by decide +kernel) rfl trivial ?_
      refine sy_callV mX12_topples 0 [.ref k, .int i, .int 1] [] kX12_topples jX12_131 (by decide +kernel) rfl rfl (Nat.le_of_ble_eq_true rfl) (Nat.le_of_ble_eq_true rfl) (by decide) rfl ?_
      exact k3 c1 c2

set_option maxRecDepth 20000 in
theorem w_m_rounds_68 {Q : Option Value → sy_S → Prop} {σ : sy_S} {k : Nat} {n : Int32} {i : Int32} (hk : shM[k]? = some (0, 16, []))  (k1 : sy_E shM mX12_roundsOf (44, [some (.ref 0), some (.ref k), some (.int n), some (.int (i + 1))], [], σ) Q) : sy_E shM mX12_roundsOf (68, [some (.ref 0), some (.ref k), some (.int n), some (.int i)], [], σ) Q := by
  refine sy_bk [(.iinc 3 1, 0, 0, 1, 0), (.goto (-27), 0, 44, 0, 0)] (44, [some (.ref 0), some (.ref k), some (.int n), some (.int (i + 1))], [], σ) [] (by decide +kernel) rfl trivial ?_
  exact k1

set_option maxRecDepth 20000 in
theorem w_m_toppled_0 {Q : Option Value → sy_S → Prop} {σ : sy_S}    (k1 : sy_E shM mX12_toppled (4, [some (.ref 0), some (.int 0), some (.int 0)], [], σ) Q) : sy_E shM mX12_toppled (0, sy_ent [.ref 0] 3, [], σ) Q := by
  show sy_E shM mX12_toppled (0, [some (.ref 0), none, none], [], σ) _
  refine sy_bk [(.iconst 0, 0, 0, 0, 0), (.istore_n 1, 0, 0, 0, 0), (.iconst 0, 0, 0, 0, 0), (.istore_n 2, 0, 0, 0, 0)] (4, [some (.ref 0), some (.int 0), some (.int 0)], [], σ) [] (by decide +kernel) rfl trivial ?_
  exact k1

set_option maxRecDepth 20000 in
theorem w_m_toppled_4 {Q : Option Value → sy_S → Prop} {σ : sy_S} {s : Int32} {i : Int32}  (b1 : ¬ (((σ.1 0 0) * (σ.1 0 1)) ≤ i) → vp_in i 16) (k1 : ((σ.1 0 0) * (σ.1 0 1)) ≤ i → Q (some (.int s)) σ) (k2 : ¬ (((σ.1 0 0) * (σ.1 0 1)) ≤ i) → (σ.1 5 i.toNatClampNeg) ≤ 0 → sy_E shM mX12_toppled (4, [some (.ref 0), some (.int (s ||| 0)), some (.int (i + 1))], [], σ) Q) (k3 : ¬ (((σ.1 0 0) * (σ.1 0 1)) ≤ i) → ¬ ((σ.1 5 i.toNatClampNeg) ≤ 0) → sy_E shM mX12_toppled (4, [some (.ref 0), some (.int (s ||| (1 <<< (i &&& 31)))), some (.int (i + 1))], [], σ) Q) : sy_E shM mX12_toppled (4, [some (.ref 0), some (.int s), some (.int i)], [], σ) Q := by
  refine sy_bk [(.iload_n 2, 0, 0, 0, 0), (.aload_n 0, 0, 0, 0, 0)] (6, [some (.ref 0), some (.int s), some (.int i)], [.ref 0, .int i], σ) [] (by decide +kernel) rfl trivial ?_
  refine sy_callV mX12_cells 0 [] [.int i] kX12_cells jX12_105 (by decide +kernel) rfl rfl (Nat.le_of_ble_eq_true rfl) (Nat.le_of_ble_eq_true rfl) (by decide) rfl ?_
  refine w_m_cells (σ := σ) ?_
  show sy_E shM mX12_toppled (9, [some (.ref 0), some (.int s), some (.int i)], [.int ((σ.1 0 0) * (σ.1 0 1)), .int i], σ) _
  by_cases c1 : ((σ.1 0 0) * (σ.1 0 1)) ≤ i
  · refine sy_bk [(.if_icmp .ge 28, 1, 37, 0, 0)] (37, [some (.ref 0), some (.int s), some (.int i)], [], σ) [sy_cc .ge i ((σ.1 0 0) * (σ.1 0 1))] (by decide +kernel) rfl ⟨c1, trivial⟩ ?_
    refine sy_bk [(.iload_n 1, 0, 0, 0, 0)] (38, [some (.ref 0), some (.int s), some (.int i)], [.int s], σ) [] (by decide +kernel) rfl trivial ?_
    exact sy_reti rfl (by decide +kernel) (k1 c1)
  · refine sy_bk [(.if_icmp .ge 28, 0, 37, 0, 0)] (12, [some (.ref 0), some (.int s), some (.int i)], [], σ) [¬ sy_cc .ge i ((σ.1 0 0) * (σ.1 0 1))] (by decide +kernel) rfl ⟨c1, trivial⟩ ?_
    refine sy_bk [(.iload_n 1, 0, 0, 0, 0), (.aload_n 0, 0, 0, 0, 0), (.getfield 32, 12, 6, 0, 0), (.iload_n 2, 0, 0, 0, 0), (.iaload, 0, 0, 0, 0)] (19, [some (.ref 0), some (.int s), some (.int i)], [.int (σ.1 5 i.toNatClampNeg), .int s], σ) [sy_okA shM 0 5 i] (by decide +kernel) rfl ⟨⟨16, _, rfl, (b1 c1)⟩, trivial⟩ ?_
    by_cases c2 : (σ.1 5 i.toNatClampNeg) ≤ 0
    · refine sy_bk [(.ifCond .le 9, 1, 28, 0, 0)] (28, [some (.ref 0), some (.int s), some (.int i)], [.int s], σ) [sy_cc .le (σ.1 5 i.toNatClampNeg) 0] (by decide +kernel) rfl ⟨c2, trivial⟩ ?_
      refine sy_bk [(.iconst 0, 0, 0, 0, 0), (.ior, 0, 0, 0, 0), (.istore_n 1, 0, 0, 0, 0), (.iinc 2 1, 0, 0, 1, 0), (.goto (-30), 0, 4, 0, 0)] (4, [some (.ref 0), some (.int (s ||| 0)), some (.int (i + 1))], [], σ) [] (by decide +kernel) rfl trivial ?_
      exact k2 c1 c2
    · refine sy_bk [(.ifCond .le 9, 0, 28, 0, 0)] (22, [some (.ref 0), some (.int s), some (.int i)], [.int s], σ) [¬ sy_cc .le (σ.1 5 i.toNatClampNeg) 0] (by decide +kernel) rfl ⟨c2, trivial⟩ ?_
      refine sy_bk [(.iconst 1, 0, 0, 1, 0), (.iload_n 2, 0, 0, 0, 0), (.ishl, 0, 0, 0, 0), (.goto 4, 0, 29, 0, 0), (.ior, 0, 0, 0, 0), (.istore_n 1, 0, 0, 0, 0), (.iinc 2 1, 0, 0, 1, 0), (.goto (-30), 0, 4, 0, 0)] (4, [some (.ref 0), some (.int (s ||| (1 <<< (i &&& 31)))), some (.int (i + 1))], [], σ) [] (by decide +kernel) rfl trivial ?_
      exact k3 c1 c2

set_option maxRecDepth 20000 in
theorem w_m_grains_0 {Q : Option Value → sy_S → Prop} {σ : sy_S} {k : Nat} (hk : shM[k]? = some (0, 16, []))  (k1 : sy_E shM mX12_grains (4, [some (.ref 0), some (.ref k), some (.int 0), some (.int 0)], [], σ) Q) : sy_E shM mX12_grains (0, sy_ent [.ref 0, .ref k] 4, [], σ) Q := by
  show sy_E shM mX12_grains (0, [some (.ref 0), some (.ref k), none, none], [], σ) _
  refine sy_bk [(.iconst 0, 0, 0, 0, 0), (.istore_n 2, 0, 0, 0, 0), (.iconst 0, 0, 0, 0, 0), (.istore_n 3, 0, 0, 0, 0)] (4, [some (.ref 0), some (.ref k), some (.int 0), some (.int 0)], [], σ) [] (by decide +kernel) rfl trivial ?_
  exact k1

set_option maxRecDepth 20000 in
theorem w_m_grains_4 {Q : Option Value → sy_S → Prop} {σ : sy_S} {k : Nat} {s : Int32} {i : Int32} (hk : shM[k]? = some (0, 16, [])) (b1 : ¬ (((σ.1 0 0) * (σ.1 0 1)) ≤ i) → vp_in i 16) (k1 : ((σ.1 0 0) * (σ.1 0 1)) ≤ i → Q (some (.int s)) σ) (k2 : ¬ (((σ.1 0 0) * (σ.1 0 1)) ≤ i) → (σ.1 1 i.toNatClampNeg) = 0 → sy_E shM mX12_grains (4, [some (.ref 0), some (.ref k), some (.int (s + (σ.1 k i.toNatClampNeg))), some (.int (i + 1))], [], σ) Q) (k3 : ¬ (((σ.1 0 0) * (σ.1 0 1)) ≤ i) → ¬ ((σ.1 1 i.toNatClampNeg) = 0) → sy_E shM mX12_grains (4, [some (.ref 0), some (.ref k), some (.int (s + 0)), some (.int (i + 1))], [], σ) Q) : sy_E shM mX12_grains (4, [some (.ref 0), some (.ref k), some (.int s), some (.int i)], [], σ) Q := by
  refine sy_bk [(.iload_n 3, 0, 0, 0, 0), (.aload_n 0, 0, 0, 0, 0)] (6, [some (.ref 0), some (.ref k), some (.int s), some (.int i)], [.ref 0, .int i], σ) [] (by decide +kernel) rfl trivial ?_
  refine sy_callV mX12_cells 0 [] [.int i] kX12_cells jX12_105 (by decide +kernel) rfl rfl (Nat.le_of_ble_eq_true rfl) (Nat.le_of_ble_eq_true rfl) (by decide) rfl ?_
  refine w_m_cells (σ := σ) ?_
  show sy_E shM mX12_grains (9, [some (.ref 0), some (.ref k), some (.int s), some (.int i)], [.int ((σ.1 0 0) * (σ.1 0 1)), .int i], σ) _
  by_cases c1 : ((σ.1 0 0) * (σ.1 0 1)) ≤ i
  · refine sy_bk [(.if_icmp .ge 28, 1, 37, 0, 0)] (37, [some (.ref 0), some (.ref k), some (.int s), some (.int i)], [], σ) [sy_cc .ge i ((σ.1 0 0) * (σ.1 0 1))] (by decide +kernel) rfl ⟨c1, trivial⟩ ?_
    refine sy_bk [(.iload_n 2, 0, 0, 0, 0)] (38, [some (.ref 0), some (.ref k), some (.int s), some (.int i)], [.int s], σ) [] (by decide +kernel) rfl trivial ?_
    exact sy_reti rfl (by decide +kernel) (k1 c1)
  · refine sy_bk [(.if_icmp .ge 28, 0, 37, 0, 0)] (12, [some (.ref 0), some (.ref k), some (.int s), some (.int i)], [], σ) [¬ sy_cc .ge i ((σ.1 0 0) * (σ.1 0 1))] (by decide +kernel) rfl ⟨c1, trivial⟩ ?_
    refine sy_bk [(.iload_n 2, 0, 0, 0, 0), (.aload_n 0, 0, 0, 0, 0), (.getfield 18, 12, 2, 0, 0), (.iload_n 3, 0, 0, 0, 0), (.baload, 0, 0, 0, 0)] (19, [some (.ref 0), some (.ref k), some (.int s), some (.int i)], [.int (σ.1 1 i.toNatClampNeg), .int s], σ) [sy_okA shM 1 1 i] (by decide +kernel) rfl ⟨⟨16, _, rfl, (b1 c1)⟩, trivial⟩ ?_
    by_cases c2 : (σ.1 1 i.toNatClampNeg) = 0
    · refine sy_bk [(.ifCond .eq 7, 1, 26, 0, 0)] (26, [some (.ref 0), some (.ref k), some (.int s), some (.int i)], [.int s], σ) [sy_cc .eq (σ.1 1 i.toNatClampNeg) 0] (by decide +kernel) rfl ⟨c2, trivial⟩ ?_
      refine sy_bk [(.aload_n 1, 0, 0, 0, 0), (.iload_n 3, 0, 0, 0, 0), (.iaload, 0, 0, 0, 0), (.iadd, 0, 0, 0, 0), (.istore_n 2, 0, 0, 0, 0), (.iinc 3 1, 0, 0, 1, 0), (.goto (-30), 0, 4, 0, 0)] (4, [some (.ref 0), some (.ref k), some (.int (s + (σ.1 k i.toNatClampNeg))), some (.int (i + 1))], [], σ) [sy_okA shM 0 k i] (by decide +kernel) rfl ⟨⟨16, _, hk, (b1 c1)⟩, trivial⟩ ?_
      exact k2 c1 c2
    · refine sy_bk [(.ifCond .eq 7, 0, 26, 0, 0)] (22, [some (.ref 0), some (.ref k), some (.int s), some (.int i)], [.int s], σ) [¬ sy_cc .eq (σ.1 1 i.toNatClampNeg) 0] (by decide +kernel) rfl ⟨c2, trivial⟩ ?_
      refine sy_bk [(.iconst 0, 0, 0, 0, 0), (.goto 6, 0, 29, 0, 0), (.iadd, 0, 0, 0, 0), (.istore_n 2, 0, 0, 0, 0), (.iinc 3 1, 0, 0, 1, 0), (.goto (-30), 0, 4, 0, 0)] (4, [some (.ref 0), some (.ref k), some (.int (s + 0)), some (.int (i + 1))], [], σ) [] (by decide +kernel) rfl trivial ?_
      exact k3 c1 c2
