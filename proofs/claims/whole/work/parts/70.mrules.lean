/-! the model's small questions, by numbers -/
theorem m_rng {x : Int32} {lo hi : Int64} {a b : Nat} (hlo : lo.toInt = a) (hhi : hi.toInt = b) (hb : b < 2 ^ 31) : ((lo ≤ x.toInt64 ∧ x.toInt64 ≤ hi) → ∃ m, px (pR a b) x = some m) ∧ (¬ (lo ≤ x.toInt64 ∧ x.toInt64 ≤ hi) → px (pR a b) x = none) := by
  rw [sm_lit, hlo, hhi]
  refine ⟨fun ⟨h1, h2⟩ => ?_, fun h => px_no (fun m hm hp e => h ?_)⟩
  · have e : x = nI x.toInt.toNat := sm_nI (by omega)
    rw [e]
    exact ⟨_, px_i (by omega) ⟨by omega, by omega⟩⟩
  · subst e
    rw [nI_toInt hm]
    have := hp.1
    have := hp.2
    omega
theorem m_rngL {x : Int32} {lo hi : Int64} {n : Nat} (hlo : lo.toInt = 0) (hhi : hi.toInt = (n : Int) - 1) (hn : n < 2 ^ 31) : ((lo ≤ x.toInt64 ∧ x.toInt64 ≤ hi) → ∃ m, px (fun m => m < n) x = some m) ∧ (¬ (lo ≤ x.toInt64 ∧ x.toInt64 ≤ hi) → px (fun m => m < n) x = none) := by
  rw [sm_lit, hlo, hhi]
  refine ⟨fun ⟨h1, h2⟩ => ?_, fun h => px_no (fun m hm hp e => h ?_)⟩
  · have e : x = nI x.toInt.toNat := sm_nI (by omega)
    rw [e]
    exact ⟨_, px_i (by omega) (show x.toInt.toNat < n by omega)⟩
  · subst e
    rw [nI_toInt hm]
    have hp : m < n := hp
    omega
theorem e_m_isPl {Q : Option Value → sy_S → Prop} {σ : sy_S} {G : sg_G} {cell : Int32} (hg : gm G σ.1) (k1 : ∀ m, px (sg_p G) cell = some m → Q (some (.int 1)) σ) (k0 : px (sg_p G) cell = none → Q (some (.int 0)) σ) : sy_E shM mX12_isPlace (0, sy_ent [.ref 0, .int cell] 2, [], σ) Q := by
  refine e_m_isPlace hg (fun m e hp => k1 m ?_) (fun h => k0 (px_no fun m hm hp e => ?_))
  · subst e
    exact px_i (by have := sg_p16 hg.1 hp; omega) hp
  · exact h m (sg_p16 hg.1 hp) e hp
set_option maxRecDepth 20000 in
theorem w_M_isPile {Q : Option Value → sy_S → Prop} {σ : sy_S} {i : Int32}   (k1 : (0 ≤ i.toInt64 ∧ i.toInt64 ≤ 5) → Q (some (.int 1)) σ) (k2 : (¬ (0 ≤ i.toInt64 ∧ i.toInt64 ≤ 5)) → Q (some (.int 0)) σ) : sy_E shM mX12_isPile (0, sy_ent [.int i] 1, [], σ) Q := by
  show sy_E shM mX12_isPile (0, [some (.int i)], [], σ) _
  refine sy_bk [(.iload_n 0, 0, 0, 0, 0), (.i2l, 0, 0, 0, 0), (.lconst 0, 0, 0, 0, 0), (.ldc2_w 252, 0, 0, 0, 5)] (6, [some (.int i)], [.long 5, .long 0, .long i.toInt64], σ) [] (by decide +kernel) rfl trivial ?_
  refine sy_callS mX12_in [.long i.toInt64, .long 0, .long 5] [] kX12_in jX12_109 (by decide +kernel) rfl rfl (Nat.le_of_ble_eq_true rfl) (Nat.le_of_ble_eq_true rfl) (by decide) ?_
  refine e_m_in (σ := σ) (v := i.toInt64) (lo := 0) (hi := 5) ?_ ?_
  · intro c1
    show sy_E shM mX12_isPile (9, [some (.int i)], [.int 1], σ) _
    exact sy_retz rfl (by decide +kernel) (Or.inr rfl) (k1 c1)
  · intro c2
    show sy_E shM mX12_isPile (9, [some (.int i)], [.int 0], σ) _
    exact sy_retz rfl (by decide +kernel) (Or.inl rfl) (k2 c2)
theorem e_m_isPile {Q : Option Value → sy_S → Prop} {σ : sy_S} {i : Int32} (k1 : ∀ m, px p6 i = some m → Q (some (.int 1)) σ) (k0 : px p6 i = none → Q (some (.int 0)) σ) : sy_E shM mX12_isPile (0, sy_ent [.int i] 1, [], σ) Q := by
  obtain ⟨h1, h2⟩ := m_rngL (x := i) (lo := 0) (hi := 5) (n := 6) rfl rfl (by decide)
  exact w_M_isPile (fun q => (h1 q).elim fun m hm => k1 m hm) (fun q => k0 (h2 q))
set_option maxRecDepth 20000 in
theorem w_M_isList {Q : Option Value → sy_S → Prop} {σ : sy_S} {i : Int32}   (k1 : (0 ≤ i.toInt64 ∧ i.toInt64 ≤ 3) → Q (some (.int 1)) σ) (k2 : (¬ (0 ≤ i.toInt64 ∧ i.toInt64 ≤ 3)) → Q (some (.int 0)) σ) : sy_E shM mX12_isList (0, sy_ent [.int i] 1, [], σ) Q := by
  show sy_E shM mX12_isList (0, [some (.int i)], [], σ) _
  refine sy_bk [(.iload_n 0, 0, 0, 0, 0), (.i2l, 0, 0, 0, 0), (.lconst 0, 0, 0, 0, 0), (.ldc2_w 236, 0, 0, 0, 3)] (6, [some (.int i)], [.long 3, .long 0, .long i.toInt64], σ) [] (by decide +kernel) rfl trivial ?_
  refine sy_callS mX12_in [.long i.toInt64, .long 0, .long 3] [] kX12_in jX12_109 (by decide +kernel) rfl rfl (Nat.le_of_ble_eq_true rfl) (Nat.le_of_ble_eq_true rfl) (by decide) ?_
  refine e_m_in (σ := σ) (v := i.toInt64) (lo := 0) (hi := 3) ?_ ?_
  · intro c1
    show sy_E shM mX12_isList (9, [some (.int i)], [.int 1], σ) _
    exact sy_retz rfl (by decide +kernel) (Or.inr rfl) (k1 c1)
  · intro c2
    show sy_E shM mX12_isList (9, [some (.int i)], [.int 0], σ) _
    exact sy_retz rfl (by decide +kernel) (Or.inl rfl) (k2 c2)
theorem e_m_isList {Q : Option Value → sy_S → Prop} {σ : sy_S} {i : Int32} (k1 : ∀ m, px p4 i = some m → Q (some (.int 1)) σ) (k0 : px p4 i = none → Q (some (.int 0)) σ) : sy_E shM mX12_isList (0, sy_ent [.int i] 1, [], σ) Q := by
  obtain ⟨h1, h2⟩ := m_rngL (x := i) (lo := 0) (hi := 3) (n := 4) rfl rfl (by decide)
  exact w_M_isList (fun q => (h1 q).elim fun m hm => k1 m hm) (fun q => k0 (h2 q))
set_option maxRecDepth 20000 in
theorem w_M_isOrder {Q : Option Value → sy_S → Prop} {σ : sy_S} {i : Int32}   (k1 : (0 ≤ i.toInt64 ∧ i.toInt64 ≤ 3) → Q (some (.int 1)) σ) (k2 : (¬ (0 ≤ i.toInt64 ∧ i.toInt64 ≤ 3)) → Q (some (.int 0)) σ) : sy_E shM mX12_isOrder (0, sy_ent [.int i] 1, [], σ) Q := by
  show sy_E shM mX12_isOrder (0, [some (.int i)], [], σ) _
  refine sy_bk [(.iload_n 0, 0, 0, 0, 0), (.i2l, 0, 0, 0, 0), (.lconst 0, 0, 0, 0, 0), (.ldc2_w 236, 0, 0, 0, 3)] (6, [some (.int i)], [.long 3, .long 0, .long i.toInt64], σ) [] (by decide +kernel) rfl trivial ?_
  refine sy_callS mX12_in [.long i.toInt64, .long 0, .long 3] [] kX12_in jX12_109 (by decide +kernel) rfl rfl (Nat.le_of_ble_eq_true rfl) (Nat.le_of_ble_eq_true rfl) (by decide) ?_
  refine e_m_in (σ := σ) (v := i.toInt64) (lo := 0) (hi := 3) ?_ ?_
  · intro c1
    show sy_E shM mX12_isOrder (9, [some (.int i)], [.int 1], σ) _
    exact sy_retz rfl (by decide +kernel) (Or.inr rfl) (k1 c1)
  · intro c2
    show sy_E shM mX12_isOrder (9, [some (.int i)], [.int 0], σ) _
    exact sy_retz rfl (by decide +kernel) (Or.inl rfl) (k2 c2)
theorem e_m_isOrder {Q : Option Value → sy_S → Prop} {σ : sy_S} {i : Int32} (k1 : ∀ m, px p4 i = some m → Q (some (.int 1)) σ) (k0 : px p4 i = none → Q (some (.int 0)) σ) : sy_E shM mX12_isOrder (0, sy_ent [.int i] 1, [], σ) Q := by
  obtain ⟨h1, h2⟩ := m_rngL (x := i) (lo := 0) (hi := 3) (n := 4) rfl rfl (by decide)
  exact w_M_isOrder (fun q => (h1 q).elim fun m hm => k1 m hm) (fun q => k0 (h2 q))
