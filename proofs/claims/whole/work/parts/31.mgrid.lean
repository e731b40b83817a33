/-! the model's grid: contracts of isPlace, link, links -/
theorem sm_i64 (x : Int32) : x.toInt64.toInt = x.toInt := Int32.toInt_toInt64 x
theorem sm_lit {lo hi : Int64} {x : Int32} : (lo ≤ x.toInt64 ∧ x.toInt64 ≤ hi) ↔ (lo.toInt ≤ x.toInt ∧ x.toInt ≤ hi.toInt) := by
  rw [sy_l_le, sy_l_le, sm_i64]
theorem sm_nI {x : Int32} {m : Nat} (h0 : x.toInt = (m : Int)) : x = nI m := by
  rw [sy_ti h0]; rfl
theorem sm_in {x : Int32} {n : Nat} (h : n < 2 ^ 30) : (0 ≤ x.toInt64 ∧ x.toInt64 ≤ (nI n - 1).toInt64) ↔ ∃ m, m < n ∧ x = nI m := by
  rw [sm_lit, sm_i64, nI_lit1, pk_sub_toInt h (by decide), show (0 : Int64).toInt = 0 from rfl]
  constructor
  · rintro ⟨h1, h2⟩
    exact ⟨x.toInt.toNat, by omega, sm_nI (by omega)⟩
  · rintro ⟨m, hm, rfl⟩
    rw [nI_toInt (by omega)]
    omega
def gm_w (G : sg_G) (f : Nat → Nat → Int32) : Prop := f 0 0 = nI G.1 ∧ f 0 1 = nI G.2.1 ∧ ∀ k, k < sg_n G → f 1 k = if G.2.2 k then 1 else 0
def gm_k (G : sg_G) (f : Nat → Nat → Int32) (m : Nat) : Prop := (∀ k, k < m → f 4 k = nI (sg_nb G k).length) ∧ ∀ k, k < m → ∀ j o, (sg_nb G k)[j]? = some o → f 3 (4 * k + j) = nI o
def gm (G : sg_G) (f : Nat → Nat → Int32) : Prop := sg_ok G ∧ gm_w G f ∧ gm_k G f (sg_n G)
/-- σ' is σ but for the cells of l and the slots of fs in the object -/
def sm (l fs : List Nat) (σ σ' : sy_S) : Prop := (∀ q, q ≠ 0 → q ∉ l → σ'.1 q = σ.1 q) ∧ (∀ j, j ∉ fs → σ'.1 0 j = σ.1 0 j) ∧ σ'.2 = σ.2
theorem sm.rf {l fs : List Nat} {σ : sy_S} : sm l fs σ σ := ⟨fun _ _ _ => rfl, fun _ _ => rfl, rfl⟩
theorem sm.tr {l fs : List Nat} {σ σ' σ'' : sy_S} (a : sm l fs σ σ') (b : sm l fs σ' σ'') : sm l fs σ σ'' := ⟨fun q h h' => (b.1 q h h').trans (a.1 q h h'), fun j h => (b.2.1 j h).trans (a.2.1 j h), b.2.2.trans a.2.2⟩
theorem sm.mono {l fs l' fs' : List Nat} {σ σ' : sy_S} (a : sm l fs σ σ') (h : ∀ q, q ∈ l → q ∈ l') (h' : ∀ q, q ∈ fs → q ∈ fs') : sm l' fs' σ σ' := ⟨fun q hq hq' => a.1 q hq (fun z => hq' (h q z)), fun j hj => a.2.1 j (fun z => hj (h' j z)), a.2.2⟩
theorem sm.up {l fs : List Nat} {σ : sy_S} {k i : Nat} {x : Int32} (h : k ∈ l) (h0 : k ≠ 0) : sm l fs σ (sy_up σ.1 k i x, σ.2) := ⟨fun q _ hq => sy_up_ne _ _ _ (fun e => hq (e ▸ h)), fun j _ => by show sy_up σ.1 k i x 0 j = _; rw [sy_up_ne _ _ _ (Ne.symm h0)], rfl⟩
theorem sm.fu {l fs : List Nat} {σ : sy_S} {i : Nat} {x : Int32} (h : i ∈ fs) : sm l fs σ (sy_up σ.1 0 i x, σ.2) := ⟨fun q hq _ => sy_up_ne _ _ _ hq, fun j hj => by show sy_up σ.1 0 i x 0 j = _; rw [sy_up2, if_neg (fun (q : 0 = 0 ∧ j = i) => hj (by rw [q.2]; exact h))], rfl⟩
theorem sm.gm {l fs : List Nat} {σ σ' : sy_S} {G : sg_G} (a : sm l fs σ σ') (h : gm G σ.1) (hl : 1 ∉ l ∧ 3 ∉ l ∧ 4 ∉ l) (hf : 0 ∉ fs ∧ 1 ∉ fs) : gm G σ'.1 := by
  obtain ⟨h1, ⟨h2, h3, h4⟩, h5, h6⟩ := h
  refine ⟨h1, ⟨?_, ?_, fun k hk => ?_⟩, fun k hk => ?_, fun k hk j o hj => ?_⟩
  · rw [a.2.1 0 hf.1]; exact h2
  · rw [a.2.1 1 hf.2]; exact h3
  · rw [a.1 1 (by decide) hl.1]; exact h4 k hk
  · rw [a.1 4 (by decide) hl.2.2]; exact h5 k hk
  · rw [a.1 3 (by decide) hl.2.1]; exact h6 k hk j o hj
theorem gm_cells {G : sg_G} {f : Nat → Nat → Int32} (h : gm_w G f) : f 0 0 * f 0 1 = nI (sg_n G) := by rw [h.1, h.2.1, pk_mul]; rfl
theorem e_m_isPlace {Q : Option Value → sy_S → Prop} {σ : sy_S} {G : sg_G} {cell : Int32} (hg : gm G σ.1) (k1 : ∀ m, cell = nI m → sg_p G m → Q (some (.int 1)) σ) (k0 : (∀ m, m < 16 → cell = nI m → ¬ sg_p G m) → Q (some (.int 0)) σ) : sy_E shM mX12_isPlace (0, sy_ent [.ref 0, .int cell] 2, [], σ) Q := by
  have h16 := sg_n16 hg.1
  have e1 := gm_cells hg.2.1
  refine w_m_isPlace (fun a => ?_) (fun a c => ?_) (fun a c => ?_) (fun a => k0 (fun m hm e hp => ?_))
  · rw [e1, sm_in (by omega)] at a
    obtain ⟨m, hm, rfl⟩ := a
    exact vp_in_nI (by omega) (by decide)
  · rw [e1, sm_in (by omega)] at a
    obtain ⟨m, hm, rfl⟩ := a
    rw [nI_clamp (by omega), hg.2.1.2.2 m hm] at c
    refine k0 (fun m' hm' e hp => ?_)
    have e := (nI_eq (by omega) (by omega)).mp e
    subst e
    rw [hp.2] at c
    exact c rfl
  · rw [e1, sm_in (by omega)] at a
    obtain ⟨m, hm, rfl⟩ := a
    rw [nI_clamp (by omega), hg.2.1.2.2 m hm] at c
    refine k1 m rfl ⟨hm, ?_⟩
    cases h : G.2.2 m <;> simp_all
  · rw [e1, sm_in (by omega)] at a
    exact a ⟨m, hp.1, e⟩
def gm_lc (f0 f : Nat → Nat → Int32) (m : Nat) (l : List Nat) : Prop := (∀ q, q ≠ 3 → q ≠ 4 → f q = f0 q) ∧ (∀ k, k ≠ m → f 4 k = f0 4 k) ∧ (∀ i, (i < 4 * m ∨ 4 * m + 4 ≤ i) → f 3 i = f0 3 i) ∧ f 4 m = nI l.length ∧ ∀ j o, l[j]? = some o → f 3 (4 * m + j) = nI o
theorem e_m_link_in {Q : Option Value → sy_S → Prop} {σ : sy_S} {G : sg_G} {f0 : Nat → Nat → Int32} {m r c : Nat} {l : List Nat} (hG : sg_ok G) (hw : gm_w G f0) (hm : m < 16) (hr : r < G.1) (hc : c < G.2.1) (hl : l.length < 4) (hlc : gm_lc f0 σ.1 m l) (k : ∀ σ' : sy_S, gm_lc f0 σ'.1 m (l ++ sg_if G true (G.2.1 * r + c)) → σ'.2 = σ.2 → Q none σ') : sy_E shM mX12_link (0, sy_ent [.ref 0, .int (nI m), .int (nI r), .int (nI c)] 4, [], σ) Q := by
  have h16 := sg_n16 hG
  obtain ⟨r1, r4, c1, c4⟩ := id hG
  have em : (nI m).toNatClampNeg = m := nI_clamp (by omega)
  obtain ⟨h1, h2, h3, h4, h5⟩ := hlc
  have e0 : σ.1 0 = f0 0 := h1 0 (by decide) (by decide)
  have e1 : σ.1 1 = f0 1 := h1 1 (by decide) (by decide)
  obtain ⟨o, ho⟩ : ∃ o, o = G.2.1 * r + c := ⟨_, rfl⟩
  have hon : o < sg_n G := by
    have h9 : G.2.1 * (r + 1) ≤ G.2.1 * G.1 := Nat.mul_le_mul_left _ hr
    rw [Nat.mul_add] at h9
    unfold sg_n
    rw [Nat.mul_comm]
    omega
  have eo : σ.1 0 1 * nI r + nI c = nI o := by rw [e0, hw.2.1, pk_mul, nI_add, ho]
  have eo2 : (nI o).toNatClampNeg = o := nI_clamp (by omega)
  have ei : 4 * nI m + σ.1 4 m = nI (4 * m + l.length) := by rw [h4, nI_lit4, pk_mul, nI_add]
  rw [← ho] at k
  refine w_m_link (fun _ _ => ?_) (fun _ _ _ => vp_in_nI hm (by decide)) (fun _ _ _ => ?_) (fun _ _ q => ?_) (fun _ _ q => ?_) (fun _ q => ?_) (fun q => ?_)
  · rw [eo]; exact vp_in_nI (by omega) (by decide)
  · rw [em, ei]; exact vp_in_nI (by omega) (by decide)
  · rw [eo, eo2, e1, hw.2.2 o hon] at q
    have hwo : G.2.2 o = true := by cases h : G.2.2 o <;> simp_all
    refine k σ ?_ rfl
    rw [show sg_if G true o = [] by simp [sg_if, hwo], List.append_nil]
    exact ⟨h1, h2, h3, h4, h5⟩
  · rw [eo, eo2, e1, hw.2.2 o hon] at q
    have hwo : G.2.2 o = false := by cases h : G.2.2 o <;> simp_all
    refine k _ ?_ rfl
    rw [em, ei, eo, nI_clamp (show 4 * m + l.length < 2 ^ 31 by omega), show sg_if G true o = [o] by simp [sg_if, hwo]]
    refine ⟨fun q h4q h5q => ?_, fun j hj => ?_, fun i hi => ?_, ?_, fun j o' hj => ?_⟩
    · show sy_up (sy_up σ.1 3 (4 * m + l.length) (nI o)) 4 m (σ.1 4 m + 1) q = f0 q
      rw [sy_up_ne _ _ _ h5q, sy_up_ne _ _ _ h4q]
      exact h1 q h4q h5q
    · show sy_up (sy_up σ.1 3 (4 * m + l.length) (nI o)) 4 m (σ.1 4 m + 1) 4 j = f0 4 j
      rw [sy_up2, if_neg (by omega), sy_up2, if_neg (by omega)]
      exact h2 j hj
    · show sy_up (sy_up σ.1 3 (4 * m + l.length) (nI o)) 4 m (σ.1 4 m + 1) 3 i = f0 3 i
      rw [sy_up2, if_neg (by omega), sy_up2, if_neg (by omega)]
      exact h3 i hi
    · show sy_up (sy_up σ.1 3 (4 * m + l.length) (nI o)) 4 m (σ.1 4 m + 1) 4 m = nI (l ++ [o]).length
      rw [sy_up2, if_pos ⟨rfl, rfl⟩, h4, nI_1, List.length_append, List.length_singleton]
    · show sy_up (sy_up σ.1 3 (4 * m + l.length) (nI o)) 4 m (σ.1 4 m + 1) 3 (4 * m + j) = nI o'
      rw [sy_up2, if_neg (by omega), sy_up2]
      rw [List.getElem?_append] at hj
      split at hj
      · rename_i hlt
        rw [if_neg (by omega)]
        exact h5 j o' hj
      · rename_i hge
        have hz : j - l.length = 0 := by
          rcases Nat.eq_zero_or_pos (j - l.length) with q | q
          · exact q
          · rw [List.getElem?_eq_none (by simp only [List.length_singleton]; omega)] at hj; cases hj
        rw [hz] at hj
        cases hj
        rw [if_pos ⟨rfl, by omega⟩]
  · rw [e0, hw.2.1, sm_in (by omega)] at q
    exact absurd ⟨c, hc, rfl⟩ q
  · rw [e0, hw.1, sm_in (by omega)] at q
    exact absurd ⟨r, hr, rfl⟩ q
theorem e_m_link_out {Q : Option Value → sy_S → Prop} {σ : sy_S} {G : sg_G} {f0 : Nat → Nat → Int32} {m : Nat} {row col : Int32} {l : List Nat} (hG : sg_ok G) (hw : gm_w G f0) (hlc : gm_lc f0 σ.1 m l) (hout : (∀ r, r < G.1 → row ≠ nI r) ∨ ∀ c, c < G.2.1 → col ≠ nI c) (k : Q none σ) : sy_E shM mX12_link (0, sy_ent [.ref 0, .int (nI m), .int row, .int col] 4, [], σ) Q := by
  obtain ⟨r1, r4, c1, c4⟩ := id hG
  have e0 : σ.1 0 = f0 0 := hlc.1 0 (by decide) (by decide)
  have hno : ∀ {A : Prop}, (0 ≤ row.toInt64 ∧ row.toInt64 ≤ (σ.1 0 0 - 1).toInt64) → (0 ≤ col.toInt64 ∧ col.toInt64 ≤ (σ.1 0 1 - 1).toInt64) → A := by
    intro A a b
    rw [e0, hw.1, sm_in (by omega)] at a
    rw [e0, hw.2.1, sm_in (by omega)] at b
    obtain ⟨r, hr, hr'⟩ := a
    obtain ⟨c, hc, hc'⟩ := b
    rcases hout with h | h
    · exact absurd hr' (h r hr)
    · exact absurd hc' (h c hc)
  exact w_m_link (fun a b => hno a b) (fun a b _ => hno a b) (fun a b _ => hno a b) (fun a b _ => hno a b) (fun a b _ => hno a b) (fun _ _ => k) (fun _ => k)
theorem nI_m1 {j : Nat} (h : j < 2 ^ 30) : nI 0 - 1 ≠ nI j := by
  intro e
  have := congrArg Int32.toInt e
  rw [nI_toInt (by omega), nI_lit1, pk_sub_toInt (by decide) (by decide)] at this
  omega
/-- what links keeps -/
def gm_lk (G : sg_G) (σ σ' : sy_S) (m : Nat) : Prop := gm_k G σ'.1 m ∧ sm [3, 4] [] σ σ'
theorem e_m_links {Q : Option Value → sy_S → Prop} {σ : sy_S} {G : sg_G} (hG : sg_ok G) (hw : gm_w G σ.1) (k : ∀ σ' : sy_S, gm G σ'.1 → sm [3, 4] [] σ σ' → Q none σ') : sy_E shM mX12_links (0, sy_ent [.ref 0] 2, [], σ) Q := by
  have h16 := sg_n16 hG
  obtain ⟨hr1, hr4, hc1, hc4⟩ := id hG
  have hww : ∀ σ' : sy_S, sm [3, 4] [] σ σ' → gm_w G σ'.1 := fun σ' h => ⟨by rw [h.2.1 0 (by simp)]; exact hw.1, by rw [h.2.1 1 (by simp)]; exact hw.2.1, fun j hj => by rw [h.1 1 (by decide) (by decide)]; exact hw.2.2 j hj⟩
  refine w_m_links_0 ?_
  have hl := sy_loop (sh := shM) (y := mX12_links) (Q := Q) (fun i σ' => (2, [some (.ref 0), some (.int (nI i))], [], σ')) (fun i σ' => gm_lk G σ σ' i) (sg_n G) ?_ ?_ 0 σ (Nat.zero_le _) ⟨⟨fun k hk => absurd hk (Nat.not_lt_zero _), fun k hk => absurd hk (Nat.not_lt_zero _)⟩, sm.rf⟩
  · exact hl
  · rintro m σ' hm ⟨hk, hs⟩ ih
    have w' := hww σ' hs
    have hml : m % G.2.1 < G.2.1 := Nat.mod_lt _ (by omega)
    have hdm : G.2.1 * (m / G.2.1) + m % G.2.1 = m := Nat.div_add_mod m G.2.1
    have hdl : m / G.2.1 < G.1 := Nat.div_lt_of_lt_mul (by unfold sg_n at hm; rw [Nat.mul_comm]; exact hm)
    have em : (nI m).toNatClampNeg = m := nI_clamp (by omega)
    have hC0 : ¬ nI G.2.1 = 0 := nI_ne0 hc1 (by omega)
    have ediv : nI m / nI G.2.1 = nI (m / G.2.1) := pk_div (by omega) (by omega) (by omega)
    have erem : nI m - nI m / nI G.2.1 * nI G.2.1 = nI (m % G.2.1) := pk_rem (by omega) (by omega) (by omega)
    obtain ⟨la, hla⟩ : ∃ l, l = sg_if G (decide (0 < m / G.2.1)) (m - G.2.1) := ⟨_, rfl⟩
    obtain ⟨lb, hlb⟩ : ∃ l, l = sg_if G (decide (0 < m % G.2.1)) (m - 1) := ⟨_, rfl⟩
    obtain ⟨lc, hlc⟩ : ∃ l, l = sg_if G (decide (m % G.2.1 + 1 < G.2.1)) (m + 1) := ⟨_, rfl⟩
    obtain ⟨ld, hld⟩ : ∃ l, l = sg_if G (decide (m / G.2.1 + 1 < G.1)) (m + G.2.1) := ⟨_, rfl⟩
    have hnb : sg_nb G m = ((la ++ lb) ++ lc) ++ ld := by rw [hla, hlb, hlc, hld]; rfl
    have na : la.length ≤ 1 := by rw [hla]; exact sg_if_len _ _ _
    have nb : lb.length ≤ 1 := by rw [hlb]; exact sg_if_len _ _ _
    have nc : lc.length ≤ 1 := by rw [hlc]; exact sg_if_len _ _ _
    have cl : ∀ (f : Nat → Nat → Int32) (l : List Nat), gm_lc σ'.1 f m l → f 0 1 = nI G.2.1 := fun f l h => by rw [h.1 0 (by decide) (by decide)]; exact w'.2.1
    have s93 : ∀ σ2 : sy_S, gm_lc σ'.1 σ2.1 m (((la ++ lb) ++ lc) ++ ld) → σ2.2 = σ'.2 → sy_E shM mX12_links (93, [some (.ref 0), some (.int (nI m))], [], σ2) Q := by
      intro σ2 h h'
      refine w_m_links_93 ?_
      rw [nI_1]
      rw [← hnb] at h
      obtain ⟨l1, l2, l3, l4, l5⟩ := h
      refine ih σ2 ⟨⟨fun j hj => ?_, fun j hj i o ho => ?_⟩, hs.tr ⟨fun q h0 hq => l1 q (fun e => hq (by rw [e]; simp)) (fun e => hq (by rw [e]; simp)), fun j _ => by rw [l1 0 (by decide) (by decide)], h'⟩⟩
      · rcases Nat.lt_or_ge j m with q | q
        · rw [l2 j (by omega)]; exact hk.1 j q
        · have e : j = m := by omega
          subst e; exact l4
      · have hi4 : i < 4 := Nat.lt_of_lt_of_le (List.getElem?_eq_some_iff.mp ho).1 (sg_nb_len G j)
        rcases Nat.lt_or_ge j m with q | q
        · rw [l3 _ (by omega)]; exact hk.2 j q i o ho
        · have e : j = m := by omega
          subst e; exact l5 i o ho
    have s74 : ∀ σ2 : sy_S, gm_lc σ'.1 σ2.1 m ((la ++ lb) ++ lc) → σ2.2 = σ'.2 → sy_E shM mX12_links (74, [some (.ref 0), some (.int (nI m))], [], σ2) Q := by
      intro σ2 h h'
      have ec := cl _ _ h
      refine w_m_links_74 (by rw [ec]; exact hC0) ?_
      rw [ec, erem, ediv, nI_1]
      by_cases q : m / G.2.1 + 1 < G.1
      · refine e_m_link_in hG w' (by omega) q hml (by simp only [List.length_append]; omega) h (fun σ3 g g' => s93 σ3 ?_ (g'.trans h'))
        rw [hld, decide_eq_true q]
        rw [show G.2.1 * (m / G.2.1 + 1) + m % G.2.1 = m + G.2.1 by rw [Nat.mul_add]; omega] at g
        exact g
      · refine e_m_link_out hG w' h (Or.inl (fun r hr e => ?_)) (s93 σ2 ?_ h')
        · have := (nI_eq (by omega) (by omega)).mp e
          omega
        · rw [hld, decide_eq_false q, sg_if_f, List.append_nil]; exact h
    have s55 : ∀ σ2 : sy_S, gm_lc σ'.1 σ2.1 m (la ++ lb) → σ2.2 = σ'.2 → sy_E shM mX12_links (55, [some (.ref 0), some (.int (nI m))], [], σ2) Q := by
      intro σ2 h h'
      have ec := cl _ _ h
      refine w_m_links_55 (by rw [ec]; exact hC0) ?_
      rw [ec, erem, ediv, nI_1]
      by_cases q : m % G.2.1 + 1 < G.2.1
      · refine e_m_link_in hG w' (by omega) hdl q (by simp only [List.length_append]; omega) h (fun σ3 g g' => s74 σ3 ?_ (g'.trans h'))
        rw [hlc, decide_eq_true q]
        rw [show G.2.1 * (m / G.2.1) + (m % G.2.1 + 1) = m + 1 by omega] at g
        exact g
      · refine e_m_link_out hG w' h (Or.inr (fun r hr e => ?_)) (s74 σ2 ?_ h')
        · have := (nI_eq (by omega) (by omega)).mp e
          omega
        · rw [hlc, decide_eq_false q, sg_if_f, List.append_nil]; exact h
    have s36 : ∀ σ2 : sy_S, gm_lc σ'.1 σ2.1 m la → σ2.2 = σ'.2 → sy_E shM mX12_links (36, [some (.ref 0), some (.int (nI m))], [], σ2) Q := by
      intro σ2 h h'
      have ec := cl _ _ h
      refine w_m_links_36 (by rw [ec]; exact hC0) ?_
      rw [ec, erem, ediv]
      by_cases q : 0 < m % G.2.1
      · rw [nI_lit1, pk_sub (show 1 ≤ m % G.2.1 by omega)]
        refine e_m_link_in hG w' (by omega) hdl (by omega) (by omega) h (fun σ3 g g' => s55 σ3 ?_ (g'.trans h'))
        rw [hlb, decide_eq_true q]
        rw [show G.2.1 * (m / G.2.1) + (m % G.2.1 - 1) = m - 1 by omega] at g
        exact g
      · refine e_m_link_out hG w' h (Or.inr (fun r hr e => ?_)) (s55 σ2 ?_ h')
        · rw [show m % G.2.1 = 0 by omega] at e
          exact nI_m1 (by omega) e
        · rw [hlb, decide_eq_false q, sg_if_f, List.append_nil]; exact h
    have h0 : gm_lc σ'.1 (sy_up σ'.1 4 m 0) m [] := by
      refine ⟨fun q h4q h5q => sy_up_ne _ _ _ h5q, fun j hj => ?_, fun i hi => ?_, ?_, fun j o hj => by simp at hj⟩
      · rw [sy_up2, if_neg (by omega)]
      · rw [sy_up2, if_neg (by omega)]
      · rw [sy_up2, if_pos ⟨rfl, rfl⟩]; rfl
    refine w_m_links_2 (fun _ => vp_in_nI (by omega) (by decide)) (fun _ => by rw [w'.2.1]; exact hC0) (fun q => ?_) (fun _ => ?_)
    · rw [gm_cells w'] at q; exact absurd q (nI_ge hm (by omega))
    · rw [em, w'.2.1, erem, ediv]
      by_cases q : 0 < m / G.2.1
      · have hge : G.2.1 * 1 ≤ G.2.1 * (m / G.2.1) := Nat.mul_le_mul_left _ q
        rw [nI_lit1, pk_sub (show 1 ≤ m / G.2.1 by omega)]
        refine e_m_link_in (σ := (sy_up σ'.1 4 m 0, σ'.2)) (l := []) hG w' (by omega) (by omega) hml (by simp) h0 (fun σ3 g g' => s36 σ3 ?_ g')
        rw [hla, decide_eq_true q]
        rw [show G.2.1 * (m / G.2.1 - 1) + m % G.2.1 = m - G.2.1 by rw [Nat.mul_sub]; omega] at g
        exact g
      · refine e_m_link_out (σ := (sy_up σ'.1 4 m 0, σ'.2)) (l := []) hG w' h0 (Or.inl (fun r hr e => ?_)) (s36 _ ?_ rfl)
        · rw [Nat.eq_zero_of_not_pos q] at e
          exact nI_m1 (by omega) e
        · rw [hla, decide_eq_false q, sg_if_f]; exact h0
  · rintro σ' ⟨hk, hs⟩
    have w' := hww σ' hs
    refine w_m_links_2 (fun q => ?_) (fun q => ?_) (fun _ => k σ' ⟨hG, w', hk⟩ hs) (fun q => ?_)
    all_goals exact absurd (by rw [gm_cells w']; exact nI_le (Nat.le_refl _) (by omega)) q
