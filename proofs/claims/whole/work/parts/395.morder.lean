/-! the model's orders: contracts -/
def mlr (G : sg_G) (H : Nat → Nat) (L : List Nat) (c : Nat) : List Nat := if c ∉ L ∧ rdy G H c = true then L ++ [c] else L
theorem mlr_pm {G : sg_G} {H : Nat → Nat} {m : Nat} (hm : m ≤ sg_n G) (L : List Nat) : (List.range m).foldl (mlr G H) L = (sg_pm G m).foldl (mline H) L := by
  induction m with
  | zero => rfl
  | succ m ih =>
    rw [List.range_succ, sg_pm_s, List.foldl_append, List.foldl_append, ih (by omega)]
    cases hw : G.2.2 m
    · simp only [Bool.false_eq_true, if_false, List.foldl_cons, List.foldl_nil]
      unfold mlr mline
      have e : rdy G H m = true ↔ 3 < H m := by
        rw [rdy_iff]
        exact ⟨fun h => h.2, fun h => ⟨⟨by omega, hw⟩, h⟩⟩
      simp only [e]
    · simp only [if_true, List.foldl_cons, List.foldl_nil]
      unfold mlr
      have e : ¬ rdy G H m = true := by
        rw [rdy_iff]
        exact fun h => by have := h.1.2; rw [hw] at this; cases this
      rw [if_neg (fun h => e h.2)]
theorem pm_find {G : sg_G} {H : Nat → Nat} : ∀ m, m ≤ sg_n G → (∀ j, j < m → rdy G H j = false) → (sg_pm G m).find? (fun c => decide (3 < H c)) = none := by
  intro m hm h
  rw [List.find?_eq_none]
  intro c hc
  unfold sg_pm at hc
  rw [List.mem_filter, List.mem_range] at hc
  have h1 := h c hc.1
  simp only [decide_eq_true_eq]
  intro q
  rw [rdy_iff.mpr ⟨⟨by omega, by simpa using hc.2⟩, q⟩] at h1
  cases h1
theorem pm_first {G : sg_G} {H : Nat → Nat} {i : Nat} (h : ∀ j, j < i → rdy G H j = false) (hi : rdy G H i = true) : (sg_P G).find? (fun c => decide (3 < H c)) = some i := by
  obtain ⟨p1, p2⟩ := rdy_iff.mp hi
  have key : ∀ d, i + 1 + d ≤ sg_n G → (sg_pm G (i + 1 + d)).find? (fun c => decide (3 < H c)) = some i := by
    intro d
    induction d with
    | zero =>
      intro _
      rw [Nat.add_zero, sg_pm_s, p1.2, List.find?_append, pm_find i (by have := p1.1; omega) h]
      simp [p2]
    | succ d ih =>
      intro hd
      rw [← Nat.add_assoc, sg_pm_s, List.find?_append, ih (by omega)]
      rfl
  have := key (sg_n G - (i + 1)) (by have := p1.1; omega)
  rw [show i + 1 + (sg_n G - (i + 1)) = sg_n G by have := p1.1; omega] at this
  exact this
/-- the model's row of an order in the store -/
def qm (G : sg_G) (f : Nat → Nat → Int32) (L : List Nat) : Prop := L.Nodup ∧ (∀ c, c ∈ L → c < sg_n G) ∧ f 0 24 = nI L.length ∧ (∀ j o, L[j]? = some o → f 13 j = nI o) ∧ ∀ c, c < sg_n G → f 14 c = if c ∈ L then 1 else 0
theorem e_m_comes {Q : Option Value → sy_S → Prop} {σ : sy_S} {G : sg_G} {c : Nat} {H : Nat → Nat} {L : List Nat} (hg : gm G σ.1) (hc : c < sg_n G) (hH : ar σ.1 12 H) (hB : H c < 2 ^ 31) (hq : qm G σ.1 L) (kk : ∀ σ' : sy_S, sm [13, 14] [24] σ σ' → qm G σ'.1 (mlr G H L c) → Q none σ') : sy_E shM mX12_comesBehind (0, sy_ent [.ref 0, .ref 12, .int (nI c)] 3, [], σ) Q := by
  have h16 := sg_n16 hg.1
  obtain ⟨q1, q2, q3, q4, q5⟩ := id hq
  have ec : (nI c).toNatClampNeg = c := nI_clamp (by omega)
  have hl := nodup_len (sg_n G) L q1 q2
  refine w_m_comes_0 ?_
  refine e_m_may rfl hg hH hc hB (fun z => ?_) (fun z => ?_)
  · refine w_m_comes_6 (fun _ => vp_in_nI (by omega) (by decide)) (fun _ z2 => ?_) (fun z2 => absurd z2 (by decide)) (fun _ z2 => ?_) (fun _ z2 => ?_)
    · rw [ec, q5 c hc] at z2
      have hn : c ∉ L := fun h => by rw [if_pos h] at z2; exact z2 (by decide)
      have h1 := nodup_len (sg_n G) (c :: L) (List.nodup_cons.mpr ⟨hn, q1⟩) (fun x hx => (List.mem_cons.mp hx).elim (fun e => e ▸ hc) (q2 x))
      rw [List.length_cons] at h1
      rw [q3]
      exact vp_in_nI (by omega) (by decide)
    · rw [ec, q5 c hc] at z2
      have hn : c ∈ L := Classical.byContradiction fun h => by rw [if_neg h] at z2; exact z2 rfl
      refine kk σ sm.rf ?_
      unfold mlr
      rw [if_neg (fun h => h.1 hn)]
      exact hq
    · rw [ec, q5 c hc] at z2
      have hn : c ∉ L := fun h => by rw [if_pos h] at z2; exact z2 (by decide)
      rw [ec, q3, nI_clamp (by omega), nI_1, nar_b1]
      refine kk _ (((sm.up (by simp) (by decide)).tr (σ' := (sy_up σ.1 13 L.length (nI c), σ.2)) (σ'' := (sy_up (sy_up σ.1 13 L.length (nI c)) 0 24 (nI (L.length + 1)), σ.2)) (sm.fu (by simp))).tr (sm.up (by simp) (by decide))) ?_
      unfold mlr
      rw [if_pos ⟨hn, z⟩]
      refine ⟨?_, ?_, ?_, fun j o hj => ?_, fun x hx => ?_⟩
      · rw [List.nodup_append]
        exact ⟨q1, by simp, fun x hx y hy => by rw [List.mem_singleton] at hy; subst hy; exact fun e => hn (e ▸ hx)⟩
      · intro x hx
        rcases List.mem_append.mp hx with h | h
        · exact q2 x h
        · rw [List.mem_singleton] at h; subst h; exact hc
      · show nI (L.length + 1) = _
        rw [List.length_append, List.length_singleton]
      · show sy_up σ.1 13 L.length (nI c) 13 j = nI o
        rw [sy_up2]
        rw [List.getElem?_append] at hj
        split at hj
        · rename_i hlt
          rw [if_neg (by omega)]
          exact q4 j o hj
        · rename_i hge
          have hz : j - L.length = 0 := by
            rcases Nat.eq_zero_or_pos (j - L.length) with q | q
            · exact q
            · rw [List.getElem?_eq_none (by simp only [List.length_singleton]; omega)] at hj; cases hj
          rw [hz] at hj
          cases hj
          rw [if_pos ⟨rfl, by omega⟩]
      · show sy_up σ.1 14 c 1 14 x = _
        rw [sy_up2]
        by_cases e : x = c
        · subst e; simp
        · rw [if_neg (fun q => e q.2), q5 x hx]
          simp [List.mem_append, e]
  · refine w_m_comes_6 (fun z2 => absurd rfl z2) (fun z2 => absurd rfl z2) (fun _ => ?_) (fun z2 => absurd rfl z2) (fun z2 => absurd rfl z2)
    refine kk σ sm.rf ?_
    unfold mlr
    rw [if_neg (fun h => by rw [z] at h; cases h.2)]
    exact hq
theorem e_m_border {Q : Option Value → sy_S → Prop} {σ : sy_S} {G : sg_G} {H : Nat → Nat} (hg : gm G σ.1) (hH : ar σ.1 12 H) (hB : ∀ j, j < 16 → H j < 2 ^ 31) (kk : ∀ σ' : sy_S, sm [13, 14] [24] σ σ' → qm G σ'.1 ((sg_P G).foldl (mline H) []) → Q none σ') : sy_E shM mX12_beginsOrder (0, sy_ent [.ref 0, .ref 12] 3, [], σ) Q := by
  have h16 := sg_n16 hg.1
  have kg : ∀ {σ1 : sy_S}, sm [13, 14] [24] σ σ1 → gm G σ1.1 := fun a => a.gm hg (by decide) (by decide)
  refine w_m_border_0 ?_
  have second : ∀ i σ', i ≤ sg_n G → (sm [13, 14] [24] σ σ' ∧ qm G σ'.1 ((List.range i).foldl (mlr G H) [])) → sy_E shM mX12_beginsOrder (30, [some (.ref 0), some (.ref 12), some (.int (nI i))], [], σ') Q := by
    refine sy_loop (fun i σ' => (30, [some (.ref 0), some (.ref 12), some (.int (nI i))], [], σ')) (fun i σ' => sm [13, 14] [24] σ σ' ∧ qm G σ'.1 ((List.range i).foldl (mlr G H) [])) (sg_n G) ?_ ?_
    · rintro i σ' hi ⟨hs, hq⟩ ih
      have ecl := gm_cells (kg hs).2.1
      refine w_m_border_30 (fun q => ?_) (fun _ => ?_)
      · rw [ecl] at q; exact absurd q (nI_ge hi (by omega))
      · refine e_m_comes (kg hs) hi (fun j hj => by rw [hs.1 12 (by decide) (by decide)]; exact hH j hj) (hB i (by omega)) hq (fun σ2 g1 g2 => w_m_border_44 ?_)
        rw [nI_1]
        refine ih σ2 ⟨hs.tr g1, ?_⟩
        rw [List.range_succ, List.foldl_append]
        exact g2
    · rintro σ' ⟨hs, hq⟩
      have ecl := gm_cells (kg hs).2.1
      rw [mlr_pm (Nat.le_refl _)] at hq
      exact w_m_border_30 (fun _ => kk σ' hs hq) (fun q => absurd (by rw [ecl]; exact nI_le (Nat.le_refl _) (by omega)) q)
  have hl := sy_loop (sh := shM) (y := mX12_beginsOrder) (Q := Q) (fun i σ' => (7, [some (.ref 0), some (.ref 12), some (.int (nI i))], [], σ')) (fun i σ' => sm [13, 14] [24] σ σ' ∧ σ'.1 0 24 = nI 0 ∧ ∀ j, j < i → σ'.1 14 j = 0) (sg_n G) ?_ ?_ 0 (sy_up σ.1 0 24 0, σ.2) (Nat.zero_le _) ⟨sm.fu (by simp), rfl, fun j hj => absurd hj (Nat.not_lt_zero _)⟩
  · exact hl
  · rintro i σ' hi ⟨hs, h24, h14⟩ ih
    have ecl := gm_cells (kg hs).2.1
    have ei : (nI i).toNatClampNeg = i := nI_clamp (by omega)
    refine w_m_border_7 (fun _ => vp_in_nI (by omega) (by decide)) (fun q => ?_) (fun _ => ?_)
    · rw [ecl] at q; exact absurd q (nI_ge hi (by omega))
    · rw [ei, nI_1, nar_b0]
      refine ih _ ⟨hs.tr (sm.up (by simp) (by decide)), h24, fun j hj => ?_⟩
      show sy_up σ'.1 14 i 0 14 j = 0
      rw [sy_up2]
      by_cases e : j = i
      · rw [if_pos ⟨rfl, e⟩]
      · rw [if_neg (fun q => e q.2)]; exact h14 j (by omega)
  · rintro σ' ⟨hs, h24, h14⟩
    have ecl := gm_cells (kg hs).2.1
    refine w_m_border_7 (fun q => ?_) (fun _ => ?_) (fun q => ?_)
    · exact absurd (by rw [ecl]; exact nI_le (Nat.le_refl _) (by omega)) q
    · exact second 0 σ' (Nat.zero_le _) ⟨hs, by simp, fun c hc => absurd hc (by simp), h24, fun j o hj => by simp at hj, fun c hc => by rw [h14 c hc]; simp⟩
    · exact absurd (by rw [ecl]; exact nI_le (Nat.le_refl _) (by omega)) q
theorem e_m_least {Q : Option Value → sy_S → Prop} {σ : sy_S} {G : sg_G} {H : Nat → Nat} (hg : gm G σ.1) (hH : ar σ.1 12 H) (hB : ∀ j, j < 16 → H j < 2 ^ 31) (kk : Q (some (.int (((sg_P G).find? fun c => decide (3 < H c)).elim (-1) nI))) σ) : sy_E shM mX12_least (0, sy_ent [.ref 0, .ref 12] 3, [], σ) Q := by
  have h16 := sg_n16 hg.1
  have ecl := gm_cells hg.2.1
  refine w_m_least_0 ?_
  have hl := sy_loop (sh := shM) (y := mX12_least) (Q := Q) (fun i σ' => (2, [some (.ref 0), some (.ref 12), some (.int (nI i))], [], σ')) (fun i σ' => σ' = σ ∧ ∀ j, j < i → rdy G H j = false) (sg_n G) ?_ ?_ 0 σ (Nat.zero_le _) ⟨rfl, fun j hj => absurd hj (Nat.not_lt_zero _)⟩
  · exact hl
  · rintro i σ' hi ⟨rfl, hI⟩ ih
    refine w_m_least_2 (fun q => ?_) (fun _ => ?_)
    · rw [ecl] at q; exact absurd q (nI_ge hi (by omega))
    · refine e_m_may rfl hg hH hi (hB i (by omega)) (fun q => ?_) (fun q => ?_)
      · refine w_m_least_16 (fun z => absurd z (by decide)) (fun _ => ?_)
        rw [pm_first hI q] at kk
        exact kk
      · refine w_m_least_16 (fun _ => ?_) (fun z => absurd rfl z)
        rw [nI_1]
        refine ih σ' ⟨rfl, fun j hj => ?_⟩
        by_cases e : j = i
        · subst e; exact q
        · exact hI j (by omega)
  · rintro σ' ⟨rfl, hI⟩
    rw [pm_find _ (Nat.le_refl _) hI] at kk
    exact w_m_least_2 (fun _ => kk) (fun q => absurd (by rw [ecl]; exact nI_le (Nat.le_refl _) (by omega)) q)
theorem e_m_tall {Q : Option Value → sy_S → Prop} {σ : sy_S} {G : sg_G} {H : Nat → Nat} (hg : gm G σ.1) (hH : ar σ.1 12 H) (hB : ∀ j, j < 16 → H j < 2 ^ 31) (kk : Q (some (.int (((sg_P G).foldl (mtall H) none).elim (-1) nI))) σ) : sy_E shM mX12_tallest (0, sy_ent [.ref 0, .ref 12] 4, [], σ) Q := by
  have h16 := sg_n16 hg.1
  have ecl := gm_cells hg.2.1
  refine w_m_tall_0 ?_
  have hl := sy_loop (sh := shM) (y := mX12_tallest) (Q := Q) (fun i σ' => (4, [some (.ref 0), some (.ref 12), some (.int (((sg_pm G i).foldl (mtall H) none).elim (-1) nI)), some (.int (nI i))], [], σ')) (fun i σ' => σ' = σ) (sg_n G) ?_ ?_ 0 σ (Nat.zero_le _) rfl
  · exact hl
  · rintro i σ' hi rfl ih
    have ei : (nI i).toNatClampNeg = i := nI_clamp (by omega)
    have h := ih σ' rfl
    rw [sg_pm_s, List.foldl_append] at h
    have hok := mtall_fold (G := G) (H := H) (sg_pm G i) (fun x hx => by
      unfold sg_pm at hx
      rw [List.mem_filter, List.mem_range] at hx
      exact ⟨by omega, by simpa using hx.2⟩) none (fun d hd => by cases hd)
    generalize (sg_pm G i).foldl (mtall H) none = b at h hok ⊢
    have hb16 : ∀ d, b = some d → d < 16 ∧ 3 < H d := fun d hd => ⟨Nat.lt_of_lt_of_le (hok.1 d hd).1.1 h16, (hok.1 d hd).2⟩
    refine w_m_tall_4 (fun q => ?_) (fun _ => ?_)
    · rw [ecl] at q; exact absurd q (nI_ge hi (by omega))
    · refine e_m_may rfl hg hH hi (hB i (by omega)) (fun q => ?_) (fun q => ?_)
      · obtain ⟨p1, p2⟩ := rdy_iff.mp q
        rw [p1.2] at h
        have h : sy_E shM mX12_tallest (4, [some (.ref 0), some (.ref 12), some (.int ((mtall H b i).elim (-1) nI)), some (.int (nI (i + 1)))], [], σ') Q := h
        cases hb : b with
        | none =>
          rw [hb] at h
          have e : mtall H none i = some i := if_pos p2
          rw [e] at h
          refine w_m_tall_18 (fun _ z => absurd (by decide) z) (fun _ z => absurd (by decide) z) (fun z => absurd z (by decide)) (fun _ _ => ?_) (fun _ z => absurd (by decide) z) (fun _ z => absurd (by decide) z)
          rw [nI_1]; exact h
        | some d =>
          obtain ⟨d1, d2⟩ := hb16 d hb
          rw [hb] at h
          have ed : (nI d).toNatClampNeg = d := nI_clamp (by omega)
          refine w_m_tall_18 (fun _ _ => vp_in_nI (by omega) (by decide)) (fun _ _ => vp_in_nI d1 (by decide)) (fun z => absurd z (by decide)) (fun _ z => absurd z (nI_pos (by omega))) (fun _ _ z => ?_) (fun _ _ z => ?_)
          · have z : σ'.1 12 (nI i).toNatClampNeg ≤ σ'.1 12 (nI d).toNatClampNeg := z
            rw [ei, ed, hH i (by omega), hH d d1, nI_leI (hB i (by omega)) (hB d d1)] at z
            have e : mtall H (some d) i = some d := if_neg (by omega)
            rw [e] at h
            rw [nI_1]; exact h
          · have z : ¬ σ'.1 12 (nI i).toNatClampNeg ≤ σ'.1 12 (nI d).toNatClampNeg := z
            rw [ei, ed, hH i (by omega), hH d d1, nI_leI (hB i (by omega)) (hB d d1)] at z
            have e : mtall H (some d) i = some i := if_pos (by omega)
            rw [e] at h
            rw [nI_1]; exact h
      · refine w_m_tall_18 (fun z => absurd rfl z) (fun z => absurd rfl z) (fun _ => ?_) (fun z => absurd rfl z) (fun z => absurd rfl z) (fun z => absurd rfl z)
        rw [nI_1]
        cases hw : G.2.2 i
        · rw [hw] at h
          have h : sy_E shM mX12_tallest (4, [some (.ref 0), some (.ref 12), some (.int ((mtall H b i).elim (-1) nI)), some (.int (nI (i + 1)))], [], σ') Q := h
          have hle : H i ≤ 3 := by
            rcases Nat.lt_or_ge 3 (H i) with z | z
            · rw [rdy_iff.mpr ⟨⟨hi, hw⟩, z⟩] at q; cases q
            · exact z
          have e : mtall H b i = b := by
            cases hb : b with
            | none => exact if_neg (by omega)
            | some d =>
              obtain ⟨d1, d2⟩ := hb16 d hb
              exact if_neg (by omega)
          rw [e] at h
          exact h
        · rw [hw] at h
          exact h
  · rintro σ' rfl
    exact w_m_tall_4 (fun _ => kk) (fun q => absurd (by rw [ecl]; exact nI_le (Nat.le_refl _) (by omega)) q)
theorem e_m_leaves {Q : Option Value → sy_S → Prop} {σ : sy_S} {G : sg_G} {o : Nat} {L : List Nat} (ho : o = 1 ∨ o = 2) (hG : sg_ok G) (hq : qm G σ.1 L) (k0 : L = [] → Q (some (.int (-1))) σ) (k1 : ∀ (σ' : sy_S) (c : Nat), (if o = 1 then L.head? else L.getLast?) = some c → sm [13, 14] [24] σ σ' → qm G σ'.1 (mrest o L) → Q (some (.int (nI c))) σ') : sy_E shM mX12_leaves (0, sy_ent [.ref 0, .int (if o = 1 then 1 else 0)] 4, [], σ) Q := by
  obtain ⟨q1, q2, q3, q4, q5⟩ := id hq
  have h16 := sg_n16 hG
  have hl := nodup_len (sg_n G) L q1 q2
  have hz : σ.1 0 24 = 0 ↔ L = [] := by
    rw [q3, nI_lit0, nI_eq (by omega) (by decide)]
    exact List.length_eq_zero_iff
  rcases ho with rfl | rfl
  · rw [if_pos rfl]
    refine w_m_leaves1_0 (fun z => ?_) (fun z => k0 (hz.mp (Classical.byContradiction z)))
    rw [hz] at z
    match L, z, q1, q2, q3, q4, q5, k1, hl with
    | c :: L', _, q1, q2, q3, q4, q5, k1, hl =>
      have hc : c < sg_n G := q2 c List.mem_cons_self
      have ec : (nI c).toNatClampNeg = c := nI_clamp (by omega)
      rw [List.nodup_cons] at q1
      have e13 : σ.1 13 0 = nI c := q4 0 c rfl
      have e24 : σ.1 0 24 - 1 = nI L'.length := by rw [q3, nI_lit1, pk_sub (by simp), List.length_cons, Nat.add_sub_cancel]
      rw [List.length_cons] at hl
      rw [e13, e24]
      have hlp := sy_loop (sh := shM) (y := mX12_leaves) (Q := Q) (fun i σ' => (39, [some (.ref 0), some (.int 1), some (.int (nI c)), some (.int (nI i))], [], σ')) (fun i σ' => sm [13, 14] [24] σ σ' ∧ σ'.1 0 24 = nI L'.length ∧ (∀ j o, j < i → L'[j]? = some o → σ'.1 13 j = nI o) ∧ (∀ j o, i ≤ j → L'[j]? = some o → σ'.1 13 (j + 1) = nI o) ∧ σ'.1 14 = σ.1 14) L'.length ?_ ?_ 0 (sy_up σ.1 0 24 (nI L'.length), σ.2) (Nat.zero_le _) ⟨sm.fu (by simp), rfl, fun j o hj => absurd hj (Nat.not_lt_zero _), fun j o _ hj => q4 (j + 1) o hj, rfl⟩
      · exact hlp
      · rintro i σ' hi ⟨i1, i2, i3, i4, i5⟩ ih
        have ei : (nI i).toNatClampNeg = i := nI_clamp (by omega)
        have ei1 : (nI (i + 1)).toNatClampNeg = i + 1 := nI_clamp (by omega)
        refine w_m_leaves1_39 (fun z => ?_) (fun _ => ?_) (fun _ => vp_in_nI (by omega) (by decide)) (fun z => ?_) (fun _ => ?_)
        · rw [i2] at z; exact absurd z (nI_ge hi (by omega))
        · rw [nI_1]; exact vp_in_nI (by omega) (by decide)
        · rw [i2] at z; exact absurd z (nI_ge hi (by omega))
        · rw [nI_1, ei, ei1]
          refine ih _ ⟨i1.tr (sm.up (by simp) (by decide)), i2, fun j o hj ho => ?_, fun j o hj ho => ?_, i5⟩
          · show sy_up σ'.1 13 i (σ'.1 13 (i + 1)) 13 j = nI o
            rw [sy_up2]
            by_cases e : j = i
            · subst e
              rw [if_pos ⟨rfl, rfl⟩]
              exact i4 j o (Nat.le_refl _) ho
            · rw [if_neg (fun q => e q.2)]; exact i3 j o (by omega) ho
          · show sy_up σ'.1 13 i (σ'.1 13 (i + 1)) 13 (j + 1) = nI o
            rw [sy_up2, if_neg (by omega)]
            exact i4 j o (by omega) ho
      · rintro σ' ⟨i1, i2, i3, i4, i5⟩
        refine w_m_leaves1_39 (fun _ => vp_in_nI (by omega) (by decide)) (fun z => ?_) (fun z => ?_) (fun _ => ?_) (fun z => ?_)
        · exact absurd (by rw [i2]; exact nI_le (Nat.le_refl _) (by omega)) z
        · exact absurd (by rw [i2]; exact nI_le (Nat.le_refl _) (by omega)) z
        · rw [ec, nar_b0]
          refine k1 _ c rfl (i1.tr (sm.up (by simp) (by decide))) ⟨q1.2, fun x hx => q2 x (List.mem_cons_of_mem _ hx), i2, fun j o hj => ?_, fun x hx => ?_⟩
          · exact i3 j o (List.getElem?_eq_some_iff.mp hj).1 hj
          · show sy_up σ'.1 14 c 0 14 x = if x ∈ L' then 1 else 0
            rw [sy_up2]
            by_cases e : x = c
            · subst e
              rw [if_pos ⟨rfl, rfl⟩, if_neg q1.1]
            · rw [if_neg (fun q => e q.2), i5, q5 x hx]
              simp [e]
        · exact absurd (by rw [i2]; exact nI_le (Nat.le_refl _) (by omega)) z
  · rw [if_neg (by decide)]
    have vin : ∀ n, L.length = n + 1 → σ.1 0 24 - 1 = nI n := fun n hn => by rw [q3, hn, nI_lit1, pk_sub (by omega)]; rfl
    refine w_m_leaves0_0 (fun z => ?_) (fun z => ?_) (fun z => k0 (hz.mp (Classical.byContradiction z)))
    · rw [hz] at z
      obtain ⟨n, hn⟩ : ∃ n, L.length = n + 1 := ⟨L.length - 1, by have := List.length_pos_iff.mpr z; omega⟩
      rw [vin n hn]
      exact vp_in_nI (by omega) (by decide)
    · rw [hz] at z
      obtain ⟨n, hn⟩ : ∃ n, L.length = n + 1 := ⟨L.length - 1, by have := List.length_pos_iff.mpr z; omega⟩
      have h1 := List.dropLast_concat_getLast z
      obtain ⟨c, hcL⟩ : ∃ c, c = L.getLast z := ⟨_, rfl⟩
      obtain ⟨D, hD⟩ : ∃ D, D = L.dropLast := ⟨_, rfl⟩
      rw [← hcL, ← hD] at h1
      have hmr : mrest 2 L = D := by unfold mrest; rw [if_neg (by decide), hD]
      have hdl : D.length = n := by
        have := congrArg List.length h1
        rw [List.length_append, List.length_singleton, hn] at this
        omega
      have hc : c < sg_n G := q2 c (by rw [← h1]; simp)
      have ec : (nI c).toNatClampNeg = c := nI_clamp (by omega)
      have hidx : L[n]? = some c := by rw [← h1, List.getElem?_append_right (by omega), hdl, Nat.sub_self]; rfl
      have hnd := q1
      rw [← h1, List.nodup_append] at hnd
      rw [hmr] at k1
      rw [vin n hn, nI_clamp (show n < 2 ^ 31 by omega), q4 n c hidx]
      have fin : Q (some (.int (nI c))) (sy_up (sy_up σ.1 0 24 (nI n)) 14 c 0, σ.2) := by
        refine k1 _ c (by rw [if_neg (by decide), List.getLast?_eq_some_getLast z, hcL]) ((sm.fu (by simp)).tr (σ' := (sy_up σ.1 0 24 (nI n), σ.2)) (sm.up (by simp) (by decide))) ⟨hnd.1, fun x hx => q2 x (by rw [← h1]; exact List.mem_append_left _ hx), ?_, fun j o hj => ?_, fun x hx => ?_⟩
        · show nI n = nI D.length
          rw [hdl]
        · refine q4 j o ?_
          rw [← h1, List.getElem?_append_left (List.getElem?_eq_some_iff.mp hj).1]
          exact hj
        · show sy_up σ.1 14 c 0 14 x = if x ∈ D then 1 else 0
          rw [sy_up2]
          have hm : x ∈ L ↔ x ∈ D ∨ x = c := by rw [← h1, List.mem_append, List.mem_singleton]
          by_cases e : x = c
          · subst e
            have : x ∉ D := fun h => hnd.2.2 x h x (List.mem_singleton.mpr rfl) rfl
            rw [if_pos ⟨rfl, rfl⟩, if_neg this]
          · rw [if_neg (fun q => e q.2), q5 x hx]
            simp [hm, e]
      refine w_m_leaves0_39 (fun _ => vp_in_nI (by omega) (by decide)) (fun _ => vp_in_nI (by omega) (by decide)) (fun _ => ?_) (fun _ => ?_)
      · rw [ec, nar_b0]; exact fin
      · rw [ec, nar_b0]; exact fin
/-- where the model's order stands -/
def mm (G : sg_G) (o : Nat) (H : Nat → Nat) (L : List Nat) (f : Nat → Nat → Int32) : Prop := ar f 12 H ∧ ((o = 1 ∨ o = 2) → qm G f L)
