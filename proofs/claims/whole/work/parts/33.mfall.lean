/-! the model's rounds and counts: contracts -/
theorem rd1_n {G : sg_G} (H : Nat → Nat) (d : Nat) : rd1 G H (sg_n G + d) = rd1 G H (sg_n G) := by
  induction d with
  | zero => rfl
  | succ d ih =>
    rw [← Nat.add_assoc, rd1, if_neg (by unfold rdy; rw [decide_eq_false (by omega)]; simp), ih]
theorem ru1_n {G : sg_G} (H u : Nat → Nat) (d : Nat) : ru1 G H u (sg_n G + d) = ru1 G H u (sg_n G) := by
  induction d with
  | zero => rfl
  | succ d ih =>
    rw [← Nat.add_assoc, ru1, if_neg (by unfold rdy; rw [decide_eq_false (by omega)]; simp), ih]
theorem rd1_16 {G : sg_G} (hG : sg_ok G) (H : Nat → Nat) : rd1 G H 16 = rd1 G H (sg_n G) := by
  have := rd1_n (G := G) H (16 - sg_n G)
  rw [show sg_n G + (16 - sg_n G) = 16 by have := sg_n16 hG; omega] at this
  exact this
theorem ru1_16 {G : sg_G} (hG : sg_ok G) (H u : Nat → Nat) : ru1 G H u 16 = ru1 G H u (sg_n G) := by
  have := ru1_n (G := G) H u (16 - sg_n G)
  rw [show sg_n G + (16 - sg_n G) = 16 by have := sg_n16 hG; omega] at this
  exact this
theorem nar_b1 : vp_nar .boolean 1 = 1 := rfl
theorem nar_b0 : vp_nar .boolean 0 = 0 := rfl
theorem e_m_rounds {Q : Option Value → sy_S → Prop} {σ : sy_S} {G : sg_G} {k : Nat} {h : Nat → Nat} (hk : rowM k) (hg : gm G σ.1) (hh : ar σ.1 k h) (hB : ∀ j, j < 16 → h j ≤ 10000) (kk : ∀ (σ' : sy_S) (N : Nat) (u : Nat → Nat), sm [k, 5, 6] [7] σ σ' → rdE G h N → sg_rc G h u (rdN G h N) → ar σ'.1 k (rdN G h N) → ar σ'.1 5 u → σ'.1 0 7 = nI (sg_lost G u) → Q (some (.int (nI N))) σ') : sy_E shM mX12_roundsOf (0, sy_ent [.ref 0, .ref k] 4, [], σ) Q := by
  obtain ⟨hz, k0, k1, k3, k4, k5, k6⟩ := id hk
  have hG := hg.1
  have h16 := sg_n16 hG
  have bH : ∀ {u H : Nat → Nat}, sg_rc G h u H → ∀ j, j < 16 → H j < 2 ^ 31 := fun hr j hj => Nat.lt_of_le_of_lt ((sg_rc_bd hG hr hB).1 j hj) (by decide)
  have kg : ∀ {σ1 σ2 : sy_S}, sm [k, 5, 6] [7] σ1 σ2 → gm G σ1.1 → gm G σ2.1 := fun a b => a.gm b (by simp; omega) (by decide)
  -- the topplings of a round
  have second : ∀ (n : Nat) (u H : Nat → Nat), sg_rc G h u H → (∀ σ' : sy_S, fm G k h (ru1 G H u 16) (rd1 G H 16) σ'.1 → sm [k, 5, 6] [7] σ σ' → sy_E shM mX12_roundsOf (6, [some (.ref 0), some (.ref k), some (.int (nI (n + 1))), none], [], σ') Q) → ∀ i σ', i ≤ sg_n G → (fm G k h (ru1 G H u i) (rd1 G H i) σ'.1 ∧ sm [k, 5, 6] [7] σ σ' ∧ ∀ j, j < sg_n G → σ'.1 6 j = if rdy G H j then 1 else 0) → sy_E shM mX12_roundsOf (44, [some (.ref 0), some (.ref k), some (.int (nI n)), some (.int (nI i))], [], σ') Q := by
    intro n u H hr next
    refine sy_loop (fun i σ' => (44, [some (.ref 0), some (.ref k), some (.int (nI n)), some (.int (nI i))], [], σ')) (fun i σ' => fm G k h (ru1 G H u i) (rd1 G H i) σ'.1 ∧ sm [k, 5, 6] [7] σ σ' ∧ ∀ j, j < sg_n G → σ'.1 6 j = if rdy G H j then 1 else 0) (sg_n G) ?_ ?_
    · rintro i σ' hi ⟨⟨f1, f2, f3, f4, f5⟩, hs, hn⟩ ih
      have ei : (nI i).toNatClampNeg = i := nI_clamp (by omega)
      have ecl := gm_cells f1.2.1
      refine w_m_rounds_44 hz (fun _ => vp_in_nI (by omega) (by decide)) (fun q => ?_) (fun _ q => ?_) (fun _ q => ?_)
      · rw [ecl] at q; exact absurd q (nI_ge hi (by omega))
      · rw [ei, hn i hi] at q
        have q : ¬ rdy G H i = true := fun z => by rw [z] at q; exact absurd q (by decide)
        rw [nI_1]
        refine ih σ' ⟨⟨f1, ?_, ?_, ?_, ?_⟩, hs, hn⟩
        · rw [ru1, rd1, if_neg q, if_neg q]; exact f2
        · rw [rd1, if_neg q]; exact f3
        · rw [ru1, if_neg q]; exact f4
        · rw [ru1, if_neg q]; exact f5
      · rw [ei, hn i hi] at q
        have q : rdy G H i = true := by
          cases z : rdy G H i
          · rw [z] at q; exact absurd rfl q
          · rfl
        obtain ⟨p1, p2⟩ := rdy_iff.mp q
        have hge := rd1_ge G H i i (Nat.le_refl _)
        refine e_m_topples (t := 1) hk f1 f3 f4 f5 p1 (by omega) (fun σ2 g1 g2 g3 g4 => ?_)
        have g1' : sm [k, 5, 6] [7] σ' σ2 := g1.mono (by simp) (by simp)
        refine w_m_rounds_68 hz ?_
        rw [nI_1]
        refine ih σ2 ⟨⟨kg g1' f1, rd1_rc hG hr (i + 1), ?_, ?_, ?_⟩, hs.tr g1', fun j hj => ?_⟩
        · rw [rd1, if_pos q]; exact g2
        · rw [ru1, if_pos q]; exact g3
        · rw [ru1, if_pos q, g4, sg_lost_ad p1]
        · rw [g1.1 6 (by decide) (by simp; omega)]; exact hn j hj
    · rintro σ' ⟨hf, hs, hn⟩
      have ecl := gm_cells hf.1.2.1
      refine w_m_rounds_44 hz (fun q => ?_) (fun _ => ?_) (fun q => ?_) (fun q => ?_)
      · exact absurd (by rw [ecl]; exact nI_le (Nat.le_refl _) (by omega)) q
      · rw [nI_1]
        refine next σ' ?_ hs
        rw [rd1_16 hG, ru1_16 hG]
        exact hf
      · exact absurd (by rw [ecl]; exact nI_le (Nat.le_refl _) (by omega)) q
      · exact absurd (by rw [ecl]; exact nI_le (Nat.le_refl _) (by omega)) q
  -- which are to topple
  have first : ∀ (n : Nat) (u H : Nat → Nat), sg_rc G h u H → (∀ σ' : sy_S, fm G k h (ru1 G H u 16) (rd1 G H 16) σ'.1 → sm [k, 5, 6] [7] σ σ' → sy_E shM mX12_roundsOf (6, [some (.ref 0), some (.ref k), some (.int (nI (n + 1))), none], [], σ') Q) → ∀ i σ', i ≤ sg_n G → (fm G k h u H σ'.1 ∧ sm [k, 5, 6] [7] σ σ' ∧ ∀ j, j < i → σ'.1 6 j = if rdy G H j then 1 else 0) → sy_E shM mX12_roundsOf (16, [some (.ref 0), some (.ref k), some (.int (nI n)), some (.int (nI i))], [], σ') Q := by
    intro n u H hr next
    refine sy_loop (fun i σ' => (16, [some (.ref 0), some (.ref k), some (.int (nI n)), some (.int (nI i))], [], σ')) (fun i σ' => fm G k h u H σ'.1 ∧ sm [k, 5, 6] [7] σ σ' ∧ ∀ j, j < i → σ'.1 6 j = if rdy G H j then 1 else 0) (sg_n G) ?_ ?_
    · rintro i σ' hi ⟨⟨f1, f2, f3, f4, f5⟩, hs, hn⟩ ih
      have ei : (nI i).toNatClampNeg = i := nI_clamp (by omega)
      have ecl := gm_cells f1.2.1
      refine w_m_rounds_16 hz (fun q => ?_) (fun _ => ?_)
      · rw [ecl] at q; exact absurd q (nI_ge hi (by omega))
      · have go : ∀ v : Int32, (v = if rdy G H i then 1 else 0) → sy_E shM mX12_roundsOf (35, [some (.ref 0), some (.ref k), some (.int (nI n)), some (.int (nI i))], [.int v, .int (nI i), .ref 6], σ') Q := by
          intro v hv
          refine w_m_rounds_35 hz (vp_in_nI (by omega) (by decide)) ?_
          rw [ei, nI_1]
          have hs2 : sm [k, 5, 6] [7] σ' (sy_up σ'.1 6 i (vp_nar .boolean v), σ'.2) := sm.up (by simp) (by decide)
          refine ih _ ⟨⟨kg hs2 f1, f2, fun j hj => ?_, fun j hj => ?_, ?_⟩, hs.tr hs2, fun j hj => ?_⟩
          · show sy_up σ'.1 6 i (vp_nar .boolean v) k j = _
            rw [sy_up_ne _ _ _ k6]; exact f3 j hj
          · show sy_up σ'.1 6 i (vp_nar .boolean v) 5 j = _
            rw [sy_up_ne _ _ _ (by decide)]; exact f4 j hj
          · show sy_up σ'.1 6 i (vp_nar .boolean v) 0 7 = _
            rw [sy_up_ne _ _ _ (by decide)]; exact f5
          · show sy_up σ'.1 6 i (vp_nar .boolean v) 6 j = _
            rw [sy_up2]
            by_cases e : j = i
            · subst e
              rw [if_pos ⟨rfl, rfl⟩, hv]
              cases rdy G H j <;> rfl
            · rw [if_neg (fun q => e q.2)]; exact hn j (by omega)
        refine e_m_may hz f1 f3 hi (bH f2 i (by omega)) (fun q => go 1 (by rw [q]; rfl)) (fun q => go 0 (by rw [q]; rfl))
    · rintro σ' ⟨hf, hs, hn⟩
      have ecl := gm_cells hf.1.2.1
      refine w_m_rounds_16 hz (fun _ => ?_) (fun q => ?_)
      · exact second n u H hr next 0 σ' (Nat.zero_le _) ⟨hf, hs, hn⟩
      · exact absurd (by rw [ecl]; exact nI_le (Nat.le_refl _) (by omega)) q
  have outer : ∀ (d n : Nat) (σ' : sy_S) (u : Nat → Nat), fm G k h u (rdN G h n) σ'.1 → sm [k, 5, 6] [7] σ σ' → (∀ m, m < n → ∃ c, sg_p G c ∧ 3 < rdN G h m c) → 480001 ≤ ssum 16 u + d → sy_E shM mX12_roundsOf (6, [some (.ref 0), some (.ref k), some (.int (nI n)), none], [], σ') Q := by
    intro d
    induction d with
    | zero =>
      intro n σ' u hf hs hm hd
      have := (sg_rc_bd hG hf.2.1 hB).2
      exact absurd hd (by omega)
    | succ d ih =>
      intro n σ' u hf hs hm hd
      obtain ⟨f1, f2, f3, f4, f5⟩ := id hf
      refine w_m_rounds_6 hz ?_
      refine e_m_isStable hz f1 f3 (bH f2) (fun q => ?_) (fun q => ?_)
      · exact w_m_rounds_11 hz (fun _ => kk σ' n u hs ⟨hm, q⟩ f2 f3 f4 f5) (fun z => absurd (by decide) z)
      · refine w_m_rounds_11 hz (fun z => absurd rfl z) (fun _ => ?_)
        refine first n u (rdN G h n) f2 (fun σ2 g1 g2 => ?_) 0 σ' (Nat.zero_le _) ⟨hf, hs, fun j hj => absurd hj (Nat.not_lt_zero _)⟩
        refine ih (n + 1) σ2 (ru1 G (rdN G h n) u 16) g1 g2 (fun m hmn => ?_) ?_
        · by_cases e : m = n
          · subst e; exact q
          · exact hm m (by omega)
        · obtain ⟨c, p1, p2⟩ := q
          have := (ru1_sum (u := u) (H := rdN G h n) hG 16).2 ⟨c, Nat.lt_of_lt_of_le p1.1 h16, rdy_iff.mpr ⟨p1, p2⟩⟩
          omega
  refine w_m_rounds_0 hz ?_
  refine e_m_begins (fun σ1 g1 g2 g3 => ?_)
  have hs1 : sm [k, 5, 6] [7] σ σ1 := g1.mono (by simp) (by simp)
  refine w_m_rounds_4 hz ?_
  refine outer 480001 0 σ1 (fun _ => 0) ⟨kg hs1 hg, sg_rc_0 G h, fun j hj => ?_, g2, ?_⟩ hs1 (fun m hm => absurd hm (Nat.not_lt_zero _)) (by omega)
  · rw [g1.1 k k0 (by simp; omega)]; exact hh j hj
  · rw [sg_lost_0]; exact g3
theorem e_m_toppled {Q : Option Value → sy_S → Prop} {σ : sy_S} {G : sg_G} {u : Nat → Nat} (hg : gm G σ.1) (hu : ar σ.1 5 u) (hB : ∀ j, j < 16 → u j < 2 ^ 31) (h0 : ∀ j, ¬ sg_p G j → u j = 0) (kk : Q (some (.int (bts (fun c => decide (0 < u c)) (List.range 16)))) σ) : sy_E shM mX12_toppled (0, sy_ent [.ref 0] 3, [], σ) Q := by
  have h16 := sg_n16 hg.1
  have ecl := gm_cells hg.2.1
  refine w_m_toppled_0 ?_
  have hl := sy_loop (sh := shM) (y := mX12_toppled) (Q := Q) (fun i σ' => (4, [some (.ref 0), some (.int (bts (fun c => decide (0 < u c)) (List.range i))), some (.int (nI i))], [], σ')) (fun i σ' => σ' = σ) (sg_n G) ?_ ?_ 0 σ (Nat.zero_le _) rfl
  · exact hl
  · rintro i σ' hi rfl ih
    have ei : (nI i).toNatClampNeg = i := nI_clamp (by omega)
    refine w_m_toppled_4 (fun _ => vp_in_nI (by omega) (by decide)) (fun q => ?_) (fun _ q => ?_) (fun _ q => ?_)
    · rw [ecl] at q; exact absurd q (nI_ge hi (by omega))
    · rw [ei, hu i (by omega), nI_lit0, nI_leI (hB i (by omega)) (by decide)] at q
      have h := ih σ' rfl
      rw [bts_s, decide_eq_false (show ¬ 0 < u i by omega)] at h
      rw [nI_1, show ∀ x : Int32, x ||| 0 = x from fun x => Int32.or_zero]
      exact h
    · rw [ei, hu i (by omega), nI_lit0, nI_leI (hB i (by omega)) (by decide)] at q
      have h := ih σ' rfl
      rw [bts_s, decide_eq_true (show 0 < u i by omega)] at h
      rw [nI_1]
      exact h
  · rintro σ' rfl
    refine w_m_toppled_4 (fun q => ?_) (fun _ => ?_) (fun q => ?_) (fun q => ?_)
    · exact absurd (by rw [ecl]; exact nI_le (Nat.le_refl _) (by omega)) q
    · rw [← bts_ext (p := fun c => decide (0 < u c)) h16 (fun c h1 _ => decide_eq_false (by rw [h0 c (fun q => by have := q.1; omega)]; omega))]
      exact kk
    · exact absurd (by rw [ecl]; exact nI_le (Nat.le_refl _) (by omega)) q
    · exact absurd (by rw [ecl]; exact nI_le (Nat.le_refl _) (by omega)) q
theorem e_m_grains {Q : Option Value → sy_S → Prop} {σ : sy_S} {G : sg_G} {k : Nat} {H : Nat → Nat} (hk : shM[k]? = some (0, 16, [])) (hg : gm G σ.1) (hH : ar σ.1 k H) (kk : Q (some (.int (nI (sg_sum G H)))) σ) : sy_E shM mX12_grains (0, sy_ent [.ref 0, .ref k] 4, [], σ) Q := by
  have h16 := sg_n16 hg.1
  have ecl := gm_cells hg.2.1
  refine w_m_grains_0 hk ?_
  have hl := sy_loop (sh := shM) (y := mX12_grains) (Q := Q) (fun i σ' => (4, [some (.ref 0), some (.ref k), some (.int (nI (ssum i fun c => if G.2.2 c then 0 else H c))), some (.int (nI i))], [], σ')) (fun i σ' => σ' = σ) (sg_n G) ?_ ?_ 0 σ (Nat.zero_le _) rfl
  · exact hl
  · rintro i σ' hi rfl ih
    have ei : (nI i).toNatClampNeg = i := nI_clamp (by omega)
    have h := ih σ' rfl
    rw [ssum] at h
    refine w_m_grains_4 hk (fun _ => vp_in_nI (by omega) (by decide)) (fun q => ?_) (fun _ q => ?_) (fun _ q => ?_)
    · rw [ecl] at q; exact absurd q (nI_ge hi (by omega))
    · rw [ei, hg.2.1.2.2 i hi] at q
      have hw : G.2.2 i = false := by cases z : G.2.2 i <;> simp_all
      rw [hw] at h
      rw [ei, hH i (by omega), nI_add, nI_1]
      exact h
    · rw [ei, hg.2.1.2.2 i hi] at q
      have hw : G.2.2 i = true := by cases z : G.2.2 i <;> simp_all
      rw [hw] at h
      rw [nI_1, nI_lit0, nI_add]
      exact h
  · rintro σ' rfl
    refine w_m_grains_4 hk (fun q => ?_) (fun _ => kk) (fun q => ?_) (fun q => ?_)
    all_goals exact absurd (by rw [ecl]; exact nI_le (Nat.le_refl _) (by omega)) q
theorem sg_P_lenS (G : sg_G) (m : Nat) : (sg_pm G m).length = ssum m fun c => if G.2.2 c then 0 else 1 := by
  induction m with
  | zero => rfl
  | succ m ih =>
    rw [sg_pm_s, List.length_append, ih, ssum]
    cases G.2.2 m <;> rfl
theorem e_m_places {Q : Option Value → sy_S → Prop} {σ : sy_S} {G : sg_G} (hg : gm G σ.1) (kk : Q (some (.int (nI (sg_P G).length))) σ) : sy_E shM mX12_places (0, sy_ent [.ref 0] 3, [], σ) Q := by
  have h16 := sg_n16 hg.1
  have ecl := gm_cells hg.2.1
  refine w_m_places_0 ?_
  have hl := sy_loop (sh := shM) (y := mX12_places) (Q := Q) (fun i σ' => (4, [some (.ref 0), some (.int (nI (ssum i fun c => if G.2.2 c then 0 else 1))), some (.int (nI i))], [], σ')) (fun i σ' => σ' = σ) (sg_n G) ?_ ?_ 0 σ (Nat.zero_le _) rfl
  · exact hl
  · rintro i σ' hi rfl ih
    have ei : (nI i).toNatClampNeg = i := nI_clamp (by omega)
    have h := ih σ' rfl
    rw [ssum] at h
    refine w_m_places_4 (fun _ => vp_in_nI (by omega) (by decide)) (fun q => ?_) (fun _ q => ?_) (fun _ q => ?_)
    · rw [ecl] at q; exact absurd q (nI_ge hi (by omega))
    · rw [ei, hg.2.1.2.2 i hi] at q
      have hw : G.2.2 i = false := by cases z : G.2.2 i <;> simp_all
      rw [hw] at h
      rw [nI_1, nI_1]
      exact h
    · rw [ei, hg.2.1.2.2 i hi] at q
      have hw : G.2.2 i = true := by cases z : G.2.2 i <;> simp_all
      rw [hw] at h
      rw [nI_1, nI_lit0, nI_add]
      exact h
  · rintro σ' rfl
    refine w_m_places_4 (fun q => ?_) (fun _ => ?_) (fun q => ?_) (fun q => ?_)
    · exact absurd (by rw [ecl]; exact nI_le (Nat.le_refl _) (by omega)) q
    · rw [← sg_P_lenS]; exact kk
    · exact absurd (by rw [ecl]; exact nI_le (Nat.le_refl _) (by omega)) q
    · exact absurd (by rw [ecl]; exact nI_le (Nat.le_refl _) (by omega)) q
theorem e_m_copies {Q : Option Value → sy_S → Prop} {σ : sy_S} {a k : Nat} {H : Nat → Nat} (ha : shM[a]? = some (0, 16, [])) (hk : shM[k]? = some (0, 16, [])) (hka : k ≠ a) (hk0 : k ≠ 0) (hH : ar σ.1 a H) (kk : ∀ σ' : sy_S, sm [k] [] σ σ' → ar σ'.1 k H → Q none σ') : sy_E shM mX12_copies (0, sy_ent [.ref a, .ref k] 3, [], σ) Q := by
  refine w_m_copies_0 ha hk ?_
  have hl := sy_loop (sh := shM) (y := mX12_copies) (Q := Q) (fun i σ' => (2, [some (.ref a), some (.ref k), some (.int (nI i))], [], σ')) (fun i σ' => sm [k] [] σ σ' ∧ ∀ j, j < i → σ'.1 k j = nI (H j)) 16 ?_ ?_ 0 σ (by decide) ⟨sm.rf, fun j hj => absurd hj (Nat.not_lt_zero _)⟩
  · exact hl
  · rintro i σ' hi ⟨i1, i2⟩ ih
    have ei : (nI i).toNatClampNeg = i := nI_clamp (by omega)
    have ea : σ'.1 a i = nI (H i) := by
      by_cases z : a = 0
      · subst z; rw [i1.2.1 i (by simp)]; exact hH i hi
      · rw [i1.1 a z (by simp; omega)]; exact hH i hi
    refine w_m_copies_2 ha hk (fun _ => vp_in_nI hi (by decide)) (fun q => absurd q (nI_ge hi (by decide))) (fun _ => ?_)
    rw [ei, ea, nI_1]
    refine ih _ ⟨i1.tr (sm.up (by simp) hk0), fun j hj => ?_⟩
    show sy_up σ'.1 k i (nI (H i)) k j = _
    rw [sy_up2]
    by_cases e : j = i
    · subst e; rw [if_pos ⟨rfl, rfl⟩]
    · rw [if_neg (fun q => e q.2)]; exact i2 j (by omega)
  · rintro σ' ⟨i1, i2⟩
    exact w_m_copies_2 ha hk (fun q => absurd (nI_le (Nat.le_refl 16) (by decide)) q) (fun _ => kk σ' i1 i2) (fun q => absurd (nI_le (Nat.le_refl 16) (by decide)) q)
