/-! the model's settled, trace, common -/
theorem row12 : rowM 12 := ⟨rfl, by decide, by decide, by decide, by decide, by decide, by decide⟩
theorem row16 : rowM 16 := ⟨rfl, by decide, by decide, by decide, by decide, by decide, by decide⟩
theorem e_m_stt {Q : Option Value → sy_S → Prop} {σ : sy_S} {G : sg_G} {k : Nat} {h : Nat → Nat} (hk : rowM k) (hg : gm G σ.1) (hh : ar σ.1 k h) (hB : ∀ j, j < 16 → h j ≤ 10000) (kk : ∀ σ' : sy_S, sm [k, 5] [7] σ σ' → ar σ'.1 k (stt G h) → ar σ'.1 5 (od G h) → σ'.1 0 7 = nI (sg_lost G (od G h)) → Q (some (.int (nI (ssum 16 (od G h))))) σ') : sy_E shM mX12_settles (0, sy_ent [.ref 0, .ref k] 3, [], σ) Q := by
  refine e_m_settles hk hg hh hB (fun σ' u H a b c d e f => ?_)
  obtain ⟨e1, e2⟩ := stt_eq b c
  rw [e1] at e f ⊢
  rw [e2] at d
  exact kk σ' a d e f
theorem M_settled {Q : Option Value → sy_S → Prop} {σ : sy_S} {B : Nat} {S : st} (w : Int32) (hB : B ≤ 2000) (ho : sO B S) (h : RM S σ.1) (kk : ∀ σ' : sy_S, RM S σ'.1 → Q (some (.int (f_settled w S))) σ') : sy_E shM mX12_settled (0, sy_ent [.ref 0, .int w] 2, [], σ) Q := by
  obtain ⟨G, H, P, U, R, T, W, L⟩ := S
  obtain ⟨r1, r2, r3, r4, r5, r6, r7⟩ := id h
  have hG := r1.1
  have hH := sO_H ho
  obtain ⟨z1, z2⟩ := m_rng (x := w) (lo := 0) (hi := 4) (a := 0) (b := 4) rfl rfl (by decide)
  have hB9 := hz9 hH hB
  have hbd := od_b hG hH hB
  -- all but the rounds
  have go : w ≠ 2 → (∀ σ2 : sy_S, gm G σ2.1 → ar σ2.1 12 (stt G H) → ar σ2.1 5 (od G H) → σ2.1 0 7 = nI (sg_lost G (od G H)) → RM (G, H, P, U, R, T, W, L) σ2.1 → sy_E shM mX12_settledThen (8, [some (.ref 0), some (.int w), none], [.int (nI (ssum 16 (od G H)))], σ2) (fun r9 σ9 => sy_E shM mX12_settled (69, [none, none], r9.toList ++ [], σ9) Q)) → sy_E shM mX12_copies (0, sy_ent [.ref 2, .ref 12] 3, [], σ) (fun r9 σ9 => sy_E shM mX12_settled (48, [some (.ref 0), some (.int w)], r9.toList ++ [], σ9) Q) := by
    intro hw k
    refine e_m_copies rfl rfl (by decide) (by decide) r2 (fun σ1 g1 g2 => w_M_settled_48 (fun _ => ?_) (fun q => absurd hw q))
    refine w_M_settledThen_0 (e_m_stt row12 (g1.gm r1 (by simp) (by simp)) g2 hB9 (fun σ2 f1 f2 f3 f4 => ?_))
    have hs : sm [12, 5] [7] σ σ2 := (g1.mono (by simp) (by simp)).tr f1
    exact k σ2 (hs.gm r1 (by simp) (by simp)) f2 f3 f4 (h.fr hs (by decide) (by decide))
  refine w_M_settled_0 (G := G) (fun _ => r1) (fun q => ?_) (fun q m hm => ?_) (fun q hm m hm' => ?_) (fun q q1 q2 => ?_)
  · obtain ⟨m, hm⟩ := z1 q
    obtain ⟨pm, rfl, -⟩ := px_s hm
    have pm : m ≤ 4 := pm.2
    match m, hm, pm with
    | 0, hm, _ =>
      have e : f_settled (nI 0) (G, H, P, U, R, T, W, L) = nI (ssum 16 (od G H)) := by simp only [f_settled, hm]
      rw [e] at kk
      refine go (by decide) (fun σ2 a b c d r => ?_)
      exact w_M_settledThen_8 (fun _ z => absurd (by decide) z) (fun z => absurd (by decide) z) (fun _ _ z => absurd rfl z) (fun _ _ z => absurd rfl z) (fun _ _ z => absurd rfl z) (fun _ _ _ => w_M_settled_69 (kk σ2 r)) (fun _ z => absurd (by decide) z) (fun z => absurd (by decide) z)
    | 1, hm, _ =>
      have e : f_settled (nI 1) (G, H, P, U, R, T, W, L) = nI (sg_lost G (od G H)) := by simp only [f_settled, hm]
      rw [e] at kk
      refine go (by decide) (fun σ2 a b c d r => ?_)
      refine w_M_settledThen_8 (fun _ z => absurd (by decide) z) (fun z => absurd (by decide) z) (fun _ _ _ z => absurd rfl z) (fun _ _ _ z => absurd rfl z) (fun _ _ _ _ => w_M_settled_69 ?_) (fun _ _ z => absurd (by decide) z) (fun _ z => absurd (by decide) z) (fun z => absurd (by decide) z)
      rw [d]; exact kk σ2 r
    | 2, hm, _ =>
      have e : f_settled (nI 2) (G, H, P, U, R, T, W, L) = nI (rdn G H) := by simp only [f_settled, hm]
      rw [e] at kk
      refine e_m_copies rfl rfl (by decide) (by decide) r2 (fun σ1 g1 g2 => w_M_settled_48 (fun q => absurd rfl q) (fun _ => ?_))
      refine e_m_rounds row12 (g1.gm r1 (by simp) (by simp)) g2 hB9 (fun σ2 N u f1 f2 f3 f4 f5 f6 => w_M_settled_61 ?_)
      rw [rdn_eq f2]
      exact kk σ2 (h.fr ((g1.mono (l' := [12, 5, 6]) (fs' := [7]) (by simp) (by simp)).tr f1) (by decide) (by decide))
    | 3, hm, _ =>
      have e : f_settled (nI 3) (G, H, P, U, R, T, W, L) = bts (fun c => decide (0 < od G H c)) (List.range 16) := by simp only [f_settled, hm]
      rw [e] at kk
      refine go (by decide) (fun σ2 a b c d r => ?_)
      refine w_M_settledThen_8 (fun _ z => absurd (by decide) z) (fun z => absurd (by decide) z) (fun _ _ _ _ z => absurd rfl z) (fun _ _ _ _ _ => ?_) (fun _ _ _ z => absurd (by decide) z) (fun _ _ z => absurd (by decide) z) (fun _ z => absurd (by decide) z) (fun z => absurd (by decide) z)
      exact e_m_toppled a c hbd (fun j hj => od_np hG H hj) (w_M_settledThen_72 (w_M_settled_69 (kk σ2 r)))
    | 4, hm, _ =>
      have e : f_settled (nI 4) (G, H, P, U, R, T, W, L) = nI (sg_sum G (stt G H)) := by simp only [f_settled, hm]
      rw [e] at kk
      refine go (by decide) (fun σ2 a b c d r => ?_)
      refine w_M_settledThen_8 (fun _ z => absurd (by decide) z) (fun z => absurd (by decide) z) (fun _ _ _ _ _ => ?_) (fun _ _ _ _ z => absurd (by decide) z) (fun _ _ _ z => absurd (by decide) z) (fun _ _ z => absurd (by decide) z) (fun _ z => absurd (by decide) z) (fun z => absurd (by decide) z)
      exact e_m_grains rfl a b (w_M_settledThen_83 (w_M_settled_69 (kk σ2 r)))
  · obtain ⟨p1, e1, -⟩ := px_s hm
    have b1 := sg_p16 hG p1
    have e : f_settled w (G, H, P, U, R, T, W, L) = nI (od G H m) := by simp only [f_settled, z2 q, hm]
    rw [e] at kk
    have e3 : w = nI (m + 100) := by rw [← nI_add, ← e1]; exact (Int32.sub_add_cancel w 100).symm
    have c2 : w < 200 := by rw [e3]; exact nI_lt (b := 200) (by omega) (by decide)
    have c1 : ¬ w < 100 := by rw [e3, show (100 : Int32) = nI 100 from rfl, nI_ltI (by omega) (by decide)]; omega
    refine go (by rw [e3, show (2 : Int32) = nI 2 from rfl]; exact fun z => by rw [nI_eq (by omega) (by decide)] at z; omega) (fun σ2 a b c d r => ?_)
    refine w_M_settledThen_8 (fun _ _ => by rw [e1]; exact vp_in_nI b1 (by decide)) (fun z => absurd c2 z) (fun _ z => absurd z c1) (fun _ z => absurd z c1) (fun _ z => absurd z c1) (fun _ z => absurd z c1) (fun _ _ => w_M_settled_69 ?_) (fun z => absurd c2 z)
    rw [e1, nI_clamp (by omega), c m b1]
    exact kk σ2 r
  · obtain ⟨p1, e1, -⟩ := px_s hm'
    have b1 := sg_p16 hG p1
    have e : f_settled w (G, H, P, U, R, T, W, L) = nI (stt G H m) := by simp only [f_settled, z2 q, hm, hm']
    rw [e] at kk
    have e3 : w = nI (m + 200) := by rw [← nI_add, ← e1]; exact (Int32.sub_add_cancel w 200).symm
    have c2 : ¬ w < 200 := by rw [e3, show (200 : Int32) = nI 200 from rfl, nI_ltI (by omega) (by decide)]; omega
    refine go (by rw [e3, show (2 : Int32) = nI 2 from rfl]; exact fun z => by rw [nI_eq (by omega) (by decide)] at z; omega) (fun σ2 a b c d r => ?_)
    refine w_M_settledThen_8 (fun z => absurd z c2) (fun _ => by rw [e1]; exact vp_in_nI b1 (by decide)) (fun z => absurd z c2) (fun z => absurd z c2) (fun z => absurd z c2) (fun z => absurd z c2) (fun z => absurd z c2) (fun _ => w_M_settled_69 ?_)
    rw [e1, nI_clamp (by omega), b m b1]
    exact kk σ2 r
  · have e : f_settled w (G, H, P, U, R, T, W, L) = -1 := by simp only [f_settled, z2 q, q1, q2]
    rw [e] at kk
    exact kk σ h
/-! orders -/
def mv (G : sg_G) (o : Nat) (H : Nat → Nat) (k : Nat) : Int32 := (mcell G o H k).elim (-1) nI
theorem mrun_st {G : sg_G} (hG : sg_ok G) (o : Nat) (H : Nat → Nat) (k : Nat) : (mnext G o (mrun G o H k) = none → mcell G o H k = none ∧ mrun G o H (k + 1) = mrun G o H k) ∧ ∀ c H' L', mnext G o (mrun G o H k) = some (c, H', L') → mcell G o H k = some c ∧ mrun G o H (k + 1) = (H', L') ∧ c < 16 := by
  obtain ⟨v1, -⟩ := mrun_ok hG o H k
  refine ⟨fun hno => ⟨?_, by rw [mrun, hno]⟩, fun c H' L' hns => ?_⟩
  · unfold mcell
    unfold mnext at hno
    cases hp : mpick G o (mrun G o H k).1 (mrun G o H k).2 with
    | none => rfl
    | some c => rw [hp] at hno; cases hno
  · have hpk := (mnext_inv hG v1 hns).1
    exact ⟨hpk, by rw [mrun, hns], sg_p16 hG ((mpick_ok v1).1 c hpk).1⟩
theorem mrun_bd {G : sg_G} (hG : sg_ok G) {B : Nat} {H : Nat → Nat} (hH : hz G B H) (hB : B ≤ 2000) (o k : Nat) : ∀ j, j < 16 → (mrun G o H k).1 j < 2 ^ 30 := by
  intro j hj
  obtain ⟨v1, u, v2, v3⟩ := mrun_ok hG o H k
  have := (sg_rc_bd hG v2 (B := B) (fun j _ => hH.2 j)).1 j hj
  omega
theorem mcell_up {G : sg_G} (hG : sg_ok G) {o : Nat} {H : Nat → Nat} {k n : Nat} (h : mcell G o H k = none) (hn : k ≤ n) : mcell G o H n = none := by
  rw [mcell_iff hG o (od_ex hG H)] at h ⊢
  omega
theorem mv_some {G : sg_G} {o : Nat} {H : Nat → Nat} {k c : Nat} (h : mcell G o H k = some c) : mv G o H k = nI c := by unfold mv; rw [h]; rfl
theorem mv_none {G : sg_G} {o : Nat} {H : Nat → Nat} {k : Nat} (h : mcell G o H k = none) : mv G o H k = -1 := by unfold mv; rw [h]; rfl
theorem mcell_16 {G : sg_G} (hG : sg_ok G) {o : Nat} {H : Nat → Nat} {k c : Nat} (h : mcell G o H k = some c) : c < 16 := sg_p16 hG ((mpick_ok (mrun_ok hG o H k).1).1 c h).1
theorem mv_ge {G : sg_G} (hG : sg_ok G) {o : Nat} {H : Nat → Nat} {k : Nat} : (0 ≤ mv G o H k ↔ ∃ c, mcell G o H k = some c) ∧ (mv G o H k < 0 ↔ mcell G o H k = none) := by
  cases h : mcell G o H k with
  | none => rw [mv_none h]; exact ⟨⟨fun q => absurd q (by decide), fun ⟨c, q⟩ => by cases q⟩, ⟨fun _ => rfl, fun _ => by decide⟩⟩
  | some c =>
    have := mcell_16 hG h
    rw [mv_some h]
    refine ⟨⟨fun _ => ⟨c, rfl⟩, fun _ => nI_le (a := 0) (b := c) (by omega) (by omega)⟩, ⟨fun q => absurd q (nI_pos (by omega)), fun q => by cases q⟩⟩
theorem mm_0 {G : sg_G} {o : Nat} {H : Nat → Nat} {f : Nat → Nat → Int32} (h1 : ar f 12 H) (h2 : qm G f ((sg_P G).foldl (mline H) [])) : mm G o (mrun G o H 0).1 (mrun G o H 0).2 f := by
  show mm G o (m0 G o H).1 (m0 G o H).2 f
  unfold m0
  refine ⟨h1, fun q => ?_⟩
  dsimp only
  rw [if_pos q]; exact h2
theorem e_m_go {Q : Option Value → sy_S → Prop} {σ : sy_S} {G : sg_G} {B o k : Nat} {H : Nat → Nat} (ho : o < 4) (hg : gm G σ.1) (hH : hz G B H) (hB : B ≤ 2000) (hm : mm G o (mrun G o H k).1 (mrun G o H k).2 σ.1) (kk : ∀ σ' : sy_S, sm [12, 5, 13, 14] [7, 24] σ σ' → mm G o (mrun G o H (k + 1)).1 (mrun G o H (k + 1)).2 σ'.1 → Q (some (.int (mv G o H k))) σ') : sy_E shM mX12_goes (0, sy_ent [.ref 0, .ref 12, .int (nI o)] 5, [], σ) Q := by
  refine e_m_goes (H := (mrun G o H k).1) (L := (mrun G o H k).2) ho hg hm (mrun_ok hg.1 o H k).1 (mrun_bd hg.1 hH hB o k) (fun hno => ?_) (fun σ5 c H' L' hns g1 g2 => ?_)
  · obtain ⟨n1, n2⟩ := (mrun_st hg.1 o H k).1 hno
    have h9 := kk σ sm.rf (by rw [n2]; exact hm)
    rw [mv_none n1] at h9
    exact h9
  · obtain ⟨n1, n2, n3⟩ := (mrun_st hg.1 o H k).2 c H' L' hns
    have h9 := kk σ5 g1 (by rw [n2]; exact g2)
    rw [mv_some n1] at h9
    exact h9
theorem M_trace {Q : Option Value → sy_S → Prop} {σ : sy_S} {B : Nat} {S : st} (o : Int32) (i : Int32) (hB : B ≤ 2000) (ho : sO B S) (h : RM S σ.1) (kk : ∀ σ' : sy_S, RM S σ'.1 → Q (some (.int (f_trace o i S))) σ') : sy_E shM mX12_trace (0, sy_ent [.ref 0, .int o, .int i] 5, [], σ) Q := by
  obtain ⟨G, H, P, U, R, T, W, L⟩ := S
  obtain ⟨r1, r2, r3, r4, r5, r6, r7⟩ := id h
  have hG := r1.1
  have hH := sO_H ho
  have hB9 := hz9 hH hB
  have hB1 : ∀ j, j < 16 → H j < 2 ^ 31 := fun j hj => by have := hB9 j hj; omega
  refine w_M_trace_0 (fun m hm q => ?_) (fun m hm q => ?_) (fun q => ?_)
  · obtain ⟨pm, rfl, -⟩ := px_s hm
    have pm : m < 4 := pm
    obtain ⟨n, hn, rfl⟩ : ∃ n, n < 2 ^ 31 ∧ i = nI n := nI_of (fun z => absurd q (by rw [Int32.not_le]; exact z))
    have hpn : px (fun _ => True) (nI n) = some n := px_i hn trivial
    have ef : f_trace (nI m) (nI n) (G, H, P, U, R, T, W, L) = (mcell G m H n).elim (-5) nI := by simp only [f_trace, hm, hpn]
    rw [ef] at kk
    have no : ∀ k, k ≤ n → mcell G m H k = none → ∀ σ' : sy_S, RM (G, H, P, U, R, T, W, L) σ'.1 → Q (some (.int (-5))) σ' := fun k hk hc σ' hr => by
      have h9 := kk σ' hr
      rw [mcell_up hG hc hk] at h9
      exact h9
    refine e_m_copies rfl rfl (by decide) (by decide) r2 (fun σ1 g1 g2 => w_M_trace_27 ?_)
    have hg1 := g1.gm r1 (by simp) (by simp)
    refine e_m_border hg1 g2 hB1 (fun σ2 f1 f2 => w_M_trace_35 ?_)
    have hm2 : mm G m (mrun G m H 0).1 (mrun G m H 0).2 σ2.1 := mm_0 (ar_sm f1 g2 (by simp) (by decide)) f2
    refine e_m_go (k := 0) pm (f1.gm hg1 (by simp) (by simp)) hH hB hm2 (fun σ3 i1 i2 => w_M_trace_44 ?_)
    have hs3 : sm [12, 5, 13, 14] [7, 24] σ σ3 := ((g1.mono (by simp) (by simp)).tr (f1.mono (by simp) (by simp))).tr i1
    have hl := sy_loop (sh := shM) (y := mX12_trace) (Q := Q) (fun k σ' => (48, [some (.ref 0), some (.int (nI m)), some (.int (nI n)), some (.int (mv G m H k)), some (.int (nI k))], [], σ')) (fun k σ' => sm [12, 5, 13, 14] [7, 24] σ σ' ∧ mm G m (mrun G m H (k + 1)).1 (mrun G m H (k + 1)).2 σ'.1) n ?_ ?_ 0 σ3 (Nat.zero_le _) ⟨hs3, i2⟩
    · exact hl
    · rintro k σ4 hk ⟨j1, j2⟩ ih
      have nle : ¬ nI n ≤ nI k := nI_ge hk hn
      have hr := h.fr j1 (by decide) (by decide)
      refine w_M_trace_48 (fun z => absurd z nle) (fun z => absurd z nle) (fun _ z z2 => ?_) (fun _ z _ => ?_) (fun _ z => ?_)
      · obtain ⟨c, hc⟩ := (mv_ge hG).1.mp z2
        rw [(mv_ge hG).2, hc] at z; cases z
      · exact no k (by omega) ((mv_ge hG).2.mp z) σ4 hr
      · refine e_m_go (k := k + 1) pm (j1.gm r1 (by simp) (by simp)) hH hB j2 (fun σ5 l1 l2 => w_M_trace_67 ?_)
        rw [nI_1]
        exact ih σ5 ⟨j1.tr l1, l2⟩
    · rintro σ4 ⟨j1, j2⟩
      have le : nI n ≤ nI n := nI_le (Nat.le_refl _) hn
      have hr := h.fr j1 (by decide) (by decide)
      refine w_M_trace_48 (fun _ z => ?_) (fun _ z => ?_) (fun z => absurd le z) (fun z => absurd le z) (fun z => absurd le z)
      · obtain ⟨c, hc⟩ := (mv_ge hG).1.mp z
        have h9 := kk σ4 hr
        rw [hc] at h9
        rw [mv_some hc]; exact h9
      · refine no n (Nat.le_refl _) ?_ σ4 hr
        cases hc : mcell G m H n with
        | none => rfl
        | some c => exact absurd ((mv_ge hG).1.mpr ⟨c, hc⟩) z
  · have hn : px (fun _ => True) i = none := px_no (fun k hk _ e => by subst e; exact q (nI_le (a := 0) (by omega) hk))
    have e : f_trace o i (G, H, P, U, R, T, W, L) = -5 := by simp only [f_trace, hm, hn]
    rw [e] at kk
    exact kk σ h
  · have e : f_trace o i (G, H, P, U, R, T, W, L) = -1 := by simp only [f_trace, q]
    rw [e] at kk
    exact kk σ h
theorem cmn_tail {G : sg_G} (hG : sg_ok G) {H : Nat → Nat} {o o' N : Nat} (h : mcell G o H N = none) : ∀ d, cmn G H o o' (N + d) = cmn G H o o' N
  | 0 => rfl
  | d + 1 => by
    show cmn G H o o' (N + d) + (if (mcell G o H (N + d)).isSome = true ∧ mcell G o H (N + d) = mcell G o' H (N + d) then 1 else 0) = _
    rw [mcell_up hG h (Nat.le_add_right N d), if_neg (fun z => by cases z.1), cmn_tail hG h d]; rfl
theorem e_m_firsts {Q : Option Value → sy_S → Prop} {σ : sy_S} {G : sg_G} {B o : Nat} {H : Nat → Nat} (ho : o < 4) (hg : gm G σ.1) (h2 : ar σ.1 2 H) (hH : hz G B H) (hB : B ≤ 2000) (kk : ∀ (σ' : sy_S) (N : Nat), sm [12, 5, 13, 14, 15] [7, 24] σ σ' → N ≤ 60 → (N = 60 ∨ mcell G o H N = none) → (∀ k, k < N → ∃ c, mcell G o H k = some c ∧ σ'.1 15 k = nI c) → Q (some (.int (nI N))) σ') : sy_E shM mX12_firstsBy (0, sy_ent [.ref 0, .int (nI o)] 4, [], σ) Q := by
  have hG := hg.1
  have hB1 : ∀ j, j < 16 → H j < 2 ^ 31 := fun j hj => by have := hz9 hH hB j hj; omega
  refine w_M_firstsBy_0 (e_m_copies rfl rfl (by decide) (by decide) h2 (fun σ1 g1 g2 => w_M_firstsBy_11 ?_))
  have hg1 := g1.gm hg (by simp) (by simp)
  refine e_m_border hg1 g2 hB1 (fun σ2 f1 f2 => w_M_firstsBy_19 ?_)
  have hm2 : mm G o (mrun G o H 0).1 (mrun G o H 0).2 σ2.1 := mm_0 (ar_sm f1 g2 (by simp) (by decide)) f2
  refine e_m_go (k := 0) ho (f1.gm hg1 (by simp) (by simp)) hH hB hm2 (fun σ3 i1 i2 => w_M_firstsBy_30 ?_)
  have hs3 : sm [12, 5, 13, 14, 15] [7, 24] σ σ3 := ((g1.mono (by simp) (by simp)).tr (f1.mono (by simp) (by simp))).tr (i1.mono (by simp) (by simp))
  have hl := sy_loop (sh := shM) (y := mX12_firstsBy) (Q := Q) (fun k σ' => (31, [some (.ref 0), some (.int (nI o)), some (.int (nI k)), some (.int (mv G o H (min k 59)))], [], σ')) (fun k σ' => sm [12, 5, 13, 14, 15] [7, 24] σ σ' ∧ (k < 60 → mm G o (mrun G o H (k + 1)).1 (mrun G o H (k + 1)).2 σ'.1) ∧ ∀ j, j < k → ∃ c, mcell G o H j = some c ∧ σ'.1 15 j = nI c) 60 ?_ ?_ 0 σ3 (Nat.zero_le _) ⟨hs3, fun _ => i2, fun j hj => absurd hj (Nat.not_lt_zero _)⟩
  · exact hl
  · rintro k σ4 hk ⟨j1, j2, j3⟩ ih
    have nle : ¬ 60 ≤ nI k := nI_ge hk (by decide)
    have ek : (nI k).toNatClampNeg = k := nI_clamp (by omega)
    rw [show min k 59 = k by omega]
    have e60 : 60 ≤ nI k + 1 ↔ 60 ≤ k + 1 := by rw [nI_1, show (60 : Int32) = nI 60 from rfl, nI_leI (by decide) (by omega)]
    have got : ∀ c, mcell G o H k = some c → ∀ σ5 : sy_S, sm [12, 5, 13, 14] [7, 24] (sy_up σ4.1 15 k (mv G o H k), σ4.2) σ5 → ∀ j, j < k + 1 → ∃ c, mcell G o H j = some c ∧ σ5.1 15 j = nI c := by
      intro c hc σ5 hs j hj
      rw [hs.1 15 (by decide) (by simp)]
      dsimp only
      rw [sy_up2]
      by_cases y : j = k
      · subst y; rw [if_pos ⟨rfl, rfl⟩]; exact ⟨c, hc, mv_some hc⟩
      · rw [if_neg (fun z => y z.2)]; exact j3 j (by omega)
    have som : ¬ mv G o H k < 0 → ∃ c, mcell G o H k = some c := fun z => by
      cases hc : mcell G o H k with
      | none => exact absurd ((mv_ge hG).2.mpr hc) z
      | some c => exact ⟨c, rfl⟩
    refine w_M_firstsBy_31 (fun _ _ => vp_in_nI hk (by decide)) (fun z => ?_) (fun _ z => absurd z nle) (fun z _ z2 => ?_) (fun z _ z2 => ?_)
    · exact kk σ4 k j1 (by omega) (Or.inr ((mv_ge hG).2.mp z)) j3
    · obtain ⟨c, hc⟩ := som z
      rw [e60] at z2
      rw [ek, nI_1]
      have h9 := ih (sy_up σ4.1 15 k (mv G o H k), σ4.2) ⟨j1.tr (sm.up (by simp) (by decide)), fun q => absurd q (by omega), got c hc _ sm.rf⟩
      rw [show min (k + 1) 59 = k by omega] at h9
      exact h9
    · obtain ⟨c, hc⟩ := som z
      rw [e60] at z2
      rw [ek, nI_1]
      have hs : sm [12, 5, 13, 14, 15] [7, 24] σ (sy_up σ4.1 15 k (mv G o H k), σ4.2) := j1.tr (sm.up (by simp) (by decide))
      have hm4 : mm G o (mrun G o H (k + 1)).1 (mrun G o H (k + 1)).2 (sy_up σ4.1 15 k (mv G o H k)) := by
        obtain ⟨a, b⟩ := j2 hk
        refine ⟨fun j hj => ?_, fun q => ?_⟩
        · rw [sy_up_ne _ _ _ (by decide)]; exact a j hj
        · obtain ⟨c1, c2, c3, c4, c5⟩ := b q
          refine ⟨c1, c2, ?_, ?_, ?_⟩
          · rw [sy_up_ne _ _ _ (by decide)]; exact c3
          · rw [sy_up_ne _ _ _ (by decide)]; exact c4
          · rw [sy_up_ne _ _ _ (by decide)]; exact c5
      refine e_m_go (k := k + 1) ho (hs.gm hg (by simp) (by simp)) hH hB hm4 (fun σ5 l1 l2 => w_M_firstsBy_66 ?_)
      have h9 := ih σ5 ⟨hs.tr (l1.mono (by simp) (by simp)), fun _ => l2, got c hc σ5 l1⟩
      rw [show min (k + 1) 59 = k + 1 by omega] at h9
      exact h9
  · rintro σ4 ⟨j1, j2, j3⟩
    have h9 := kk σ4 60 j1 (Nat.le_refl _) (Or.inl rfl) j3
    have le : 60 ≤ nI 60 := by decide
    exact w_M_firstsBy_31 (fun _ q => absurd le q) (fun _ => h9) (fun _ _ => h9) (fun _ q => absurd le q) (fun _ q => absurd le q)
theorem M_common {Q : Option Value → sy_S → Prop} {σ : sy_S} {B : Nat} {S : st} (o : Int32) (u : Int32) (hB : B ≤ 2000) (ho : sO B S) (h : RM S σ.1) (kk : ∀ σ' : sy_S, RM S σ'.1 → Q (some (.int (f_common o u S))) σ') : sy_E shM mX12_common (0, sy_ent [.ref 0, .int o, .int u] 6, [], σ) Q := by
  obtain ⟨G, H, P, U, R, T, W, L⟩ := S
  obtain ⟨r1, r2, r3, r4, r5, r6, r7⟩ := id h
  have hG := r1.1
  have hH := sO_H ho
  have hB1 : ∀ j, j < 16 → H j < 2 ^ 31 := fun j hj => by have := hz9 hH hB j hj; omega
  refine w_M_common_0 (fun m hm m' hm' => ?_) (fun m hm q => ?_) (fun q => ?_)
  · obtain ⟨pm, rfl, -⟩ := px_s hm
    obtain ⟨pm', rfl, -⟩ := px_s hm'
    have pm : m < 4 := pm
    have pm' : m' < 4 := pm'
    have ef : f_common (nI m) (nI m') (G, H, P, U, R, T, W, L) = nI (cmn G H m m' 60) := by simp only [f_common, hm, hm']
    rw [ef] at kk
    refine e_m_firsts pm r1 r2 hH hB (fun σ1 N g1 hN hz' hf => w_M_common_21 ?_)
    have hg1 := g1.gm r1 (by simp) (by simp)
    have ec : cmn G H m m' N = cmn G H m m' 60 := by
      rcases hz' with rfl | q
      · rfl
      · have := cmn_tail hG (o' := m') q (60 - N)
        rw [show N + (60 - N) = 60 by omega] at this
        exact this.symm
    refine e_m_copies rfl rfl (by decide) (by decide) (ar_sm g1 r2 (by simp) (by decide)) (fun σ2 f1 f2 => w_M_common_33 ?_)
    have hg2 := f1.gm hg1 (by simp) (by simp)
    refine e_m_border hg2 f2 hB1 (fun σ3 i1 i2 => w_M_common_41 ?_)
    have hs3 : sm [12, 5, 13, 14] [7, 24] σ1 σ3 := (f1.mono (by simp) (by simp)).tr (i1.mono (by simp) (by simp))
    have hm3 : mm G m' (mrun G m' H 0).1 (mrun G m' H 0).2 σ3.1 := mm_0 (ar_sm i1 f2 (by simp) (by decide)) i2
    have hl := sy_loop (sh := shM) (y := mX12_common) (Q := Q) (fun k σ' => (47, [some (.ref 0), none, some (.int (nI m')), some (.int (nI N)), some (.int (nI (cmn G H m m' k))), some (.int (nI k))], [], σ')) (fun k σ' => sm [12, 5, 13, 14] [7, 24] σ1 σ' ∧ mm G m' (mrun G m' H k).1 (mrun G m' H k).2 σ'.1) N ?_ ?_ 0 σ3 (Nat.zero_le _) ⟨hs3, hm3⟩
    · exact hl
    · rintro k σ4 hk ⟨j1, j2⟩ ih
      refine w_M_common_47 (fun z => absurd z (nI_ge hk (by omega))) (fun _ => ?_)
      refine e_m_go (k := k) pm' (j1.gm hg1 (by simp) (by simp)) hH hB j2 (fun σ5 l1 l2 => ?_)
      have hs5 := j1.tr l1
      obtain ⟨c, hc, hc15⟩ := hf k hk
      have ecn : cmn G H m m' (k + 1) = cmn G H m m' k + if (mcell G m H k).isSome = true ∧ mcell G m H k = mcell G m' H k then 1 else 0 := rfl
      have h9 := ih σ5 ⟨hs5, l2⟩
      have e15 : σ5.1 15 k = nI c := by rw [hs5.1 15 (by decide) (by simp)]; exact hc15
      have hc16 := mcell_16 hG hc
      rw [hc] at ecn
      refine w_M_common_64 (vp_in_nI (by omega) (by decide)) (fun z => ?_) (fun z => ?_)
      · rw [nI_clamp (by omega), e15] at z
        rw [ecn, if_neg (fun q => z (mv_some q.2.symm)), Nat.add_zero] at h9
        rw [Int32.add_zero, nI_1]
        exact h9
      · rw [nI_clamp (by omega), e15] at z
        have z := Classical.byContradiction z
        have e : some c = mcell G m' H k := by
          cases hc2 : mcell G m' H k with
          | none =>
            rw [mv_none hc2] at z
            have h8 := nI_pos (n := c) (by omega)
            rw [← z] at h8
            exact absurd (by decide) h8
          | some c2 =>
            have := mcell_16 hG hc2
            rw [mv_some hc2, nI_eq (by omega) (by omega)] at z
            rw [z]
        rw [ecn, if_pos ⟨rfl, e⟩] at h9
        rw [nI_1, nI_1]
        exact h9
    · rintro σ4 ⟨j1, j2⟩
      refine w_M_common_47 (fun _ => ?_) (fun q => absurd (nI_le (Nat.le_refl N) (by omega)) q)
      rw [ec]
      exact kk σ4 (h.fr (g1.tr (j1.mono (by simp) (by simp))) (by decide) (by decide))
  · have e : f_common o u (G, H, P, U, R, T, W, L) = -1 := by simp only [f_common, hm, q]
    rw [e] at kk
    exact kk σ h
  · have e : f_common o u (G, H, P, U, R, T, W, L) = -1 := by simp only [f_common, q]
    rw [e] at kk
    exact kk σ h
