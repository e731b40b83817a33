/-! the model's grains by lots -/
theorem e_m_counts {Q : Option Value → sy_S → Prop} {σ : sy_S} {Y : List (Nat × Nat)} {s : Nat} (h36 : σ.1 0 36 = nI Y.length) (hY : yX 23 24 Y σ.1) (hB : ∀ a c, (a, c) ∈ Y → a < 2 ^ 31) (hs : s < 2 ^ 31) (hl : Y.length < 200) (kk : ∀ σ' : sy_S, sm [23, 24] [36] σ σ' → σ'.1 0 36 = nI (tadd s Y).length → yX 23 24 (tadd s Y) σ'.1 → Q none σ') : sy_E shM mX12_countsSize (0, sy_ent [.ref 0, .int (nI s)] 3, [], σ) Q := by
  refine w_M_countsSize_0 ?_
  have key : ∀ (d i : Nat), i + d = Y.length → (∀ j a c, j < i → Y[j]? = some (a, c) → a ≠ s) → sy_E shM mX12_countsSize (2, [some (.ref 0), some (.int (nI s)), some (.int (nI i))], [], σ) Q := by
    intro d
    induction d with
    | zero =>
      intro i hi hno
      have hi : i = Y.length := hi
      subst hi
      have le : σ.1 0 36 ≤ nI Y.length := by rw [h36]; exact nI_le (Nat.le_refl _) (by omega)
      refine w_M_countsSize_2 (fun _ _ => vp_in_nI hl (by decide)) (fun _ _ => vp_in_nI hl (by decide)) (fun q => absurd le q) (fun _ q => absurd h36.symm q) (fun _ _ => ?_) (fun q => absurd le q) (fun q => absurd le q) (fun q => absurd le q)
      have et : tadd s Y = Y ++ [(s, 1)] := tadd_none (fun j a c hj => hno j a c (List.getElem?_eq_some_iff.mp hj).1 hj)
      rw [nI_clamp (by omega)]
      refine kk _ ⟨fun q hq hq2 => ?_, fun j hj => ?_, rfl⟩ ?_ ?_
      · simp only [List.mem_cons, List.not_mem_nil, or_false, not_or] at hq2
        dsimp only
        rw [sy_up_ne _ _ _ hq2.2, sy_up_ne _ _ _ hq, sy_up_ne _ _ _ hq2.2, sy_up_ne _ _ _ hq2.1]
      · simp only [List.mem_cons, List.not_mem_nil, or_false] at hj
        dsimp only
        rw [sy_up_ne _ _ _ (by decide), sy_up2, if_neg (fun q => hj q.2), sy_up_ne _ _ _ (by decide), sy_up_ne _ _ _ (by decide)]
      · dsimp only
        rw [sy_up_ne _ _ _ (by decide), sy_up2, if_pos ⟨rfl, rfl⟩, et, List.length_append, List.length_singleton, h36, nI_1]
      · rw [et]
        intro j a c hj
        dsimp only
        rw [List.getElem?_append] at hj
        split at hj
        · rename_i hlt
          obtain ⟨h1, h2⟩ := hY j a c hj
          refine ⟨?_, ?_⟩
          · rw [sy_up_ne _ _ _ (by decide), sy_up_ne _ _ _ (by decide), sy_up_ne _ _ _ (by decide), sy_up2, if_neg (by omega)]; exact h1
          · rw [sy_up2, if_neg (by omega), sy_up_ne _ _ _ (by decide), sy_up2, if_neg (by omega), sy_up_ne _ _ _ (by decide)]; exact h2
        · rename_i hge
          have hz : j - Y.length = 0 := by
            rcases Nat.eq_zero_or_pos (j - Y.length) with q | q
            · exact q
            · rw [List.getElem?_eq_none (by simp only [List.length_singleton]; omega)] at hj; cases hj
          rw [hz] at hj
          cases hj
          have ej : j = Y.length := by omega
          subst ej
          refine ⟨?_, ?_⟩
          · rw [sy_up_ne _ _ _ (by decide), sy_up_ne _ _ _ (by decide), sy_up_ne _ _ _ (by decide), sy_up2, if_pos ⟨rfl, rfl⟩]
          · rw [sy_up2, if_pos ⟨rfl, rfl⟩, sy_up2, if_pos ⟨rfl, rfl⟩]; rfl
    | succ d ih =>
      intro i hi hno
      have hin : i < Y.length := by omega
      have nle : ¬ σ.1 0 36 ≤ nI i := by rw [h36]; exact nI_ge hin (by omega)
      have ei : (nI i).toNatClampNeg = i := nI_clamp (by omega)
      obtain ⟨⟨a, c⟩, hac⟩ : ∃ p, Y[i]? = some p := ⟨_, List.getElem?_eq_getElem hin⟩
      have ha := hB a c (List.mem_of_getElem? hac)
      obtain ⟨h1, h2⟩ := hY i a c hac
      have hne : ¬ nI i = σ.1 0 36 := by rw [h36, nI_eq (by omega) (by omega)]; omega
      refine w_M_countsSize_2 (fun q => absurd q nle) (fun q => absurd q nle) (fun _ => vp_in_nI (by omega) (by decide)) (fun q => absurd q nle) (fun q => absurd q nle) (fun _ q _ => ?_) (fun _ _ q => absurd hne q) (fun _ q => ?_)
      · rw [ei, h1, nI_eq ha hs] at q
        subst q
        have et : tadd a Y = Y.set i (a, c + 1) := tadd_at (fun j a' c' hj hh => hno j a' c' hj hh) hac
        rw [ei]
        refine kk _ (sm.up (by simp) (by decide)) ?_ ?_
        · dsimp only
          rw [sy_up_ne _ _ _ (by decide), et, List.length_set]; exact h36
        · rw [et]
          exact yX_set (by decide) hY hac
      · rw [ei, h1, nI_eq ha hs] at q
        rw [nI_1]
        refine ih (i + 1) (by omega) (fun j a' c' hj hh => ?_)
        by_cases e : j = i
        · subst e
          rw [hac] at hh
          cases hh
          exact q
        · exact hno j a' c' (by omega) hh
  exact key Y.length 0 (Nat.zero_add _) (fun j a c hj => absurd hj (Nat.not_lt_zero _))
theorem e_m_placeOf {Q : Option Value → sy_S → Prop} {σ : sy_S} {G : sg_G} {n c : Nat} (hg : gm G σ.1) (hc : (sg_P G)[n]? = some c) (kk : Q (some (.int (nI c))) σ) : sy_E shM mX12_placeOf (0, sy_ent [.ref 0, .int (nI n)] 4, [], σ) Q := by
  have hG := hg.1
  have h16 := sg_n16 hG
  have hP := sg_P_len hG
  have hn := (List.getElem?_eq_some_iff.mp hc).1
  refine w_M_placeOf_0 ?_
  have key : ∀ (d i : Nat), i + d = sg_n G → (sg_pm G i).length ≤ n → sy_E shM mX12_placeOf (4, [some (.ref 0), none, some (.int (nI (n - (sg_pm G i).length))), some (.int (nI i))], [], σ) Q := by
    intro d
    induction d with
    | zero =>
      intro i hi hle
      have hi : i = sg_n G := hi
      subst hi
      exact absurd hle (by show ¬ (sg_P G).length ≤ n; omega)
    | succ d ih =>
      intro i hi hle
      have hin : i < sg_n G := by omega
      have ei : (nI i).toNatClampNeg = i := nI_clamp (by omega)
      obtain ⟨p1, p2, p3, p4⟩ := gm_pl hg (show i < 16 by omega)
      have nle : ¬ (σ.1 0 0 * σ.1 0 1 ≤ nI i) := by rw [gm_n hg]; exact nI_ge hin (by omega)
      refine w_M_placeOf_4 (fun _ => vp_in_nI (by omega) (by decide)) (fun q => absurd q nle) (fun _ a b => absurd b a) (fun _ a _ => ?_) (fun _ a b _ => ?_) (fun _ a _ b => absurd b a) (fun _ a b => ?_)
      · rw [ei] at a
        have hw := gm_isw hin (p3 hin a)
        have h9 := ih (i + 1) (by omega) (by rw [pm_wall hw]; exact hle)
        rw [pm_wall hw] at h9
        rw [Int32.sub_zero, nI_1]; exact h9
      · rw [ei] at a
        have hpl := p4 hin a
        rw [nI_lit0, nI_eq (by omega) (by decide)] at b
        have h9 := ih (i + 1) (by omega) (by rw [pm_pl hpl, List.length_append, List.length_singleton]; omega)
        rw [pm_pl hpl, List.length_append, List.length_singleton] at h9
        rw [nI_lit1, pk_sub (by omega), nI_add, show n - (sg_pm G i).length - 1 = n - ((sg_pm G i).length + 1) by omega]
        exact h9
      · rw [ei] at a
        have hpl := p4 hin a
        have b := Classical.byContradiction b
        rw [nI_lit0, nI_eq (by omega) (by decide)] at b
        have e : n = (sg_pm G i).length := by omega
        have h9 := P_ix hpl
        rw [← e, hc] at h9
        cases h9
        exact kk
  exact key (sg_n G) 0 (Nat.zero_add _) (Nat.zero_le _)
def mls (G : sg_G) (q : lq) (f : Nat → Nat → Int32) : Prop := ar f 12 q.2.1 ∧ f 0 36 = nI q.2.2.1.length ∧ yX 23 24 q.2.2.1 f
theorem M_lots {Q : Option Value → sy_S → Prop} {σ : sy_S} {B : Nat} {S : st} (seed : Int32) (n : Int32) (w : Int32) (hB : B ≤ 2000) (ho : sO B S) (h : RM S σ.1) (kk : ∀ σ' : sy_S, RM S σ'.1 → Q (some (.int (f_lots seed n w S))) σ') : sy_E shM mX12_lots (0, sy_ent [.ref 0, .int seed, .int n, .int w] 11, [], σ) Q := by
  obtain ⟨G, H, P, U, R, T, W, L⟩ := S
  obtain ⟨r1, r2, r3, r4, r5, r6, r7⟩ := id h
  have hG := r1.1
  have hH := sO_H ho
  have hB9 := hz9 hH hB
  have hP := sg_P_len hG
  obtain ⟨z1, z2⟩ := m_rng (x := n) (lo := 1) (hi := 200) (a := 1) (b := 200) rfl rfl (by decide)
  obtain ⟨y1, y2⟩ := m_rng (x := w) (lo := 0) (hi := 3) (a := 0) (b := 3) rfl rfl (by decide)
  have getw : ((0 ≤ w.toInt64 ∧ w.toInt64 ≤ 3) ∨ 100 ≤ w) → ∃ k, px (fun m => m ≤ 3 ∨ 100 ≤ m) w = some k := by
    rintro (q | q)
    · obtain ⟨k, hk⟩ := y1 q
      obtain ⟨pk, rfl, k3⟩ := px_s hk
      exact ⟨k, px_i k3 (Or.inl pk.2)⟩
    · obtain ⟨k, hk, rfl⟩ := nI_of (x := w) (fun z => by
        rw [Int32.lt_iff_toInt_lt] at z
        rw [Int32.le_iff_toInt_le] at q
        have e1 : (0 : Int32).toInt = 0 := rfl
        have e2 : (100 : Int32).toInt = 100 := rfl
        omega)
      rw [show (100 : Int32) = nI 100 from rfl, nI_leI (by decide) hk] at q
      exact ⟨k, px_i hk (Or.inr q)⟩
  have badn : ∀ k, px (fun m => m ≤ 3 ∨ 100 ≤ m) w = some k → px (pR 1 200) n = none → Q (some (.int (-2))) σ := by
    intro k hk z
    have e : f_lots seed n w (G, H, P, U, R, T, W, L) = -2 := by simp only [f_lots, hk, z]
    rw [e] at kk
    exact kk σ h
  have go : ∀ k m, px (fun m => m ≤ 3 ∨ 100 ≤ m) w = some k → px (pR 1 200) n = some m → sy_E shM mX12_places (0, sy_ent [.ref 0] 3, [], σ) (fun r9 σ9 => sy_E shM mX12_lots (39, [some (.ref 0), some (.int seed), some (.int n), some (.int w), none, none, none, none, none, none, none], r9.toList ++ [], σ9) Q) := by
    intro k m hk hm
    obtain ⟨pk, rfl, pk3⟩ := px_s hk
    obtain ⟨pm, rfl, -⟩ := px_s hm
    have pm2 : m ≤ 200 := pm.2
    refine e_m_places r1 (w_M_lots_39 (fun q => ?_) (fun q => ?_))
    · rw [nI_lit0, nI_eq (by omega) (by decide)] at q
      have h0 : 0 < (sg_P G).length := by omega
      have e : f_lots seed (nI m) (nI k) (G, H, P, U, R, T, W, L) = if 400 ≤ k then ((lrn G H seed m).2.2.1[k - 400]?).elim (-5) (fun q => nI q.2) else if 100 ≤ k then ((lrn G H seed m).2.2.1[k - 100]?).elim (-5) (fun q => nI q.1) else if k = 0 then nI (lrn G H seed m).2.2.2.1 else if k = 1 then nI (lrn G H seed m).2.2.2.2.1 else if k = 2 then nI (lrn G H seed m).2.2.2.2.2 else nI (lrn G H seed m).2.2.1.length := by simp only [f_lots, hk, hm, if_neg q]
      rw [e] at kk
      have hs0 : sm [12, 5, 23, 24] [7, 36] σ (sy_up σ.1 0 36 0, σ.2) := sm.fu (by simp)
      refine e_m_copies rfl rfl (by decide) (by decide) (ar_sm hs0 r2 (by simp) (by decide)) (fun σ1 g1 g2 => w_M_lots_77 ?_)
      have hs1 : sm [12, 5, 23, 24] [7, 36] σ σ1 := hs0.tr (g1.mono (by simp) (by simp))
      refine e_m_stt row12 (hs1.gm r1 (by simp) (by simp)) g2 hB9 (fun σ2 f1 f2 f3 f4 => w_M_lots_85 ?_)
      have hs2 : sm [12, 5, 23, 24] [7, 36] σ σ2 := hs1.tr (f1.mono (by simp) (by simp))
      have hl := sy_loop (sh := shM) (y := mX12_lots) (Q := Q) (fun i σ' => (90, [some (.ref 0), none, some (.int (nI m)), some (.int (nI k)), some (.int (nI (sg_P G).length)), some (.int (lrn G H seed i).1), some (.int (nI (lrn G H seed i).2.2.2.1)), some (.int (nI (lrn G H seed i).2.2.2.2.1)), some (.int (nI (lrn G H seed i).2.2.2.2.2)), none, some (.int (nI i))], [], σ')) (fun i σ' => sm [12, 5, 23, 24] [7, 36] σ σ' ∧ mls G (lrn G H seed i) σ'.1) m ?_ ?_ 0 σ2 (Nat.zero_le _) ⟨hs2, ?_⟩
      · exact hl
      · rintro i σ3 hi ⟨i1, i2, i3, i4⟩ ih
        have hg3 := i1.gm r1 (by simp) (by simp)
        obtain ⟨b1, b2, b3, b4⟩ := lrn_ok hG hH h0 seed i
        obtain ⟨z, hz'⟩ : ∃ z, z = (lrn G H seed i).1 := ⟨_, rfl⟩
        obtain ⟨n1, n2, n3⟩ := lpl_at h0 (lz z)
        have hc16 := sg_p16 hG n3
        have en : ((((z * 1103515245) + 12345) &&& 2147483647) / 65536) - ((((z * 1103515245) + 12345) &&& 2147483647) / 65536) / nI (sg_P G).length * nI (sg_P G).length = nI (lnum (lz z) (sg_P G).length) := lnum_eq h0 (by omega)
        rw [← hz']
        refine w_M_lots_90 (fun _ => nI_ne0 h0 (by omega)) (fun q => absurd q (nI_ge hi (by omega))) (fun _ => ?_)
        rw [en]
        refine e_m_placeOf hg3 n2 (w_M_lots_129 (vp_in_nI hc16 (by decide)) ?_)
        rw [nI_clamp (show lpl G (lz z) < 2 ^ 31 by omega), i2 _ hc16, nI_1]
        have hb := hz_ad (n := 1) b1 n3 (show 3 ≤ 4 by decide) (by have := b1.2 (lpl G (lz z)); omega)
        have hss : ssum 16 (od G (sg_ad (lrn G H seed i).2.1 (lpl G (lz z)) 1)) ≤ 500 := Nat.le_trans (od_bd hG (B := 4) (fun k _ => hb.2 k)).1 (by decide)
        obtain ⟨σ4, hσ4⟩ : ∃ σ4 : sy_S, σ4 = (sy_up σ3.1 12 (lpl G (lz z)) (nI ((lrn G H seed i).2.1 (lpl G (lz z)) + 1)), σ3.2) := ⟨_, rfl⟩
        have hs4 : sm [12] [] σ3 σ4 := by rw [hσ4]; exact sm.up (by simp) (by decide)
        have had : ar σ4.1 12 (sg_ad (lrn G H seed i).2.1 (lpl G (lz z)) 1) := fun j hj => by
          rw [hσ4]
          dsimp only
          rw [sy_up2]
          unfold sg_ad
          by_cases e : j = lpl G (lz z)
          · rw [e, if_pos ⟨rfl, rfl⟩, if_pos rfl]
          · rw [if_neg (fun q => e q.2), if_neg e]; exact i2 j hj
        rw [← hσ4]
        refine e_m_stt row12 (hs4.gm hg3 (by simp) (by simp)) had (fun j _ => by have := hb.2 j; omega) (fun σ5 j1 j2 j3 j4 => w_M_lots_142 ?_)
        have hs5 : sm [12, 5] [7] σ3 σ5 := (hs4.mono (by simp) (by simp)).tr j1
        have eY : ∀ q, q ≠ 0 → q ≠ 12 → q ≠ 5 → σ5.1 q = σ3.1 q := fun q a b c => hs5.1 q a (by simp [b, c])
        refine e_m_counts (Y := (lrn G H seed i).2.2.1) (by rw [hs5.2.1 36 (by simp)]; exact i3) (fun j s c hj => by rw [eY 23 (by decide) (by decide) (by decide), eY 24 (by decide) (by decide) (by decide)]; exact i4 j s c hj) (fun a c q => by have := b3 a c q; omega) (by omega) (by omega) (fun σ6 s1 s2 s3 => w_M_lots_175 ?_)
        have ez : lz z = (lrn G H seed (i + 1)).1 := by rw [hz']; rfl
        have ei : (z * 1103515245) + 12345 = (lrn G H seed (i + 1)).1 := ez
        have emax : (if nI (lrn G H seed i).2.2.2.2.2 < nI (ssum 16 (od G (sg_ad (lrn G H seed i).2.1 (lpl G (lz z)) 1))) then nI (ssum 16 (od G (sg_ad (lrn G H seed i).2.1 (lpl G (lz z)) 1))) else nI (lrn G H seed i).2.2.2.2.2) = nI (max (lrn G H seed i).2.2.2.2.2 (ssum 16 (od G (sg_ad (lrn G H seed i).2.1 (lpl G (lz z)) 1)))) := by
          split
          · rename_i q
            rw [nI_ltI (by omega) (by omega)] at q
            rw [Nat.max_eq_right (by omega)]
          · rename_i q
            rw [nI_ltI (by omega) (by omega)] at q
            rw [Nat.max_eq_left (by omega)]
        rw [ei, j4, nI_add, nI_add, emax, nI_1]
        rw [hz']
        refine ih σ6 ⟨i1.tr ((hs5.mono (by simp) (by simp)).tr (s1.mono (by simp) (by simp))), ?_, ?_, ?_⟩
        · show ar σ6.1 12 (stt G (sg_ad (lrn G H seed i).2.1 (lpl G (lz (lrn G H seed i).1)) 1))
          rw [← hz']
          exact ar_sm s1 j2 (by simp) (by decide)
        · show σ6.1 0 36 = nI (tadd (ssum 16 (od G (sg_ad (lrn G H seed i).2.1 (lpl G (lz (lrn G H seed i).1)) 1))) (lrn G H seed i).2.2.1).length
          rw [← hz']; exact s2
        · show yX 23 24 (tadd (ssum 16 (od G (sg_ad (lrn G H seed i).2.1 (lpl G (lz (lrn G H seed i).1)) 1))) (lrn G H seed i).2.2.1) σ6.1
          rw [← hz']; exact s3
      · rintro σ3 ⟨i1, i2, i3, i4⟩
        refine w_M_lots_90 (fun q => absurd (nI_le (Nat.le_refl m) (by omega)) q) (fun _ => ?_) (fun q => absurd (nI_le (Nat.le_refl m) (by omega)) q)
        obtain ⟨b1, b2, b3, b4⟩ := lrn_ok hG hH h0 seed m
        have h9 := kk σ3 (h.fr i1 (by decide) (by decide))
        obtain ⟨Y, hY⟩ : ∃ Y, Y = (lrn G H seed m).2.2.1 := ⟨_, rfl⟩
        rw [← hY] at i3 i4 b2 h9
        have k0 : nI k = 0 ↔ k = 0 := by rw [nI_lit0, nI_eq pk3 (by decide)]
        have k1 : nI k = 1 ↔ k = 1 := by rw [nI_lit1, nI_eq pk3 (by decide)]
        have k2 : nI k = 2 ↔ k = 2 := nI_eq pk3 (by decide)
        have k400 : nI k < 400 ↔ k < 400 := nI_ltI pk3 (by decide)
        have k100 : nI k < 100 ↔ k < 100 := nI_ltI pk3 (by decide)
        have s400 : 400 ≤ k → nI k - 400 = nI (k - 400) := fun q => pk_sub (b := 400) q
        have s100 : 100 ≤ k → nI k - 100 = nI (k - 100) := fun q => pk_sub (b := 100) q
        refine w_M_lotsThen_0 ?_ ?_ ?_ ?_ ?_ ?_ ?_ ?_ ?_ ?_
        all_goals simp only [k0, k1, k2, k400, k100]
        · intro q0 q1 q2
          rw [s100 (by omega), i3, nI_leI (by omega) (by omega)] at q2
          rw [s100 (by omega)]; exact vp_in_nI (by omega) (by decide)
        · intro q0 q2
          rw [s400 (by omega), i3, nI_leI (by omega) (by omega)] at q2
          rw [s400 (by omega)]; exact vp_in_nI (by omega) (by decide)
        · intro q0 q1 q2 q3 q4
          rw [if_neg (by omega), if_neg (by omega), if_neg q2, if_neg q3, if_neg q4] at h9
          refine w_M_lots_192 ?_
          rw [i3]; exact h9
        · intro q0 q1 q2 q3 q4
          rw [if_neg (by omega), if_neg (by omega), if_neg q2, if_neg q3, if_pos (Classical.byContradiction q4)] at h9
          exact w_M_lots_192 h9
        · intro q0 q1 q2 q3
          rw [if_neg (by omega), if_neg (by omega), if_neg q2, if_pos (Classical.byContradiction q3)] at h9
          exact w_M_lots_192 h9
        · intro q0 q1 q2
          rw [if_neg (by omega), if_neg (by omega), if_pos (Classical.byContradiction q2)] at h9
          exact w_M_lots_192 h9
        · intro q0 q1 q2
          rw [s100 (by omega), i3, nI_leI (by omega) (by omega)] at q2
          rw [if_neg (by omega), if_pos (by omega), List.getElem?_eq_none q2] at h9
          exact w_M_lots_192 h9
        · intro q0 q1 q2
          rw [s100 (by omega), i3, nI_leI (by omega) (by omega)] at q2
          obtain ⟨⟨a, c⟩, hac⟩ : ∃ p, Y[k - 100]? = some p := ⟨_, List.getElem?_eq_getElem (by omega)⟩
          rw [if_neg (by omega), if_pos (by omega), hac] at h9
          refine w_M_lots_192 ?_
          rw [s100 (by omega), nI_clamp (by omega), (i4 _ a c hac).1]
          exact h9
        · intro q0 q2
          rw [s400 (by omega), i3, nI_leI (by omega) (by omega)] at q2
          rw [if_pos (by omega), List.getElem?_eq_none q2] at h9
          exact w_M_lots_192 h9
        · intro q0 q2
          rw [s400 (by omega), i3, nI_leI (by omega) (by omega)] at q2
          obtain ⟨⟨a, c⟩, hac⟩ : ∃ p, Y[k - 400]? = some p := ⟨_, List.getElem?_eq_getElem (by omega)⟩
          rw [if_pos (by omega), hac] at h9
          refine w_M_lots_192 ?_
          rw [s400 (by omega), nI_clamp (by omega), (i4 _ a c hac).2]
          exact h9
      · refine ⟨f2, ?_, fun j s c hj => absurd hj (by simp [lrn])⟩
        rw [f1.2.1 36 (by simp), g1.2.1 36 (by simp)]
        dsimp only
        rw [sy_up2, if_pos ⟨rfl, rfl⟩]; rfl
    · rw [nI_lit0, nI_eq (by omega) (by decide)] at q
      have e : f_lots seed (nI m) (nI k) (G, H, P, U, R, T, W, L) = -3 := by simp only [f_lots, hk, hm, if_pos (Classical.byContradiction q)]
      rw [e] at kk
      exact kk σ h
  refine w_M_lots_0 (fun a b => ?_) (fun a b => ?_) (fun _ a b => ?_) (fun _ a b => ?_) (fun a b => ?_)
  · obtain ⟨k, hk⟩ := getw (Or.inl a)
    obtain ⟨m, hm⟩ := z1 b
    exact go k m hk hm
  · obtain ⟨k, hk⟩ := getw (Or.inl a)
    exact badn k hk (z2 b)
  · obtain ⟨k, hk⟩ := getw (Or.inr a)
    obtain ⟨m, hm⟩ := z1 b
    exact go k m hk hm
  · obtain ⟨k, hk⟩ := getw (Or.inr a)
    exact badn k hk (z2 b)
  · have hn : px (fun m => m ≤ 3 ∨ 100 ≤ m) w = none := px_no (fun k hk hp e => by
      subst e
      rw [show (100 : Int32) = nI 100 from rfl, nI_leI (by decide) hk] at b
      rcases hp with hp | hp
      · have := y2 a
        rw [px_i (p := pR 0 3) hk ⟨Nat.zero_le _, hp⟩] at this
        cases this
      · exact b hp)
    have e : f_lots seed n w (G, H, P, U, R, T, W, L) = -1 := by simp only [f_lots, hn]
    rw [e] at kk
    exact kk σ h
