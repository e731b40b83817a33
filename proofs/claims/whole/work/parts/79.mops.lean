/-! the model's again, and its lists -/
/-- a pile as a number, cell by cell -/
def cdn (h : Nat → Nat) : Nat → Nat
  | 0 => 0
  | i + 1 => 4 * cdn h i + h i
theorem cdn_lt {h : Nat → Nat} (hh : ∀ c, h c ≤ 3) : ∀ i, cdn h i < 4 ^ i
  | 0 => Nat.one_pos
  | i + 1 => by
    rw [cdn, Nat.pow_succ]
    have := cdn_lt hh i
    have := hh i
    omega
theorem cdn_inj {h h' : Nat → Nat} (a : ∀ c, h c ≤ 3) (b : ∀ c, h' c ≤ 3) : ∀ {i : Nat}, cdn h i = cdn h' i → ∀ c, c < i → h c = h' c
  | 0, _, c, hc => absurd hc (Nat.not_lt_zero _)
  | i + 1, e, c, hc => by
    rw [cdn, cdn] at e
    have h1 := a i
    have h2 := b i
    by_cases q : c = i
    · subst q; omega
    · exact cdn_inj a b (i := i) (by omega) c (by omega)
theorem cdn_cg {h h' : Nat → Nat} : ∀ {i : Nat}, (∀ c, c < i → h c = h' c) → cdn h i = cdn h' i
  | 0, _ => rfl
  | i + 1, e => by rw [cdn, cdn, cdn_cg (i := i) (fun c hc => e c (by omega)), e i (by omega)]
theorem cdn_feq {G : sg_G} (hG : sg_ok G) {h h' : Nat → Nat} (a : hz G 3 h) (b : hz G 3 h') : nI (cdn h (sg_n G)) = nI (cdn h' (sg_n G)) ↔ feq h h' = true := by
  have h16 := sg_n16 hG
  have hl : ∀ {h : Nat → Nat}, hz G 3 h → cdn h (sg_n G) < 2 ^ 32 := fun a => Nat.lt_of_lt_of_le (cdn_lt a.2 _) (Nat.le_trans (Nat.pow_le_pow_right (by decide) h16) (by decide))
  rw [nI_eq32 (hl a) (hl b)]
  constructor
  · intro e
    refine feq_iff.mpr (fun j _ => ?_)
    by_cases q : j < sg_n G
    · exact cdn_inj a.2 b.2 e j q
    · rw [a.1 j (fun z => q z.1), b.1 j (fun z => q z.1)]
  · intro e
    exact cdn_cg (fun c hc => feq_iff.mp e c (by omega))
theorem e_m_code {Q : Option Value → sy_S → Prop} {σ : sy_S} {G : sg_G} {h : Nat → Nat} {B : Nat} (hg : gm G σ.1) (hh : ar σ.1 12 h) (hz' : hz G B h) (kk : Q (some (.int (nI (cdn h (sg_n G))))) σ) : sy_E shM mX12_codeOf (0, sy_ent [.ref 0, .ref 12] 4, [], σ) Q := by
  have hG := hg.1
  have h16 := sg_n16 hG
  refine w_M_codeOf_0 ?_
  have hl := sy_loop (sh := shM) (y := mX12_codeOf) (Q := Q) (fun i σ' => (4, [some (.ref 0), some (.ref 12), some (.int (nI (cdn h i))), some (.int (nI i))], [], σ')) (fun i σ' => σ' = σ) (sg_n G) ?_ ?_ 0 σ (Nat.zero_le _) rfl
  · exact hl
  · rintro i σ1 hi rfl ih
    obtain ⟨p1, p2, p3, p4⟩ := gm_pl hg (show i < 16 by omega)
    have ei : (nI i).toNatClampNeg = i := nI_clamp (by omega)
    have nle : ¬ (σ1.1 0 0 * σ1.1 0 1 ≤ nI i) := by rw [gm_n hg]; exact nI_ge hi (by omega)
    have h9 := ih σ1 rfl
    rw [cdn] at h9
    have e4 : ∀ b, (4 : Int32) * nI (cdn h i) + nI b = nI (4 * cdn h i + b) := fun b => by rw [show (4 : Int32) = nI 4 from rfl, pk_mul, nI_add]
    refine w_M_codeOf_4 (fun _ => vp_in_nI (by omega) (by decide)) (fun q => absurd q nle) (fun _ _ => ?_) (fun _ z => ?_)
    · rw [ei, hh i (by omega), e4, nI_1]; exact h9
    · rw [ei] at z
      rw [hz'.1 i (p3 hi z)] at h9
      rw [show (0 : Int32) = nI 0 from rfl, e4, nI_1]; exact h9
  · rintro σ1 rfl
    have le : σ1.1 0 0 * σ1.1 0 1 ≤ nI (sg_n G) := by rw [gm_n hg]; exact nI_le (Nat.le_refl _) (by omega)
    exact w_M_codeOf_4 (fun q => absurd le q) (fun _ => kk) (fun q => absurd le q) (fun q => absurd le q)
theorem e_m_ahead {Q : Option Value → sy_S → Prop} {σ : sy_S} {n : Nat} {p : Nat → Bool} (hn : n ≤ 2000) (hp : ∀ k, k < n → (σ.1 22 k = σ.1 22 n ↔ p k = true)) (kk : Q (some (.int ((fst1 p 0 n).elim (-1) nI))) σ) : sy_E shM mX12_ahead (0, sy_ent [.ref 0, .int (nI n)] 3, [], σ) Q := by
  refine w_M_ahead_0 ?_
  have key : ∀ (d k : Nat), k + d = n → fst1 p k d = fst1 p 0 n → sy_E shM mX12_ahead (2, [some (.ref 0), some (.int (nI n)), some (.int (nI k))], [], σ) Q := by
    intro d
    induction d with
    | zero =>
      intro k hk e
      have hk : k = n := hk
      subst hk
      rw [← e] at kk
      exact w_M_ahead_2 (fun q => absurd (nI_le (Nat.le_refl _) (by omega)) q) (fun q => absurd (nI_le (Nat.le_refl _) (by omega)) q) (fun _ => kk) (fun q => absurd (nI_le (Nat.le_refl _) (by omega)) q) (fun q => absurd (nI_le (Nat.le_refl _) (by omega)) q)
    | succ d ih =>
      intro k hk e
      have nle : ¬ nI n ≤ nI k := nI_ge (show k < n by omega) (by omega)
      have h9 := hp k (by omega)
      rw [fst1] at e
      refine w_M_ahead_2 (fun _ => vp_in_nI (by omega) (by decide)) (fun _ => vp_in_nI (by omega) (by decide)) (fun q => absurd q nle) (fun _ z => ?_) (fun _ z => ?_)
      · rw [nI_clamp (by omega), nI_clamp (by omega)] at z
        rw [if_neg (fun q => z (h9.mpr q))] at e
        rw [nI_1]
        exact ih (k + 1) (by omega) e
      · rw [nI_clamp (by omega), nI_clamp (by omega)] at z
        rw [if_pos (h9.mp (Classical.byContradiction z))] at e
        rw [← e] at kk
        exact kk
  exact key n 0 (Nat.zero_add n) rfl
theorem M_again {Q : Option Value → sy_S → Prop} {σ : sy_S} {B : Nat} {S : st} (cell : Int32) (w : Int32) (hB : B ≤ 2000) (ho : sO B S) (h : RM S σ.1) (kk : ∀ σ' : sy_S, RM S σ'.1 → Q (some (.int (f_again cell w S))) σ') : sy_E shM mX12_again (0, sy_ent [.ref 0, .int cell, .int w] 6, [], σ) Q := by
  obtain ⟨G, H, P, U, R, T, W, L⟩ := S
  obtain ⟨r1, r2, r3, r4, r5, r6, r7⟩ := id h
  have hG := r1.1
  have hH := sO_H ho
  obtain ⟨z1, z2⟩ := m_rng (x := w) (lo := 0) (hi := 1) (a := 0) (b := 1) rfl rfl (by decide)
  have hB9 := hz9 hH hB
  refine w_M_again_0 r1 (fun c hc q => ?_) (fun c hc q => ?_) (fun q => ?_)
  · obtain ⟨m, hm⟩ := z1 q
    obtain ⟨pm, rfl, -⟩ := px_s hm
    have pm2 : m ≤ 1 := pm.2
    obtain ⟨pc, rfl, -⟩ := px_s hc
    have hc16 := sg_p16 hG pc
    have az := agn_hz hG hH pc
    have ef : f_again (nI c) (nI m) (G, H, P, U, R, T, W, L) = match fst1 (fun n => (aga G H c n).isSome) 1 2000 with
      | none => -5
      | some n => if m = 0 then nI (n - (aga G H c n).getD 0) else nI ((aga G H c n).getD 0) := by
        simp only [f_again, hc, hm]
        rfl
    rw [ef] at kk
    refine e_m_copies rfl rfl (by decide) (by decide) r2 (fun σ1 g1 g2 => w_M_again_31 ?_)
    refine e_m_stt row12 (g1.gm r1 (by simp) (by simp)) g2 hB9 (fun σ2 f1 f2 f3 f4 => w_M_again_39 ?_)
    have hs2 : sm [12, 5, 22] [7] σ σ2 := (g1.mono (by simp) (by simp)).tr (f1.mono (by simp) (by simp))
    have f2 : ar σ2.1 12 (agn G H c 0) := f2
    refine e_m_code (hs2.gm r1 (by simp) (by simp)) f2 (az 0) (w_M_again_53 (vp_in_nI (n := 0) (by decide) (by decide)) ?_)
    have key : ∀ (d n : Nat) (σ' : sy_S), n + d = 2000 → sm [12, 5, 22] [7] σ σ' → ar σ'.1 12 (agn G H c n) → (∀ k, k ≤ n → σ'.1 22 k = nI (cdn (agn G H c k) (sg_n G))) → fst1 (fun n => (aga G H c n).isSome) (n + 1) d = fst1 (fun n => (aga G H c n).isSome) 1 2000 → sy_E shM mX12_again (57, [some (.ref 0), some (.int (nI c)), some (.int (nI m)), none, some (.int (nI (n + 1))), none], [], σ') Q := by
      intro d
      induction d with
      | zero =>
        intro n σ' hn hs ha hx et
        have e : n = 2000 := hn
        subst e
        have h9 := kk σ' (h.fr hs (by decide) (by decide))
        rw [← et] at h9
        exact w_M_again_57 (fun q => absurd (by decide) q) (fun _ => h9) (fun q => absurd (by decide) q)
      | succ d ih =>
        intro n σ' hn hs ha hx et
        rw [fst1] at et
        have hadz := hz_ad (n := 1) (az n) pc (show 3 ≤ 4 by decide) (by have := (az n).2 c; omega)
        refine w_M_again_57 (fun _ => vp_in_nI hc16 (by decide)) (fun q => ?_) (fun _ => ?_)
        · rw [show (2000 : Int32) = nI 2000 from rfl, nI_ltI (by decide) (by omega)] at q; omega
        · have ev : σ'.1 12 (nI c).toNatClampNeg + 1 = nI (agn G H c n c + 1) := by rw [nI_clamp (by omega), ha c hc16, nI_1]
          rw [ev, nI_clamp (show c < 2 ^ 31 by omega)]
          have hs3 : sm [12, 5, 22] [7] σ (sy_up σ'.1 12 c (nI (agn G H c n c + 1)), σ'.2) := hs.tr (sm.up (by simp) (by decide))
          have had : ar (sy_up σ'.1 12 c (nI (agn G H c n c + 1))) 12 (sg_ad (agn G H c n) c 1) := fun j hj => by
            rw [sy_up2]
            unfold sg_ad
            by_cases e : j = c
            · subst e; rw [if_pos ⟨rfl, rfl⟩, if_pos rfl]
            · rw [if_neg (fun q => e q.2), if_neg e]; exact ha j hj
          refine e_m_stt row12 (hs3.gm r1 (by simp) (by simp)) had (fun j _ => by have := hadz.2 j; omega) (fun σ4 j1 j2 j3 j4 => w_M_again_83 ?_)
          have j2 : ar σ4.1 12 (agn G H c (n + 1)) := j2
          have hs4 : sm [12, 5, 22] [7] σ σ4 := hs3.tr (j1.mono (by simp) (by simp))
          refine e_m_code (hs4.gm r1 (by simp) (by simp)) j2 (az (n + 1)) (w_M_again_98 (vp_in_nI (by omega) (by decide)) ?_)
          rw [nI_clamp (show n + 1 < 2 ^ 31 by omega)]
          obtain ⟨σ5, hσ5⟩ : ∃ σ5 : sy_S, σ5 = (sy_up σ4.1 22 (n + 1) (nI (cdn (agn G H c (n + 1)) (sg_n G))), σ4.2) := ⟨_, rfl⟩
          have hs5 : sm [12, 5, 22] [7] σ σ5 := by rw [hσ5]; exact hs4.tr (sm.up (by simp) (by decide))
          have hx5 : ∀ k, k ≤ n + 1 → σ5.1 22 k = nI (cdn (agn G H c k) (sg_n G)) := fun k hk => by
            rw [hσ5]
            dsimp only
            rw [sy_up2]
            by_cases e : k = n + 1
            · subst e; rw [if_pos ⟨rfl, rfl⟩]
            · rw [if_neg (fun q => e q.2), j1.1 22 (by decide) (by simp)]
              dsimp only
              rw [sy_up_ne _ _ _ (by decide)]
              exact hx k (by omega)
          have ha5 : ar σ5.1 12 (agn G H c (n + 1)) := fun j hj => by
            rw [hσ5]
            dsimp only
            rw [sy_up_ne _ _ _ (by decide)]; exact j2 j hj
          rw [← hσ5]
          refine e_m_ahead (p := fun k => feq (agn G H c k) (agn G H c (n + 1))) (by omega) (fun k hk => ?_) ?_
          · rw [hx5 k (by omega), hx5 (n + 1) (Nat.le_refl _)]
            exact cdn_feq hG (az k) (az (n + 1))
          have eag : fst1 (fun k => feq (agn G H c k) (agn G H c (n + 1))) 0 (n + 1) = aga G H c (n + 1) := rfl
          rw [eag]
          cases hag : aga G H c (n + 1) with
          | none =>
            rw [hag, if_neg (by decide)] at et
            refine w_M_again_105 (fun _ => ?_) (fun q => absurd (by decide) q) (fun q => absurd (by decide) q)
            rw [nI_1]
            exact ih (n + 1) σ5 (by omega) hs5 ha5 hx5 et
          | some j =>
            rw [hag, if_pos (show (some j).isSome = true from rfl)] at et
            have hjn := (fst1_some hag).2.2
            have h9 := kk σ5 (h.fr hs5 (by decide) (by decide))
            rw [← et] at h9
            dsimp only at h9
            rw [hag] at h9
            refine w_M_again_105 (fun q => absurd q (nI_pos (by omega))) (fun _ q => ?_) (fun _ q => ?_)
            · rw [nI_lit0, nI_eq (by omega) (by decide)] at q
              rw [if_neg q] at h9
              exact h9
            · rw [nI_lit0, nI_eq (by omega) (by decide)] at q
              rw [if_pos (Classical.byContradiction q)] at h9
              have es : nI (n + 1) - (some j).elim (-1) nI = nI (n + 1 - j) := pk_sub (by omega)
              rw [es]
              exact h9
    refine key 2000 0 _ rfl (hs2.tr (sm.up (by simp) (by decide))) (fun j hj => ?_) (fun k hk => ?_) rfl
    · dsimp only
      rw [sy_up_ne _ _ _ (by decide)]; exact f2 j hj
    · have e : k = 0 := by omega
      subst e
      dsimp only
      rw [sy_up2, if_pos ⟨rfl, rfl⟩]
  · have e : f_again cell w (G, H, P, U, R, T, W, L) = -1 := by simp only [f_again, hc, z2 q]
    rw [e] at kk
    exact kk σ h
  · have e : f_again cell w (G, H, P, U, R, T, W, L) = -1 := by simp only [f_again, q]
    rw [e] at kk
    exact kk σ h
theorem RM_ls {G : sg_G} {H : Nat → Nat} {P : Nat → Option (Nat → Nat)} {U R : List (Nat → Nat)} {T : List Nat} {W : Option (Nat × Nat)} {L L' : Nat → Option (List Int32)} {σ σ' : sy_S} {l fs : List Nat} (h : RM (G, H, P, U, R, T, W, L) σ.1) (hs : sm l fs σ σ') (hl : (mC.all fun q => q == 25 || q == 26 || !l.elem q) = true) (hf : (mF.all fun q => !fs.elem q) = true) (hp : lM L' σ'.1) : RM (G, H, P, U, R, T, W, L') σ'.1 := by
  obtain ⟨h1, h2, h3, h4, h5, h6, h7⟩ := h
  have c : ∀ q, q ∈ mC → q ≠ 0 → q ≠ 25 → q ≠ 26 → σ'.1 q = σ.1 q := fun q hq h0 h7 h8 => hs.1 q h0 (fun z => by
    have := List.all_eq_true.mp hl q hq
    rw [List.elem_iff.mpr z, beq_eq_false_iff_ne.mpr h7, beq_eq_false_iff_ne.mpr h8] at this
    cases this)
  have d : ∀ q, q ∈ mF → σ'.1 0 q = σ.1 0 q := fun q hq => hs.2.1 q (fun z => by
    have := List.all_eq_true.mp hf q hq
    rw [List.elem_iff.mpr z] at this
    cases this)
  refine ⟨h1.fe ?_ ?_ ?_ ?_ ?_, fun j hj => ?_, h3.fe ?_ ?_ ?_ ?_, h4.fe ?_ ?_, h5.fe ?_ ?_, h6.fe ?_ ?_, hp⟩
  case refine_6 => rw [c 2 (by decide) (by decide) (by decide) (by decide)]; exact h2 j hj
  all_goals first | exact c _ (by decide) (by decide) (by decide) (by decide) | exact d _ (by decide)
theorem lM_n {L : Nat → Option (List Int32)} {f : Nat → Nat → Int32} {m : Nat} (h : lM L f) (hm : m < 4) (e : L m = none) : f 25 m = -1 := by
  have := h m hm
  rw [e] at this
  exact this
theorem lM_s {L : Nat → Option (List Int32)} {f : Nat → Nat → Int32} {m : Nat} {x : List Int32} (h : lM L f) (hm : m < 4) (e : L m = some x) : f 25 m = nI x.length ∧ ∀ j y, x[j]? = some y → f 26 (40 * m + j) = y := by
  have := h m hm
  rw [e] at this
  exact this
/-- one list anew, the others as they were -/
theorem lM_set {L : Nat → Option (List Int32)} {f f' : Nat → Nat → Int32} {m : Nat} {x : List Int32} (ho : ∀ i l, L i = some l → l.length ≤ 40) (h : lM L f) (e25 : ∀ i, i ≠ m → f' 25 i = f 25 i) (e26 : ∀ k, (k < 40 * m ∨ 40 * m + 40 ≤ k) → f' 26 k = f 26 k) (n25 : f' 25 m = nI x.length) (n26 : ∀ j y, x[j]? = some y → f' 26 (40 * m + j) = y) : lM (pset L m x) f' := by
  intro i hi
  unfold pset
  by_cases e : i = m
  · subst e
    rw [if_pos rfl]
    exact ⟨n25, n26⟩
  · rw [if_neg e]
    have h9 := h i hi
    cases hL : L i with
    | none =>
      rw [hL] at h9
      show f' 25 i = -1
      rw [e25 i e]; exact h9
    | some l =>
      rw [hL] at h9
      refine ⟨by rw [e25 i e]; exact h9.1, fun j y hj => ?_⟩
      have h1 := ho i l hL
      have h2 := (List.getElem?_eq_some_iff.mp hj).1
      rw [e26 _ (by omega)]; exact h9.2 j y hj
theorem ix40 (m j : Nat) : (40 : Int32) * nI m + nI j = nI (40 * m + j) := by rw [show (40 : Int32) = nI 40 from rfl, pk_mul, nI_add]
theorem len1 : ∀ n, n < 41 → ((nI n - 1).toInt64).toInt = (n : Int) - 1 := by decide +kernel
theorem M_list {Q : Option Value → sy_S → Prop} {σ : sy_S} {B : Nat} {S : st} (q : Int32) (n : Int32) (ho : sO B S) (h : RM S σ.1) (kk : ∀ σ' : sy_S, RM (f_list q n S).2 σ'.1 → Q (some (.int (f_list q n S).1)) σ') : sy_E shM mX12_list (0, sy_ent [.ref 0, .int q, .int n] 4, [], σ) Q := by
  obtain ⟨G, H, P, U, R, T, W, L⟩ := S
  obtain ⟨r1, r2, r3, r4, r5, r6, r7⟩ := id h
  have hG := r1.1
  have hH := sO_H ho
  have ho40 := ho.2.2.2.2.2.2
  refine w_M_list_0 (fun m hm _ _ => ?_) (fun m hm q1 q2 => ?_) (fun m hm q1 q2 => ?_) (fun m hm q1 => ?_) (fun qn => ?_)
  · obtain ⟨m4, rfl, -⟩ := px_s hm
    exact vp_in_nI m4 (by decide)
  · obtain ⟨m4, rfl, -⟩ := px_s hm
    have m4 : m < 4 := m4
    obtain ⟨k, hk, rfl⟩ := nI_of (x := n) (fun z => absurd q2 (by rw [Int32.not_le]; exact z))
    rw [show (40 : Int32) = nI 40 from rfl, nI_leI hk (by decide)] at q1
    have hn : px (pR 0 40) (nI k) = some k := px_i hk ⟨Nat.zero_le _, q1⟩
    have e : f_list (nI m) (nI k) (G, H, P, U, R, T, W, L) = (1, (G, H, P, U, R, T, W, pset L m (List.replicate k 0))) := by simp only [f_list, hm, hn]
    rw [e] at kk
    rw [nI_clamp (by omega)]
    have hl := sy_loop (sh := shM) (y := mX12_list) (Q := Q) (fun i σ' => (34, [some (.ref 0), some (.int (nI m)), none, some (.int (nI i))], [], σ')) (fun i σ' => sm [25, 26] [] σ σ' ∧ σ'.1 25 = sy_up σ.1 25 m (nI k) 25 ∧ (∀ j, j < i → σ'.1 26 (40 * m + j) = 0) ∧ ∀ q, (q < 40 * m ∨ 40 * m + 40 ≤ q) → σ'.1 26 q = σ.1 26 q) 40 ?_ ?_ 0 (sy_up σ.1 25 m (nI k), σ.2) (by decide) ⟨sm.up (by simp) (by decide), rfl, fun j hj => absurd hj (Nat.not_lt_zero _), fun q _ => by dsimp only; rw [sy_up_ne _ _ _ (by decide)]⟩
    · exact hl
    · rintro i σ1 hi ⟨i1, i2, i3, i4⟩ ih
      refine w_M_list_34 (fun _ => by rw [ix40]; exact vp_in_nI (by omega) (by decide)) (fun q => absurd q (nI_ge hi (by decide))) (fun _ => ?_)
      rw [ix40, nI_clamp (by omega), nI_1]
      refine ih _ ⟨i1.tr (sm.up (by simp) (by decide)), ?_, fun j hj => ?_, fun q hq => ?_⟩
      · dsimp only; rw [sy_up_ne _ _ _ (by decide)]; exact i2
      · dsimp only
        rw [sy_up2]
        by_cases e : j = i
        · subst e; rw [if_pos ⟨rfl, rfl⟩]
        · rw [if_neg (by omega)]; exact i3 j (by omega)
      · dsimp only
        rw [sy_up2, if_neg (by omega)]; exact i4 q hq
    · rintro σ1 ⟨i1, i2, i3, i4⟩
      refine w_M_list_34 (fun q => absurd (nI_le (Nat.le_refl 40) (by decide)) q) (fun _ => kk σ1 ?_) (fun q => absurd (nI_le (Nat.le_refl 40) (by decide)) q)
      refine RM_ls h i1 (by decide) (by decide) (lM_set ho40 r7 (fun i hi => ?_) i4 ?_ (fun j y hj => ?_))
      · rw [i2, sy_up2, if_neg (fun q => hi q.2)]
      · rw [i2, sy_up2, if_pos ⟨rfl, rfl⟩, List.length_replicate]
      · have hjl := (List.getElem?_eq_some_iff.mp hj).1
        rw [List.length_replicate] at hjl
        rw [List.getElem?_replicate, if_pos hjl] at hj
        cases hj
        exact i3 j (by omega)
  · have hn : px (pR 0 40) n = none := px_no (fun k hk _ e => by subst e; exact q2 (nI_le (a := 0) (by omega) hk))
    have hneg : n < 0 := by rw [← Int32.not_le]; exact q2
    have e : f_list q n (G, H, P, U, R, T, W, L) = (-14, (G, H, P, U, R, T, W, L)) := by simp only [f_list, hm, hn, if_pos hneg]
    rw [e] at kk
    exact kk σ h
  · have hn : px (pR 0 40) n = none := px_no (fun k hk hp e => by subst e; exact q1 (nI_le (b := 40) hp.2 (by decide)))
    have hneg : ¬ n < 0 := fun z => q1 (by
      rw [Int32.le_iff_toInt_le]
      rw [Int32.lt_iff_toInt_lt] at z
      have e1 : (0 : Int32).toInt = 0 := rfl
      have e2 : (40 : Int32).toInt = 40 := rfl
      omega)
    have e : f_list q n (G, H, P, U, R, T, W, L) = (-2, (G, H, P, U, R, T, W, L)) := by simp only [f_list, hm, hn, if_neg hneg]
    rw [e] at kk
    exact kk σ h
  · have e : f_list q n (G, H, P, U, R, T, W, L) = (-1, (G, H, P, U, R, T, W, L)) := by simp only [f_list, qn]
    rw [e] at kk
    exact kk σ h
theorem M_put {Q : Option Value → sy_S → Prop} {σ : sy_S} {B : Nat} {S : st} (q : Int32) (i : Int32) (v : Int32) (ho : sO B S) (h : RM S σ.1) (kk : ∀ σ' : sy_S, RM (f_put q i v S).2 σ'.1 → Q (some (.int (f_put q i v S).1)) σ') : sy_E shM mX12_put (0, sy_ent [.ref 0, .int q, .int i, .int v] 4, [], σ) Q := by
  obtain ⟨G, H, P, U, R, T, W, L⟩ := S
  obtain ⟨r1, r2, r3, r4, r5, r6, r7⟩ := id h
  have hG := r1.1
  have hH := sO_H ho
  have ho40 := ho.2.2.2.2.2.2
  -- a list is there
  have is : ∀ m, m < 4 → 0 ≤ σ.1 25 m → ∃ l, L m = some l := fun m m4 z => by
    cases hL : L m with
    | none => rw [lM_n r7 m4 hL] at z; exact absurd z (by decide)
    | some l => exact ⟨l, rfl⟩
  have rng : ∀ m l, m < 4 → L m = some l → ((0 ≤ i.toInt64 ∧ i.toInt64 ≤ ((σ.1 25 m - 1).toInt64)) → ∃ j, px (fun j => j < l.length) i = some j) ∧ (¬ (0 ≤ i.toInt64 ∧ i.toInt64 ≤ ((σ.1 25 m - 1).toInt64)) → px (fun j => j < l.length) i = none) := fun m l m4 hL => by
    have h40 := ho40 m l hL
    rw [(lM_s r7 m4 hL).1]
    exact m_rngL rfl (len1 _ (by omega)) (by omega)
  refine w_M_put_0 (fun m hm => ?_) (fun m hm q1 q2 => ?_) (fun m hm q1 q2 => ?_) (fun m hm q1 q2 => ?_) (fun m hm q1 => ?_) (fun qn => ?_)
  · obtain ⟨m4, rfl, -⟩ := px_s hm
    exact vp_in_nI m4 (by decide)
  · obtain ⟨m4, rfl, -⟩ := px_s hm
    have m4 : m < 4 := m4
    rw [nI_clamp (by omega)] at q1 q2
    obtain ⟨l, hL⟩ := is m m4 q1
    obtain ⟨j, hj⟩ := (rng m l m4 hL).1 q2
    obtain ⟨pj, rfl, -⟩ := px_s hj
    have h40 := ho40 m l hL
    have pj : j < l.length := pj
    rw [ix40]; exact vp_in_nI (by omega) (by decide)
  · obtain ⟨m4, rfl, -⟩ := px_s hm
    have m4 : m < 4 := m4
    rw [nI_clamp (by omega)] at q1 q2
    obtain ⟨l, hL⟩ := is m m4 q1
    obtain ⟨j, hj⟩ := (rng m l m4 hL).1 q2
    obtain ⟨pj, rfl, -⟩ := px_s hj
    have h40 := ho40 m l hL
    have pj : j < l.length := pj
    have e : f_put (nI m) (nI j) v (G, H, P, U, R, T, W, L) = (1, (G, H, P, U, R, T, W, pset L m (l.set j v))) := by simp only [f_put, hm, hL, hj]
    rw [e] at kk
    rw [ix40, nI_clamp (by omega)]
    obtain ⟨l1, l2⟩ := lM_s r7 m4 hL
    refine kk _ (RM_ls (l := [26]) (fs := []) h (sm.up (by simp) (by decide)) (by decide) (by decide) (lM_set ho40 r7 (fun i hi => ?_) (fun k hk => ?_) ?_ (fun k y hk => ?_)))
    · dsimp only; rw [sy_up_ne _ _ _ (by decide)]
    · dsimp only; rw [sy_up2, if_neg (by omega)]
    · dsimp only; rw [sy_up_ne _ _ _ (by decide), List.length_set]; exact l1
    · dsimp only
      rw [sy_up2]
      rw [List.getElem?_set] at hk
      by_cases e : j = k
      · subst e
        rw [if_pos rfl, if_pos pj] at hk
        cases hk
        rw [if_pos ⟨rfl, rfl⟩]
      · rw [if_neg e] at hk
        rw [if_neg (by omega)]
        exact l2 k y hk
  · obtain ⟨m4, rfl, -⟩ := px_s hm
    have m4 : m < 4 := m4
    rw [nI_clamp (by omega)] at q1 q2
    obtain ⟨l, hL⟩ := is m m4 q1
    have e : f_put (nI m) i v (G, H, P, U, R, T, W, L) = (-13, (G, H, P, U, R, T, W, L)) := by simp only [f_put, hm, hL, (rng m l m4 hL).2 q2]
    rw [e] at kk
    exact kk σ h
  · obtain ⟨m4, rfl, -⟩ := px_s hm
    have m4 : m < 4 := m4
    rw [nI_clamp (by omega)] at q1
    cases hL : L m with
    | none =>
      have e : f_put (nI m) i v (G, H, P, U, R, T, W, L) = (-11, (G, H, P, U, R, T, W, L)) := by simp only [f_put, hm, hL]
      rw [e] at kk
      exact kk σ h
    | some l =>
      refine absurd ?_ q1
      have h40 := ho40 m l hL
      rw [(lM_s r7 m4 hL).1]; exact nI_le (a := 0) (Nat.zero_le _) (by omega)
  · have e : f_put q i v (G, H, P, U, R, T, W, L) = (-1, (G, H, P, U, R, T, W, L)) := by simp only [f_put, qn]
    rw [e] at kk
    exact kk σ h
theorem M_get {Q : Option Value → sy_S → Prop} {σ : sy_S} {B : Nat} {S : st} (q : Int32) (i : Int32) (ho : sO B S) (h : RM S σ.1) (kk : ∀ σ' : sy_S, RM S σ'.1 → Q (some (.long (f_get q i S))) σ') : sy_E shM mX12_get (0, sy_ent [.ref 0, .int q, .int i] 3, [], σ) Q := by
  obtain ⟨G, H, P, U, R, T, W, L⟩ := S
  obtain ⟨r1, r2, r3, r4, r5, r6, r7⟩ := id h
  have hG := r1.1
  have hH := sO_H ho
  have ho40 := ho.2.2.2.2.2.2
  have rng : ∀ m l, m < 4 → L m = some l → ((0 ≤ i.toInt64 ∧ i.toInt64 ≤ ((σ.1 25 m - 1).toInt64)) → ∃ j, px (fun j => j < l.length) i = some j) ∧ (¬ (0 ≤ i.toInt64 ∧ i.toInt64 ≤ ((σ.1 25 m - 1).toInt64)) → px (fun j => j < l.length) i = none) := fun m l m4 hL => by
    have h40 := ho40 m l hL
    rw [(lM_s r7 m4 hL).1]
    exact m_rngL rfl (len1 _ (by omega)) (by omega)
  have is : ∀ m, m < 4 → (0 ≤ i.toInt64 ∧ i.toInt64 ≤ ((σ.1 25 m - 1).toInt64)) → ∃ l, L m = some l := fun m m4 z => by
    cases hL : L m with
    | none =>
      rw [lM_n r7 m4 hL, sm_lit] at z
      have e1 : (0 : Int64).toInt = 0 := rfl
      have e2 : ((-1 - 1 : Int32).toInt64).toInt = -2 := by decide +kernel
      omega
    | some l => exact ⟨l, rfl⟩
  refine w_M_get_0 (fun m hm => ?_) (fun m hm q2 => ?_) (fun m hm q2 => ?_) (fun m hm q2 => ?_) (fun qn => ?_)
  · obtain ⟨m4, rfl, -⟩ := px_s hm
    exact vp_in_nI m4 (by decide)
  · obtain ⟨m4, rfl, -⟩ := px_s hm
    have m4 : m < 4 := m4
    rw [nI_clamp (by omega)] at q2
    obtain ⟨l, hL⟩ := is m m4 q2
    obtain ⟨j, hj⟩ := (rng m l m4 hL).1 q2
    obtain ⟨pj, rfl, -⟩ := px_s hj
    have h40 := ho40 m l hL
    have pj : j < l.length := pj
    rw [ix40]; exact vp_in_nI (by omega) (by decide)
  · obtain ⟨m4, rfl, -⟩ := px_s hm
    have m4 : m < 4 := m4
    rw [nI_clamp (by omega)] at q2
    obtain ⟨l, hL⟩ := is m m4 q2
    obtain ⟨j, hj⟩ := (rng m l m4 hL).1 q2
    obtain ⟨pj, rfl, -⟩ := px_s hj
    have h40 := ho40 m l hL
    have pj : j < l.length := pj
    have e : f_get (nI m) (nI j) (G, H, P, U, R, T, W, L) = (l.getD j 0).toInt64 := by simp only [f_get, hm, hL, hj]
    rw [e] at kk
    rw [ix40, nI_clamp (by omega), (lM_s r7 m4 hL).2 j (l.getD j 0) (by rw [List.getD_eq_getElem?_getD, List.getElem?_eq_getElem pj]; rfl)]
    exact kk σ h
  · obtain ⟨m4, rfl, -⟩ := px_s hm
    have m4 : m < 4 := m4
    rw [nI_clamp (by omega)] at q2
    have e : f_get (nI m) i (G, H, P, U, R, T, W, L) = -9223372036854775808 := by
      cases hL : L m with
      | none => simp only [f_get, hm, hL]
      | some l => simp only [f_get, hm, hL, (rng m l m4 hL).2 q2]
    rw [e] at kk
    exact kk σ h
  · have e : f_get q i (G, H, P, U, R, T, W, L) = -9223372036854775808 := by simp only [f_get, qn]
    rw [e] at kk
    exact kk σ h
