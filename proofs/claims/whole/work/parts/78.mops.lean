/-! the model's fire, through, avalanche -/
def ubt1 (b : Nat → Nat) (o : Nat) : Nat := if b o = 0 then 1 else 0
theorem e_m_unburnt {Q : Option Value → sy_S → Prop} {σ : sy_S} {G : sg_G} {b : Nat → Nat} {c : Nat} (hg : gm G σ.1) (hc : sg_p G c) (hb : ar σ.1 21 b) (hB : ∀ d, d < 16 → b d < 2 ^ 31) (kk : Q (some (.int (nI (ubn G b c)))) σ) : sy_E shM mX12_unburnt (0, sy_ent [.ref 0, .int (nI c)] 4, [], σ) Q := by
  have hG := hg.1
  have hc16 := sg_p16 hG hc
  have hl4 := sg_nb_len G c
  obtain ⟨n1, n2⟩ := gm_nb hg hc.1
  refine w_M_unburnt_0 ?_
  have hl := sy_loop (sh := shM) (y := mX12_unburnt) (Q := Q) (fun t σ' => (4, [some (.ref 0), some (.int (nI c)), some (.int (nI (lsum (ubt1 b) ((sg_nb G c).take t)))), some (.int (nI t))], [], σ')) (fun t σ' => σ' = σ) (sg_nb G c).length ?_ ?_ 0 σ (Nat.zero_le _) rfl
  · exact hl
  · rintro t σ1 ht rfl ih
    obtain ⟨o, ho⟩ : ∃ o, (sg_nb G c)[t]? = some o := ⟨_, List.getElem?_eq_getElem ht⟩
    have hop := sg_nb_p hG hc.1 (List.mem_of_getElem? ho)
    have ho16 := sg_p16 hG hop.1
    have e4t : (4 : Int32) * nI c + nI t = nI (4 * c + t) := by rw [show (4 : Int32) = nI 4 from rfl, pk_mul, nI_add]
    have ec : (nI c).toNatClampNeg = c := nI_clamp (by omega)
    have nle : ¬ σ1.1 4 (nI c).toNatClampNeg ≤ nI t := by rw [ec, n1]; exact nI_ge ht (by omega)
    have h9 := ih σ1 rfl
    rw [List.take_succ, ho, show (some o).toList = [o] from rfl, lsum_app] at h9
    refine w_M_unburnt_4 (vp_in_nI hc16 (by decide)) (fun _ => by rw [e4t]; exact vp_in_nI (by omega) (by decide)) (fun _ => by rw [e4t, nI_clamp (by omega), n2 t o ho]; exact vp_in_nI ho16 (by decide)) (fun q => absurd q nle) (fun _ z => ?_) (fun _ z => ?_)
    · rw [e4t, nI_clamp (show 4 * c + t < 2 ^ 31 by omega), n2 t o ho, nI_clamp (by omega), hb o ho16, nI_lit0, nI_eq (hB o ho16) (by decide)] at z
      have e : ubt1 b o = 0 := if_neg z
      rw [e, Nat.add_zero] at h9
      rw [Int32.add_zero, nI_1]; exact h9
    · rw [e4t, nI_clamp (show 4 * c + t < 2 ^ 31 by omega), n2 t o ho, nI_clamp (by omega), hb o ho16, nI_lit0, nI_eq (hB o ho16) (by decide)] at z
      have e : ubt1 b o = 1 := if_pos (Classical.byContradiction z)
      rw [e] at h9
      rw [nI_1, nI_1]; exact h9
  · rintro σ1 rfl
    have le : σ1.1 4 (nI c).toNatClampNeg ≤ nI (sg_nb G c).length := by rw [nI_clamp (by omega), n1]; exact nI_le (Nat.le_refl _) (by omega)
    refine w_M_unburnt_4 (vp_in_nI hc16 (by decide)) (fun q => absurd le q) (fun q => absurd le q) (fun _ => ?_) (fun q => absurd le q) (fun q => absurd le q)
    rw [List.take_length]; exact kk
def bav (G : sg_G) (p b : Nat → Nat) : Nat → Bool
  | 0 => false
  | i + 1 => bav G p b i || brn G p b i
theorem bav_iff {G : sg_G} {p b : Nat → Nat} : ∀ {i : Nat}, bav G p b i = true ↔ ∃ c, c < i ∧ brn G p b c = true
  | 0 => ⟨(fun h => by cases h), fun ⟨c, h, _⟩ => absurd h (Nat.not_lt_zero _)⟩
  | i + 1 => by
    rw [bav, Bool.or_eq_true, bav_iff]
    constructor
    · rintro (⟨c, h1, h2⟩ | h)
      · exact ⟨c, by omega, h2⟩
      · exact ⟨i, by omega, h⟩
    · rintro ⟨c, h1, h2⟩
      by_cases e : c = i
      · subst e; exact Or.inr h2
      · exact Or.inl ⟨c, by omega, h2⟩
theorem e_m_burns {Q : Option Value → sy_S → Prop} {σ : sy_S} {G : sg_G} {p : Nat → Nat} (hg : gm G σ.1) (hp : ∀ c, sg_p G c → σ.1 12 c = nI (p c)) (hB : ∀ c, sg_p G c → p c < 2 ^ 31) (kk : ∀ (σ' : sy_S) (N : Nat), bE G p N → sm [6, 21] [] σ σ' → ar σ'.1 21 (bru G p N) → Q (some (.int (nI N))) σ') : sy_E shM mX12_burns (0, sy_ent [.ref 0, .ref 12] 5, [], σ) Q := by
  have hG := hg.1
  have h16 := sg_n16 hG
  have outer : ∀ (d n : Nat) (x : Int32) (σ' : sy_S), n + d = 17 → x ≠ 0 → (∀ m, m < n → ∃ c, brn G p (bru G p m) c = true) → sm [6, 21] [] σ σ' → ar σ'.1 21 (bru G p n) → sy_E shM mX12_burns (28, [some (.ref 0), some (.ref 12), some (.int (nI n)), some (.int x), none], [], σ') Q := by
    intro d
    induction d with
    | zero =>
      intro n x σ' hn hx hm hs hb
      exfalso
      obtain ⟨c, hc⟩ := hm 16 (by omega)
      rw [bru_full hG (fun m h => hm m (by omega)) c] at hc
      cases hc
    | succ d ih =>
      intro n x σ' hn hx hm hs hb
      have hgs := hs.gm hg (by simp) (by simp)
      have hbl : ∀ c, bru G p n c < 2 ^ 31 := fun c => by have := bru_le G p n c; omega
      refine w_M_burns_28 (fun q => absurd q hx) (fun _ => ?_)
      -- who burns now
      have hl := sy_loop (sh := shM) (y := mX12_burns) (Q := Q) (fun i σ' => (37, [some (.ref 0), some (.ref 12), some (.int (nI n)), some (.int 0), some (.int (nI i))], [], σ')) (fun i σ1 => sm [6] [] σ' σ1 ∧ ∀ j, j < i → σ1.1 6 j = if brn G p (bru G p n) j = true then 1 else 0) (sg_n G) ?_ ?_ 0 σ' (Nat.zero_le _) ⟨sm.rf, fun j hj => absurd hj (Nat.not_lt_zero _)⟩
      · exact hl
      · rintro i σ1 hi ⟨i1, i2⟩ ih2
        have hg1 := i1.gm hgs (by simp) (by simp)
        have ei : (nI i).toNatClampNeg = i := nI_clamp (by omega)
        obtain ⟨p1, p2, p3, p4⟩ := gm_pl hg1 (show i < 16 by omega)
        have nle : ¬ (σ1.1 0 0 * σ1.1 0 1 ≤ nI i) := by rw [gm_n hg1]; exact nI_ge hi (by omega)
        have e21 : σ1.1 21 i = nI (bru G p n i) := by rw [i1.1 21 (by decide) (by simp)]; exact hb i (by omega)
        have put : ∀ x : Int32, x = (if brn G p (bru G p n) i = true then 1 else 0) → sy_E shM mX12_burns (37, [some (.ref 0), some (.ref 12), some (.int (nI n)), some (.int 0), some (.int (nI i + 1))], [], (sy_up σ1.1 6 (nI i).toNatClampNeg x, σ1.2)) Q := by
          intro x hx
          rw [ei, nI_1]
          refine ih2 _ ⟨i1.tr (sm.up (by simp) (by decide)), fun j hj => ?_⟩
          dsimp only
          rw [sy_up2]
          by_cases e : j = i
          · subst e; rw [if_pos ⟨rfl, rfl⟩]; exact hx
          · rw [if_neg (fun q => e q.2)]; exact i2 j (by omega)
        refine w_M_burns_37 (fun _ => vp_in_nI (by omega) (by decide)) (fun q => absurd q nle) (fun _ z => put _ ?_) (fun _ z w => put _ ?_) (fun _ z w => ?_)
        · rw [ei] at z
          rw [if_neg (fun q => p3 hi z (brn_iff.mp q).1)]; rfl
        · rw [ei, e21, nI_lit0, nI_eq (hbl i) (by decide)] at w
          rw [if_neg (fun q => w (brn_iff.mp q).2.1)]; rfl
        · rw [ei] at z
          rw [ei, e21, nI_lit0, nI_eq (hbl i) (by decide)] at w
          have hpl := p4 hi z
          have w := Classical.byContradiction w
          refine e_m_unburnt (b := bru G p n) hg1 hpl (fun j hj => by rw [i1.1 21 (by decide) (by simp)]; exact hb j hj) (fun c _ => hbl c) ?_
          have e12 : σ1.1 12 (nI i).toNatClampNeg = nI (p i) := by rw [ei, i1.1 12 (by decide) (by simp), hs.1 12 (by decide) (by simp)]; exact hp i hpl
          have hub : ubn G (bru G p n) i < 2 ^ 31 := by
            have : ubn G (bru G p n) i ≤ 4 := by
              unfold ubn
              refine Nat.le_trans ?_ (sg_nb_len G i)
              generalize sg_nb G i = l
              induction l with
              | nil => exact Nat.le_refl _
              | cons o l ih =>
                show (if bru G p n o = 0 then 1 else 0) + lsum _ l ≤ l.length + 1
                split <;> omega
            omega
          rw [e12]
          refine w_M_burns_82 (fun _ => vp_in_nI (by omega) (by decide)) (fun _ => vp_in_nI (by omega) (by decide)) (fun q => put _ ?_) (fun q => put _ ?_)
          · rw [nI_ltI (hB i hpl) hub] at q
            rw [if_neg (fun z => by have := (brn_iff.mp z).2.2; omega)]; rfl
          · rw [nI_ltI (hB i hpl) hub] at q
            rw [if_pos (brn_iff.mpr ⟨hpl, w, by omega⟩)]; rfl
      · rintro σ1 ⟨i1, i2⟩
        have hg1 := i1.gm hgs (by simp) (by simp)
        have le : σ1.1 0 0 * σ1.1 0 1 ≤ nI (sg_n G) := by rw [gm_n hg1]; exact nI_le (Nat.le_refl _) (by omega)
        refine w_M_burns_37 (fun q => absurd le q) (fun _ => ?_) (fun q => absurd le q) (fun q => absurd le q) (fun q => absurd le q)
        have hl := sy_loop (sh := shM) (y := mX12_burns) (Q := Q) (fun i σ' => (100, [some (.ref 0), some (.ref 12), some (.int (nI n)), some (.int (if bav G p (bru G p n) i = true then 1 else 0)), some (.int (nI i))], [], σ')) (fun i σ2 => sm [21] [] σ1 σ2 ∧ (∀ j, j < i → σ2.1 21 j = nI (bst G p (bru G p n) (n + 1) j)) ∧ ∀ j, i ≤ j → j < 16 → σ2.1 21 j = nI (bru G p n j)) (sg_n G) ?_ ?_ 0 σ1 (Nat.zero_le _) ⟨sm.rf, fun j hj => absurd hj (Nat.not_lt_zero _), fun j _ hj => by rw [i1.1 21 (by decide) (by simp)]; exact hb j hj⟩
        · exact hl
        · rintro i σ2 hi ⟨j1, j2, j3⟩ ih2
          have hg2 := j1.gm hg1 (by simp) (by simp)
          have ei : (nI i).toNatClampNeg = i := nI_clamp (by omega)
          have nle : ¬ (σ2.1 0 0 * σ2.1 0 1 ≤ nI i) := by rw [gm_n hg2]; exact nI_ge hi (by omega)
          have e6 : σ2.1 6 i = if brn G p (bru G p n) i = true then 1 else 0 := by rw [j1.1 6 (by decide) (by simp)]; exact i2 i hi
          have put : ∀ x : Int32, x = nI (bst G p (bru G p n) (n + 1) i) → sy_E shM mX12_burns (100, [some (.ref 0), some (.ref 12), some (.int (nI n)), some (.int (if bav G p (bru G p n) (i + 1) = true then 1 else 0)), some (.int (nI i + 1))], [], (sy_up σ2.1 21 (nI i).toNatClampNeg x, σ2.2)) Q := by
            intro x hx
            rw [ei, nI_1]
            refine ih2 _ ⟨j1.tr (sm.up (by simp) (by decide)), fun j hj => ?_, fun j hj hj2 => ?_⟩
            · dsimp only
              rw [sy_up2]
              by_cases e : j = i
              · subst e; rw [if_pos ⟨rfl, rfl⟩]; exact hx
              · rw [if_neg (fun q => e q.2)]; exact j2 j (by omega)
            · dsimp only
              rw [sy_up2, if_neg (by omega)]; exact j3 j (by omega) hj2
          have eor : (if bav G p (bru G p n) i = true then (1 : Int32) else 0) ||| σ2.1 6 (nI i).toNatClampNeg = if bav G p (bru G p n) (i + 1) = true then 1 else 0 := by
            rw [ei, e6, bav]
            cases bav G p (bru G p n) i <;> cases brn G p (bru G p n) i <;> rfl
          refine w_M_burns_100 (fun _ => vp_in_nI (by omega) (by decide)) (fun q => absurd q nle) (fun q => absurd q nle) (fun _ z => ?_) (fun _ z => ?_)
          · rw [eor]
            refine put _ ?_
            rw [ei, e6] at z
            rw [ei, j3 i (Nat.le_refl _) (by omega)]
            unfold bst
            rw [if_neg (fun q => by rw [if_pos q] at z; cases z)]
          · rw [eor]
            refine put _ ?_
            rw [ei, e6] at z
            have hb1 : brn G p (bru G p n) i = true := Classical.byContradiction fun q => z (by rw [if_neg q])
            unfold bst
            rw [if_pos hb1, nI_1]
        · rintro σ2 ⟨j1, j2, j3⟩
          have hg2 := j1.gm hg1 (by simp) (by simp)
          have le : σ2.1 0 0 * σ2.1 0 1 ≤ nI (sg_n G) := by rw [gm_n hg2]; exact nI_le (Nat.le_refl _) (by omega)
          have hs2 : sm [6, 21] [] σ σ2 := (hs.tr (i1.mono (by simp) (by simp))).tr (j1.mono (by simp) (by simp))
          refine w_M_burns_100 (fun q => absurd le q) (fun _ z => ?_) (fun _ z => ?_) (fun q => absurd le q) (fun q => absurd le q)
          · have hno : ∀ c, brn G p (bru G p n) c = false := fun c => by
              cases hc : brn G p (bru G p n) c with
              | false => rfl
              | true =>
                have : bav G p (bru G p n) (sg_n G) = true := bav_iff.mpr ⟨c, (brn_iff.mp hc).1.1, hc⟩
                rw [if_pos this] at z
                cases z
            rw [z, Int32.add_zero]
            refine w_M_burns_28 (fun _ => kk σ2 n ⟨hm, hno⟩ hs2 (fun j hj => ?_)) (fun q => absurd rfl q)
            by_cases e : j < sg_n G
            · rw [j2 j e]
              unfold bst
              rw [if_neg (by rw [hno j]; decide)]
            · exact j3 j (by omega) hj
          · have hav : bav G p (bru G p n) (sg_n G) = true := Classical.byContradiction fun q => z (by rw [if_neg q])
            obtain ⟨c, -, hc⟩ := bav_iff.mp hav
            rw [nI_1]
            refine ih (n + 1) _ σ2 (by omega) z (fun m h => ?_) hs2 (fun j hj => ?_)
            · by_cases e : m = n
              · subst e; exact ⟨c, hc⟩
              · exact hm m (by omega)
            · rw [bru]
              by_cases e : j < sg_n G
              · exact j2 j e
              · rw [j3 j (by omega) hj]
                unfold bst
                rw [if_neg (fun q => e (brn_iff.mp q).1.1)]
  refine w_M_burns_0 ?_
  have hl := sy_loop (sh := shM) (y := mX12_burns) (Q := Q) (fun i σ' => (7, [some (.ref 0), some (.ref 12), some (.int 0), some (.int 1), some (.int (nI i))], [], σ')) (fun i σ' => sm [21] [] σ σ' ∧ ∀ j, j < i → σ'.1 21 j = 0) 16 ?_ ?_ 0 σ (by decide) ⟨sm.rf, fun j hj => absurd hj (Nat.not_lt_zero _)⟩
  · exact hl
  · rintro i σ1 hi ⟨i1, i2⟩ ih
    refine w_M_burns_7 (fun _ => vp_in_nI hi (by decide)) (fun q => absurd q (nI_ge hi (by decide))) (fun _ => ?_)
    rw [nI_clamp (by omega), nI_1]
    refine ih _ ⟨i1.tr (sm.up (by simp) (by decide)), fun j hj => ?_⟩
    dsimp only
    rw [sy_up2]
    by_cases e : j = i
    · subst e; rw [if_pos ⟨rfl, rfl⟩]
    · rw [if_neg (fun q => e q.2)]; exact i2 j (by omega)
  · rintro σ1 ⟨i1, i2⟩
    refine w_M_burns_7 (fun q => absurd (nI_le (Nat.le_refl 16) (by decide)) q) (fun _ => ?_) (fun q => absurd (nI_le (Nat.le_refl 16) (by decide)) q)
    exact outer 17 0 1 σ1 rfl (by decide) (fun m hm => absurd hm (Nat.not_lt_zero _)) (i1.mono (by simp) (by simp)) (fun j hj => i2 j hj)
theorem e_m_notBurnt {Q : Option Value → sy_S → Prop} {σ : sy_S} {G : sg_G} {b : Nat → Nat} (hg : gm G σ.1) (hb : ar σ.1 21 b) (hB : ∀ d, d < 16 → b d < 2 ^ 31) (kk : Q (some (.int (bts (fun c => decide (b c = 0)) (sg_P G)))) σ) : sy_E shM mX12_notBurnt (0, sy_ent [.ref 0] 3, [], σ) Q := by
  have hG := hg.1
  have h16 := sg_n16 hG
  have ec : bts (fun c => decide (b c = 0)) (sg_P G) = bts (fun c => !G.2.2 c && decide (b c = 0)) (List.range (sg_n G)) := bts_pm G _ _
  rw [ec] at kk
  refine w_M_notBurnt_0 ?_
  have hl := sy_loop (sh := shM) (y := mX12_notBurnt) (Q := Q) (fun i σ' => (4, [some (.ref 0), some (.int (bts (fun c => !G.2.2 c && decide (b c = 0)) (List.range i))), some (.int (nI i))], [], σ')) (fun i σ' => σ' = σ) (sg_n G) ?_ ?_ 0 σ (Nat.zero_le _) rfl
  · exact hl
  · rintro i σ1 hi rfl ih
    obtain ⟨p1, p2, p3, p4⟩ := gm_pl hg (show i < 16 by omega)
    have ei : (nI i).toNatClampNeg = i := nI_clamp (by omega)
    have nle : ¬ (σ1.1 0 0 * σ1.1 0 1 ≤ nI i) := by rw [gm_n hg]; exact nI_ge hi (by omega)
    have h9 := ih σ1 rfl
    rw [bts_s] at h9
    have or0 : ∀ x : Int32, x ||| 0 = x := fun x => Int32.or_zero
    refine w_M_notBurnt_4 (fun _ => vp_in_nI (by omega) (by decide)) (fun q => absurd q nle) (fun _ z => ?_) (fun _ z w => ?_) (fun _ z w => ?_)
    · rw [ei] at z
      have hn : G.2.2 i = true := by
        cases hw : G.2.2 i with
        | true => rfl
        | false => exact absurd ⟨hi, hw⟩ (p3 hi z)
      rw [hn, Bool.not_true, Bool.false_and, if_neg (by decide)] at h9
      rw [or0, nI_1]; exact h9
    · rw [ei, hb i (by omega), nI_lit0, nI_eq (hB i (by omega)) (by decide)] at w
      rw [decide_eq_false w, Bool.and_false, if_neg (by decide)] at h9
      rw [or0, nI_1]; exact h9
    · rw [ei] at z
      rw [ei, hb i (by omega), nI_lit0, nI_eq (hB i (by omega)) (by decide)] at w
      rw [decide_eq_true (Classical.byContradiction w), (p4 hi z).2, Bool.not_false, Bool.true_and, if_pos rfl] at h9
      rw [nI_1]; exact h9
  · rintro σ1 rfl
    have le : σ1.1 0 0 * σ1.1 0 1 ≤ nI (sg_n G) := by rw [gm_n hg]; exact nI_le (Nat.le_refl _) (by omega)
    exact w_M_notBurnt_4 (fun q => absurd le q) (fun _ => kk) (fun q => absurd le q) (fun q => absurd le q) (fun q => absurd le q)
theorem bfn_of {G : sg_G} {p : Nat → Nat} {N : Nat} (h : bE G p N) : bru G p N = bfn G p := by unfold bfn; rw [← bnd_eq h]
theorem bfn_le {G : sg_G} (hG : sg_ok G) {p : Nat → Nat} {N : Nat} (h : bE G p N) (c : Nat) : bfn G p c ≤ 16 := by
  rw [← bfn_of h]
  exact Nat.le_trans (bru_le G p N c) (bE_le hG h)
theorem M_burn {Q : Option Value → sy_S → Prop} {σ : sy_S} {B : Nat} {S : st} (p : Int32) (w : Int32) (ho : sO B S) (h : RM S σ.1) (kk : ∀ σ' : sy_S, RM S σ'.1 → Q (some (.int (f_burn p w S))) σ') : sy_E shM mX12_burn (0, sy_ent [.ref 0, .int p, .int w] 4, [], σ) Q := by
  obtain ⟨G, H, P, U, R, T, W, L⟩ := S
  obtain ⟨r1, r2, r3, r4, r5, r6, r7⟩ := id h
  have hG := r1.1
  have hH := sO_H ho
  obtain ⟨z1, z2⟩ := m_rng (x := w) (lo := 0) (hi := 2) (a := 0) (b := 2) rfl rfl (by decide)
  -- the fire of a pile
  have fire : ∀ (m : Nat) (x : Nat → Nat), m < 6 → P m = some x → (∀ σ' : sy_S, RM (G, H, P, U, R, T, W, L) σ'.1 → ar σ'.1 21 (bfn G x) → (∀ c, bfn G x c ≤ 16) → sy_E shM mX12_burn (61, [some (.ref 0), none, some (.int w), none], [.int (nI (bnd G x))], σ') Q) → sy_E shM mX12_takes (0, sy_ent [.ref 0, .int (nI m), .ref 12] 4, [], σ) (fun r9 σ9 => sy_E shM mX12_burn (53, [some (.ref 0), none, some (.int w), none], r9.toList ++ [], σ9) Q) := by
    intro m x m6 hx go
    have hxz := ho.2.2.2.1 _ x hx
    refine e_m_takes m6 rfl (by decide) (by decide) (pM_s r6 m6 hx).2 (fun σ1 g1 g2 => w_M_burn_53 ?_)
    refine e_m_burns (p := x) (g1.gm r1 (by simp) (by simp)) (fun c hc => g2 c (sg_p16 hG hc)) (fun c _ => by have := hxz.2 c; omega) (fun σ2 N f1 f2 f3 => ?_)
    rw [bfn_of f1] at f3
    rw [bnd_eq f1]
    exact go σ2 (h.fr ((g1.mono (l' := [12, 6, 21]) (fs' := []) (by simp) (by simp)).tr (f2.mono (by simp) (by simp))) (by decide) (by decide)) f3 (bfn_le hG f1)
  refine w_M_burn_0 (G := G) (fun m hm _ => ?_) (fun _ _ _ => r1) (fun m hm _ _ _ => ?_) (fun m hm q z => ?_) (fun m hm q z => ?_) (fun m hm q c hc z => ?_) (fun m hm q c hc z => ?_) (fun m hm q z => ?_) (fun q => ?_)
  · obtain ⟨m6, rfl, -⟩ := px_s hm
    exact vp_in_nI m6 (by decide)
  · obtain ⟨m6, rfl, -⟩ := px_s hm
    exact vp_in_nI m6 (by decide)
  · obtain ⟨m6, rfl, -⟩ := px_s hm
    have m6 : m < 6 := m6
    rw [nI_clamp (by omega)] at z
    obtain ⟨k, hk⟩ := z1 q
    obtain ⟨pk, rfl, -⟩ := px_s hk
    have pk : k ≤ 2 := pk.2
    cases hp : P m with
    | none => exact absurd (pM_n r6 m6 hp) z
    | some x =>
      refine fire m x m6 hp (fun σ1 hr f3 hle => ?_)
      have h9 := kk σ1 hr
      match k, hk, pk with
      | 0, hk, _ =>
        have e : f_burn (nI m) (nI 0) (G, H, P, U, R, T, W, L) = if ubt G x = 0 then 1 else 0 := by simp only [f_burn, hm, hk, hp, if_true]
        rw [e] at h9
        refine w_M_burn_61 (fun z => absurd (by decide) z) (fun _ z => absurd rfl z) (fun _ z => absurd rfl z) (fun _ _ => ?_) (fun z => absurd (by decide) z) (fun z => absurd (by decide) z)
        refine e_m_notBurnt hr.1 f3 (fun c _ => by have := hle c; omega) ?_
        have eu : bts (fun c => decide (bfn G x c = 0)) (sg_P G) = ubt G x := rfl
        rw [eu]
        refine w_M_burn_103 (fun z => ?_) (fun z => ?_)
        · rw [if_neg z] at h9; exact h9
        · rw [if_pos (Classical.byContradiction z)] at h9; exact h9
      | 1, hk, _ =>
        have e : f_burn (nI m) (nI 1) (G, H, P, U, R, T, W, L) = nI (bnd G x) := by simp only [f_burn, hm, hk, hp]; rfl
        rw [e] at h9
        exact w_M_burn_61 (fun z => absurd (by decide) z) (fun _ _ z => absurd rfl z) (fun _ _ _ => h9) (fun _ z => absurd (by decide) z) (fun z => absurd (by decide) z) (fun z => absurd (by decide) z)
      | 2, hk, _ =>
        have e : f_burn (nI m) (nI 2) (G, H, P, U, R, T, W, L) = ubt G x := by simp only [f_burn, hm, hk, hp]; rfl
        rw [e] at h9
        refine w_M_burn_61 (fun z => absurd (by decide) z) (fun _ _ _ => ?_) (fun _ _ z => absurd (by decide) z) (fun _ z => absurd (by decide) z) (fun z => absurd (by decide) z) (fun z => absurd (by decide) z)
        exact e_m_notBurnt hr.1 f3 (fun c _ => by have := hle c; omega) (w_M_burn_127 h9)
  · obtain ⟨m6, rfl, -⟩ := px_s hm
    have m6 : m < 6 := m6
    rw [nI_clamp (by omega)] at z
    obtain ⟨k, hk⟩ := z1 q
    cases hp : P m with
    | none =>
      have e : f_burn (nI m) w (G, H, P, U, R, T, W, L) = -6 := by simp only [f_burn, hm, hk, hp]
      rw [e] at kk
      exact kk σ h
    | some x =>
      refine absurd (fun z => ?_) z
      rw [(pM_s r6 m6 hp).1] at z
      cases z
  · obtain ⟨m6, rfl, -⟩ := px_s hm
    have m6 : m < 6 := m6
    rw [nI_clamp (by omega)] at z
    obtain ⟨pc, e1, -⟩ := px_s hc
    have hc16 := sg_p16 hG pc
    cases hp : P m with
    | none => exact absurd (pM_n r6 m6 hp) z
    | some x =>
      refine fire m x m6 hp (fun σ1 hr f3 hle => ?_)
      have h9 := kk σ1 hr
      have e : f_burn (nI m) w (G, H, P, U, R, T, W, L) = if bfn G x c = 0 then -5 else nI (bfn G x c) := by simp only [f_burn, hm, z2 q, hc, hp]
      rw [e] at h9
      have e3 : w = nI (c + 100) := by rw [← nI_add, ← e1]; exact (Int32.sub_add_cancel w 100).symm
      have c1 : ¬ w < 100 := by rw [e3, show (100 : Int32) = nI 100 from rfl, nI_ltI (by omega) (by decide)]; omega
      have ev : σ1.1 21 ((w - 100).toNatClampNeg) = nI (bfn G x c) := by rw [e1, nI_clamp (by omega)]; exact f3 c hc16
      have hle := hle c
      refine w_M_burn_61 (fun _ => by rw [e1]; exact vp_in_nI hc16 (by decide)) (fun z => absurd z c1) (fun z => absurd z c1) (fun z => absurd z c1) (fun _ z => ?_) (fun _ z => ?_)
      · rw [ev] at z ⊢
        rw [nI_lit0, nI_eq (by omega) (by decide)] at z
        rw [if_neg z] at h9; exact h9
      · rw [ev, nI_lit0, nI_eq (by omega) (by decide)] at z
        rw [if_pos (Classical.byContradiction z)] at h9; exact h9
  · obtain ⟨m6, rfl, -⟩ := px_s hm
    have m6 : m < 6 := m6
    rw [nI_clamp (by omega)] at z
    cases hp : P m with
    | none =>
      have e : f_burn (nI m) w (G, H, P, U, R, T, W, L) = -6 := by simp only [f_burn, hm, z2 q, hc, hp]
      rw [e] at kk
      exact kk σ h
    | some x =>
      refine absurd (fun z => ?_) z
      rw [(pM_s r6 m6 hp).1] at z
      cases z
  · have e : f_burn p w (G, H, P, U, R, T, W, L) = -1 := by simp only [f_burn, hm, z2 q, z]
    rw [e] at kk
    exact kk σ h
  · have e : f_burn p w (G, H, P, U, R, T, W, L) = -1 := by simp only [f_burn, q]
    rw [e] at kk
    exact kk σ h
theorem M_through {Q : Option Value → sy_S → Prop} {σ : sy_S} {B : Nat} {S : st}  (ho : sO B S) (h : RM S σ.1) (kk : ∀ σ' : sy_S, RM S σ'.1 → Q (some (.int (f_through S))) σ') : sy_E shM mX12_through (0, sy_ent [.ref 0] 6, [], σ) Q := by
  obtain ⟨G, H, P, U, R, T, W, L⟩ := S
  obtain ⟨r1, r2, r3, r4, r5, r6, r7⟩ := id h
  have hG := r1.1
  have hH := sO_H ho
  have hP := sg_P_len hG
  have h16 := sg_n16 hG
  refine w_M_through_0 (e_m_places r1 (w_M_through_4 (fun q => ?_) (fun q => ?_)))
  · rw [show (6 : Int32) = nI 6 from rfl, nI_leI (by omega) (by decide)] at q
    have e : f_through (G, H, P, U, R, T, W, L) = nI (ssum (4 ^ (sg_P G).length) fun code => if ubt G (plc G code) = 0 then 1 else 0) := if_neg (show ¬ 6 < (sg_P G).length by omega)
    rw [e] at kk
    have hN : 4 ^ (sg_P G).length ≤ 4 ^ 6 := Nat.pow_le_pow_right (by decide) q
    have hsh := shl4 (sg_P G).length (by omega)
    obtain ⟨n, hn⟩ : ∃ n, n = (sg_P G).length := ⟨_, rfl⟩
    rw [← hn] at hN kk hsh ⊢
    have hl := sy_loop (sh := shM) (y := mX12_through) (Q := Q) (fun i σ' => (18, [some (.ref 0), some (.int (nI n)), some (.int (nI (ssum i fun code => if ubt G (plc G code) = 0 then 1 else 0))), some (.int (nI i)), none, none], [], σ')) (fun i σ' => sm [12, 6, 21] [] σ σ') (4 ^ n) ?_ ?_ 0 σ (Nat.zero_le _) sm.rf
    · exact hl
    · rintro i σ1 hi i1 ih
      refine w_M_through_18 (fun q => absurd q (by rw [hsh]; exact nI_ge hi (by omega))) (fun _ => ?_)
      have hl := sy_loop (sh := shM) (y := mX12_through) (Q := Q) (fun j σ' => (33, [some (.ref 0), some (.int (nI n)), some (.int (nI (ssum i fun code => if ubt G (plc G code) = 0 then 1 else 0))), some (.int (nI i)), some (.int (nI (i / 4 ^ (sg_pm G j).length))), some (.int (nI j))], [], σ')) (fun j σ' => sm [12] [] σ1 σ' ∧ ∀ c, c < j → sg_p G c → σ'.1 12 c = nI (plc G i c)) (sg_n G) ?_ ?_ 0 σ1 (Nat.zero_le _) ⟨sm.rf, fun j hj => absurd hj (Nat.not_lt_zero _)⟩
      · have e0 : i / 4 ^ (sg_pm G 0).length = i := by
          show i / 4 ^ 0 = i
          rw [Nat.pow_zero, Nat.div_one]
        rw [e0] at hl
        exact hl
      · rintro j σ2 hj ⟨j1, j2⟩ ih2
        have hg2 := (i1.tr (j1.mono (l' := [12, 6, 21]) (fs' := []) (by simp) (by simp))).gm r1 (by simp) (by simp)
        have ej : (nI j).toNatClampNeg = j := nI_clamp (by omega)
        obtain ⟨p1, p2, p3, p4⟩ := gm_pl hg2 (show j < 16 by omega)
        have nle : ¬ (σ2.1 0 0 * σ2.1 0 1 ≤ nI j) := by rw [gm_n hg2]; exact nI_ge hj (by omega)
        have hd : i / 4 ^ (sg_pm G j).length < 2 ^ 31 := Nat.lt_of_le_of_lt (Nat.div_le_self _ _) (by omega)
        have keep : ∀ x : Int32, (sg_p G j → x = nI (plc G i j)) → ∀ c, c < j + 1 → sg_p G c → sy_up σ2.1 12 j x 12 c = nI (plc G i c) := by
          intro x hx c hc hpc
          rw [sy_up2]
          by_cases e : c = j
          · subst e; rw [if_pos ⟨rfl, rfl⟩]; exact hx hpc
          · rw [if_neg (fun q => e q.2)]; exact j2 c (by omega) hpc
        refine w_M_through_33 (fun _ => vp_in_nI (by omega) (by decide)) (fun q => absurd q nle) (fun _ z _ => ?_) (fun _ z w => absurd z w) (fun _ z w => absurd w z) (fun _ z _ => ?_)
        · rw [ej] at z ⊢
          have hpl := p4 hj (fun q => q z)
          have hs1 : sg_pm G (j + 1) = sg_pm G j ++ [j] := by rw [sg_pm_s, hpl.2]; rfl
          have h9 := ih2 (sy_up σ2.1 12 j (nI (i / 4 ^ (sg_pm G j).length % 4)), σ2.2) ⟨j1.tr (sm.up (by simp) (by decide)), keep _ (fun _ => rfl)⟩
          rw [hs1, List.length_append, List.length_singleton, Nat.pow_succ, ← Nat.div_div_eq_div_mul] at h9
          have er : nI (i / 4 ^ (sg_pm G j).length) - nI (i / 4 ^ (sg_pm G j).length) / 4 * 4 = nI (i / 4 ^ (sg_pm G j).length % 4) := pk_rem (d := 4) hd (by decide) (by decide)
          have ed : nI (i / 4 ^ (sg_pm G j).length) / 4 = nI (i / 4 ^ (sg_pm G j).length / 4) := pk_div (d := 4) hd (by decide) (by decide)
          rw [er, ed, nI_1]
          exact h9
        · rw [ej] at z ⊢
          have hnp := p3 hj z
          have hw : G.2.2 j = true := by
            cases hw : G.2.2 j with
            | true => rfl
            | false => exact absurd ⟨hj, hw⟩ hnp
          have hs1 : sg_pm G (j + 1) = sg_pm G j := by rw [sg_pm_s, hw]; simp
          have h9 := ih2 (sy_up σ2.1 12 j 0, σ2.2) ⟨j1.tr (sm.up (by simp) (by decide)), keep _ (fun q => absurd q hnp)⟩
          rw [hs1] at h9
          rw [nI_1]
          exact h9
      · rintro σ2 ⟨j1, j2⟩
        have hs2 : sm [12, 6, 21] [] σ σ2 := i1.tr (j1.mono (by simp) (by simp))
        have hg2 := hs2.gm r1 (by simp) (by simp)
        have le : σ2.1 0 0 * σ2.1 0 1 ≤ nI (sg_n G) := by rw [gm_n hg2]; exact nI_le (Nat.le_refl _) (by omega)
        refine w_M_through_33 (fun q => absurd le q) (fun _ => ?_) (fun q => absurd le q) (fun q => absurd le q) (fun q => absurd le q) (fun q => absurd le q)
        refine e_m_burns (p := plc G i) hg2 (fun c hc => j2 c hc.1 hc) (fun c _ => by unfold plc; omega) (fun σ3 M f1 f2 f3 => w_M_through_102 ?_)
        rw [bfn_of f1] at f3
        have hs3 : sm [12, 6, 21] [] σ σ3 := hs2.tr (f2.mono (by simp) (by simp))
        refine e_m_notBurnt (hs3.gm r1 (by simp) (by simp)) f3 (fun c _ => by have := bfn_le hG f1 c; omega) ?_
        have eu : bts (fun c => decide (bfn G (plc G i) c = 0)) (sg_P G) = ubt G (plc G i) := rfl
        rw [eu]
        have h9 := ih σ3 hs3
        rw [ssum] at h9
        refine w_M_through_109 (fun z => ?_) (fun z => ?_)
        · rw [if_neg z, Nat.add_zero] at h9
          rw [Int32.add_zero, nI_1]; exact h9
        · rw [if_pos (Classical.byContradiction z)] at h9
          rw [nI_1, nI_1]; exact h9
    · rintro σ1 i1
      exact w_M_through_18 (fun _ => kk σ1 (h.fr i1 (by decide) (by decide))) (fun q => absurd (by rw [hsh]; exact nI_le (Nat.le_refl _) (by omega)) q)
  · rw [show (6 : Int32) = nI 6 from rfl, nI_leI (by omega) (by decide)] at q
    have e : f_through (G, H, P, U, R, T, W, L) = -3 := if_pos (show 6 < (sg_P G).length by omega)
    rw [e] at kk
    exact kk σ h
theorem M_avalanche {Q : Option Value → sy_S → Prop} {σ : sy_S} {B : Nat} {S : st} (cell : Int32) (w : Int32) (hB : B ≤ 2000) (ho : sO B S) (h : RM S σ.1) (kk : ∀ σ' : sy_S, RM S σ'.1 → Q (some (.int (f_avalanche cell w S))) σ') : sy_E shM mX12_avalanche (0, sy_ent [.ref 0, .int cell, .int w] 4, [], σ) Q := by
  obtain ⟨G, H, P, U, R, T, W, L⟩ := S
  obtain ⟨r1, r2, r3, r4, r5, r6, r7⟩ := id h
  have hG := r1.1
  have hH := sO_H ho
  obtain ⟨z1, z2⟩ := m_rng (x := w) (lo := 0) (hi := 3) (a := 0) (b := 3) rfl rfl (by decide)
  have hB9 := hz9 hH hB
  refine w_M_avalanche_0 r1 (fun c hc q => ?_) (fun c hc q => ?_) (fun q => ?_)
  · obtain ⟨m, hm⟩ := z1 q
    obtain ⟨pm, rfl, -⟩ := px_s hm
    have pm2 : m ≤ 3 := pm.2
    obtain ⟨pc, rfl, -⟩ := px_s hc
    have hc16 := sg_p16 hG pc
    refine e_m_isStable rfl r1 r2 (fun j hj => by have := hB9 j hj; omega) (fun hst => ?_) (fun hun => ?_)
    · have hall : (sg_P G).all (fun d => decide (H d ≤ 3)) = true := List.all_eq_true.mpr (fun d hd => decide_eq_true (hst d (sg_P_mem.mp hd)))
      refine w_M_avalanche_30 (fun _ => ?_) (fun q => absurd (by decide) q)
      refine e_m_copies rfl rfl (by decide) (by decide) r2 (fun σ1 g1 g2 => ?_)
      have hadz := hz_ad (n := 1) hH pc (Nat.le_succ B) (by have := hH.2 c; omega)
      have hB2 : ∀ j, j < 16 → sg_ad H c 1 j ≤ 10000 := fun j _ => by have := hadz.2 j; omega
      have hs2 : sm [12] [] σ (sy_up σ1.1 12 c (nI (H c + 1)), σ1.2) := g1.tr (sm.up (by simp) (by decide))
      have had : ar (sy_up σ1.1 12 c (nI (H c + 1))) 12 (sg_ad H c 1) := fun j hj => by
        rw [sy_up2]
        unfold sg_ad
        by_cases e : j = c
        · subst e; rw [if_pos ⟨rfl, rfl⟩, if_pos rfl]
        · rw [if_neg (fun q => e q.2), if_neg e]; exact g2 j hj
      have hbd : ∀ j, j < 16 → od G (sg_ad H c 1) j < 2 ^ 31 := fun j hj => by
        have := (od_bd hG (h := sg_ad H c 1) (B := B + 1) (fun k _ => hadz.2 k)).2 j hj
        omega
      have ev : σ1.1 12 (nI c).toNatClampNeg + 1 = nI (H c + 1) := by rw [nI_clamp (by omega), g2 c hc16, nI_1]
      have hg2 := hs2.gm r1 (by simp) (by simp)
      by_cases e3 : m = 3
      · subst e3
        have e : f_avalanche (nI c) (nI 3) (G, H, P, U, R, T, W, L) = nI (rdn G (sg_ad H c 1)) := by simp only [f_avalanche, hc, hm, hall, if_true]
        rw [e] at kk
        refine w_M_avalanche_47 (vp_in_nI hc16 (by decide)) (fun q => absurd rfl q) (fun _ => ?_)
        rw [ev, nI_clamp (show c < 2 ^ 31 by omega)]
        refine e_m_rounds row12 hg2 had hB2 (fun σ2 N u f1 f2 f3 f4 f5 f6 => w_M_avalanche_70 ?_)
        rw [rdn_eq f2]
        exact kk σ2 (h.fr ((hs2.mono (l' := [12, 5, 6]) (fs' := [7]) (by simp) (by simp)).tr f1) (by decide) (by decide))
      · refine w_M_avalanche_47 (vp_in_nI hc16 (by decide)) (fun _ => ?_) (fun q => absurd (fun z : nI m = 3 => e3 ((nI_eq (by omega) (by decide)).mp z)) q)
        rw [ev, nI_clamp (show c < 2 ^ 31 by omega)]
        refine e_m_stt row12 hg2 had hB2 (fun σ2 f1 f2 f3 f4 => ?_)
        have hs3 : sm [12, 5] [7] σ σ2 := (hs2.mono (by simp) (by simp)).tr f1
        have hr := h.fr hs3 (by decide) (by decide)
        have h9 := kk σ2 hr
        match m, hm, pm2, e3 with
        | 0, hm, _, _ =>
          have e : f_avalanche (nI c) (nI 0) (G, H, P, U, R, T, W, L) = nI (ssum 16 (od G (sg_ad H c 1))) := by simp only [f_avalanche, hc, hm, hall, if_true]
          rw [e] at h9
          exact w_M_avalanche_79 (fun q => absurd rfl q) (fun q => absurd rfl q) (fun _ => h9)
        | 1, hm, _, _ =>
          have e : f_avalanche (nI c) (nI 1) (G, H, P, U, R, T, W, L) = bts (fun d => decide (0 < od G (sg_ad H c 1) d)) (List.range 16) := by simp only [f_avalanche, hc, hm, hall, if_true]
          rw [e] at h9
          exact w_M_avalanche_79 (fun _ q => absurd rfl q) (fun _ _ => e_m_toppled hr.1 f3 hbd (fun j hj => od_np hG _ hj) (w_M_avalanche_97 h9)) (fun q => absurd (by decide) q)
        | 2, hm, _, _ =>
          have e : f_avalanche (nI c) (nI 2) (G, H, P, U, R, T, W, L) = nI (sg_lost G (od G (sg_ad H c 1))) := by simp only [f_avalanche, hc, hm, hall, if_true]
          rw [e] at h9
          refine w_M_avalanche_79 (fun _ _ => ?_) (fun _ q => absurd (by decide) q) (fun q => absurd (by decide) q)
          rw [f4]; exact h9
        | k + 3, _, pm2, e3 => exact absurd (show k + 3 = 3 by omega) e3
    · have hall : ¬ (sg_P G).all (fun d => decide (H d ≤ 3)) = true := fun z => by
        obtain ⟨d, d1, d2⟩ := hun
        have := of_decide_eq_true (List.all_eq_true.mp z d (sg_P_mem.mpr d1))
        omega
      have e : f_avalanche (nI c) (nI m) (G, H, P, U, R, T, W, L) = -3 := by simp only [f_avalanche, hc, hm, if_neg hall]
      rw [e] at kk
      exact w_M_avalanche_30 (fun q => absurd rfl q) (fun _ => kk σ h)
  · have e : f_avalanche cell w (G, H, P, U, R, T, W, L) = -1 := by simp only [f_avalanche, hc, z2 q]
    rw [e] at kk
    exact kk σ h
  · have e : f_avalanche cell w (G, H, P, U, R, T, W, L) = -1 := by simp only [f_avalanche, q]
    rw [e] at kk
    exact kk σ h
