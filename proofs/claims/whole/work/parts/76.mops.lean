/-! the model's sums: alike, times, opposite, order, one -/
def alk (G : sg_G) (x y : Nat → Nat) : Nat → Bool
  | 0 => true
  | i + 1 => alk G x y i && (!(pb G i) || decide (x i = y i))
theorem alk_iff {G : sg_G} {x y : Nat → Nat} : ∀ {i : Nat}, alk G x y i = true ↔ ∀ j, j < i → sg_p G j → x j = y j
  | 0 => ⟨fun _ j hj => absurd hj (Nat.not_lt_zero _), fun _ => rfl⟩
  | i + 1 => by
    rw [alk, Bool.and_eq_true, alk_iff, Bool.or_eq_true, Bool.not_eq_true', decide_eq_true_eq]
    refine ⟨fun ⟨a, b⟩ j hj hp => ?_, fun a => ⟨fun j hj hp => a j (by omega) hp, ?_⟩⟩
    · by_cases e : j = i
      · subst e
        rcases b with b | b
        · rw [pb_iff.mpr hp] at b; cases b
        · exact b
      · exact a j (by omega) hp
    · cases hb : pb G i with
      | false => exact Or.inl rfl
      | true => exact Or.inr (a i (by omega) (pb_iff.mp hb))
theorem alk_feq {G : sg_G} {B : Nat} {x y : Nat → Nat} (hG : sg_ok G) (hx : hz G B x) (hy : hz G B y) : alk G x y (sg_n G) = feq x y := by
  have h16 := sg_n16 hG
  rw [Bool.eq_iff_iff, alk_iff, feq_iff]
  refine ⟨fun a j hj => ?_, fun a j hj _ => a j (by omega)⟩
  by_cases hp : sg_p G j
  · exact a j hp.1 hp
  · rw [hx.1 j hp, hy.1 j hp]
theorem e_m_alike {Q : Option Value → sy_S → Prop} {σ : sy_S} {G : sg_G} {a b B : Nat} {x y : Nat → Nat} (ha : shM[a]? = some (0, 16, [])) (hb : shM[b]? = some (0, 16, [])) (hg : gm G σ.1) (hx : ar σ.1 a x) (hy : ar σ.1 b y) (hxz : hz G B x) (hyz : hz G B y) (hB : B < 2 ^ 31) (kk : Q (some (.int (if feq x y = true then 1 else 0))) σ) : sy_E shM mX12_isLike (0, sy_ent [.ref 0, .ref a, .ref b] 5, [], σ) Q := by
  have hG := hg.1
  have h16 := sg_n16 hG
  refine w_M_isLike_0 ?_
  have hl := sy_loop (sh := shM) (y := mX12_isLike) (Q := Q) (fun i σ' => (5, [some (.ref 0), some (.ref a), some (.ref b), some (.int (if alk G x y i = true then 1 else 0)), some (.int (nI i))], [], σ')) (fun i σ' => σ' = σ) (sg_n G) ?_ ?_ 0 σ (Nat.zero_le _) rfl
  · exact hl
  · rintro i σ1 hi rfl ih
    obtain ⟨p1, p2, p3, p4⟩ := gm_pl hg (show i < 16 by omega)
    have nle : ¬ (σ1.1 0 0 * σ1.1 0 1 ≤ nI i) := by rw [gm_n hg]; exact nI_ge hi (by omega)
    have ei : (nI i).toNatClampNeg = i := nI_clamp (by omega)
    have h9 := ih σ1 rfl
    rw [alk] at h9
    have one : (if alk G x y i = true then (1 : Int32) else 0) &&& 1 = if alk G x y i = true then 1 else 0 := by split <;> rfl
    have zer : (if alk G x y i = true then (1 : Int32) else 0) &&& 0 = 0 := by split <;> rfl
    refine w_M_isLike_5 ha hb (fun _ => ?_) (fun _ => vp_in_nI (by omega) (by decide)) (fun q => absurd q nle) (fun _ z => ?_) (fun _ z w => ?_) (fun _ z w => ?_)
    · split
      · exact Or.inr rfl
      · exact Or.inl rfl
    · rw [ei] at z
      have hn : pb G i = false := by
        cases hb : pb G i with
        | false => rfl
        | true => exact absurd (pb_iff.mp hb) (p3 hi z)
      rw [hn, Bool.not_false, Bool.true_or, Bool.and_true] at h9
      rw [one, nI_1]; exact h9
    · rw [ei] at z w
      rw [hx i (by omega), hy i (by omega), nI_eq (by have := hxz.2 i; omega) (by have := hyz.2 i; omega)] at w
      rw [pb_iff.mpr (p4 hi z), Bool.not_true, Bool.false_or, decide_eq_false w, Bool.and_false, if_neg (by decide)] at h9
      rw [zer, nI_1]; exact h9
    · rw [ei] at z w
      rw [hx i (by omega), hy i (by omega), nI_eq (by have := hxz.2 i; omega) (by have := hyz.2 i; omega)] at w
      rw [decide_eq_true (Classical.byContradiction w), Bool.or_true, Bool.and_true] at h9
      rw [one, nI_1]; exact h9
  · rintro σ1 rfl
    have le : σ1.1 0 0 * σ1.1 0 1 ≤ nI (sg_n G) := by rw [gm_n hg]; exact nI_le (Nat.le_refl _) (by omega)
    refine w_M_isLike_5 ha hb (fun _ => ?_) (fun q => absurd le q) (fun _ => ?_) (fun q => absurd le q) (fun q => absurd le q) (fun q => absurd le q)
    · split
      · exact Or.inr rfl
      · exact Or.inl rfl
    · rw [alk_feq hG hxz hyz]; exact kk
theorem vad_6 {G : sg_G} {x y : Nat → Nat} (hx : hz G 3 x) (hy : hz G 3 y) : ∀ j, j < 16 → vad x y j ≤ 10000 := fun j _ => Nat.le_trans ((vad_hz hx hy).2 j) (by decide)
theorem vad_cm (x y : Nat → Nat) : vad x y = vad y x := by
  funext j
  exact Nat.add_comm _ _
theorem M_times {Q : Option Value → sy_S → Prop} {σ : sy_S} {B : Nat} {S : st} (p : Int32) (a : Int32) (k : Int32) (ho : sO B S) (h : RM S σ.1) (kk : ∀ σ' : sy_S, RM (f_times p a k S).2 σ'.1 → Q (some (.int (f_times p a k S).1)) σ') : sy_E shM mX12_times (0, sy_ent [.ref 0, .int p, .int a, .int k] 6, [], σ) Q := by
  obtain ⟨G, H, P, U, R, T, W, L⟩ := S
  obtain ⟨r1, r2, r3, r4, r5, r6, r7⟩ := id h
  have hG := r1.1
  have hH := sO_H ho
  obtain ⟨z1, z2⟩ := m_rng (x := k) (lo := 0) (hi := 1000000000) (a := 0) (b := 1000000000) rfl rfl (by decide)
  refine w_M_times_0 (fun _ _ n hn _ => ?_) (fun m hm n hn q q2 => ?_) (fun m hm n hn q q2 => ?_) (fun m hm n hn q => ?_) (fun m hm q => ?_) (fun q => ?_)
  · obtain ⟨n6, rfl, -⟩ := px_s hn
    exact vp_in_nI n6 (by decide)
  · obtain ⟨m6, rfl, -⟩ := px_s hm
    obtain ⟨n6, rfl, -⟩ := px_s hn
    have m6 : m < 6 := m6
    have n6 : n < 6 := n6
    obtain ⟨c, hc⟩ := z1 q
    obtain ⟨pc, rfl, c31⟩ := px_s hc
    rw [nI_clamp (by omega)] at q2
    cases hp : P n with
    | none => exact absurd (pM_n r6 n6 hp) q2
    | some x =>
      have e : f_times (nI m) (nI n) (nI c) (G, H, P, U, R, T, W, L) = (nI (sg_sum G (tms G x c)), (G, H, pset P m (tms G x c), U, R, T, W, L)) := by simp only [f_times, hm, hn, hc, hp]
      rw [e] at kk
      have hx := ho.2.2.2.1 n x hp
      refine e_m_nought r1 (fun σ1 g1 g2 g3 => w_M_times_47 ?_)
      refine e_m_copies rfl rfl (by decide) (by decide) g3 (fun σ2 f1 f2 => w_M_times_58 ?_)
      have hs2 : sm [12, 16, 17, 18, 5] [7] σ σ2 := (g1.mono (by simp) (by simp)).tr (f1.mono (by simp) (by simp))
      refine e_m_takes n6 rfl (by decide) (by decide) (aro_sm hs2 (pM_s r6 n6 hp).2 (by simp) (by decide)) (fun σ3 i1 i2 => w_M_times_67 ?_)
      have hs3 : sm [12, 16, 17, 18, 5] [7] σ σ3 := hs2.tr (i1.mono (by simp) (by simp))
      have key : ∀ (d n : Nat) (a b : Nat → Nat) (σ' : sy_S), d ≤ 31 → n < 2 ^ d → hz G 3 a → hz G 3 b → sm [12, 16, 17, 18, 5] [7] σ σ' → ar σ'.1 12 a → ar σ'.1 16 b → tml G d n a b = tms G x c → sy_E shM mX12_times (70, [some (.ref 0), some (.int (nI m)), none, none, some (.int (nI n)), none], [], σ') Q := by
        have fin : ∀ (d : Nat) (a b : Nat → Nat) (σ' : sy_S), sm [12, 16, 17, 18, 5] [7] σ σ' → ar σ'.1 12 a → tml G d 0 a b = tms G x c → sy_E shM mX12_times (70, [some (.ref 0), some (.int (nI m)), none, none, some (.int (nI 0)), none], [], σ') Q := by
          intro d a b σ' hs e1 et
          rw [tml_0] at et
          rw [et] at e1
          refine w_M_times_70 (fun _ => ?_) (fun q => absurd (by decide) q) (fun q => absurd (by decide) q)
          refine e_m_lays m6 row12 (by decide) (hs.gm r1 (by simp) (by simp)) (r6.sm hs (by simp) (by simp)) e1 (fun σ4 j1 j2 => w_M_times_133 (kk σ4 ?_))
          exact RM_pl h ((hs.mono (l' := [12, 16, 17, 18, 5, 7, 8]) (fs' := [7]) (by simp) (by simp)).tr (j1.mono (by simp) (by simp))) (by decide) (by decide) j2
        intro d
        induction d with
        | zero =>
          intro n a b σ' hd hn ha hb hs e1 e2 et
          have e0 : n = 0 := by rw [Nat.pow_zero] at hn; omega
          subst e0
          exact fin 0 a b σ' hs e1 et
        | succ d ih =>
          intro n a b σ' hd hn ha hb hs e1 e2 et
          by_cases e0 : n = 0
          · subst e0
            exact fin (d + 1) a b σ' hs e1 et
          · have hm31 : n < 2 ^ 31 := Nat.lt_of_lt_of_le hn (Nat.pow_le_pow_right (by decide) hd)
            have hm2 : n / 2 < 2 ^ d := by rw [Nat.pow_succ] at hn; omega
            have erem : nI n - nI n / 2 * 2 = nI (n % 2) := pk_rem (d := 2) hm31 (by decide) (by decide)
            have ediv : nI n / 2 = nI (n / 2) := pk_div (d := 2) hm31 (by decide) (by decide)
            have hg' := hs.gm r1 (by simp) (by simp)
            rw [tml, if_neg e0] at et
            refine w_M_times_70 (fun q => ?_) (fun _ q => ?_) (fun _ q => ?_)
            · rw [nI_lit0, nI_leI hm31 (by decide)] at q; omega
            · rw [erem, nI_lit1, nI_eq (by omega) (by decide)] at q
              rw [if_neg q] at et
              refine e_m_adds row16 rfl hg' e2 e2 (vad_6 hb hb) (fun σ4 j1 j2 => w_M_times_113 ?_)
              rw [ediv]
              exact ih (n / 2) a _ σ4 (by omega) hm2 ha (svad_hz hG hb hb) (hs.tr (j1.mono (by simp) (by simp))) (ar_sm j1 e1 (by simp) (by decide)) j2 et
            · rw [erem, nI_lit1, nI_eq (by omega) (by decide)] at q
              rw [if_pos (Classical.byContradiction q)] at et
              refine e_m_adds row12 rfl hg' e1 e2 (vad_6 ha hb) (fun σ4 j1 j2 => w_M_times_95 ?_)
              have hs4 := hs.tr (j1.mono (l' := [12, 16, 17, 18, 5]) (fs' := [7]) (by simp) (by simp))
              have e24 := ar_sm j1 e2 (by simp) (by decide)
              refine e_m_adds row16 rfl (hs4.gm r1 (by simp) (by simp)) e24 e24 (vad_6 hb hb) (fun σ5 l1 l2 => w_M_times_113 ?_)
              rw [ediv]
              exact ih (n / 2) _ _ σ5 (by omega) hm2 (svad_hz hG ha hb) (svad_hz hG hb hb) (hs4.tr (l1.mono (by simp) (by simp))) (ar_sm l1 j2 (by simp) (by decide)) l2 et
      exact key 31 c (nt G) x σ3 (Nat.le_refl _) c31 (nt_hz hG) hx hs3 (ar_sm i1 f2 (by simp) (by decide)) i2 rfl
  · obtain ⟨n6, rfl, -⟩ := px_s hn
    have n6 : n < 6 := n6
    obtain ⟨c, hc⟩ := z1 q
    rw [nI_clamp (by omega)] at q2
    cases hp : P n with
    | none =>
      have e : f_times p (nI n) k (G, H, P, U, R, T, W, L) = (-6, (G, H, P, U, R, T, W, L)) := by simp only [f_times, hm, hn, hc, hp]
      rw [e] at kk
      exact kk σ h
    | some x =>
      refine absurd (fun z => ?_) q2
      rw [(pM_s r6 n6 hp).1] at z
      cases z
  · have e : f_times p a k (G, H, P, U, R, T, W, L) = (-2, (G, H, P, U, R, T, W, L)) := by simp only [f_times, hm, hn, z2 q]
    rw [e] at kk
    exact kk σ h
  · have e : f_times p a k (G, H, P, U, R, T, W, L) = (-1, (G, H, P, U, R, T, W, L)) := by simp only [f_times, hm, q]
    rw [e] at kk
    exact kk σ h
  · have e : f_times p a k (G, H, P, U, R, T, W, L) = (-1, (G, H, P, U, R, T, W, L)) := by simp only [f_times, q]
    rw [e] at kk
    exact kk σ h
theorem M_opposite {Q : Option Value → sy_S → Prop} {σ : sy_S} {B : Nat} {S : st} (p : Int32) (a : Int32) (ho : sO B S) (h : RM S σ.1) (kk : ∀ σ' : sy_S, RM (f_opposite p a S).2 σ'.1 → Q (some (.int (f_opposite p a S).1)) σ') : sy_E shM mX12_opposite (0, sy_ent [.ref 0, .int p, .int a] 4, [], σ) Q := by
  obtain ⟨G, H, P, U, R, T, W, L⟩ := S
  obtain ⟨r1, r2, r3, r4, r5, r6, r7⟩ := id h
  have hG := r1.1
  have hH := sO_H ho
  refine w_M_opposite_0 (fun _ _ n hn => ?_) (fun m hm n hn q => ?_) (fun m hm n hn q => ?_) (fun m hm q => ?_) (fun q => ?_)
  · obtain ⟨n6, rfl, -⟩ := px_s hn
    exact vp_in_nI n6 (by decide)
  · obtain ⟨m6, rfl, -⟩ := px_s hm
    obtain ⟨n6, rfl, -⟩ := px_s hn
    have m6 : m < 6 := m6
    have n6 : n < 6 := n6
    rw [nI_clamp (by omega)] at q
    cases hp : P n with
    | none => exact absurd (pM_n r6 n6 hp) q
    | some x =>
      have e : f_opposite (nI m) (nI n) (G, H, P, U, R, T, W, L) = (nI (sg_sum G (opp G x)), (G, H, pset P m (opp G x), U, R, T, W, L)) := by simp only [f_opposite, hm, hn, hp]
      rw [e] at kk
      have hx := ho.2.2.2.1 n x hp
      refine e_m_nought r1 (fun σ1 g1 g2 g3 => w_M_opposite_32 ?_)
      refine e_m_takes n6 rfl (by decide) (by decide) (aro_sm g1 (pM_s r6 n6 hp).2 (by simp) (by decide)) (fun σ2 f1 f2 => w_M_opposite_41 ?_)
      have hs2 : sm [12, 16, 17, 18, 5] [7] σ σ2 := (g1.mono (by simp) (by simp)).tr (f1.mono (by simp) (by simp))
      have b17 : ar σ2.1 17 (fz G) := ar_sm f1 g2 (by simp) (by decide)
      have b18 : ar σ2.1 18 (nt G) := ar_sm f1 g3 (by simp) (by decide)
      have le : ∀ i, x i ≤ nt G i + fz G i := fun i => by
        by_cases hp : sg_p G i
        · have := fz_ge hG hp
          have := hx.2 i
          omega
        · rw [hx.1 i hp]; exact Nat.zero_le _
      have hl := sy_loop (sh := shM) (y := mX12_opposite) (Q := Q) (fun i σ' => (43, [some (.ref 0), some (.int (nI m)), none, some (.int (nI i))], [], σ')) (fun i σ' => sm [12] [] σ2 σ' ∧ ∀ j, j < i → σ'.1 12 j = nI (fz G j + nt G j - x j)) 16 ?_ ?_ 0 σ2 (by decide) ⟨sm.rf, fun j hj => absurd hj (Nat.not_lt_zero _)⟩
      · exact hl
      · rintro i σ3 hi ⟨i1, i2⟩ ih
        refine w_M_opposite_43 (fun _ => vp_in_nI hi (by decide)) (fun q => absurd q (nI_ge hi (by decide))) (fun _ => ?_)
        rw [nI_clamp (by omega), i1.1 18 (by decide) (by simp), i1.1 17 (by decide) (by simp), i1.1 16 (by decide) (by simp), b18 i hi, b17 i hi, f2 i hi, nI_add, pk_sub (le i), nI_1]
        refine ih _ ⟨i1.tr (sm.up (by simp) (by decide)), fun j hj => ?_⟩
        dsimp only
        rw [sy_up2]
        by_cases e : j = i
        · subst e; rw [if_pos ⟨rfl, rfl⟩, Nat.add_comm]
        · rw [if_neg (fun q => e q.2)]; exact i2 j (by omega)
      · rintro σ3 ⟨i1, i2⟩
        refine w_M_opposite_43 (fun q => absurd (nI_le (Nat.le_refl 16) (by decide)) q) (fun _ => ?_) (fun q => absurd (nI_le (Nat.le_refl 16) (by decide)) q)
        have hs3 : sm [12, 16, 17, 18, 5] [7] σ σ3 := hs2.tr (i1.mono (by simp) (by simp))
        refine e_m_stt (h := fun c => fz G c + nt G c - x c) row12 (hs3.gm r1 (by simp) (by simp)) i2 (fun j _ => ?_) (fun σ4 l1 l2 l3 l4 => w_M_opposite_89 ?_)
        · have := fz_le G j
          have := (nt_hz hG).2 j
          omega
        · have hs4 : sm [12, 16, 17, 18, 5] [7] σ σ4 := hs3.tr (l1.mono (by simp) (by simp))
          refine e_m_lays (h := opp G x) m6 row12 (by decide) (hs4.gm r1 (by simp) (by simp)) (r6.sm hs4 (by simp) (by simp)) l2 (fun σ5 j1 j2 => w_M_opposite_99 (kk σ5 ?_))
          exact RM_pl h ((hs4.mono (l' := [12, 16, 17, 18, 5, 7, 8]) (fs' := [7]) (by simp) (by simp)).tr (j1.mono (by simp) (by simp))) (by decide) (by decide) j2
  · obtain ⟨n6, rfl, -⟩ := px_s hn
    have n6 : n < 6 := n6
    rw [nI_clamp (by omega)] at q
    cases hp : P n with
    | none =>
      have e : f_opposite p (nI n) (G, H, P, U, R, T, W, L) = (-6, (G, H, P, U, R, T, W, L)) := by simp only [f_opposite, hm, hn, hp]
      rw [e] at kk
      exact kk σ h
    | some x =>
      refine absurd (fun z => ?_) q
      rw [(pM_s r6 n6 hp).1] at z
      cases z
  · have e : f_opposite p a (G, H, P, U, R, T, W, L) = (-1, (G, H, P, U, R, T, W, L)) := by simp only [f_opposite, hm, q]
    rw [e] at kk
    exact kk σ h
  · have e : f_opposite p a (G, H, P, U, R, T, W, L) = (-1, (G, H, P, U, R, T, W, L)) := by simp only [f_opposite, q]
    rw [e] at kk
    exact kk σ h
theorem M_order {Q : Option Value → sy_S → Prop} {σ : sy_S} {B : Nat} {S : st} (p : Int32) (ho : sO B S) (h : RM S σ.1) (kk : ∀ σ' : sy_S, RM S σ'.1 → Q (some (.int (f_order p S))) σ') : sy_E shM mX12_order (0, sy_ent [.ref 0, .int p] 4, [], σ) Q := by
  obtain ⟨G, H, P, U, R, T, W, L⟩ := S
  obtain ⟨r1, r2, r3, r4, r5, r6, r7⟩ := id h
  have hG := r1.1
  have hH := sO_H ho
  refine w_M_order_0 (fun n hn => ?_) (fun n hn q => ?_) (fun n hn q => ?_) (fun q => ?_)
  · obtain ⟨n6, rfl, -⟩ := px_s hn
    exact vp_in_nI n6 (by decide)
  · obtain ⟨n6, rfl, -⟩ := px_s hn
    have n6 : n < 6 := n6
    rw [nI_clamp (by omega)] at q
    cases hp : P n with
    | none => exact absurd (pM_n r6 n6 hp) q
    | some x =>
      have e : f_order (nI n) (G, H, P, U, R, T, W, L) = (fst1 (fun n => feq (orn G x n) (nt G)) 1 2000).elim (-5) nI := by simp only [f_order, hn, hp]
      rw [e] at kk
      have hx := ho.2.2.2.1 n x hp
      refine e_m_nought r1 (fun σ1 g1 g2 g3 => w_M_order_25 ?_)
      refine e_m_copies rfl rfl (by decide) (by decide) g3 (fun σ2 f1 f2 => w_M_order_36 ?_)
      have hs2 : sm [12, 16, 17, 18, 5] [7] σ σ2 := (g1.mono (by simp) (by simp)).tr (f1.mono (by simp) (by simp))
      refine e_m_takes n6 rfl (by decide) (by decide) (aro_sm hs2 (pM_s r6 n6 hp).2 (by simp) (by decide)) (fun σ3 i1 i2 => w_M_order_45 ?_)
      have hs3 : sm [12, 16, 17, 18, 5] [7] σ σ3 := hs2.tr (i1.mono (by simp) (by simp))
      have g33 : ar σ3.1 18 (nt G) := ar_sm i1 (ar_sm f1 g3 (by simp) (by decide)) (by simp) (by decide)
      have key : ∀ (d n : Nat) (σ' : sy_S), n + d = 2000 → sm [12, 5] [7] σ3 σ' → ar σ'.1 12 (orn G x n) → fst1 (fun n => feq (orn G x n) (nt G)) (n + 1) d = fst1 (fun n => feq (orn G x n) (nt G)) 1 2000 → sy_E shM mX12_order (47, [some (.ref 0), none, some (.int (nI (n + 1))), none], [], σ') Q := by
        intro d
        induction d with
        | zero =>
          intro n σ' hn hs e1 et
          have e : n = 2000 := hn
          subst e
          have h9 := kk σ' (h.fr (hs3.tr (hs.mono (by simp) (by simp))) (by decide) (by decide))
          rw [← et] at h9
          exact w_M_order_47 (fun _ => h9) (fun q => absurd (by decide) q)
        | succ d ih =>
          intro n σ' hn hs e1 et
          rw [fst1] at et
          have hs' : sm [12, 16, 17, 18, 5] [7] σ σ' := hs3.tr (hs.mono (by simp) (by simp))
          have hoz := orn_hz hG hx n
          refine w_M_order_47 (fun q => ?_) (fun _ => ?_)
          · rw [show (2000 : Int32) = nI 2000 from rfl, nI_ltI (by decide) (by omega)] at q; omega
          · refine e_m_adds row12 rfl (hs'.gm r1 (by simp) (by simp)) e1 (ar_sm hs i2 (by simp) (by decide)) (vad_6 hoz hx) (fun σ4 j1 j2 => w_M_order_66 ?_)
            have j2 : ar σ4.1 12 (orn G x (n + 1)) := j2
            have hs4 := hs.tr j1
            have hs4' : sm [12, 16, 17, 18, 5] [7] σ σ4 := hs3.tr (hs4.mono (by simp) (by simp))
            refine e_m_alike rfl rfl (hs4'.gm r1 (by simp) (by simp)) j2 (ar_sm hs4 g33 (by simp) (by decide)) (orn_hz hG hx (n + 1)) (nt_hz hG) (by decide) ?_
            by_cases z : feq (orn G x (n + 1)) (nt G) = true
            · rw [if_pos z]
              rw [if_pos z] at et
              refine w_M_order_79 (fun q => absurd q (by decide)) (fun _ => ?_)
              have h9 := kk σ4 (h.fr hs4' (by decide) (by decide))
              rw [← et] at h9
              exact h9
            · rw [if_neg z]
              rw [if_neg z] at et
              refine w_M_order_79 (fun _ => ?_) (fun q => absurd rfl q)
              rw [nI_1]
              exact ih (n + 1) σ4 (by omega) hs4 j2 et
      exact key 2000 0 σ3 rfl sm.rf (ar_sm i1 f2 (by simp) (by decide)) rfl
  · obtain ⟨n6, rfl, -⟩ := px_s hn
    have n6 : n < 6 := n6
    rw [nI_clamp (by omega)] at q
    cases hp : P n with
    | none =>
      have e : f_order (nI n) (G, H, P, U, R, T, W, L) = -6 := by simp only [f_order, hn, hp]
      rw [e] at kk
      exact kk σ h
    | some x =>
      refine absurd (fun z => ?_) q
      rw [(pM_s r6 n6 hp).1] at z
      cases z
  · have e : f_order p (G, H, P, U, R, T, W, L) = -1 := by simp only [f_order, q]
    rw [e] at kk
    exact kk σ h
theorem M_one {Q : Option Value → sy_S → Prop} {σ : sy_S} {B : Nat} {S : st} (a : Int32) (b : Int32) (ho : sO B S) (h : RM S σ.1) (kk : ∀ σ' : sy_S, RM S σ'.1 → Q (some (.int (f_one a b S))) σ') : sy_E shM mX12_one (0, sy_ent [.ref 0, .int a, .int b] 4, [], σ) Q := by
  obtain ⟨G, H, P, U, R, T, W, L⟩ := S
  obtain ⟨r1, r2, r3, r4, r5, r6, r7⟩ := id h
  have hG := r1.1
  have hH := sO_H ho
  have no : (px p6 a = none ∨ px p6 b = none) → Q (some (.int (-1))) σ := by
    intro z
    have e : f_one a b (G, H, P, U, R, T, W, L) = -1 := by
      rcases z with z | z
      · simp only [f_one, z]
      · cases hr : px p6 a <;> simp only [f_one, hr, z]
    rw [e] at kk
    exact kk σ h
  refine w_M_one_0 (fun n hn o ho' => ?_) (fun n hn o ho' _ => ?_) (fun n hn o ho' q => ?_) (fun n hn o ho' q q2 => ?_) (fun n hn o ho' q q2 => ?_) (fun _ _ q => no (Or.inr q)) (fun q => no (Or.inl q))
  · obtain ⟨n6, rfl, -⟩ := px_s hn
    exact vp_in_nI n6 (by decide)
  · obtain ⟨n6, rfl, -⟩ := px_s ho'
    exact vp_in_nI n6 (by decide)
  · obtain ⟨n6, rfl, -⟩ := px_s hn
    have n6 : n < 6 := n6
    rw [nI_clamp (by omega)] at q
    cases hp : P n with
    | none =>
      have e : f_one (nI n) b (G, H, P, U, R, T, W, L) = -6 := by simp only [f_one, hn, ho', hp]
      rw [e] at kk
      exact kk σ h
    | some x =>
      rw [(pM_s r6 n6 hp).1] at q
      cases q
  · obtain ⟨n6, rfl, -⟩ := px_s hn
    obtain ⟨o6, rfl, -⟩ := px_s ho'
    have n6 : n < 6 := n6
    have o6 : o < 6 := o6
    rw [nI_clamp (by omega)] at q q2
    cases hp : P n with
    | none => exact absurd (pM_n r6 n6 hp) q
    | some x =>
      cases hp2 : P o with
      | none => exact absurd (pM_n r6 o6 hp2) q2
      | some y =>
        have e : f_one (nI n) (nI o) (G, H, P, U, R, T, W, L) = if feq x y = true then 2 else if feq (stt G (vad (nt G) x)) (stt G (vad (nt G) y)) = true then 1 else 0 := by simp only [f_one, hn, ho', hp, hp2]
        rw [e] at kk
        have hx := ho.2.2.2.1 n x hp
        have hy := ho.2.2.2.1 o y hp2
        have hn3 := nt_hz hG
        refine e_m_nought r1 (fun σ1 g1 g2 g3 => w_M_one_41 ?_)
        refine e_m_takes n6 rfl (by decide) (by decide) (aro_sm g1 (pM_s r6 n6 hp).2 (by simp) (by decide)) (fun σ2 f1 f2 => w_M_one_50 ?_)
        have hs2 : sm [12, 17, 18, 19, 5] [7] σ σ2 := (g1.mono (by simp) (by simp)).tr (f1.mono (by simp) (by simp))
        refine e_m_takes o6 rfl (by decide) (by decide) (aro_sm hs2 (pM_s r6 o6 hp2).2 (by simp) (by decide)) (fun σ3 i1 i2 => w_M_one_59 ?_)
        have hs3 : sm [12, 17, 18, 19, 5] [7] σ σ3 := hs2.tr (i1.mono (by simp) (by simp))
        have e12 : ar σ3.1 12 x := ar_sm i1 f2 (by simp) (by decide)
        have e18 : ar σ3.1 18 (nt G) := ar_sm i1 (ar_sm f1 g3 (by simp) (by decide)) (by simp) (by decide)
        refine e_m_alike rfl rfl (hs3.gm r1 (by simp) (by simp)) e12 i2 hx hy (by decide) ?_
        by_cases z : feq x y = true
        · rw [if_pos z] at kk ⊢
          exact w_M_one_71 (fun q => absurd q (by decide)) (fun _ => kk σ3 (h.fr hs3 (by decide) (by decide)))
        · rw [if_neg z] at kk ⊢
          refine w_M_one_71 (fun _ => ?_) (fun q => absurd rfl q)
          refine e_m_adds row12 rfl (hs3.gm r1 (by simp) (by simp)) e12 e18 (vad_6 hx hn3) (fun σ4 j1 j2 => w_M_one_88 ?_)
          have hs4 : sm [12, 17, 18, 19, 5] [7] σ σ4 := hs3.tr (j1.mono (by simp) (by simp))
          refine e_m_adds row19 rfl (hs4.gm r1 (by simp) (by simp)) (ar_sm j1 i2 (by simp) (by decide)) (ar_sm j1 e18 (by simp) (by decide)) (vad_6 hy hn3) (fun σ5 l1 l2 => w_M_one_101 ?_)
          have hs5 : sm [12, 17, 18, 19, 5] [7] σ σ5 := hs4.tr (l1.mono (by simp) (by simp))
          refine e_m_alike rfl rfl (hs5.gm r1 (by simp) (by simp)) (ar_sm l1 j2 (by simp) (by decide)) l2 (svad_hz hG hx hn3) (svad_hz hG hy hn3) (by decide) ?_
          rw [vad_cm x, vad_cm y]
          have h9 := kk σ5 (h.fr hs5 (by decide) (by decide))
          by_cases z2 : feq (stt G (vad (nt G) x)) (stt G (vad (nt G) y)) = true
          · rw [if_pos z2] at h9 ⊢
            exact w_M_one_114 (fun q => absurd q (by decide)) (fun _ => h9)
          · rw [if_neg z2] at h9 ⊢
            exact w_M_one_114 (fun _ => h9) (fun q => absurd rfl q)
  · obtain ⟨n6, rfl, -⟩ := px_s hn
    obtain ⟨o6, rfl, -⟩ := px_s ho'
    have n6 : n < 6 := n6
    have o6 : o < 6 := o6
    rw [nI_clamp (by omega)] at q q2
    cases hp : P n with
    | none => exact absurd (pM_n r6 n6 hp) q
    | some x =>
      cases hp2 : P o with
      | none =>
        have e : f_one (nI n) (nI o) (G, H, P, U, R, T, W, L) = -6 := by simp only [f_one, hn, ho', hp, hp2]
        rw [e] at kk
        exact kk σ h
      | some y =>
        refine absurd (fun z => ?_) q2
        rw [(pM_s r6 o6 hp2).1] at z
        cases z
