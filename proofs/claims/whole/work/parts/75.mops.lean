/-! the model's piles -/
theorem row17 : rowM 17 := ⟨rfl, by decide, by decide, by decide, by decide, by decide, by decide⟩
theorem row18 : rowM 18 := ⟨rfl, by decide, by decide, by decide, by decide, by decide, by decide⟩
theorem row19 : rowM 19 := ⟨rfl, by decide, by decide, by decide, by decide, by decide, by decide⟩
theorem e_m_takes {Q : Option Value → sy_S → Prop} {σ : sy_S} {m k : Nat} {h : Nat → Nat} (hm : m < 6) (hk : shM[k]? = some (0, 16, [])) (h7 : k ≠ 7) (h0 : k ≠ 0) (hh : aro σ.1 7 (16 * m) h) (kk : ∀ σ' : sy_S, sm [k] [] σ σ' → ar σ'.1 k h → Q none σ') : sy_E shM mX12_takes (0, sy_ent [.ref 0, .int (nI m), .ref k] 4, [], σ) Q := by
  refine w_M_takes_0 ?_
  have hl := sy_loop (sh := shM) (y := mX12_takes) (Q := Q) (fun i σ' => (2, [some (.ref 0), some (.int (nI m)), some (.ref k), some (.int (nI i))], [], σ')) (fun i σ' => sm [k] [] σ σ' ∧ ∀ j, j < i → σ'.1 k j = nI (h j)) 16 ?_ ?_ 0 σ (by decide) ⟨sm.rf, fun j hj => absurd hj (Nat.not_lt_zero _)⟩
  · exact hl
  · rintro i σ1 hi ⟨i1, i2⟩ ih
    have ex : 16 * nI m + nI i = nI (16 * m + i) := by rw [show (16 : Int32) = nI 16 from rfl, pk_mul, nI_add]
    refine w_M_takes_2 hk (fun _ => by rw [ex]; exact vp_in_nI (by omega) (by decide)) (fun _ => vp_in_nI hi (by decide)) (fun q => absurd q (nI_ge hi (by decide))) (fun _ => ?_)
    rw [ex, nI_clamp (show i < 2 ^ 31 by omega), nI_clamp (by omega), i1.1 7 (by decide) (by simp; exact Ne.symm h7), hh i hi, nI_1]
    refine ih _ ⟨i1.tr (sm.up (by simp) h0), fun j hj => ?_⟩
    dsimp only
    rw [sy_up2]
    by_cases e : j = i
    · subst e; rw [if_pos ⟨rfl, rfl⟩]
    · rw [if_neg (fun q => e q.2)]; exact i2 j (by omega)
  · rintro σ1 ⟨i1, i2⟩
    exact w_M_takes_2 hk (fun q => absurd (nI_le (Nat.le_refl 16) (by decide)) q) (fun q => absurd (nI_le (Nat.le_refl 16) (by decide)) q) (fun _ => kk σ1 i1 i2) (fun q => absurd (nI_le (Nat.le_refl 16) (by decide)) q)
theorem pM_n {P : Nat → Option (Nat → Nat)} {f : Nat → Nat → Int32} {m : Nat} (h : pM P f) (hm : m < 6) (e : P m = none) : f 8 m = 0 := by
  have := h m hm
  rw [e] at this
  exact this
theorem pM_s {P : Nat → Option (Nat → Nat)} {f : Nat → Nat → Int32} {m : Nat} {x : Nat → Nat} (h : pM P f) (hm : m < 6) (e : P m = some x) : f 8 m = 1 ∧ aro f 7 (16 * m) x := by
  have := h m hm
  rw [e] at this
  exact this
theorem e_m_lays {Q : Option Value → sy_S → Prop} {σ : sy_S} {G : sg_G} {P : Nat → Option (Nat → Nat)} {m k : Nat} {h : Nat → Nat} (hm : m < 6) (hk : rowM k) (h7 : k ≠ 7) (hg : gm G σ.1) (hP : pM P σ.1) (hh : ar σ.1 k h) (kk : ∀ σ' : sy_S, sm [7, 8] [] σ σ' → pM (pset P m h) σ'.1 → Q (some (.int (nI (sg_sum G h)))) σ') : sy_E shM mX12_lays (0, sy_ent [.ref 0, .int (nI m), .ref k] 4, [], σ) Q := by
  obtain ⟨hz, k0, k1, k3, k4, k5, k6⟩ := id hk
  have k8 : k ≠ 8 := fun e => by rw [e] at hz; exact absurd hz (by decide)
  refine w_M_lays_0 ?_
  have hl := sy_loop (sh := shM) (y := mX12_lays) (Q := Q) (fun i σ' => (2, [some (.ref 0), some (.int (nI m)), some (.ref k), some (.int (nI i))], [], σ')) (fun i σ' => sm [7] [] σ σ' ∧ (∀ j, j < i → σ'.1 7 (16 * m + j) = nI (h j)) ∧ ∀ q, (q < 16 * m ∨ 16 * m + 16 ≤ q) → σ'.1 7 q = σ.1 7 q) 16 ?_ ?_ 0 σ (by decide) ⟨sm.rf, fun j hj => absurd hj (Nat.not_lt_zero _), fun _ _ => rfl⟩
  · exact hl
  · rintro i σ1 hi ⟨i1, i2, i3⟩ ih
    have ex : 16 * nI m + nI i = nI (16 * m + i) := by rw [show (16 : Int32) = nI 16 from rfl, pk_mul, nI_add]
    refine w_M_lays_2 hz (fun q => absurd q (nI_ge hi (by decide))) (fun _ => vp_in_nI hi (by decide)) (fun _ => by rw [ex]; exact vp_in_nI (by omega) (by decide)) (fun q => absurd q (nI_ge hi (by decide))) (fun _ => ?_)
    rw [ex, nI_clamp (show i < 2 ^ 31 by omega), nI_clamp (by omega), i1.1 k k0 (by simp; exact h7), hh i hi, nI_1]
    refine ih _ ⟨i1.tr (sm.up (by simp) (by decide)), fun j hj => ?_, fun q hq => ?_⟩
    · dsimp only
      rw [sy_up2]
      by_cases e : j = i
      · subst e; rw [if_pos ⟨rfl, rfl⟩]
      · rw [if_neg (by omega)]; exact i2 j (by omega)
    · dsimp only
      rw [sy_up2, if_neg (by omega)]; exact i3 q hq
  · rintro σ1 ⟨i1, i2, i3⟩
    refine w_M_lays_2 hz (fun _ => vp_in_nI hm (by decide)) (fun q => absurd (nI_le (Nat.le_refl 16) (by decide)) q) (fun q => absurd (nI_le (Nat.le_refl 16) (by decide)) q) (fun _ => ?_) (fun q => absurd (nI_le (Nat.le_refl 16) (by decide)) q)
    rw [nI_clamp (by omega), nar_b1]
    have hs : sm [7, 8] [] σ (sy_up σ1.1 8 m 1, σ1.2) := (i1.mono (by simp) (by simp)).tr (sm.up (by simp) (by decide))
    refine e_m_grains hz (hs.gm hg (by simp) (by simp)) (ar_sm hs hh (by simp; exact ⟨h7, k8⟩) k0) (w_M_lays_40 (kk _ hs (fun i hi => ?_)))
    unfold pset
    by_cases e : i = m
    · subst e
      rw [if_pos rfl]
      dsimp only
      refine ⟨by rw [sy_up2, if_pos ⟨rfl, rfl⟩], fun j hj => ?_⟩
      rw [sy_up_ne _ _ _ (by decide)]; exact i2 j hj
    · rw [if_neg e]
      have h9 := hP i hi
      cases hPi : P i with
      | none =>
        rw [hPi] at h9
        show sy_up σ1.1 8 m 1 8 i = 0
        rw [sy_up2, if_neg (fun q => e q.2), i1.1 8 (by decide) (by simp)]; exact h9
      | some x =>
        rw [hPi] at h9
        show sy_up σ1.1 8 m 1 8 i = 1 ∧ aro (sy_up σ1.1 8 m 1) 7 (16 * i) x
        refine ⟨by rw [sy_up2, if_neg (fun q => e q.2), i1.1 8 (by decide) (by simp)]; exact h9.1, fun j hj => ?_⟩
        rw [sy_up_ne _ _ _ (by decide), i3 _ (by omega)]; exact h9.2 j hj
theorem RM_pl {G : sg_G} {H : Nat → Nat} {P P' : Nat → Option (Nat → Nat)} {U R : List (Nat → Nat)} {T : List Nat} {W : Option (Nat × Nat)} {L : Nat → Option (List Int32)} {σ σ' : sy_S} {l fs : List Nat} (h : RM (G, H, P, U, R, T, W, L) σ.1) (hs : sm l fs σ σ') (hl : (mC.all fun q => q == 7 || q == 8 || !l.elem q) = true) (hf : (mF.all fun q => !fs.elem q) = true) (hp : pM P' σ'.1) : RM (G, H, P', U, R, T, W, L) σ'.1 := by
  obtain ⟨h1, h2, h3, h4, h5, h6, h7⟩ := h
  have c : ∀ q, q ∈ mC → q ≠ 0 → q ≠ 7 → q ≠ 8 → σ'.1 q = σ.1 q := fun q hq h0 h7 h8 => hs.1 q h0 (fun z => by
    have := List.all_eq_true.mp hl q hq
    rw [List.elem_iff.mpr z, beq_eq_false_iff_ne.mpr h7, beq_eq_false_iff_ne.mpr h8] at this
    cases this)
  have d : ∀ q, q ∈ mF → σ'.1 0 q = σ.1 0 q := fun q hq => hs.2.1 q (fun z => by
    have := List.all_eq_true.mp hf q hq
    rw [List.elem_iff.mpr z] at this
    cases this)
  refine ⟨h1.fe ?_ ?_ ?_ ?_ ?_, fun j hj => ?_, h3.fe ?_ ?_ ?_ ?_, h4.fe ?_ ?_, h5.fe ?_ ?_, hp, h7.fe ?_ ?_⟩
  case refine_6 => rw [c 2 (by decide) (by decide) (by decide) (by decide)]; exact h2 j hj
  all_goals first | exact c _ (by decide) (by decide) (by decide) (by decide) | exact d _ (by decide)
theorem pM.sm {l fs : List Nat} {σ σ' : sy_S} {P : Nat → Option (Nat → Nat)} (hs : sm l fs σ σ') (h : pM P σ.1) (h7 : 7 ∉ l) (h8 : 8 ∉ l) : pM P σ'.1 := h.fe (hs.1 7 (by decide) h7) (hs.1 8 (by decide) h8)
theorem aro_sm {l fs : List Nat} {σ σ' : sy_S} {k o : Nat} {h : Nat → Nat} (hs : sm l fs σ σ') (hh : aro σ.1 k o h) (hk : k ∉ l) (h0 : k ≠ 0) : aro σ'.1 k o h := fun j hj => by rw [hs.1 k h0 hk]; exact hh j hj
theorem M_keep {Q : Option Value → sy_S → Prop} {σ : sy_S} {B : Nat} {S : st} (p : Int32) (hB : B ≤ 2000) (ho : sO B S) (h : RM S σ.1) (kk : ∀ σ' : sy_S, RM (f_keep p S).2 σ'.1 → Q (some (.int (f_keep p S).1)) σ') : sy_E shM mX12_keep (0, sy_ent [.ref 0, .int p] 4, [], σ) Q := by
  obtain ⟨G, H, P, U, R, T, W, L⟩ := S
  obtain ⟨r1, r2, r3, r4, r5, r6, r7⟩ := id h
  have hG := r1.1
  have hH := sO_H ho
  have hB9 := hz9 hH hB
  refine w_M_keep_0 (fun m hm => ?_) (fun q => ?_)
  · obtain ⟨m6, rfl, -⟩ := px_s hm
    have e : f_keep (nI m) (G, H, P, U, R, T, W, L) = (nI (ssum 16 (od G H)), (G, H, pset P m (stt G H), U, R, T, W, L)) := by simp only [f_keep, hm]
    rw [e] at kk
    refine e_m_copies rfl rfl (by decide) (by decide) r2 (fun σ1 g1 g2 => w_M_keep_20 (e_m_stt row12 (g1.gm r1 (by simp) (by simp)) g2 hB9 (fun σ2 f1 f2 f3 f4 => w_M_keep_28 ?_)))
    have hs : sm [12, 5] [7] σ σ2 := (g1.mono (by simp) (by simp)).tr f1
    refine e_m_lays m6 row12 (by decide) (hs.gm r1 (by simp) (by simp)) (r6.sm hs (by simp) (by simp)) f2 (fun σ3 i1 i2 => w_M_keep_38 (kk σ3 ?_))
    exact RM_pl h ((hs.mono (l' := [12, 5, 7, 8]) (fs' := [7]) (by simp) (by simp)).tr (i1.mono (by simp) (by simp))) (by decide) (by decide) i2
  · have e : f_keep p (G, H, P, U, R, T, W, L) = (-1, (G, H, P, U, R, T, W, L)) := by simp only [f_keep, q]
    rw [e] at kk
    exact kk σ h
theorem M_load {Q : Option Value → sy_S → Prop} {σ : sy_S} {B : Nat} {S : st} (p : Int32) (hB : B ≤ 2000) (ho : sO B S) (h : RM S σ.1) (kk : ∀ σ' : sy_S, RM (f_load p S).2 σ'.1 → Q (some (.int (f_load p S).1)) σ') : sy_E shM mX12_load (0, sy_ent [.ref 0, .int p] 2, [], σ) Q := by
  obtain ⟨G, H, P, U, R, T, W, L⟩ := S
  obtain ⟨r1, r2, r3, r4, r5, r6, r7⟩ := id h
  have hG := r1.1
  have hH := sO_H ho
  refine w_M_load_0 (fun m hm => ?_) (fun m hm q => ?_) (fun m hm q => ?_) (fun q => ?_)
  · obtain ⟨m6, rfl, -⟩ := px_s hm
    exact vp_in_nI m6 (by decide)
  · obtain ⟨m6, rfl, -⟩ := px_s hm
    have m6 : m < 6 := m6
    rw [nI_clamp (by omega)] at q
    cases hp : P m with
    | none => exact absurd (pM_n r6 m6 hp) q
    | some x =>
      have e : f_load (nI m) (G, H, P, U, R, T, W, L) = (nI (sg_sum G x), (G, x, P, (H :: U).take 8, [], T, W, L)) := by simp only [f_load, hm, hp]
      rw [e] at kk
      refine M_changes ho.2.1 r3 r2 (fun σ1 g1 g2 => w_M_load_25 (e_m_takes m6 rfl (by decide) (by decide) (aro_sm g1 (pM_s r6 m6 hp).2 (by simp) (by decide)) (fun σ2 f1 f2 => w_M_load_34 ?_)))
      have hr := RM_ch (l := []) h g1 g2 (f1.mono (by simp) (by simp)) (by decide) f2
      exact e_m_grains rfl hr.1 f2 (w_M_load_42 (kk σ2 hr))
  · obtain ⟨m6, rfl, -⟩ := px_s hm
    have m6 : m < 6 := m6
    rw [nI_clamp (by omega)] at q
    cases hp : P m with
    | none =>
      have e : f_load (nI m) (G, H, P, U, R, T, W, L) = (-6, (G, H, P, U, R, T, W, L)) := by simp only [f_load, hm, hp]
      rw [e] at kk
      exact kk σ h
    | some x =>
      refine absurd (fun z => ?_) q
      rw [(pM_s r6 m6 hp).1] at z
      cases z
  · have e : f_load p (G, H, P, U, R, T, W, L) = (-1, (G, H, P, U, R, T, W, L)) := by simp only [f_load, q]
    rw [e] at kk
    exact kk σ h
theorem M_pile {Q : Option Value → sy_S → Prop} {σ : sy_S} {B : Nat} {S : st} (p : Int32) (cell : Int32) (ho : sO B S) (h : RM S σ.1) (kk : ∀ σ' : sy_S, RM S σ'.1 → Q (some (.int (f_pile p cell S))) σ') : sy_E shM mX12_pile (0, sy_ent [.ref 0, .int p, .int cell] 3, [], σ) Q := by
  obtain ⟨G, H, P, U, R, T, W, L⟩ := S
  obtain ⟨r1, r2, r3, r4, r5, r6, r7⟩ := id h
  have hG := r1.1
  have hH := sO_H ho
  have no : (px p6 p = none ∨ px (sg_p G) cell = none) → Q (some (.int (-1))) σ := by
    intro z
    have e : f_pile p cell (G, H, P, U, R, T, W, L) = -1 := by
      rcases z with z | z
      · simp only [f_pile, z]
      · cases hr : px p6 p <;> simp only [f_pile, hr, z]
    rw [e] at kk
    exact kk σ h
  have ex : ∀ m c, 16 * nI m + nI c = nI (16 * m + c) := fun m c => by rw [show (16 : Int32) = nI 16 from rfl, pk_mul, nI_add]
  refine w_M_pile_0 (G := G) (fun _ _ => r1) (fun m hm c hc => ?_) (fun m hm c hc _ => ?_) (fun m hm c hc q => ?_) (fun m hm c hc q => ?_) (fun m hm q => no (Or.inr q)) (fun q => no (Or.inl q))
  · obtain ⟨m6, rfl, -⟩ := px_s hm
    exact vp_in_nI m6 (by decide)
  · obtain ⟨m6, rfl, -⟩ := px_s hm
    obtain ⟨pc, rfl, -⟩ := px_s hc
    have m6 : m < 6 := m6
    have := sg_p16 hG pc
    rw [ex]; exact vp_in_nI (by omega) (by decide)
  · obtain ⟨m6, rfl, -⟩ := px_s hm
    have m6 : m < 6 := m6
    rw [nI_clamp (by omega)] at q
    cases hp : P m with
    | none =>
      have e : f_pile (nI m) cell (G, H, P, U, R, T, W, L) = -6 := by simp only [f_pile, hm, hc, hp]
      rw [e] at kk
      exact kk σ h
    | some x =>
      rw [(pM_s r6 m6 hp).1] at q
      cases q
  · obtain ⟨m6, rfl, -⟩ := px_s hm
    obtain ⟨pc, rfl, -⟩ := px_s hc
    have m6 : m < 6 := m6
    have c16 := sg_p16 hG pc
    rw [nI_clamp (by omega)] at q
    cases hp : P m with
    | none => exact absurd (pM_n r6 m6 hp) q
    | some x =>
      have e : f_pile (nI m) (nI c) (G, H, P, U, R, T, W, L) = nI (x c) := by simp only [f_pile, hm, hc, hp]
      rw [e] at kk
      rw [ex, nI_clamp (by omega), (pM_s r6 m6 hp).2 c c16]
      exact kk σ h
theorem e_m_adds {Q : Option Value → sy_S → Prop} {σ : sy_S} {G : sg_G} {a b : Nat} {x y : Nat → Nat} (ha : rowM a) (hb : shM[b]? = some (0, 16, [])) (hg : gm G σ.1) (hx : ar σ.1 a x) (hy : ar σ.1 b y) (hB : ∀ j, j < 16 → vad x y j ≤ 10000) (kk : ∀ σ' : sy_S, sm [a, 5] [7] σ σ' → ar σ'.1 a (stt G (vad x y)) → Q (some (.int (nI (ssum 16 (od G (vad x y)))))) σ') : sy_E shM mX12_addsTo (0, sy_ent [.ref 0, .ref a, .ref b] 4, [], σ) Q := by
  obtain ⟨hz, k0, k1, k3, k4, k5, k6⟩ := id ha
  refine w_M_addsTo_0 ?_
  have hl := sy_loop (sh := shM) (y := mX12_addsTo) (Q := Q) (fun i σ' => (2, [some (.ref 0), some (.ref a), some (.ref b), some (.int (nI i))], [], σ')) (fun i σ' => sm [a] [] σ σ' ∧ (∀ j, j < i → σ'.1 a j = nI (vad x y j)) ∧ ∀ j, i ≤ j → j < 16 → σ'.1 a j = nI (x j) ∧ σ'.1 b j = nI (y j)) 16 ?_ ?_ 0 σ (by decide) ⟨sm.rf, fun j hj => absurd hj (Nat.not_lt_zero _), fun j _ hj => ⟨hx j hj, hy j hj⟩⟩
  · exact hl
  · rintro i σ1 hi ⟨i1, i2, i3⟩ ih
    refine w_M_addsTo_2 hz hb (fun _ => vp_in_nI hi (by decide)) (fun q => absurd q (nI_ge hi (by decide))) (fun _ => ?_)
    obtain ⟨e1, e2⟩ := i3 i (Nat.le_refl _) hi
    rw [nI_clamp (by omega), e1, e2, nI_1, nI_add]
    refine ih _ ⟨i1.tr (sm.up (by simp) k0), fun j hj => ?_, fun j hj hj2 => ?_⟩
    · dsimp only
      rw [sy_up2]
      by_cases e : j = i
      · subst e; rw [if_pos ⟨rfl, rfl⟩]; rfl
      · rw [if_neg (fun q => e q.2)]; exact i2 j (by omega)
    · dsimp only
      rw [sy_up2, sy_up2, if_neg (by omega), if_neg (by omega)]; exact i3 j (by omega) hj2
  · rintro σ1 ⟨i1, i2, i3⟩
    refine w_M_addsTo_2 hz hb (fun q => absurd (nI_le (Nat.le_refl 16) (by decide)) q) (fun _ => ?_) (fun q => absurd (nI_le (Nat.le_refl 16) (by decide)) q)
    refine e_m_stt ha (i1.gm hg (by simp; exact ⟨Ne.symm k1, Ne.symm k3, Ne.symm k4⟩) (by simp)) i2 hB (fun σ2 f1 f2 f3 f4 => w_M_addsTo_28 (kk σ2 ((i1.mono (by simp) (by simp)).tr f1) f2))
theorem M_sum {Q : Option Value → sy_S → Prop} {σ : sy_S} {B : Nat} {S : st} (p : Int32) (a : Int32) (b : Int32) (ho : sO B S) (h : RM S σ.1) (kk : ∀ σ' : sy_S, RM (f_sum p a b S).2 σ'.1 → Q (some (.int (f_sum p a b S).1)) σ') : sy_E shM mX12_sum (0, sy_ent [.ref 0, .int p, .int a, .int b] 6, [], σ) Q := by
  obtain ⟨G, H, P, U, R, T, W, L⟩ := S
  obtain ⟨r1, r2, r3, r4, r5, r6, r7⟩ := id h
  have hG := r1.1
  have hH := sO_H ho
  have no : (px p6 p = none ∨ px p6 a = none ∨ px p6 b = none) → Q (some (.int (-1))) σ := by
    intro z
    have e : f_sum p a b (G, H, P, U, R, T, W, L) = (-1, (G, H, P, U, R, T, W, L)) := by
      rcases z with z | z | z
      · simp only [f_sum, z]
      · cases hr : px p6 p <;> simp only [f_sum, hr, z]
      · cases hr : px p6 p <;> cases hr2 : px p6 a <;> simp only [f_sum, hr, hr2, z]
    rw [e] at kk
    exact kk σ h
  refine w_M_sum_0 (fun m hm n hn o ho' => ?_) (fun m hm n hn o ho' _ => ?_) (fun m hm n hn o ho' q => ?_) (fun m hm n hn o ho' q q2 => ?_) (fun m hm n hn o ho' q q2 => ?_) (fun _ _ _ _ q => no (Or.inr (Or.inr q))) (fun _ _ q => no (Or.inr (Or.inl q))) (fun q => no (Or.inl q))
  · obtain ⟨m6, rfl, -⟩ := px_s hn
    exact vp_in_nI m6 (by decide)
  · obtain ⟨m6, rfl, -⟩ := px_s ho'
    exact vp_in_nI m6 (by decide)
  · obtain ⟨n6, rfl, -⟩ := px_s hn
    have n6 : n < 6 := n6
    rw [nI_clamp (by omega)] at q
    cases hp : P n with
    | none =>
      have e : f_sum p (nI n) b (G, H, P, U, R, T, W, L) = (-6, (G, H, P, U, R, T, W, L)) := by simp only [f_sum, hm, hn, ho', hp]
      rw [e] at kk
      exact kk σ h
    | some x =>
      rw [(pM_s r6 n6 hp).1] at q
      cases q
  · obtain ⟨m6, rfl, -⟩ := px_s hm
    obtain ⟨n6, rfl, -⟩ := px_s hn
    obtain ⟨o6, rfl, -⟩ := px_s ho'
    have m6 : m < 6 := m6
    have n6 : n < 6 := n6
    have o6 : o < 6 := o6
    rw [nI_clamp (by omega)] at q q2
    cases hp : P n with
    | none => exact absurd (pM_n r6 n6 hp) q
    | some x =>
      cases hp2 : P o with
      | none => exact absurd (pM_n r6 o6 hp2) q2
      | some y =>
        have e : f_sum (nI m) (nI n) (nI o) (G, H, P, U, R, T, W, L) = (nI (ssum 16 (od G (vad x y))), (G, H, pset P m (stt G (vad x y)), U, R, T, W, L)) := by simp only [f_sum, hm, hn, ho', hp, hp2]
        rw [e] at kk
        have hx := ho.2.2.2.1 n x hp
        have hy := ho.2.2.2.1 o y hp2
        refine e_m_takes n6 rfl (by decide) (by decide) (pM_s r6 n6 hp).2 (fun σ1 g1 g2 => w_M_sum_53 ?_)
        refine e_m_takes o6 rfl (by decide) (by decide) (aro_sm g1 (pM_s r6 o6 hp2).2 (by simp) (by decide)) (fun σ2 f1 f2 => w_M_sum_62 ?_)
        have hs2 : sm [12, 16] [] σ σ2 := (g1.mono (by simp) (by simp)).tr (f1.mono (by simp) (by simp))
        refine e_m_adds row12 rfl (hs2.gm r1 (by simp) (by simp)) (ar_sm f1 g2 (by simp) (by decide)) f2 (fun j _ => Nat.le_trans ((vad_hz hx hy).2 j) (by decide)) (fun σ3 i1 i2 => w_M_sum_74 ?_)
        have hs3 : sm [12, 16, 5] [7] σ σ3 := (hs2.mono (by simp) (by simp)).tr (i1.mono (by simp) (by simp))
        refine e_m_lays m6 row12 (by decide) (hs3.gm r1 (by simp) (by simp)) (r6.sm hs3 (by simp) (by simp)) i2 (fun σ4 j1 j2 => w_M_sum_85 (kk σ4 ?_))
        exact RM_pl h ((hs3.mono (l' := [12, 16, 5, 7, 8]) (fs' := [7]) (by simp) (by simp)).tr (j1.mono (by simp) (by simp))) (by decide) (by decide) j2
  · obtain ⟨n6, rfl, -⟩ := px_s hn
    obtain ⟨o6, rfl, -⟩ := px_s ho'
    have n6 : n < 6 := n6
    have o6 : o < 6 := o6
    rw [nI_clamp (by omega)] at q q2
    cases hp : P n with
    | none => exact absurd (pM_n r6 n6 hp) q
    | some x =>
      cases hp2 : P o with
      | none =>
        have e : f_sum p (nI n) (nI o) (G, H, P, U, R, T, W, L) = (-6, (G, H, P, U, R, T, W, L)) := by simp only [f_sum, hm, hn, ho', hp, hp2]
        rw [e] at kk
        exact kk σ h
      | some y =>
        refine absurd (fun z => ?_) q2
        rw [(pM_s r6 o6 hp2).1] at z
        cases z
theorem gm_pl {G : sg_G} {f : Nat → Nat → Int32} (hg : gm G f) {i : Nat} (hi : i < 16) : (f 0 0 * f 0 1 ≤ nI i → ¬ sg_p G i) ∧ (¬ (f 0 0 * f 0 1 ≤ nI i) → i < sg_n G) ∧ (i < sg_n G → ¬ f 1 i = 0 → ¬ sg_p G i) ∧ (i < sg_n G → ¬ ¬ f 1 i = 0 → sg_p G i) := by
  have h16 := sg_n16 hg.1
  rw [gm_n hg]
  refine ⟨fun q z => ?_, fun q => ?_, fun a b z => ?_, fun a b => ⟨a, ?_⟩⟩
  · rw [nI_leI (by omega) (by omega)] at q
    have := z.1
    omega
  · rw [nI_leI (by omega) (by omega)] at q; omega
  · rw [hg.2.1.2.2 i a, z.2] at b
    exact b rfl
  · have b := Classical.byContradiction b
    rw [hg.2.1.2.2 i a] at b
    cases hw : G.2.2 i with
    | false => rfl
    | true => rw [hw] at b; cases b
theorem e_m_nought {Q : Option Value → sy_S → Prop} {σ : sy_S} {G : sg_G} (hg : gm G σ.1) (kk : ∀ σ' : sy_S, sm [17, 18, 5] [7] σ σ' → ar σ'.1 17 (fz G) → ar σ'.1 18 (nt G) → Q none σ') : sy_E shM mX12_laysNought (0, sy_ent [.ref 0] 3, [], σ) Q := by
  have hG := hg.1
  refine w_M_laysNought_0 ?_
  have hl := sy_loop (sh := shM) (y := mX12_laysNought) (Q := Q) (fun i σ' => (2, [some (.ref 0), some (.int (nI i)), none], [], σ')) (fun i σ' => sm [17] [] σ σ' ∧ ∀ j, j < i → σ'.1 17 j = nI (six G j)) 16 ?_ ?_ 0 σ (by decide) ⟨sm.rf, fun j hj => absurd hj (Nat.not_lt_zero _)⟩
  · exact hl
  · rintro i σ1 hi ⟨i1, i2⟩ ih
    obtain ⟨p1, p2, p3, p4⟩ := gm_pl (i1.gm hg (by simp) (by simp)) hi
    have put : ∀ x : Int32, x = nI (six G i) → sy_E shM mX12_laysNought (2, [some (.ref 0), some (.int (nI i + 1)), none], [], (sy_up σ1.1 17 (nI i).toNatClampNeg x, σ1.2)) Q := by
      intro x hx
      rw [nI_1, nI_clamp (by omega)]
      refine ih _ ⟨i1.tr (sm.up (by simp) (by decide)), fun j hj => ?_⟩
      dsimp only
      rw [sy_up2]
      by_cases e : j = i
      · subst e; rw [if_pos ⟨rfl, rfl⟩]; exact hx
      · rw [if_neg (fun q => e q.2)]; exact i2 j (by omega)
    refine w_M_laysNought_2 (fun _ _ => vp_in_nI hi (by decide)) (fun _ _ => vp_in_nI hi (by decide)) (fun q => absurd q (nI_ge hi (by decide))) (fun _ q => put 0 ?_) (fun _ q z => put 0 ?_) (fun _ q z => put 6 ?_)
    · rw [six_np (p1 q)]; rfl
    · rw [nI_clamp (by omega)] at z
      rw [six_np (p3 (p2 q) z)]; rfl
    · rw [nI_clamp (by omega)] at z
      rw [six_p (p4 (p2 q) z)]; rfl
  · rintro σ1 ⟨i1, i2⟩
    have le : 16 ≤ nI 16 := nI_le (Nat.le_refl 16) (by decide)
    refine w_M_laysNought_2 (fun q => absurd le q) (fun q => absurd le q) (fun _ => ?_) (fun q => absurd le q) (fun q => absurd le q) (fun q => absurd le q)
    refine e_m_stt row17 (i1.gm hg (by simp) (by simp)) i2 (fun j _ => Nat.le_trans (six_le G j) (by decide)) (fun σ2 f1 f2 f3 f4 => w_M_laysNought_51 ?_)
    have hs2 : sm [17, 5] [7] σ σ2 := (i1.mono (by simp) (by simp)).tr f1
    have hl := sy_loop (sh := shM) (y := mX12_laysNought) (Q := Q) (fun i σ' => (54, [some (.ref 0), none, some (.int (nI i))], [], σ')) (fun i σ' => sm [17, 18] [] σ2 σ' ∧ (∀ j, j < i → σ'.1 17 j = nI (fz G j) ∧ σ'.1 18 j = nI (fz G j)) ∧ ∀ j, i ≤ j → j < 16 → σ'.1 17 j = nI (stt G (six G) j)) 16 ?_ ?_ 0 σ2 (by decide) ⟨sm.rf, fun j hj => absurd hj (Nat.not_lt_zero _), fun j _ hj => f2 j hj⟩
    · exact hl
    · rintro i σ3 hi ⟨j1, j2, j3⟩ ih
      obtain ⟨p1, p2, p3, p4⟩ := gm_pl (j1.gm (hs2.gm hg (by simp) (by simp)) (by simp) (by simp)) hi
      have ei : (nI i).toNatClampNeg = i := nI_clamp (by omega)
      have e17 := j3 i (Nat.le_refl _) hi
      have put : ∀ x : Int32, x = nI (six G i) → sy_E shM mX12_laysNought (54, [some (.ref 0), none, some (.int (nI i + 1))], [], (sy_up (sy_up σ3.1 17 (nI i).toNatClampNeg (x - (σ3.1 17 (nI i).toNatClampNeg))) 18 (nI i).toNatClampNeg ((sy_up σ3.1 17 (nI i).toNatClampNeg (x - (σ3.1 17 (nI i).toNatClampNeg))) 17 (nI i).toNatClampNeg), σ3.2)) Q := by
        intro x hx
        have ev : x - nI (stt G (six G) i) = nI (fz G i) := by
          rw [hx, pk_sub (six_st hG i)]; rfl
        rw [nI_1, ei, e17, ev]
        refine ih _ ⟨j1.tr ((sm.up (k := 17) (i := i) (x := nI (fz G i)) (by simp) (by decide)).tr (sm.up (by simp) (by decide))), fun j hj => ?_, fun j hj hj2 => ?_⟩
        · dsimp only
          rw [sy_up_ne _ _ _ (show (17 : Nat) ≠ 18 by decide), sy_up2 (k := 18), sy_up2, sy_up2]
          by_cases e : j = i
          · subst e; simp
          · have := j2 j (by omega)
            simp only [e, and_false, if_false]
            rw [sy_up_ne _ _ _ (by decide)]
            exact this
        · dsimp only
          rw [sy_up_ne _ _ _ (by decide), sy_up2, if_neg (by omega)]; exact j3 j (by omega) hj2
      refine w_M_laysNought_54 (fun _ _ => vp_in_nI hi (by decide)) (fun _ _ => vp_in_nI hi (by decide)) (fun q => absurd q (nI_ge hi (by decide))) (fun _ q => put 0 ?_) (fun _ q z => put 0 ?_) (fun _ q z => put 6 ?_)
      · rw [six_np (p1 q)]; rfl
      · rw [ei] at z
        rw [six_np (p3 (p2 q) z)]; rfl
      · rw [ei] at z
        rw [six_p (p4 (p2 q) z)]; rfl
    · rintro σ3 ⟨j1, j2, j3⟩
      refine w_M_laysNought_54 (fun q => absurd le q) (fun q => absurd le q) (fun _ => ?_) (fun q => absurd le q) (fun q => absurd le q) (fun q => absurd le q)
      have hs3 : sm [17, 18, 5] [7] σ σ3 := (hs2.mono (by simp) (by simp)).tr (j1.mono (by simp) (by simp))
      refine e_m_stt row18 (hs3.gm hg (by simp) (by simp)) (fun j hj => (j2 j hj).2) (fun j _ => Nat.le_trans (fz_le G j) (by decide)) (fun σ4 l1 l2 l3 l4 => w_M_laysNought_122 (kk σ4 (hs3.tr (l1.mono (by simp) (by simp))) (ar_sm l1 (fun j hj => (j2 j hj).1) (by simp) (by decide)) l2))
theorem M_nought {Q : Option Value → sy_S → Prop} {σ : sy_S} {B : Nat} {S : st} (p : Int32) (ho : sO B S) (h : RM S σ.1) (kk : ∀ σ' : sy_S, RM (f_nought p S).2 σ'.1 → Q (some (.int (f_nought p S).1)) σ') : sy_E shM mX12_nought (0, sy_ent [.ref 0, .int p] 2, [], σ) Q := by
  obtain ⟨G, H, P, U, R, T, W, L⟩ := S
  obtain ⟨r1, r2, r3, r4, r5, r6, r7⟩ := id h
  have hG := r1.1
  have hH := sO_H ho
  refine w_M_nought_0 (fun m hm => ?_) (fun q => ?_)
  · obtain ⟨m6, rfl, -⟩ := px_s hm
    have e : f_nought (nI m) (G, H, P, U, R, T, W, L) = (nI (sg_sum G (nt G)), (G, H, pset P m (nt G), U, R, T, W, L)) := by simp only [f_nought, hm]
    rw [e] at kk
    refine e_m_nought r1 (fun σ1 g1 g2 g3 => w_M_nought_13 ?_)
    refine e_m_lays m6 row18 (by decide) (g1.gm r1 (by simp) (by simp)) (r6.sm g1 (by simp) (by simp)) g3 (fun σ2 f1 f2 => w_M_nought_22 (kk σ2 ?_))
    exact RM_pl h ((g1.mono (l' := [17, 18, 5, 7, 8]) (fs' := [7]) (by simp) (by simp)).tr (f1.mono (by simp) (by simp))) (by decide) (by decide) f2
  · have e : f_nought p (G, H, P, U, R, T, W, L) = (-1, (G, H, P, U, R, T, W, L)) := by simp only [f_nought, q]
    rw [e] at kk
    exact kk σ h
