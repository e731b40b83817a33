/-! contracts of Matrix -/
theorem lz_op {x y u v w : Int64} {a b c d A : Int} (hx : x.toInt = a) (hy : y.toInt = b) (hu : u.toInt = c) (hv : v.toInt = d) (hw : w.toInt = A) (hA : 0 < A) (h1 : A ≤ 4 ^ 14) (ha : -(4 * A) ≤ a ∧ a ≤ 4 * A) (hb : -(4 * A) ≤ b ∧ b ≤ 4 * A) (hc : -(4 * A) ≤ c ∧ c ≤ 4 * A) (hd : -(4 * A) ≤ d ∧ d ≤ 4 * A) : ((x * y - u * v) / w).toInt = (a * b - c * d).tdiv A := by
  have big : ∀ {s t : Int}, (-(4 * A) ≤ s ∧ s ≤ 4 * A) → (-(4 * A) ≤ t ∧ t ≤ 4 * A) → -(2 ^ 60) ≤ s * t ∧ s * t ≤ 2 ^ 60 := by
    intro s t hs ht
    have h2 : s.natAbs ≤ 2 ^ 30 := by omega
    have h3 : t.natAbs ≤ 2 ^ 30 := by omega
    have h4 : s.natAbs * t.natAbs ≤ 2 ^ 30 * 2 ^ 30 := Nat.mul_le_mul h2 h3
    rw [← Int.natAbs_mul] at h4
    omega
  obtain ⟨p1, p2⟩ := big ha hb
  obtain ⟨q1, q2⟩ := big hc hd
  have e1 : (x * y).toInt = a * b := by rw [Jvm.Kit.i64_mul (by rw [hx, hy]; omega) (by rw [hx, hy]; omega), hx, hy]
  have e2 : (u * v).toInt = c * d := by rw [Jvm.Kit.i64_mul (by rw [hu, hv]; omega) (by rw [hu, hv]; omega), hu, hv]
  have e3 : (x * y - u * v).toInt = a * b - c * d := by rw [Jvm.Kit.i64_sub (by rw [e1, e2]; omega) (by rw [e1, e2]; omega), e1, e2]
  rw [Int64.toInt_div_of_ne_right _ _ (fun e => by
    have : w.toInt = (-1 : Int64).toInt := by rw [e]
    rw [hw, show (-1 : Int64).toInt = -1 from rfl] at this
    omega), e3, hw]
def lar (J : Nat → Nat → Int64) (i : Nat) (m : Int) : Prop := (J 56 i).toInt = m
theorem sy_upL2 (f : Nat → Nat → Int64) (k i : Nat) (x : Int64) (a b : Nat) : sy_upL f k i x a b = if a = k ∧ b = i then x else f a b := by
  unfold sy_upL
  by_cases h : a = k
  · subst h
    by_cases h2 : b = i
    · subst h2; simp [vp_updL]
    · simp [vp_updL, h2]
  · simp [h]
theorem e_x_fillL {Q : Option Value → sy_S → Prop} {σ : sy_S} {v : Int64} (kk : ∀ σ' : sy_S, σ'.1 = σ.1 → (∀ j, j < 256 → σ'.2 56 j = v) → Q none σ') : sy_E shX mJ7_fill_d0a16 (0, sy_ent [.ref 56, .long v] 5, [], σ) Q := by
  refine w_x_fillL_0 ?_
  have hl := sy_loop (sh := shX) (y := mJ7_fill_d0a16) (Q := Q) (fun i σ' => (6, [some (.ref 56), some (.long v), none, some (.int (nI i)), some (.int (nI 256))], [], σ')) (fun i σ' => σ'.1 = σ.1 ∧ ∀ j, j < i → σ'.2 56 j = v) 256 ?_ ?_ 0 σ (by decide) ⟨rfl, fun j hj => absurd hj (Nat.not_lt_zero _)⟩
  · exact hl
  · rintro i σ' hi ⟨i1, i2⟩ ih
    have ei : (nI i).toNatClampNeg = i := nI_clamp (by omega)
    refine w_x_fillL_6 (fun _ => vp_in_nI hi (by decide)) (fun q => absurd q (nI_ge hi (by decide))) (fun _ => ?_)
    rw [ei, nI_1]
    refine ih _ ⟨i1, fun j hj => ?_⟩
    dsimp only
    rw [sy_upL2]
    by_cases e : j = i
    · rw [if_pos ⟨rfl, e⟩]
    · rw [if_neg (fun q => e q.2)]; exact i2 j (by omega)
  · rintro σ' ⟨i1, i2⟩
    exact w_x_fillL_6 (fun q => absurd (nI_le (Nat.le_refl 256) (by decide)) q) (fun _ => kk σ' i1 i2) (fun q => absurd (nI_le (Nat.le_refl 256) (by decide)) q)
/-- the class's matrix: places by their numbers -/
def mtx (G : sg_G) (k : Nat) (M : Nat → Nat → Int) (J : Nat → Nat → Int64) : Prop := ∀ i j a b, k ≤ i → k ≤ j → (sg_P G)[i]? = some a → (sg_P G)[j]? = some b → (J 56 (i * (sg_P G).length + j)).toInt = M a b
theorem ix_inj {n i j i' j' : Nat} (hj : j < n) (hj' : j' < n) : i * n + j = i' * n + j' ↔ i = i' ∧ j = j' := by
  constructor
  · intro h
    have h1 : (i * n + j) / n = i := by rw [Nat.mul_comm, Nat.mul_add_div (by omega), Nat.div_eq_of_lt hj]; rfl
    have h2 : (i' * n + j') / n = i' := by rw [Nat.mul_comm, Nat.mul_add_div (by omega), Nat.div_eq_of_lt hj']; rfl
    rw [h, h2] at h1
    subst h1
    exact ⟨rfl, by omega⟩
  · rintro ⟨rfl, rfl⟩; rfl
theorem ix_lt {n i j : Nat} (hn : n ≤ 16) (hi : i < n) (hj : j < n) : i * n + j < 256 := by
  have h : (i + 1) * n ≤ n * n := Nat.mul_le_mul_right _ hi
  have h2 : n * n ≤ 16 * 16 := Nat.mul_le_mul hn hn
  rw [Nat.add_mul] at h
  omega
theorem e_x_fillF {Q : Option Value → sy_S → Prop} {σ : sy_S} {G : sg_G} (hg : gx G σ.1) (kk : ∀ σ' : sy_S, σ'.1 = σ.1 → mtx G 0 (zi G) σ'.2 → Q none σ') : sy_E shX mX5_fillFrom (0, sy_ent [.ref 55, .ref 0, .int (nI (sg_P G).length)] 6, [], σ) Q := by
  have hG := hg.1
  have hP := sg_P_len hG
  have hnd := sg_P_nodup G
  obtain ⟨n, hn⟩ : ∃ n, n = (sg_P G).length := ⟨_, rfl⟩
  rw [← hn] at hP ⊢
  refine w_x_fillF_0 (e_x_fillL (fun σ1 z1 z2 => w_x_fillF_8 ?_))
  -- rows below i are laid, the others are 0
  have hl := sy_loop (sh := shX) (y := mX5_fillFrom) (Q := Q) (fun i σ' => (10, [some (.ref 55), some (.ref 0), some (.int (nI n)), some (.int (nI i)), none, none], [], σ')) (fun i σ' => σ'.1 = σ.1 ∧ (∀ i' j a b, i' < i → (sg_P G)[i']? = some a → (sg_P G)[j]? = some b → (σ'.2 56 (i' * n + j)).toInt = zi G a b) ∧ ∀ i' j, i ≤ i' → i' < n → j < n → (σ'.2 56 (i' * n + j)).toInt = 0) n ?_ ?_ 0 σ1 (Nat.zero_le _) ⟨z1, fun i' j a b h => absurd h (Nat.not_lt_zero _), fun i' j _ h1 h2 => by rw [z2 _ (ix_lt hP h1 h2)]; rfl⟩
  · exact hl
  · rintro i σ' hi ⟨i1, i2, i3⟩ ih
    have hg' : gx G σ'.1 := by rw [i1]; exact hg
    obtain ⟨c, p1, p2, p3, p4, p5⟩ := gx_pl hg' (i := i) (by omega)
    have ei : (nI i).toNatClampNeg = i := nI_clamp (by omega)
    have eii : nI i * nI n + nI i = nI (i * n + i) := by rw [pk_mul, nI_add]
    have hii := ix_lt hP hi hi
    have nle : ¬ nI n ≤ nI i := nI_ge hi (by omega)
    refine w_x_fillF_10 (fun _ => vp_in_nI (by omega) (by decide)) (fun _ => by rw [eii]; exact vp_in_nI hii (by decide)) (fun q => absurd q nle) (fun _ => ?_)
    rw [ei, p4, eii, nI_clamp (by omega)]
    obtain ⟨n1, n2⟩ := gx_nb hg' p2.1
    have hlen := sg_nb_len G c
    have ec : (nI c).toNatClampNeg = c := nI_clamp (by omega)
    -- those next to it
    refine sy_loop (sh := shX) (y := mX5_fillFrom) (Q := Q) (fun s σ2 => (38, [some (.ref 55), some (.ref 0), some (.int (nI n)), some (.int (nI i)), some (.int (nI c)), some (.int (nI s))], [], σ2)) (fun s σ2 => σ2.1 = σ.1 ∧ (∀ i' j a b, i' < i → (sg_P G)[i']? = some a → (sg_P G)[j]? = some b → (σ2.2 56 (i' * n + j)).toInt = zi G a b) ∧ (∀ i' j, i + 1 ≤ i' → i' < n → j < n → (σ2.2 56 (i' * n + j)).toInt = 0) ∧ ∀ j b, (sg_P G)[j]? = some b → (σ2.2 56 (i * n + j)).toInt = if c = b then 4 else if b ∈ (sg_nb G c).take s then -1 else 0) (sg_nb G c).length ?_ ?_ 0 (σ'.1, sy_upL σ'.2 56 (i * n + i) 4) (Nat.zero_le _) ⟨i1, fun i' j a b h1 h2 h3 => ?_, fun i' j h1 h2 h3 => ?_, fun j b hj => ?_⟩
    · rintro s σ2 hs ⟨j1, j2, j3, j4⟩ ih2
      have hg2 : gx G σ2.1 := by rw [j1]; exact hg
      obtain ⟨m1, m2⟩ := gx_nb hg2 p2.1
      obtain ⟨o, ho⟩ : ∃ o, (sg_nb G c)[s]? = some o := ⟨_, List.getElem?_eq_getElem hs⟩
      have hop := sg_nb_p hG p2.1 (List.mem_of_getElem? ho)
      have ho16 := sg_p16 hG hop.1
      obtain ⟨t, ht⟩ := List.getElem?_of_mem (sg_P_mem.mpr hop.1)
      have htn : t < n := by have := (List.getElem?_eq_some_iff.mp ht).1; omega
      have e3 : σ2.1 3 o = nI t := by
        rw [hg2.2.2.2.2.1 o hop.1.1]
        congr 1
        -- the number of a place
        have h5 : (sg_P G)[(sg_pm G o).length]? = some o := by
          have h6 : ∀ m, o < m → (sg_pm G m)[(sg_pm G o).length]? = some o := by
            intro m hm
            obtain ⟨d, rfl⟩ : ∃ d, m = o + 1 + d := ⟨m - (o + 1), by omega⟩
            induction d with
            | zero =>
              rw [Nat.add_zero, sg_pm_s, if_neg (by rw [hop.1.2]; decide), List.getElem?_append_right (Nat.le_refl _), Nat.sub_self]; rfl
            | succ d ihd =>
              rw [← Nat.add_assoc, sg_pm_s]
              rw [List.getElem?_append_left (List.getElem?_eq_some_iff.mp (ihd (by omega))).1]
              exact ihd (by omega)
          exact h6 (sg_n G) hop.1.1
        exact (List.getElem?_inj (List.getElem?_eq_some_iff.mp h5).1 hnd).mp (by rw [h5, ht])
      have e4 : σ2.1 4 (4 * c + s) = nI o := m2 s o ho
      have ei4 : nI c * 4 + nI s = nI (4 * c + s) := by rw [nI_lit4, pk_mul, nI_add, Nat.mul_comm]
      have ec4 : (nI (4 * c + s)).toNatClampNeg = 4 * c + s := nI_clamp (by omega)
      have eo : (nI o).toNatClampNeg = o := nI_clamp (by omega)
      have eit : nI i * nI n + nI t = nI (i * n + t) := by rw [pk_mul, nI_add]
      have hit := ix_lt hP hi htn
      have nle2 : ¬ σ2.1 5 ((nI c).toNatClampNeg) ≤ nI s := by rw [ec, m1]; exact nI_ge hs (by omega)
      have hts : (sg_nb G c).take (s + 1) = (sg_nb G c).take s ++ [o] := by rw [List.take_succ, ho]; rfl
      refine w_x_fillF_38 (vp_in_nI p3 (by decide)) (fun _ => by rw [ei4]; exact vp_in_nI (by omega) (by decide)) (fun _ => by rw [ei4, ec4, e4]; exact vp_in_nI ho16 (by decide)) (fun _ => by rw [ei4, ec4, e4, eo, e3, eit]; exact vp_in_nI hit (by decide)) (fun q => absurd q nle2) (fun _ => ?_)
      rw [ei4, ec4, e4, eo, e3, eit, nI_clamp (by omega), nI_1]
      refine ih2 _ ⟨j1, fun i' j a b h1 h2 h3 => ?_, fun i' j h1 h2 h3 => ?_, fun j b hj => ?_⟩
      · have hjn : j < n := by have := (List.getElem?_eq_some_iff.mp h3).1; omega
        dsimp only
        rw [sy_upL2, if_neg (fun q => by have := (ix_inj hjn htn).mp q.2; omega)]
        exact j2 i' j a b h1 h2 h3
      · dsimp only
        rw [sy_upL2, if_neg (fun q => by have := (ix_inj h3 htn).mp q.2; omega)]
        exact j3 i' j h1 h2 h3
      · have hjn : j < n := by have := (List.getElem?_eq_some_iff.mp hj).1; omega
        dsimp only
        rw [sy_upL2, hts]
        by_cases e : j = t
        · subst e
          rw [ht] at hj
          cases hj
          rw [if_pos ⟨rfl, rfl⟩, if_neg (fun z => hop.2 z.symm), if_pos (List.mem_append_right _ (List.mem_singleton.mpr rfl))]; rfl
        · rw [if_neg (fun q => e ((ix_inj hjn htn).mp q.2).2), j4 j b hj]
          have hbo : b ≠ o := fun z => by
            subst z
            exact e ((List.getElem?_inj (by omega) hnd).mp (by rw [hj, ht]))
          by_cases z : c = b
          · rw [if_pos z, if_pos z]
          · rw [if_neg z, if_neg z]
            by_cases m : b ∈ (sg_nb G c).take s
            · rw [if_pos m, if_pos (List.mem_append_left _ m)]
            · rw [if_neg m, if_neg (fun q => (List.mem_append.mp q).elim m (fun q => hbo (List.mem_singleton.mp q)))]
    · rintro σ2 ⟨j1, j2, j3, j4⟩
      have hg2 : gx G σ2.1 := by rw [j1]; exact hg
      obtain ⟨m1, m2⟩ := gx_nb hg2 p2.1
      have le : σ2.1 5 ((nI c).toNatClampNeg) ≤ nI (sg_nb G c).length := by rw [ec, m1]; exact nI_le (Nat.le_refl _) (by omega)
      refine w_x_fillF_38 (vp_in_nI p3 (by decide)) (fun q => absurd le q) (fun q => absurd le q) (fun q => absurd le q) (fun _ => ?_) (fun q => absurd le q)
      rw [nI_1]
      refine ih σ2 ⟨j1, fun i' j a b h1 h2 h3 => ?_, j3⟩
      by_cases e : i' = i
      · subst e
        rw [p1] at h2
        cases h2
        rw [j4 j b h3, List.take_length]
        rfl
      · exact j2 i' j a b (by omega) h2 h3
    · have hjn : j < n := by have := (List.getElem?_eq_some_iff.mp h3).1; omega
      dsimp only
      rw [sy_upL2, if_neg (fun q => by have := (ix_inj hjn hi).mp q.2; omega)]
      exact i2 i' j a b h1 h2 h3
    · dsimp only
      rw [sy_upL2, if_neg (fun q => by have := (ix_inj h3 hi).mp q.2; omega)]
      exact i3 i' j (by omega) h2 h3
    · have hjn : j < n := by have := (List.getElem?_eq_some_iff.mp hj).1; omega
      dsimp only
      rw [sy_upL2, List.take_zero]
      by_cases e : j = i
      · subst e
        rw [p1] at hj
        cases hj
        rw [if_pos ⟨rfl, rfl⟩, if_pos rfl]; rfl
      · rw [if_neg (fun q => e ((ix_inj hjn hi).mp q.2).2), if_neg (fun z => by
          subst z
          exact e ((List.getElem?_inj (by omega) hnd).mp (by rw [hj, p1]))), if_neg List.not_mem_nil]
        exact i3 i j (Nat.le_refl _) hi hjn
  · rintro σ' ⟨i1, i2, i3⟩
    refine w_x_fillF_10 (fun q => absurd (nI_le (Nat.le_refl n) (by omega)) q) (fun q => absurd (nI_le (Nat.le_refl n) (by omega)) q) (fun _ => ?_) (fun q => absurd (nI_le (Nat.le_refl n) (by omega)) q)
    refine kk σ' i1 (fun i j a b _ _ ha hb => ?_)
    rw [← hn]
    exact i2 i j a b (by have := (List.getElem?_eq_some_iff.mp ha).1; omega) ha hb
theorem e_x_elim {Q : Option Value → sy_S → Prop} {σ : sy_S} {G : sg_G} {k p : Nat} {M : Nat → Nat → Int} {bef : Int64} {A : Int} (hG : sg_ok G) (hpk : (sg_P G)[k]? = some p) (hp : p ≤ 14) (hZ : zI G p M A) (hge : ∀ i a, k ≤ i → (sg_P G)[i]? = some a → p ≤ a) (hm : mtx G k M σ.2) (hA : bef.toInt = A) (kk : ∀ σ' : sy_S, σ'.1 = σ.1 → mtx G (k + 1) (zst p (M, A)).1 σ'.2 → σ'.2 56 (k * (sg_P G).length + k) = σ.2 56 (k * (sg_P G).length + k) → Q none σ') : sy_E shX mX5_eliminate (0, sy_ent [.ref 55, .int (nI (sg_P G).length), .int (nI k), .long bef] 13, [], σ) Q := by
  have hP := sg_P_len hG
  have hkn := (List.getElem?_eq_some_iff.mp hpk).1
  obtain ⟨n, hn⟩ : ∃ n, n = (sg_P G).length := ⟨_, rfl⟩
  rw [← hn] at hP hkn kk ⊢
  have hA0 : 0 < A := hZ.1
  have hA14 : A ≤ 4 ^ 14 := by
    have h1 : (4 ^ p : Nat) ≤ 4 ^ 14 := Nat.pow_le_pow_right (by decide) hp
    have h2 : ((4 ^ p : Nat) : Int) = (4 : Int) ^ p := by simp
    have h3 : ((4 ^ p : Nat) : Int) ≤ ((4 ^ 14 : Nat) : Int) := Int.ofNat_le.mpr h1
    rw [h2] at h3
    exact Int.le_trans hZ.2.1 h3
  have hb0 : ¬ bef = 0 := fun e => by
    have h : bef.toInt = (0 : Int64).toInt := by rw [e]
    rw [hA, show (0 : Int64).toInt = 0 from rfl] at h
    omega
  have ekk : nI k * nI n + nI k = nI (k * n + k) := by rw [pk_mul, nI_add]
  have hkk := ix_lt hP hkn hkn
  have at' : ∀ {i : Nat}, i < n → ∃ a, (sg_P G)[i]? = some a := fun h => ⟨_, List.getElem?_eq_getElem (by omega)⟩
  have pl : ∀ {i a : Nat}, (sg_P G)[i]? = some a → sg_p G a := fun h => sg_P_at h
  have bd : ∀ {i j a b : Nat}, k ≤ i → k ≤ j → (sg_P G)[i]? = some a → (sg_P G)[j]? = some b → -(4 * A) ≤ M a b ∧ M a b ≤ 4 * A := fun h1 h2 h3 h4 => zI_off hG hZ (pl h3) (hge _ _ h1 h3) (pl h4) (hge _ _ h2 h4)
  have ePk : ∀ {J : Nat → Nat → Int64}, mtx G k M J → (J 56 (k * n + k)).toInt = M p p := fun h => by rw [hn]; exact h k k p p (Nat.le_refl _) (Nat.le_refl _) hpk hpk
  refine w_x_elim_0 (fun _ => by rw [ekk]; exact vp_in_nI hkk (by decide)) (fun _ => ?_) (fun q => absurd hb0 q)
  rw [ekk, nI_clamp (by omega), nI_1]
  obtain ⟨pv, hpv⟩ : ∃ pv, pv = σ.2 56 (k * n + k) := ⟨_, rfl⟩
  have epv : pv.toInt = M p p := by rw [hpv]; exact ePk hm
  rw [← hpv]
  -- the rows below i are done
  refine sy_loop (sh := shX) (y := mX5_eliminate) (Q := Q) (fun i σ' => (24, [some (.ref 55), some (.int (nI n)), some (.int (nI k)), some (.long bef), none, some (.long pv), none, some (.int (nI i)), none, none, none, none, none], [], σ')) (fun i σ' => σ'.1 = σ.1 ∧ k + 1 ≤ i ∧ (∀ i' j a b, k + 1 ≤ i' → i' < i → k + 1 ≤ j → (sg_P G)[i']? = some a → (sg_P G)[j]? = some b → (σ'.2 56 (i' * n + j)).toInt = (zst p (M, A)).1 a b) ∧ (∀ i' j a b, i ≤ i' → k ≤ j → (sg_P G)[i']? = some a → (sg_P G)[j]? = some b → (σ'.2 56 (i' * n + j)).toInt = M a b) ∧ (∀ j b, k ≤ j → (sg_P G)[j]? = some b → (σ'.2 56 (k * n + j)).toInt = M p b) ∧ σ'.2 56 (k * n + k) = pv) n ?_ ?_ (k + 1) σ (by omega) ⟨rfl, Nat.le_refl _, fun i' j a b h1 h2 => by omega, fun i' j a b h1 h2 h3 h4 => by rw [hn]; exact hm i' j a b (by omega) h2 h3 h4, fun j b h1 h2 => by rw [hn]; exact hm k j p b (Nat.le_refl _) h1 hpk h2, hpv.symm⟩
  · rintro i σ' hi ⟨i1, i0, i2, i3, i4, i5⟩ ih
    obtain ⟨a, ha⟩ := at' hi
    have eik : nI i * nI n + nI k = nI (i * n + k) := by rw [pk_mul, nI_add]
    have hik := ix_lt hP hi hkn
    have nle : ¬ nI n ≤ nI i := nI_ge hi (by omega)
    refine w_x_elim_24 (fun _ => by rw [eik]; exact vp_in_nI hik (by decide)) (fun q => absurd q nle) (fun _ => ?_)
    rw [eik, nI_clamp (by omega), nI_1]
    obtain ⟨ld, hld⟩ : ∃ ld, ld = σ'.2 56 (i * n + k) := ⟨_, rfl⟩
    have eld : ld.toInt = M a p := by rw [hld]; exact i3 i k a p (Nat.le_refl _) (Nat.le_refl _) ha hpk
    rw [← hld]
    refine sy_loop (sh := shX) (y := mX5_eliminate) (Q := Q) (fun j σ2 => (48, [some (.ref 55), some (.int (nI n)), some (.int (nI k)), some (.long bef), none, some (.long pv), none, some (.int (nI i)), some (.long ld), none, some (.int (nI j)), none, none], [], σ2)) (fun j σ2 => σ2.1 = σ.1 ∧ k + 1 ≤ j ∧ (∀ i' j a b, k + 1 ≤ i' → i' < i → k + 1 ≤ j → (sg_P G)[i']? = some a → (sg_P G)[j]? = some b → (σ2.2 56 (i' * n + j)).toInt = (zst p (M, A)).1 a b) ∧ (∀ i' j a b, i + 1 ≤ i' → k ≤ j → (sg_P G)[i']? = some a → (sg_P G)[j]? = some b → (σ2.2 56 (i' * n + j)).toInt = M a b) ∧ (∀ j b, k ≤ j → (sg_P G)[j]? = some b → (σ2.2 56 (k * n + j)).toInt = M p b) ∧ σ2.2 56 (k * n + k) = pv ∧ (∀ j' b, k + 1 ≤ j' → j' < j → (sg_P G)[j']? = some b → (σ2.2 56 (i * n + j')).toInt = (zst p (M, A)).1 a b) ∧ ∀ j' b, j ≤ j' → (sg_P G)[j']? = some b → (σ2.2 56 (i * n + j')).toInt = M a b) n ?_ ?_ (k + 1) σ' (by omega) ⟨i1, Nat.le_refl _, i2, fun i' j a b h1 h2 h3 h4 => i3 i' j a b (by omega) h2 h3 h4, i4, i5, fun j' b h1 h2 => by omega, fun j' b h1 h2 => i3 i j' a b (Nat.le_refl _) (by omega) ha h2⟩
    · rintro j σ2 hj ⟨j1, j0, j2, j3, j4, j5, j6, j7⟩ ih2
      obtain ⟨b, hb⟩ := at' hj
      have eij : nI i * nI n + nI j = nI (i * n + j) := by rw [pk_mul, nI_add]
      have ekj : nI k * nI n + nI j = nI (k * n + j) := by rw [pk_mul, nI_add]
      have hij := ix_lt hP hi hj
      have hkj := ix_lt hP hkn hj
      refine w_x_elim_48 (fun _ => by rw [eij]; exact vp_in_nI hij (by decide)) (fun _ => by rw [ekj]; exact vp_in_nI hkj (by decide)) (fun _ => hb0) (fun q => absurd q (nI_ge hj (by omega))) (fun _ => ?_)
      rw [eij, ekj, nI_clamp (show i * n + j < 2 ^ 31 by omega), nI_clamp (show k * n + j < 2 ^ 31 by omega), nI_1]
      have hval : ((σ2.2 56 (i * n + j) * pv - ld * σ2.2 56 (k * n + j)) / bef).toInt = (zst p (M, A)).1 a b :=
        lz_op (j7 j b (Nat.le_refl _) hb) epv eld (j4 j b (by omega) hb) hA hA0 hA14 (bd (by omega) (by omega) ha hb) (bd (Nat.le_refl _) (Nat.le_refl _) hpk hpk) (bd (by omega) (Nat.le_refl _) ha hpk) (bd (Nat.le_refl _) (by omega) hpk hb)
      refine ih2 _ ⟨j1, by omega, fun i' j' a' b' h1 h2 h3 h4 h5 => ?_, fun i' j' a' b' h1 h2 h3 h4 => ?_, fun j' b' h1 h2 => ?_, ?_, fun j' b' h1 h2 h3 => ?_, fun j' b' h1 h2 => ?_⟩
      · have hjn : j' < n := by have := (List.getElem?_eq_some_iff.mp h5).1; omega
        dsimp only
        rw [sy_upL2, if_neg (fun q => by have := (ix_inj hjn hj).mp q.2; omega)]
        exact j2 i' j' a' b' h1 h2 h3 h4 h5
      · have hjn : j' < n := by have := (List.getElem?_eq_some_iff.mp h4).1; omega
        dsimp only
        rw [sy_upL2, if_neg (fun q => by have := (ix_inj hjn hj).mp q.2; omega)]
        exact j3 i' j' a' b' h1 h2 h3 h4
      · have hjn : j' < n := by have := (List.getElem?_eq_some_iff.mp h2).1; omega
        dsimp only
        rw [sy_upL2, if_neg (fun q => by have := (ix_inj hjn hj).mp q.2; omega)]
        exact j4 j' b' h1 h2
      · dsimp only
        rw [sy_upL2, if_neg (fun q => by have := (ix_inj hkn hj).mp q.2; omega)]
        exact j5
      · have hjn : j' < n := by have := (List.getElem?_eq_some_iff.mp h3).1; omega
        dsimp only
        rw [sy_upL2]
        by_cases e : j' = j
        · subst e
          rw [hb] at h3
          cases h3
          rw [if_pos ⟨rfl, rfl⟩]
          exact hval
        · rw [if_neg (fun q => by have := (ix_inj hjn hj).mp q.2; omega)]
          exact j6 j' b' h1 (by omega) h3
      · have hjn : j' < n := by have := (List.getElem?_eq_some_iff.mp h2).1; omega
        dsimp only
        rw [sy_upL2, if_neg (fun q => by have := (ix_inj hjn hj).mp q.2; omega)]
        exact j7 j' b' (by omega) h2
    · rintro σ2 ⟨j1, j0, j2, j3, j4, j5, j6, j7⟩
      have le : nI n ≤ nI n := nI_le (Nat.le_refl n) (by omega)
      refine w_x_elim_48 (fun q => absurd le q) (fun q => absurd le q) (fun q => absurd le q) (fun _ => ?_) (fun q => absurd le q)
      rw [nI_1]
      refine ih σ2 ⟨j1, by omega, fun i' j a' b h1 h2 h3 h4 h5 => ?_, j3, j4, j5⟩
      by_cases e : i' = i
      · subst e
        rw [ha] at h4
        cases h4
        exact j6 j b h3 (by have := (List.getElem?_eq_some_iff.mp h5).1; omega) h5
      · exact j2 i' j a' b h1 (by omega) h3 h4 h5
  · rintro σ' ⟨i1, i0, i2, i3, i4, i5⟩
    have le : nI n ≤ nI n := nI_le (Nat.le_refl n) (by omega)
    refine w_x_elim_24 (fun q => absurd le q) (fun _ => kk σ' i1 (fun i j a b h1 h2 h3 h4 => ?_) (by rw [i5, hpv])) (fun q => absurd le q)
    rw [← hn]
    exact i2 i j a b h1 (by have := (List.getElem?_eq_some_iff.mp h3).1; omega) h2 h3 h4
theorem pm_len_mono (G : sg_G) : ∀ {a b : Nat}, a ≤ b → (sg_pm G a).length ≤ (sg_pm G b).length := by
  intro a b h
  obtain ⟨d, rfl⟩ : ∃ d, b = a + d := ⟨b - a, by omega⟩
  induction d with
  | zero => exact Nat.le_refl _
  | succ d ih =>
    rw [← Nat.add_assoc, sg_pm_s, List.length_append]
    have := ih (by omega)
    omega
theorem pm_at {G : sg_G} {c m : Nat} (hc : G.2.2 c = false) (h : c < m) : (sg_pm G m)[(sg_pm G c).length]? = some c := by
  obtain ⟨d, rfl⟩ : ∃ d, m = c + 1 + d := ⟨m - (c + 1), by omega⟩
  clear h
  induction d with
  | zero => rw [Nat.add_zero, sg_pm_s, if_neg (by rw [hc]; decide), List.getElem?_append_right (Nat.le_refl _), Nat.sub_self]; rfl
  | succ d ih =>
    rw [← Nat.add_assoc, sg_pm_s, List.getElem?_append_left (List.getElem?_eq_some_iff.mp ih).1]
    exact ih
/-- the number of a place -/
theorem P_num {G : sg_G} {i c : Nat} (h : (sg_P G)[i]? = some c) : i = (sg_pm G c).length := by
  have hc := sg_P_at h
  have h2 := pm_at hc.2 hc.1
  exact (List.getElem?_inj (List.getElem?_eq_some_iff.mp h).1 (sg_P_nodup G)).mp (by rw [h]; exact h2.symm)
theorem P_lt {G : sg_G} {i j a b : Nat} (hi : (sg_P G)[i]? = some a) (hj : (sg_P G)[j]? = some b) (h : i < j) : a < b := by
  have h1 := P_num hi
  have h2 := P_num hj
  rcases Nat.lt_or_ge a b with q | q
  · exact q
  · have := pm_len_mono G q
    omega
theorem P_gap {G : sg_G} {k a b : Nat} (ha : (sg_P G)[k]? = some a) (hb : (sg_P G)[k + 1]? = some b) {c : Nat} (h1 : a < c) (h2 : c < b) : pb G c = false := by
  cases q : pb G c with
  | false => rfl
  | true =>
    exfalso
    have hc := pb_iff.mp q
    obtain ⟨i, hi⟩ := List.getElem?_of_mem (sg_P_mem.mpr hc)
    rcases Nat.lt_trichotomy i k with z | z | z
    · have := P_lt hi ha z; omega
    · subst z; rw [ha] at hi; cases hi; omega
    · by_cases y : i = k + 1
      · subst y; rw [hb] at hi; cases hi; omega
      · have := P_lt hb hi (by omega); omega
theorem e_x_det {Q : Option Value → sy_S → Prop} {σ : sy_S} {G : sg_G} (hg : gx G σ.1) (kk : ∀ σ' : sy_S, σ'.1 = σ.1 → Q (some (.long (Int64.ofInt (grp G)))) σ') : sy_E shX mX5_determinant (0, sy_ent [.ref 55, .ref 0] 6, [], σ) Q := by
  have hG := hg.1
  have hP := sg_P_len hG
  have h16 := sg_n16 hG
  have lout : ∀ (x : Int64) (m : Int), x.toInt = m → x = Int64.ofInt m := fun x m h => by rw [← h, Int64.ofInt_toInt]
  have none_skip : ∀ p, (∀ c, p ≤ c → pb G c = false) → p ≤ 16 → zN G 16 = zN G p := by
    intro p hp hle
    obtain ⟨d, hd⟩ : ∃ d, 16 = p + d := ⟨16 - p, by omega⟩
    rw [hd]
    exact zN_skip d (fun c h1 _ => hp c h1)
  obtain ⟨n, hn⟩ : ∃ n, n = (sg_P G).length := ⟨_, rfl⟩
  have e7 : σ.1 0 7 = nI n := by rw [gx_n7 hg, hn]
  rw [← hn] at hP
  refine w_x_det_0 (fun q => ?_) (fun q => ?_)
  · rw [e7, nI_lit0, nI_eq (by omega) (by decide)] at q
    rw [e7, hn]
    refine e_x_fillF hg (fun σ1 z1 z2 => w_x_det_17 ?_)
    rw [← hn]
    have key : ∀ (d k p : Nat) (bef : Int64) (σ' : sy_S), k + 1 + d = n → (sg_P G)[k]? = some p → σ'.1 = σ.1 → mtx G k (zN G p).1 σ'.2 → bef.toInt = (zN G p).2 → sy_E shX mX5_determinant (22, [some (.ref 55), none, some (.int (nI n)), some (.long bef), none, some (.int (nI k))], [], σ') Q := by
      intro d
      induction d with
      | zero =>
        intro k p bef σ' hk hp hs hm hb
        have hk : k + 1 = n := hk
        have hnn : n * n ≤ 16 * 16 := Nat.mul_le_mul hP hP
        have hnn1 : 1 * 1 ≤ n * n := Nat.mul_le_mul (by omega) (by omega)
        have eix : nI n * nI n - 1 = nI (n * n - 1) := by rw [pk_mul, nI_lit1, pk_sub (by omega)]
        have le : nI n ≤ nI k + 1 := by rw [nI_1, hk]; exact nI_le (Nat.le_refl _) (by omega)
        refine w_x_det_22 (fun _ => by rw [eix]; exact vp_in_nI (by omega) (by decide)) (fun _ => ?_) (fun q => absurd le q)
        rw [eix, nI_clamp (by omega)]
        have e1 : n * n - 1 = k * n + k := by
          have : n * n = (k + 1) * n := by rw [hk]
          rw [this, Nat.add_mul]; omega
        have h9 := hm k k p p (Nat.le_refl _) (Nat.le_refl _) hp hp
        rw [← hn, ← e1] at h9
        have hpp := sg_P_at hp
        have hlast : zN G 16 = zN G (p + 1) := by
          refine none_skip (p + 1) (fun c hc => ?_) (by have := hpp.1; omega)
          cases y : pb G c with
          | false => rfl
          | true =>
            exfalso
            obtain ⟨i, hi⟩ := List.getElem?_of_mem (sg_P_mem.mpr (pb_iff.mp y))
            have hi2 := (List.getElem?_eq_some_iff.mp hi).1
            rcases Nat.lt_or_ge i k with z | z
            · have := P_lt hi hp z; omega
            · have e : i = k := by omega
              subst e; rw [hp] at hi; cases hi; omega
        have hgrp : grp G = (zN G p).1 p p := by
          unfold grp
          rw [hlast, zN, if_pos (pb_iff.mpr hpp)]
          rfl
        rw [← hgrp] at h9
        rw [lout _ _ h9]
        exact kk σ' hs
      | succ d ih =>
        intro k p bef σ' hk hp hs hm hb
        have nle : ¬ nI n ≤ nI k + 1 := by rw [nI_1]; exact nI_ge (by omega) (by omega)
        have hpp := sg_P_at hp
        obtain ⟨p2, hp2⟩ : ∃ p2, (sg_P G)[k + 1]? = some p2 := ⟨_, List.getElem?_eq_getElem (by omega)⟩
        have hlt := P_lt hp hp2 (by omega)
        have hp2p := sg_P_at hp2
        have ekk : nI k * nI n + nI k = nI (k * n + k) := by rw [pk_mul, nI_add]
        have hkk := ix_lt hP (show k < n by omega) (show k < n by omega)
        have hnx : zN G p2 = zN G (p + 1) := by
          obtain ⟨e, he⟩ : ∃ e, p2 = p + 1 + e := ⟨p2 - (p + 1), by omega⟩
          rw [he]
          exact zN_skip e (fun c h1 h2 => P_gap hp hp2 (by omega) (by omega))
        have hz1 : zN G (p + 1) = zst p (zN G p) := by rw [zN, if_pos (pb_iff.mpr hpp)]
        refine w_x_det_22 (fun q => absurd q nle) (fun q => absurd q nle) (fun _ => ?_)
        rw [hn]
        refine e_x_elim hG hp (by have := hp2p.1; omega) (zN_I hG p) (fun i a h1 h2 => ?_) hm hb (fun σ2 f1 f2 f3 => ?_)
        · rcases Nat.lt_or_ge k i with z | z
          · have := P_lt hp h2 z; omega
          · have e : i = k := by omega
            subst e; rw [hp] at h2; cases h2; exact Nat.le_refl _
        · rw [← hn] at f3 ⊢
          refine w_x_det_38 (by rw [ekk]; exact vp_in_nI hkk (by decide)) ?_
          rw [ekk, nI_clamp (by omega), nI_1]
          refine ih (k + 1) p2 _ σ2 (by omega) hp2 (f1.trans hs) ?_ ?_
          · rw [hnx, hz1]; exact f2
          · rw [hnx, hz1, f3]
            have h9 := hm k k p p (Nat.le_refl _) (Nat.le_refl _) hp hp
            rw [← hn] at h9
            exact h9
    obtain ⟨p, hp⟩ : ∃ p, (sg_P G)[0]? = some p := ⟨_, List.getElem?_eq_getElem (by omega)⟩
    have hz : zN G p = zN G 0 := by
      have h := zN_skip (G := G) (p := 0) p (fun c _ h2 => by
        cases y : pb G c with
        | false => rfl
        | true =>
          exfalso
          obtain ⟨i, hi⟩ := List.getElem?_of_mem (sg_P_mem.mpr (pb_iff.mp y))
          rcases Nat.eq_zero_or_pos i with z | z
          · subst z; rw [hp] at hi; cases hi; omega
          · have := P_lt hp hi z; omega)
      rw [Nat.zero_add] at h
      exact h
    refine key (n - 1) 0 p 1 σ1 (by omega) hp z1 ?_ ?_
    · rw [hz]; exact z2
    · rw [hz]; rfl
  · rw [e7, nI_lit0, nI_eq (by omega) (by decide)] at q
    have q : n = 0 := Classical.byContradiction q
    have hno : ∀ c, pb G c = false := fun c => by
      cases y : pb G c with
      | false => rfl
      | true =>
        have h := List.length_pos_of_mem (sg_P_mem.mpr (pb_iff.mp y))
        omega
    have e : grp G = 1 := by
      unfold grp
      rw [none_skip 0 (fun c _ => hno c) (by decide)]
      rfl
    have h := kk σ rfl
    rw [e] at h
    exact h
