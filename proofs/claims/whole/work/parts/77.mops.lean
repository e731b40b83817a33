/-! the model's matrix: all 16 cells, those that are no places with a one of their own -/
def mw (G : sg_G) (Z : (Nat → Nat → Int) × Int) (a b : Nat) : Int := if pb G a = true ∧ pb G b = true then Z.1 a b else if a = b then Z.2 else 0
theorem mw_p {G : sg_G} {Z : (Nat → Nat → Int) × Int} {a b : Nat} (h : pb G a = true ∧ pb G b = true) : mw G Z a b = Z.1 a b := by unfold mw; rw [if_pos h]
theorem mw_d {G : sg_G} {Z : (Nat → Nat → Int) × Int} {a : Nat} (h : ¬ pb G a = true) : mw G Z a a = Z.2 := by unfold mw; rw [if_neg (fun q => h q.1), if_pos rfl]
theorem mw_0 {G : sg_G} {Z : (Nat → Nat → Int) × Int} {a b : Nat} (h : ¬ (pb G a = true ∧ pb G b = true)) (e : a ≠ b) : mw G Z a b = 0 := by unfold mw; rw [if_neg h, if_neg e]
theorem mw_k (G : sg_G) (k : Nat) : mw G (zN G k) k k = (zN G (k + 1)).2 := by
  by_cases h : pb G k = true
  · rw [mw_p ⟨h, h⟩, zN, if_pos h]; rfl
  · rw [mw_d h, zN, if_neg h]
theorem mw_st {G : sg_G} (hG : sg_ok G) {k a b : Nat} (ha : k < a) (hb : k < b) : (mw G (zN G k) a b * mw G (zN G k) k k - mw G (zN G k) a k * mw G (zN G k) k b).tdiv (zN G k).2 = mw G (zN G (k + 1)) a b := by
  have hA : (zN G k).2 ≠ 0 := by have := (zN_I hG k).1; omega
  by_cases h : pb G k = true
  · have e : zN G (k + 1) = zst k (zN G k) := by rw [zN, if_pos h]
    rw [e, mw_p (a := k) (b := k) ⟨h, h⟩]
    by_cases hab : pb G a = true ∧ pb G b = true
    · rw [mw_p hab, mw_p ⟨hab.1, h⟩, mw_p ⟨h, hab.2⟩, mw_p hab]; rfl
    · have z : mw G (zN G k) a k * mw G (zN G k) k b = 0 := by
        by_cases q : pb G a = true
        · rw [mw_0 (a := k) (b := b) (fun y => hab ⟨q, y.2⟩) (by omega), Int.mul_zero]
        · rw [mw_0 (a := a) (b := k) (fun y => q y.1) (by omega), Int.zero_mul]
      rw [z, Int.sub_zero]
      by_cases e2 : a = b
      · subst e2
        have hn : ¬ pb G a = true := fun q => hab ⟨q, q⟩
        rw [mw_d hn, mw_d hn, Int.mul_tdiv_cancel_left _ hA]; rfl
      · rw [mw_0 hab e2, mw_0 hab e2, Int.zero_mul, Int.zero_tdiv]
  · have e : zN G (k + 1) = zN G k := by rw [zN, if_neg h]
    rw [e, mw_d h, mw_0 (a := a) (b := k) (fun y => h y.2) (by omega), Int.zero_mul, Int.sub_zero, Int.mul_tdiv_cancel _ hA]
theorem mw_bd {G : sg_G} (hG : sg_ok G) {k a b : Nat} (ha : k ≤ a) (hb : k ≤ b) : -(4 * (zN G k).2) ≤ mw G (zN G k) a b ∧ mw G (zN G k) a b ≤ 4 * (zN G k).2 := by
  have hZ := zN_I hG k
  have hA := hZ.1
  by_cases h : pb G a = true ∧ pb G b = true
  · rw [mw_p h]
    exact zI_off hG hZ (pb_iff.mp h.1) ha (pb_iff.mp h.2) hb
  · by_cases e : a = b
    · subst e
      rw [mw_d (fun q => h ⟨q, q⟩)]; omega
    · rw [mw_0 h e]; omega
def mD (G : sg_G) (a b : Nat) : Int64 := if a = b then (if pb G a = true then 4 else 1) else 0
def mE (G : sg_G) (a t b : Nat) : Int64 := if pb G a = true ∧ b ∈ (sg_nb G a).take t then -1 else mD G a b
theorem mE_0 (G : sg_G) (a b : Nat) : mE G a 0 b = mD G a b := by unfold mE; rw [if_neg (fun q => by simp at q)]
theorem mE_n {G : sg_G} (hG : sg_ok G) {a : Nat} (b : Nat) : (mE G a (sg_nb G a).length b).toInt = mw G (zi G, 1) a b := by
  unfold mE mD
  rw [List.take_length]
  by_cases ha : pb G a = true
  · have hp := pb_iff.mp ha
    have hna : a ∉ sg_nb G a := fun q => (sg_nb_p hG hp.1 q).2 rfl
    by_cases hb : b ∈ sg_nb G a
    · have hbp := pb_iff.mpr (sg_nb_p hG hp.1 hb).1
      have hne : a ≠ b := fun e => hna (by rw [e] at hb ⊢; exact e ▸ hb)
      rw [if_pos ⟨ha, hb⟩, mw_p ⟨ha, hbp⟩]
      show _ = zi G a b
      unfold zi
      rw [if_neg hne, if_pos hb]; rfl
    · rw [if_neg (fun q => hb q.2)]
      by_cases e : a = b
      · subst e
        rw [if_pos rfl, if_pos ha, mw_p ⟨ha, ha⟩]
        show _ = zi G a a
        unfold zi
        rw [if_pos rfl]; rfl
      · rw [if_neg e]
        by_cases hbp : pb G b = true
        · rw [mw_p ⟨ha, hbp⟩]
          show _ = zi G a b
          unfold zi
          rw [if_neg e, if_neg hb]; rfl
        · rw [mw_0 (fun q => hbp q.2) e]; rfl
  · rw [if_neg (fun q => ha q.1)]
    by_cases e : a = b
    · subst e
      rw [if_pos rfl, if_neg ha, mw_d ha]; rfl
    · rw [if_neg e, mw_0 (fun q => ha q.1) e]; rfl
theorem e_m_matrix {Q : Option Value → sy_S → Prop} {σ : sy_S} {G : sg_G} (hg : gm G σ.1) (kk : ∀ σ' : sy_S, σ'.1 = σ.1 → (∀ a b, a < 16 → b < 16 → (σ'.2 20 (16 * a + b)).toInt = mw G (zi G, 1) a b) → Q none σ') : sy_E shM mX12_laysMatrix (0, sy_ent [.ref 0] 4, [], σ) Q := by
  have hG := hg.1
  have h16 := sg_n16 hG
  have mul : ∀ a b : Nat, (16 : Int32) * nI a + nI b = nI (16 * a + b) := fun a b => by rw [show (16 : Int32) = nI 16 from rfl, pk_mul, nI_add]
  refine w_M_laysMatrix_0 ?_
  have hl := sy_loop (sh := shM) (y := mX12_laysMatrix) (Q := Q) (fun i σ' => (2, [some (.ref 0), some (.int (nI i)), none, none], [], σ')) (fun i σ' => σ'.1 = σ.1 ∧ ∀ a b, a < i → b < 16 → (σ'.2 20 (16 * a + b)).toInt = mw G (zi G, 1) a b) 16 ?_ ?_ 0 σ (by decide) ⟨rfl, fun a b ha => absurd ha (Nat.not_lt_zero _)⟩
  · exact hl
  · rintro i σ1 hi ⟨i1, i2⟩ ih
    refine w_M_laysMatrix_2 (fun q => absurd q (nI_ge hi (by decide))) (fun _ => ?_)
    have hl := sy_loop (sh := shM) (y := mX12_laysMatrix) (Q := Q) (fun j σ' => (10, [some (.ref 0), some (.int (nI i)), some (.int (nI j)), none], [], σ')) (fun j σ' => σ'.1 = σ.1 ∧ (∀ a b, a < i → b < 16 → (σ'.2 20 (16 * a + b)).toInt = mw G (zi G, 1) a b) ∧ ∀ b, b < j → σ'.2 20 (16 * i + b) = mD G i b) 16 ?_ ?_ 0 σ1 (by decide) ⟨i1, i2, fun b hb => absurd hb (Nat.not_lt_zero _)⟩
    · exact hl
    · rintro j σ2 hj ⟨j1, j2, j3⟩ ih2
      obtain ⟨p1, p2, p3, p4⟩ := gm_pl (by rw [j1]; exact hg : gm G σ2.1) hi
      have hin : vp_in (16 * nI i + nI j) 256 := by rw [mul]; exact vp_in_nI (by omega) (by decide)
      have ei : (nI i).toNatClampNeg = i := nI_clamp (by omega)
      have eij : nI i = nI j ↔ i = j := nI_eq (by omega) (by omega)
      have put : ∀ x : Int64, x = mD G i j → sy_E shM mX12_laysMatrix (10, [some (.ref 0), some (.int (nI i)), some (.int (nI j + 1)), none], [], (σ2.1, sy_upL σ2.2 20 ((16 * nI i + nI j).toNatClampNeg) x)) Q := by
        intro x hx
        rw [mul, nI_clamp (by omega), nI_1]
        refine ih2 _ ⟨j1, fun a b ha hb => ?_, fun b hb => ?_⟩
        · dsimp only
          rw [sy_upL2, if_neg (by omega)]; exact j2 a b ha hb
        · dsimp only
          rw [sy_upL2]
          by_cases e : b = j
          · subst e; rw [if_pos ⟨rfl, rfl⟩]; exact hx
          · rw [if_neg (by omega)]; exact j3 b (by omega)
      have off : i ≠ j → (0 : Int64) = mD G i j := fun e => by unfold mD; rw [if_neg e]
      have np : ¬ sg_p G i → i = j → (1 : Int64) = mD G i j := fun a e => by unfold mD; rw [if_pos e, if_neg (fun q => a (pb_iff.mp q))]
      have pl : sg_p G i → i = j → (4 : Int64) = mD G i j := fun a e => by unfold mD; rw [if_pos e, if_pos (pb_iff.mpr a)]
      refine w_M_laysMatrix_10 (fun _ _ _ => hin) (fun _ _ _ => hin) (fun _ _ => vp_in_nI hi (by decide)) (fun _ _ _ _ => hin) (fun _ _ _ _ => hin) (fun _ _ _ _ => hin) (fun _ _ _ _ => hin) (fun q => absurd q (nI_ge hj (by decide))) (fun _ q e => put 0 (off (fun z => e (eij.mpr z)))) (fun _ q e => put 1 (np (p1 q) (eij.mp (Classical.byContradiction e)))) (fun _ q w e => put 0 (off (fun z => e (eij.mpr z)))) (fun _ q w e => put 1 (np (p3 (p2 q) (by rw [ei] at w; exact w)) (eij.mp (Classical.byContradiction e)))) (fun _ q w e => put 0 (off (fun z => e (eij.mpr z)))) (fun _ q w e => put 4 (pl (p4 (p2 q) (by rw [ei] at w; exact w)) (eij.mp (Classical.byContradiction e))))
    · rintro σ2 ⟨j1, j2, j3⟩
      have le : 16 ≤ nI 16 := nI_le (Nat.le_refl 16) (by decide)
      refine w_M_laysMatrix_10 (fun q => absurd le q) (fun q => absurd le q) (fun q => absurd le q) (fun q => absurd le q) (fun q => absurd le q) (fun q => absurd le q) (fun q => absurd le q) (fun _ => ?_) (fun q => absurd le q) (fun q => absurd le q) (fun q => absurd le q) (fun q => absurd le q) (fun q => absurd le q) (fun q => absurd le q)
      have ei : (nI i).toNatClampNeg = i := nI_clamp (by omega)
      have fin : ∀ (t : Nat) (σ3 : sy_S), σ3.1 = σ.1 → (∀ a b, a < i → b < 16 → (σ3.2 20 (16 * a + b)).toInt = mw G (zi G, 1) a b) → (∀ b, b < 16 → σ3.2 20 (16 * i + b) = mE G i t b) → (pb G i = true → t = (sg_nb G i).length) → sy_E shM mX12_laysMatrix (2, [some (.ref 0), some (.int (nI i + 1)), none, none], [], σ3) Q := by
        intro t σ3 h1 h2 h3 h4
        rw [nI_1]
        refine ih σ3 ⟨h1, fun a b ha hb => ?_⟩
        by_cases e : a = i
        · subst e
          rw [h3 b hb, ← mE_n hG]
          by_cases q : pb G a = true
          · rw [h4 q]
          · unfold mE
            rw [if_neg (fun z => q z.1), if_neg (fun z => q z.1)]
        · exact h2 a b (by omega) hb
      have hl := sy_loop (sh := shM) (y := mX12_laysMatrix) (Q := Q) (fun t σ' => (78, [some (.ref 0), some (.int (nI i)), some (.int (nI t)), none], [], σ')) (fun t σ' => σ'.1 = σ.1 ∧ (∀ a b, a < i → b < 16 → (σ'.2 20 (16 * a + b)).toInt = mw G (zi G, 1) a b) ∧ (∀ b, b < 16 → σ'.2 20 (16 * i + b) = mE G i t b)) (sg_nb G i).length ?_ ?_ 0 σ2 (Nat.zero_le _) ⟨j1, j2, fun b hb => by rw [mE_0]; exact j3 b hb⟩
      · exact hl
      · rintro t σ3 ht ⟨k1, k2, k3⟩ ih3
        have hg3 : gm G σ3.1 := by rw [k1]; exact hg
        obtain ⟨p1, p2, p3, p4⟩ := gm_pl hg3 hi
        have hl4 := sg_nb_len G i
        have e4t : (4 : Int32) * nI i + nI t = nI (4 * i + t) := by rw [show (4 : Int32) = nI 4 from rfl, pk_mul, nI_add]
        obtain ⟨o, ho⟩ : ∃ o, (sg_nb G i)[t]? = some o := ⟨_, List.getElem?_eq_getElem ht⟩
        have hnn : i < sg_n G → σ3.1 3 (4 * i + t) = nI o := fun q => (gm_nb hg3 q).2 t o ho
        have hop : i < sg_n G → o < 16 := fun q => sg_p16 hG (sg_nb_p hG q (List.mem_of_getElem? ho)).1
        have nle : i < sg_n G → ¬ σ3.1 4 i ≤ nI t := fun q => by rw [(gm_nb hg3 q).1]; exact nI_ge ht (by omega)
        refine w_M_laysMatrix_78 (fun _ => vp_in_nI hi (by decide)) (fun _ _ _ => by rw [e4t]; exact vp_in_nI (by omega) (by decide)) (fun q _ _ => ?_) (fun q => fin t σ3 k1 k2 k3 (fun z => absurd (pb_iff.mp z) (p1 q))) (fun q w => fin t σ3 k1 k2 k3 (fun z => absurd (pb_iff.mp z) (p3 (p2 q) (by rw [ei] at w; exact w)))) (fun q _ w => absurd w (by rw [ei]; exact nle (p2 q))) (fun q w _ => ?_)
        · rw [e4t, nI_clamp (by omega), hnn (p2 q), mul]
          have := hop (p2 q)
          exact vp_in_nI (by omega) (by decide)
        · have ho16 := hop (p2 q)
          rw [e4t, nI_clamp (by omega), hnn (p2 q), mul, nI_clamp (by omega), nI_1]
          rw [ei] at w
          have hpl := p4 (p2 q) w
          refine ih3 _ ⟨k1, fun a b ha hb => ?_, fun b hb => ?_⟩
          · dsimp only
            rw [sy_upL2, if_neg (by omega)]; exact k2 a b ha hb
          · dsimp only
            rw [sy_upL2]
            have hm : b ∈ (sg_nb G i).take (t + 1) ↔ b ∈ (sg_nb G i).take t ∨ b = o := by
              rw [List.take_succ, ho, List.mem_append]; simp
            by_cases e : b = o
            · subst e
              rw [if_pos ⟨rfl, rfl⟩]
              unfold mE
              rw [if_pos ⟨pb_iff.mpr hpl, hm.mpr (Or.inr rfl)⟩]
            · rw [if_neg (by omega), k3 b hb]
              unfold mE
              by_cases y : b ∈ (sg_nb G i).take t
              · rw [if_pos ⟨pb_iff.mpr hpl, y⟩, if_pos ⟨pb_iff.mpr hpl, hm.mpr (Or.inl y)⟩]
              · rw [if_neg (fun z => y z.2), if_neg (fun z => (hm.mp z.2).elim y e)]
      · rintro σ3 ⟨k1, k2, k3⟩
        have hg3 : gm G σ3.1 := by rw [k1]; exact hg
        obtain ⟨p1, p2, p3, p4⟩ := gm_pl hg3 hi
        have hl4 := sg_nb_len G i
        have lee : ¬ (σ3.1 0 0 * σ3.1 0 1 ≤ nI i) → σ3.1 4 (nI i).toNatClampNeg ≤ nI (sg_nb G i).length := fun q => by rw [ei, (gm_nb hg3 (p2 q)).1]; exact nI_le (Nat.le_refl _) (by omega)
        exact w_M_laysMatrix_78 (fun _ => vp_in_nI hi (by decide)) (fun q _ w => absurd (lee q) w) (fun q _ w => absurd (lee q) w) (fun q => fin _ σ3 k1 k2 k3 (fun _ => rfl)) (fun q w => fin _ σ3 k1 k2 k3 (fun _ => rfl)) (fun q _ w => fin _ σ3 k1 k2 k3 (fun _ => rfl)) (fun q _ w => absurd (lee q) w)
  · rintro σ1 ⟨i1, i2⟩
    exact w_M_laysMatrix_2 (fun _ => kk σ1 i1 i2) (fun q => absurd (nI_le (Nat.le_refl 16) (by decide)) q)
theorem M_group {Q : Option Value → sy_S → Prop} {σ : sy_S} {B : Nat} {S : st}  (ho : sO B S) (h : RM S σ.1) (kk : ∀ σ' : sy_S, RM S σ'.1 → Q (some (.long (f_group S))) σ') : sy_E shM mX12_group (0, sy_ent [.ref 0] 8, [], σ) Q := by
  obtain ⟨G, H, P, U, R, T, W, L⟩ := S
  obtain ⟨r1, r2, r3, r4, r5, r6, r7⟩ := id h
  have hG := r1.1
  have hH := sO_H ho
  have mul : ∀ a b : Nat, (16 : Int32) * nI a + nI b = nI (16 * a + b) := fun a b => by rw [show (16 : Int32) = nI 16 from rfl, pk_mul, nI_add]
  refine w_M_group_0 (e_m_matrix r1 (fun σ1 g1 g2 => w_M_group_4 ?_))
  have key : ∀ (d k : Nat) (bef : Int64) (σ' : sy_S), k + d = 15 → σ'.1 = σ.1 → (∀ a b, k ≤ a → a < 16 → k ≤ b → b < 16 → (σ'.2 20 (16 * a + b)).toInt = mw G (zN G k) a b) → bef.toInt = (zN G k).2 → sy_E shM mX12_group (8, [some (.ref 0), some (.long bef), none, some (.int (nI k)), none, none, none, none], [], σ') Q := by
    intro d
    induction d with
    | zero =>
      intro k bef σ' hk hs hm hb
      have e : k = 15 := hk
      subst e
      have le : 15 ≤ nI 15 := nI_le (Nat.le_refl 15) (by decide)
      refine w_M_group_8 (fun q => absurd le q) (fun _ => ?_) (fun q => absurd le q)
      have h9 := hm 15 15 (Nat.le_refl _) (by decide) (Nat.le_refl _) (by decide)
      rw [mw_k] at h9
      have e : σ'.2 20 255 = Int64.ofInt (grp G) := by
        have h9 : (σ'.2 20 255).toInt = grp G := h9
        rw [← h9, Int64.ofInt_toInt]
      rw [e]
      exact kk σ' (by rw [hs]; exact h)
    | succ d ih =>
      intro k bef σ' hk hs hm hb
      have hZ := zN_I hG k
      have hA14 : (zN G k).2 ≤ 4 ^ 14 := by
        have h1 : (4 ^ k : Nat) ≤ 4 ^ 14 := Nat.pow_le_pow_right (by decide) (by omega)
        have h2 : ((4 ^ k : Nat) : Int) = (4 : Int) ^ k := by simp
        have h3 : ((4 ^ k : Nat) : Int) ≤ ((4 ^ 14 : Nat) : Int) := Int.ofNat_le.mpr h1
        rw [h2] at h3
        exact Int.le_trans hZ.2.1 h3
      have hb0 : ¬ bef = 0 := fun e => by
        have h : bef.toInt = (0 : Int64).toInt := by rw [e]
        rw [hb, show (0 : Int64).toInt = 0 from rfl] at h
        have := hZ.1
        omega
      have nle : ¬ 15 ≤ nI k := nI_ge (show k < 15 by omega) (by decide)
      refine w_M_group_8 (fun _ => by rw [mul]; exact vp_in_nI (by omega) (by decide)) (fun q => absurd q nle) (fun _ => ?_)
      rw [mul, nI_clamp (by omega), nI_1]
      obtain ⟨pv, hpv⟩ : ∃ pv, pv = σ'.2 20 (16 * k + k) := ⟨_, rfl⟩
      have epv : pv.toInt = mw G (zN G k) k k := by rw [hpv]; exact hm k k (Nat.le_refl _) (by omega) (Nat.le_refl _) (by omega)
      rw [← hpv]
      have hl := sy_loop (sh := shM) (y := mX12_group) (Q := Q) (fun i σ' => (32, [some (.ref 0), some (.long bef), none, some (.int (nI k)), some (.long pv), none, some (.int (nI i)), none], [], σ')) (fun i σ' => σ'.1 = σ.1 ∧ k + 1 ≤ i ∧ (∀ a b, k + 1 ≤ a → a < i → k + 1 ≤ b → b < 16 → (σ'.2 20 (16 * a + b)).toInt = mw G (zN G (k + 1)) a b) ∧ ∀ a b, (a = k ∨ i ≤ a) → a < 16 → k ≤ b → b < 16 → (σ'.2 20 (16 * a + b)).toInt = mw G (zN G k) a b) 16 ?_ ?_ (k + 1) σ' (by omega) ⟨hs, Nat.le_refl _, fun a b h1 h2 => by omega, fun a b h1 h2 h3 h4 => hm a b (by omega) h2 h3 h4⟩
      · exact hl
      · rintro i σ2 hi ⟨i1, i2, i3, i4⟩ ih2
        refine w_M_group_32 (fun q => absurd q (nI_ge hi (by decide))) (fun _ => ?_)
        rw [nI_1]
        have hl := sy_loop (sh := shM) (y := mX12_group) (Q := Q) (fun j σ' => (44, [some (.ref 0), some (.long bef), none, some (.int (nI k)), some (.long pv), none, some (.int (nI i)), some (.int (nI j))], [], σ')) (fun j σ' => σ'.1 = σ.1 ∧ k + 1 ≤ j ∧ (∀ a b, k + 1 ≤ a → a < i → k + 1 ≤ b → b < 16 → (σ'.2 20 (16 * a + b)).toInt = mw G (zN G (k + 1)) a b) ∧ (∀ a b, (a = k ∨ i < a) → a < 16 → k ≤ b → b < 16 → (σ'.2 20 (16 * a + b)).toInt = mw G (zN G k) a b) ∧ (∀ b, k + 1 ≤ b → b < j → (σ'.2 20 (16 * i + b)).toInt = mw G (zN G (k + 1)) i b) ∧ ∀ b, (b = k ∨ j ≤ b) → b < 16 → (σ'.2 20 (16 * i + b)).toInt = mw G (zN G k) i b) 16 ?_ ?_ (k + 1) σ2 (by omega) ⟨i1, Nat.le_refl _, i3, fun a b h1 h2 h3 h4 => i4 a b (by omega) h2 h3 h4, fun b h1 h2 => by omega, fun b h1 h2 => i4 i b (Or.inr (Nat.le_refl _)) hi (by omega) h2⟩
        · exact hl
        · rintro j σ3 hj ⟨j1, j2, j3, j4, j5, j6⟩ ih3
          refine w_M_group_44 (fun _ => by rw [mul]; exact vp_in_nI (by omega) (by decide)) (fun _ => by rw [mul]; exact vp_in_nI (by omega) (by decide)) (fun _ => by rw [mul]; exact vp_in_nI (by omega) (by decide)) (fun _ => hb0) (fun q => absurd q (nI_ge hj (by decide))) (fun _ => ?_)
          rw [mul, mul, mul, nI_clamp (show 16 * i + j < 2 ^ 31 by omega), nI_clamp (show 16 * i + k < 2 ^ 31 by omega), nI_clamp (show 16 * k + j < 2 ^ 31 by omega), nI_1]
          have hval : ((σ3.2 20 (16 * i + j) * pv - σ3.2 20 (16 * i + k) * σ3.2 20 (16 * k + j)) / bef).toInt = mw G (zN G (k + 1)) i j := by
            rw [← mw_st hG (show k < i by omega) (show k < j by omega)]
            exact lz_op (j6 j (Or.inr (Nat.le_refl _)) hj) epv (j6 k (Or.inl rfl) (by omega)) (j4 k j (Or.inl rfl) (by omega) (by omega) hj) hb hZ.1 hA14 (mw_bd hG (by omega) (by omega)) (mw_bd hG (by omega) (by omega)) (mw_bd hG (by omega) (by omega)) (mw_bd hG (by omega) (by omega))
          refine ih3 _ ⟨j1, by omega, fun a b h1 h2 h3 h4 => ?_, fun a b h1 h2 h3 h4 => ?_, fun b h1 h2 => ?_, fun b h1 h2 => ?_⟩
          · dsimp only
            rw [sy_upL2, if_neg (by omega)]; exact j3 a b h1 h2 h3 h4
          · dsimp only
            rw [sy_upL2, if_neg (by omega)]; exact j4 a b h1 h2 h3 h4
          · dsimp only
            rw [sy_upL2]
            by_cases e : b = j
            · subst e; rw [if_pos ⟨rfl, rfl⟩]; exact hval
            · rw [if_neg (by omega)]; exact j5 b h1 (by omega)
          · dsimp only
            rw [sy_upL2, if_neg (by omega)]; exact j6 b (by omega) h2
        · rintro σ3 ⟨j1, j2, j3, j4, j5, j6⟩
          have le : 16 ≤ nI 16 := nI_le (Nat.le_refl 16) (by decide)
          refine w_M_group_44 (fun q => absurd le q) (fun q => absurd le q) (fun q => absurd le q) (fun q => absurd le q) (fun _ => ?_) (fun q => absurd le q)
          rw [nI_1]
          refine ih2 σ3 ⟨j1, by omega, fun a b h1 h2 h3 h4 => ?_, fun a b h1 h2 h3 h4 => j4 a b (by omega) h2 h3 h4⟩
          by_cases e : a = i
          · subst e; exact j5 b h3 h4
          · exact j3 a b h1 (by omega) h3 h4
      · rintro σ2 ⟨i1, i2, i3, i4⟩
        have le : 16 ≤ nI 16 := nI_le (Nat.le_refl 16) (by decide)
        refine w_M_group_32 (fun _ => ?_) (fun q => absurd le q)
        rw [nI_1]
        exact ih (k + 1) pv σ2 (by omega) i1 (fun a b h1 h2 h3 h4 => i3 a b h1 h2 h3 h4) (by rw [epv, mw_k])
  exact key 15 0 1 σ1 rfl g1 (fun a b _ h2 _ h4 => g2 a b h2 h4) rfl
