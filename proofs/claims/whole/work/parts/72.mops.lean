/-! the model's methods: the grid (by program: wip/whole/gen/p72.py) -/
theorem ar_sm {l fs : List Nat} {σ σ' : sy_S} {k : Nat} {H : Nat → Nat} (hs : sm l fs σ σ') (h : ar σ.1 k H) (hk : k ∉ l) (h0 : k ≠ 0) : ar σ'.1 k H := fun j hj => by rw [hs.1 k h0 hk]; exact h j hj
theorem gm_n {G : sg_G} {f : Nat → Nat → Int32} (h : gm G f) : f 0 0 * f 0 1 = nI (sg_n G) := gm_cells h.2.1
theorem M_forgets {Q : Option Value → sy_S → Prop} {σ : sy_S} {G : sg_G} {H : Nat → Nat} {T : List Nat} {W : Option (Nat × Nat)} {L : Nat → Option (List Int32)} (hG : sg_ok G) (hw : gm_w G σ.1) (h2 : ar σ.1 2 H) (ht : tM T σ.1) (hwy : wM W σ.1) (hl : lM L σ.1) (kk : ∀ σ' : sy_S, RM (G, H, pno, [], [], T, W, L) σ'.1 → Q none σ') : sy_E shM mX12_forgets (0, sy_ent [.ref 0] 2, [], σ) Q := by
  refine w_M_forgets_0 ?_
  have hloop := sy_loop (sh := shM) (y := mX12_forgets) (Q := Q) (fun i σ' => (2, [some (.ref 0), some (.int (nI i))], [], σ')) (fun i σ' => (∀ q, q ≠ 8 → σ'.1 q = σ.1 q) ∧ ∀ j, j < i → σ'.1 8 j = 0) 6 ?_ ?_ 0 σ (by decide) ⟨fun _ _ => rfl, fun j hj => absurd hj (Nat.not_lt_zero _)⟩
  · exact hloop
  · rintro i σ1 hi ⟨i1, i2⟩ ih
    have ei : (nI i).toNatClampNeg = i := nI_clamp (by omega)
    refine w_M_forgets_2 (fun _ => vp_in_nI hi (by decide)) (fun q => absurd q (nI_ge hi (by decide))) (fun _ => ?_)
    rw [ei, nI_1, nar_b0]
    refine ih _ ⟨fun q hq => (sy_up_ne _ _ _ hq).trans (i1 q hq), fun j hj => ?_⟩
    dsimp only
    rw [sy_up2]
    by_cases e : j = i
    · rw [if_pos ⟨rfl, e⟩]
    · rw [if_neg (fun q => e q.2)]; exact i2 j (by omega)
  · rintro σ1 ⟨i1, i2⟩
    refine w_M_forgets_2 (fun q => absurd (nI_le (Nat.le_refl 6) (by decide)) q) (fun _ => ?_) (fun q => absurd (nI_le (Nat.le_refl 6) (by decide)) q)
    have e0 : ∀ j, j ≠ 13 → j ≠ 14 → sy_up (sy_up σ1.1 0 13 0) 0 14 0 0 j = σ.1 0 j := fun j a b => by
      rw [sy_up2, if_neg (fun q => b q.2), sy_up2, if_neg (fun q => a q.2), i1 0 (by decide)]
    have eq : ∀ q, q ≠ 0 → q ≠ 8 → sy_up (sy_up σ1.1 0 13 0) 0 14 0 q = σ.1 q := fun q a b => by
      rw [sy_up_ne _ _ _ a, sy_up_ne _ _ _ a, i1 q b]
    refine e_m_links hG ⟨?_, ?_, fun k hk => ?_⟩ (fun σ2 g1 g2 => w_M_forgets_35 (kk σ2 ?_))
    · dsimp only; rw [e0 0 (by decide) (by decide)]; exact hw.1
    · dsimp only; rw [e0 1 (by decide) (by decide)]; exact hw.2.1
    · dsimp only; rw [eq 1 (by decide) (by decide)]; exact hw.2.2 k hk
    · have f0 : ∀ j, j ≠ 13 → j ≠ 14 → σ2.1 0 j = σ.1 0 j := fun j a b => (g2.2.1 j (by simp)).trans (e0 j a b)
      have fq : ∀ q, q ≠ 0 → q ≠ 3 → q ≠ 4 → q ≠ 8 → σ2.1 q = σ.1 q := fun q a b c d => (g2.1 q a (by simp; omega)).trans (eq q a d)
      refine ⟨g1, fun j hj => ?_, ⟨?_, ?_, fun i h hi => by simp at hi, fun i h hi => by simp at hi⟩, ht.fe (f0 16 (by decide) (by decide)) (fq 11 (by decide) (by decide) (by decide) (by decide)), hwy.fe (f0 18 (by decide) (by decide)) (f0 17 (by decide) (by decide)), fun i hi => ?_, hl.fe (fq 25 (by decide) (by decide) (by decide) (by decide)) (fq 26 (by decide) (by decide) (by decide) (by decide))⟩
      · rw [fq 2 (by decide) (by decide) (by decide) (by decide)]; exact h2 j hj
      · rw [g2.2.1 13 (by simp)]
        dsimp only
        rw [sy_up2, if_neg (by decide), sy_up2, if_pos ⟨rfl, rfl⟩]; rfl
      · rw [g2.2.1 14 (by simp)]
        dsimp only
        rw [sy_up2, if_pos ⟨rfl, rfl⟩]; rfl
      · show σ2.1 8 i = 0
        rw [g2.1 8 (by decide) (by simp)]
        dsimp only
        rw [sy_up_ne _ _ _ (by decide), sy_up_ne _ _ _ (by decide)]
        exact i2 i hi
def cU (U : List (Nat → Nat)) (f : Nat → Nat → Int32) : Prop := f 0 13 = nI U.length ∧ ∀ i h, U.reverse[i]? = some h → aro f 9 (16 * i) h
theorem M_pushes {Q : Option Value → sy_S → Prop} {σ : sy_S} {H : Nat → Nat} {U : List (Nat → Nat)} (hl : U.length ≤ 8) (hc : cU U σ.1) (h2 : ar σ.1 2 H) (kk : ∀ σ' : sy_S, sm [9] [13] σ σ' → cU ((H :: U).take 8) σ'.1 → Q none σ') : sy_E shM mX12_pushesBefore (0, sy_ent [.ref 0] 2, [], σ) Q := by
  obtain ⟨c1, c2⟩ := hc
  -- the heights come behind the rows D
  have fin : ∀ (σ1 : sy_S) (D : List (Nat → Nat)), D.length ≤ 7 → ((H :: U).take 8).reverse = D ++ [H] → sm [9] [13] σ σ1 → σ1.1 0 13 = nI D.length → (∀ i h, D[i]? = some h → aro σ1.1 9 (16 * i) h) → sy_E shM mX12_pushesBefore (50, [some (.ref 0), some (.int 0)], [], σ1) Q := by
    intro σ1 D hD hV hs e13 hr
    have hVl : ((H :: U).take 8).length = D.length + 1 := by
      have := congrArg List.length hV
      rw [List.length_reverse, List.length_append, List.length_singleton] at this
      exact this
    have hloop := sy_loop (sh := shM) (y := mX12_pushesBefore) (Q := Q) (fun i σ' => (50, [some (.ref 0), some (.int (nI i))], [], σ')) (fun i σ' => sm [9] [13] σ σ' ∧ σ'.1 0 13 = nI D.length ∧ (∀ k, k < 16 * D.length → σ'.1 9 k = σ1.1 9 k) ∧ ∀ j, j < i → σ'.1 9 (16 * D.length + j) = nI (H j)) 16 ?_ ?_ 0 σ1 (by decide) ⟨hs, e13, fun _ _ => rfl, fun j hj => absurd hj (Nat.not_lt_zero _)⟩
    · exact hloop
    · rintro i σ2 hi ⟨i1, i2, i3, i4⟩ ih
      have ei : (nI i).toNatClampNeg = i := nI_clamp (by omega)
      have eix : 16 * σ2.1 0 13 + nI i = nI (16 * D.length + i) := by rw [i2, show (16 : Int32) = nI 16 from rfl, pk_mul, nI_add]
      have e2 : σ2.1 2 i = nI (H i) := by rw [i1.1 2 (by decide) (by decide)]; exact h2 i hi
      refine w_M_pushesBefore_50 (fun _ => vp_in_nI hi (by decide)) (fun _ => by rw [eix]; exact vp_in_nI (by omega) (by decide)) (fun q => absurd q (nI_ge hi (by decide))) (fun _ => ?_)
      rw [eix, ei, e2, nI_clamp (by omega), nI_1]
      refine ih _ ⟨i1.tr (sm.up (by simp) (by decide)), ?_, fun k hk => ?_, fun j hj => ?_⟩
      · dsimp only; rw [sy_up_ne _ _ _ (by decide)]; exact i2
      · dsimp only; rw [sy_up2, if_neg (by omega)]; exact i3 k hk
      · dsimp only
        rw [sy_up2]
        by_cases e : j = i
        · subst e; rw [if_pos ⟨rfl, rfl⟩]
        · rw [if_neg (by omega)]; exact i4 j (by omega)
    · rintro σ2 ⟨i1, i2, i3, i4⟩
      refine w_M_pushesBefore_50 (fun q => absurd (nI_le (Nat.le_refl 16) (by decide)) q) (fun q => absurd (nI_le (Nat.le_refl 16) (by decide)) q) (fun _ => kk _ (i1.tr (sm.fu (by simp))) ⟨?_, fun i h hi j hj => ?_⟩) (fun q => absurd (nI_le (Nat.le_refl 16) (by decide)) q)
      · dsimp only; rw [sy_up2, if_pos ⟨rfl, rfl⟩, i2, nI_1, hVl]
      · dsimp only
        rw [sy_up_ne _ _ _ (by decide)]
        rw [hV, List.getElem?_append] at hi
        split at hi
        · rename_i hlt
          rw [i3 _ (by omega)]
          exact hr i h hi j hj
        · rename_i hge
          have hz : i - D.length = 0 := by
            rcases Nat.eq_zero_or_pos (i - D.length) with q | q
            · exact q
            · rw [List.getElem?_eq_none (by simp only [List.length_singleton]; omega)] at hi; cases hi
          rw [hz] at hi
          cases hi
          rw [show i = D.length by omega]
          exact i4 j hj
  refine w_M_pushesBefore_0 (fun q => ?_) (fun q => ?_)
  · rw [c1, show (8 : Int32) = nI 8 from rfl, nI_eq (by omega) (by decide)] at q
    have hV : (H :: U).take 8 = H :: U := List.take_of_length_le (by simp only [List.length_cons]; omega)
    exact fin σ U.reverse (by rw [List.length_reverse]; omega) (by rw [hV, List.reverse_cons]) sm.rf (by rw [List.length_reverse]; exact c1) c2
  · rw [c1, show (8 : Int32) = nI 8 from rfl, nI_eq (by omega) (by decide)] at q
    have q : U.length = 8 := Classical.byContradiction q
    have hloop := sy_loop (sh := shM) (y := mX12_pushesBefore) (Q := Q) (fun i σ' => (11, [some (.ref 0), some (.int (nI i))], [], σ')) (fun i σ' => sm [9] [] σ σ' ∧ (∀ k, k < i → σ'.1 9 k = σ.1 9 (k + 16)) ∧ ∀ k, i ≤ k → σ'.1 9 k = σ.1 9 k) 112 ?_ ?_ 0 σ (by decide) ⟨sm.rf, fun j hj => absurd hj (Nat.not_lt_zero _), fun _ _ => rfl⟩
    · exact hloop
    · rintro i σ2 hi ⟨i1, i2, i3⟩ ih
      have ei : (nI i).toNatClampNeg = i := nI_clamp (by omega)
      have e16 : nI i + 16 = nI (i + 16) := nI_add i 16
      refine w_M_pushesBefore_11 (fun _ => by rw [e16]; exact vp_in_nI (by omega) (by decide)) (fun _ => vp_in_nI (by omega) (by decide)) (fun q => absurd q (nI_ge hi (by decide))) (fun _ => ?_)
      rw [e16, ei, nI_clamp (by omega), i3 (i + 16) (by omega), nI_1]
      refine ih _ ⟨i1.tr (sm.up (by simp) (by decide)), fun k hk => ?_, fun k hk => ?_⟩
      · dsimp only
        rw [sy_up2]
        by_cases e : k = i
        · subst e; rw [if_pos ⟨rfl, rfl⟩]
        · rw [if_neg (fun q => e q.2)]; exact i2 k (by omega)
      · dsimp only
        rw [sy_up2, if_neg (by omega)]; exact i3 k (by omega)
    · rintro σ2 ⟨i1, i2, i3⟩
      have e13 : σ2.1 0 13 - 1 = nI 7 := by rw [i1.2.1 13 (by simp), c1, q]; rfl
      have hD : (U.reverse.drop 1).length = 7 := by rw [List.length_drop, List.length_reverse, q]
      refine w_M_pushesBefore_11 (fun q => absurd (nI_le (Nat.le_refl 112) (by decide)) q) (fun q => absurd (nI_le (Nat.le_refl 112) (by decide)) q) (fun _ => ?_) (fun q => absurd (nI_le (Nat.le_refl 112) (by decide)) q)
      rw [e13]
      refine fin _ (U.reverse.drop 1) (by omega) ?_ ((i1.mono (by simp) (by simp)).tr (sm.fu (by simp))) ?_ (fun i h hi j hj => ?_)
      · rw [List.reverse_take, List.reverse_cons, List.length_cons, q, show 8 + 1 - 8 = 1 from rfl, List.drop_append_of_le_length (by rw [List.length_reverse, q]; decide)]
      · dsimp only
        rw [sy_up2, if_pos ⟨rfl, rfl⟩, hD]
      · dsimp only
        rw [sy_up_ne _ _ _ (by decide)]
        have hlt := (List.getElem?_eq_some_iff.mp hi).1
        rw [List.getElem?_drop] at hi
        rw [i2 _ (by omega), show 16 * i + j + 16 = 16 * (1 + i) + j by omega]
        exact c2 (1 + i) h hi j hj
theorem M_changes {Q : Option Value → sy_S → Prop} {σ : sy_S} {H : Nat → Nat} {U R : List (Nat → Nat)} (hl : U.length + R.length ≤ 8) (hc : cM U R σ.1) (h2 : ar σ.1 2 H) (kk : ∀ σ' : sy_S, sm [9] [13, 14] σ σ' → cM ((H :: U).take 8) [] σ'.1 → Q none σ') : sy_E shM mX12_changes (0, sy_ent [.ref 0] 1, [], σ) Q := by
  obtain ⟨c1, c2, c3, c4⟩ := hc
  refine w_M_changes_0 (M_pushes (by omega) ⟨c1, c3⟩ h2 (fun σ1 g1 g2 => w_M_changes_4 (kk _ ((g1.mono (by simp) (by simp)).tr (sm.fu (by simp))) ⟨?_, ?_, fun i h hi j hj => ?_, fun i h hi => by simp at hi⟩)))
  · dsimp only; rw [sy_up2, if_neg (by decide)]; exact g2.1
  · dsimp only; rw [sy_up2, if_pos ⟨rfl, rfl⟩]; rfl
  · dsimp only; rw [sy_up_ne _ _ _ (by decide)]; exact g2.2 i h hi j hj
/-- behind a change of the heights -/
theorem RM_ch {G : sg_G} {H H' : Nat → Nat} {P : Nat → Option (Nat → Nat)} {U R : List (Nat → Nat)} {T : List Nat} {W : Option (Nat × Nat)} {L : Nat → Option (List Int32)} {σ σ1 σ' : sy_S} {l : List Nat} (h : RM (G, H, P, U, R, T, W, L) σ.1) (hs : sm [9] [13, 14] σ σ1) (hc : cM ((H :: U).take 8) [] σ1.1) (hs2 : sm (2 :: l) [7] σ1 σ') (hl : ([1, 3, 4, 7, 8, 9, 10, 11, 25, 26].all fun q => !l.elem q) = true) (h2 : ar σ'.1 2 H') : RM (G, H', P, (H :: U).take 8, [], T, W, L) σ'.1 := by
  obtain ⟨h1, -, h3, h4, h5, h6, h7⟩ := h
  have nl : ∀ q, q ∈ [1, 3, 4, 7, 8, 9, 10, 11, 25, 26] → q ∉ 2 :: l := fun q hq z => by
    rcases List.mem_cons.mp z with rfl | z
    · simp at hq
    · have := List.all_eq_true.mp hl q hq
      rw [List.elem_iff.mpr z] at this
      cases this
  have c : ∀ q, q ∈ [1, 3, 4, 7, 8, 10, 11, 25, 26] → q ≠ 0 → σ'.1 q = σ.1 q := fun q hq h0 => (hs2.1 q h0 (nl q (by simp at hq ⊢; omega))).trans (hs.1 q h0 (by simp at hq ⊢; omega))
  have d : ∀ j, j ≠ 7 → j ≠ 13 → j ≠ 14 → σ'.1 0 j = σ.1 0 j := fun j a b e => (hs2.2.1 j (by simp; exact a)).trans (hs.2.1 j (by simp; omega))
  refine ⟨h1.fe (d 0 (by decide) (by decide) (by decide)) (d 1 (by decide) (by decide) (by decide)) (c 1 (by simp) (by decide)) (c 3 (by simp) (by decide)) (c 4 (by simp) (by decide)), h2, hc.fe (hs2.2.1 13 (by simp)) (hs2.2.1 14 (by simp)) (hs2.1 9 (by decide) (nl 9 (by simp))) (hs2.1 10 (by decide) (nl 10 (by simp))), h4.fe (d 16 (by decide) (by decide) (by decide)) (c 11 (by simp) (by decide)), h5.fe (d 18 (by decide) (by decide) (by decide)) (d 17 (by decide) (by decide) (by decide)), h6.fe (c 7 (by simp) (by decide)) (c 8 (by simp) (by decide)), h7.fe (c 25 (by simp) (by decide)) (c 26 (by simp) (by decide))⟩
theorem M_undo {Q : Option Value → sy_S → Prop} {σ : sy_S} {B : Nat} {S : st}  (ho : sO B S) (h : RM S σ.1) (kk : ∀ σ' : sy_S, RM (f_undo S).2 σ'.1 → Q (some (.int (f_undo S).1)) σ') : sy_E shM mX12_undo (0, sy_ent [.ref 0] 2, [], σ) Q := by
  obtain ⟨G, H, P, U, R, T, W, L⟩ := S
  obtain ⟨r1, r2, r3, r4, r5, r6, r7⟩ := id h
  have hG := r1.1
  have hH := sO_H ho
  match U, ho, h, kk, r3 with
  | [], ho, h, kk, r3 =>
    refine w_M_undo_0 (fun q => absurd ?_ q) (fun _ => kk σ h)
    rw [r3.1]; rfl
  | u :: U, ho, h, kk, r3 =>
    obtain ⟨c1, c2, c3, c4⟩ := r3
    have hl8 := ho.2.1
    rw [List.length_cons] at hl8 c1
    have hu : aro σ.1 9 (16 * U.length) u := by
      refine c3 U.length u ?_
      rw [List.reverse_cons, List.getElem?_append_right (by rw [List.length_reverse]; exact Nat.le_refl _), List.length_reverse, Nat.sub_self]; rfl
    have en : σ.1 0 13 - 1 = nI U.length := by rw [c1, nI_lit1, pk_sub (by omega)]; rfl
    refine w_M_undo_0 (fun _ => ?_) (fun q => absurd (by rw [c1]; exact nI_ne0 (by omega) (by omega)) q)
    rw [en]
    have hloop := sy_loop (sh := shM) (y := mX12_undo) (Q := Q) (fun i σ' => (22, [some (.ref 0), some (.int (nI i))], [], σ')) (fun i σ' => sm [2, 10] [13] σ σ' ∧ σ'.1 0 13 = nI U.length ∧ (∀ j, j < i → σ'.1 2 j = nI (u j)) ∧ (∀ j, i ≤ j → σ'.1 2 j = σ.1 2 j) ∧ (∀ j, j < i → σ'.1 10 (16 * R.length + j) = nI (H j)) ∧ ∀ k, k < 16 * R.length → σ'.1 10 k = σ.1 10 k) 16 ?_ ?_ 0 (sy_up σ.1 0 13 (nI U.length), σ.2) (by decide) ⟨sm.fu (by simp), ?_, fun j hj => absurd hj (Nat.not_lt_zero _), fun j _ => ?_, fun j hj => absurd hj (Nat.not_lt_zero _), fun k _ => ?_⟩
    · exact hloop
    · rintro i σ1 hi ⟨i1, i2, i3, i4, i5, i6⟩ ih
      have ei : (nI i).toNatClampNeg = i := nI_clamp (by omega)
      have e14 : σ1.1 0 14 = nI R.length := by rw [i1.2.1 14 (by simp)]; exact c2
      have ex : 16 * σ1.1 0 14 + nI i = nI (16 * R.length + i) := by rw [e14, show (16 : Int32) = nI 16 from rfl, pk_mul, nI_add]
      have ey : 16 * σ1.1 0 13 + nI i = nI (16 * U.length + i) := by rw [i2, show (16 : Int32) = nI 16 from rfl, pk_mul, nI_add]
      have e9 : σ1.1 9 (16 * U.length + i) = nI (u i) := by rw [i1.1 9 (by decide) (by simp)]; exact hu i hi
      refine w_M_undo_22 (fun _ => vp_in_nI hi (by decide)) (fun _ => by rw [ex]; exact vp_in_nI (by omega) (by decide)) (fun _ => by rw [ey]; exact vp_in_nI (by omega) (by decide)) (fun q => absurd q (nI_ge hi (by decide))) (fun _ => ?_)
      rw [ex, ey, ei, nI_clamp (by omega), nI_clamp (by omega), e9, i4 i (Nat.le_refl _), r2 i hi, nI_1]
      refine ih _ ⟨i1.tr ((sm.up (k := 10) (i := 16 * R.length + i) (x := nI (H i)) (by simp) (by decide)).tr (sm.up (by simp) (by decide))), ?_, fun j hj => ?_, fun j hj => ?_, fun j hj => ?_, fun k hk => ?_⟩
      · dsimp only; rw [sy_up_ne _ _ _ (by decide), sy_up_ne _ _ _ (by decide)]; exact i2
      · dsimp only
        rw [sy_up2]
        by_cases e : j = i
        · subst e; rw [if_pos ⟨rfl, rfl⟩]
        · rw [if_neg (fun q => e q.2), sy_up_ne _ _ _ (by decide)]; exact i3 j (by omega)
      · dsimp only
        rw [sy_up2, if_neg (by omega), sy_up_ne _ _ _ (by decide)]; exact i4 j (by omega)
      · dsimp only
        rw [sy_up_ne _ _ _ (by decide), sy_up2]
        by_cases e : j = i
        · subst e; rw [if_pos ⟨rfl, rfl⟩]
        · rw [if_neg (by omega)]; exact i5 j (by omega)
      · dsimp only
        rw [sy_up_ne _ _ _ (by decide), sy_up2, if_neg (by omega)]; exact i6 k hk
    · rintro σ1 ⟨i1, i2, i3, i4, i5, i6⟩
      have e14 : σ1.1 0 14 = nI R.length := by rw [i1.2.1 14 (by simp)]; exact c2
      refine w_M_undo_22 (fun q => absurd (nI_le (Nat.le_refl 16) (by decide)) q) (fun q => absurd (nI_le (Nat.le_refl 16) (by decide)) q) (fun q => absurd (nI_le (Nat.le_refl 16) (by decide)) q) (fun _ => ?_) (fun q => absurd (nI_le (Nat.le_refl 16) (by decide)) q)
      rw [i2, e14, nI_1]
      have c : ∀ q, q ≠ 0 → q ≠ 2 → q ≠ 10 → sy_up σ1.1 0 14 (nI (R.length + 1)) q = σ.1 q := fun q a b d => (sy_up_ne _ _ _ a).trans (i1.1 q a (by simp; omega))
      have d : ∀ j, j ≠ 13 → j ≠ 14 → sy_up σ1.1 0 14 (nI (R.length + 1)) 0 j = σ.1 0 j := fun j a b => by rw [sy_up2, if_neg (fun q => b q.2), i1.2.1 j (by simp; exact a)]
      refine kk _ ⟨r1.fe (d 0 (by decide) (by decide)) (d 1 (by decide) (by decide)) (c 1 (by decide) (by decide) (by decide)) (c 3 (by decide) (by decide) (by decide)) (c 4 (by decide) (by decide) (by decide)), fun j hj => ?_, ⟨?_, ?_, fun i g hi j hj => ?_, fun i g hi j hj => ?_⟩, r4.fe (d 16 (by decide) (by decide)) (c 11 (by decide) (by decide) (by decide)), r5.fe (d 18 (by decide) (by decide)) (d 17 (by decide) (by decide)), r6.fe (c 7 (by decide) (by decide) (by decide)) (c 8 (by decide) (by decide) (by decide)), r7.fe (c 25 (by decide) (by decide) (by decide)) (c 26 (by decide) (by decide) (by decide))⟩
      · dsimp only; rw [sy_up_ne _ _ _ (by decide)]; exact i3 j hj
      · dsimp only; rw [sy_up2, if_neg (by decide)]; exact i2
      · dsimp only; rw [sy_up2, if_pos ⟨rfl, rfl⟩]; rfl
      · dsimp only
        rw [c 9 (by decide) (by decide) (by decide)]
        have hi : U.reverse[i]? = some g := hi
        have hlt := (List.getElem?_eq_some_iff.mp hi).1
        refine c3 i g ?_ j hj
        rw [List.reverse_cons, List.getElem?_append_left hlt]; exact hi
      · dsimp only
        rw [sy_up_ne _ _ _ (by decide)]
        have hi : (H :: R).reverse[i]? = some g := hi
        rw [List.reverse_cons, List.getElem?_append] at hi
        split at hi
        · rename_i hlt
          rw [List.length_reverse] at hlt
          rw [i6 _ (by omega)]
          exact c4 i g hi j hj
        · rename_i hge
          rw [List.length_reverse] at hge hi
          have hz : i - R.length = 0 := by
            rcases Nat.eq_zero_or_pos (i - R.length) with q | q
            · exact q
            · rw [List.getElem?_eq_none (by simp only [List.length_singleton]; omega)] at hi; cases hi
          rw [hz] at hi
          cases hi
          rw [show i = R.length by omega]
          exact i5 j hj
    · dsimp only; rw [sy_up2, if_pos ⟨rfl, rfl⟩]
    · dsimp only; rw [sy_up_ne _ _ _ (by decide)]
    · dsimp only; rw [sy_up_ne _ _ _ (by decide)]
theorem M_redo {Q : Option Value → sy_S → Prop} {σ : sy_S} {B : Nat} {S : st}  (ho : sO B S) (h : RM S σ.1) (kk : ∀ σ' : sy_S, RM (f_redo S).2 σ'.1 → Q (some (.int (f_redo S).1)) σ') : sy_E shM mX12_redo (0, sy_ent [.ref 0] 2, [], σ) Q := by
  obtain ⟨G, H, P, U, R, T, W, L⟩ := S
  obtain ⟨r1, r2, r3, r4, r5, r6, r7⟩ := id h
  have hG := r1.1
  have hH := sO_H ho
  match R, ho, h, kk, r3 with
  | [], ho, h, kk, r3 =>
    refine w_M_redo_0 (fun q => absurd ?_ q) (fun _ => kk σ h)
    rw [r3.2.1]; rfl
  | u :: R, ho, h, kk, r3 =>
    obtain ⟨c1, c2, c3, c4⟩ := r3
    have hl8 := ho.2.1
    rw [List.length_cons] at hl8 c2
    have hu : aro σ.1 10 (16 * R.length) u := by
      refine c4 R.length u ?_
      rw [List.reverse_cons, List.getElem?_append_right (by rw [List.length_reverse]; exact Nat.le_refl _), List.length_reverse, Nat.sub_self]; rfl
    have hV : (H :: U).take 8 = H :: U := List.take_of_length_le (by simp only [List.length_cons]; omega)
    refine w_M_redo_0 (fun _ => ?_) (fun q => absurd (by rw [c2]; exact nI_ne0 (by omega) (by omega)) q)
    refine M_pushes (by omega) ⟨c1, c3⟩ r2 (fun σ1 g1 g2 => w_M_redo_14 ?_)
    rw [hV] at g2
    have e14 : σ1.1 0 14 - 1 = nI R.length := by rw [g1.2.1 14 (by simp), c2, nI_lit1, pk_sub (by omega)]; rfl
    rw [e14]
    have hloop := sy_loop (sh := shM) (y := mX12_redo) (Q := Q) (fun i σ' => (26, [some (.ref 0), some (.int (nI i))], [], σ')) (fun i σ' => sm [2] [14] σ1 σ' ∧ σ'.1 0 14 = nI R.length ∧ ∀ j, j < i → σ'.1 2 j = nI (u j)) 16 ?_ ?_ 0 (sy_up σ1.1 0 14 (nI R.length), σ1.2) (by decide) ⟨sm.fu (by simp), ?_, fun j hj => absurd hj (Nat.not_lt_zero _)⟩
    · exact hloop
    · rintro i σ2 hi ⟨i1, i2, i3⟩ ih
      have ei : (nI i).toNatClampNeg = i := nI_clamp (by omega)
      have ex : 16 * σ2.1 0 14 + nI i = nI (16 * R.length + i) := by rw [i2, show (16 : Int32) = nI 16 from rfl, pk_mul, nI_add]
      have e10 : σ2.1 10 (16 * R.length + i) = nI (u i) := by rw [i1.1 10 (by decide) (by simp), g1.1 10 (by decide) (by simp)]; exact hu i hi
      refine w_M_redo_26 (fun _ => by rw [ex]; exact vp_in_nI (by omega) (by decide)) (fun _ => vp_in_nI hi (by decide)) (fun q => absurd q (nI_ge hi (by decide))) (fun _ => ?_)
      rw [ex, ei, nI_clamp (by omega), e10, nI_1]
      refine ih _ ⟨i1.tr (sm.up (by simp) (by decide)), ?_, fun j hj => ?_⟩
      · dsimp only; rw [sy_up_ne _ _ _ (by decide)]; exact i2
      · dsimp only
        rw [sy_up2]
        by_cases e : j = i
        · subst e; rw [if_pos ⟨rfl, rfl⟩]
        · rw [if_neg (fun q => e q.2)]; exact i3 j (by omega)
    · rintro σ2 ⟨i1, i2, i3⟩
      refine w_M_redo_26 (fun q => absurd (nI_le (Nat.le_refl 16) (by decide)) q) (fun q => absurd (nI_le (Nat.le_refl 16) (by decide)) q) (fun _ => ?_) (fun q => absurd (nI_le (Nat.le_refl 16) (by decide)) q)
      rw [i2]
      have c : ∀ q, q ≠ 0 → q ≠ 2 → q ≠ 9 → σ2.1 q = σ.1 q := fun q a b d => (i1.1 q a (by simp; exact b)).trans (g1.1 q a (by simp; exact d))
      have d : ∀ j, j ≠ 13 → j ≠ 14 → σ2.1 0 j = σ.1 0 j := fun j a b => (i1.2.1 j (by simp; exact b)).trans (g1.2.1 j (by simp; exact a))
      refine kk _ ⟨r1.fe (d 0 (by decide) (by decide)) (d 1 (by decide) (by decide)) (c 1 (by decide) (by decide) (by decide)) (c 3 (by decide) (by decide) (by decide)) (c 4 (by decide) (by decide) (by decide)), fun j hj => i3 j hj, ⟨?_, i2, fun i g hi j hj => ?_, fun i g hi j hj => ?_⟩, r4.fe (d 16 (by decide) (by decide)) (c 11 (by decide) (by decide) (by decide)), r5.fe (d 18 (by decide) (by decide)) (d 17 (by decide) (by decide)), r6.fe (c 7 (by decide) (by decide) (by decide)) (c 8 (by decide) (by decide) (by decide)), r7.fe (c 25 (by decide) (by decide) (by decide)) (c 26 (by decide) (by decide) (by decide))⟩
      · rw [i1.2.1 13 (by simp)]; exact g2.1
      · rw [i1.1 9 (by decide) (by simp)]; exact g2.2 i g hi j hj
      · rw [c 10 (by decide) (by decide) (by decide)]
        have hi : R.reverse[i]? = some g := hi
        have hlt := (List.getElem?_eq_some_iff.mp hi).1
        refine c4 i g ?_ j hj
        rw [List.reverse_cons, List.getElem?_append_left hlt]; exact hi
    · dsimp only; rw [sy_up2, if_pos ⟨rfl, rfl⟩]
theorem M_size {Q : Option Value → sy_S → Prop} {σ : sy_S} {B : Nat} {S : st} (r : Int32) (c : Int32) (ho : sO B S) (h : RM S σ.1) (kk : ∀ σ' : sy_S, RM (f_size r c S).2 σ'.1 → Q (some (.int (f_size r c S).1)) σ') : sy_E shM mX12_size (0, sy_ent [.ref 0, .int r, .int c] 5, [], σ) Q := by
  obtain ⟨G, H, P, U, R, T, W, L⟩ := S
  obtain ⟨r1, r2, r3, r4, r5, r6, r7⟩ := id h
  have hG := r1.1
  have hH := sO_H ho
  obtain ⟨a1, a2⟩ := m_rng (x := r) (lo := 1) (hi := 4) (a := 1) (b := 4) rfl rfl (by decide)
  obtain ⟨b1, b2⟩ := m_rng (x := c) (lo := 1) (hi := 4) (a := 1) (b := 4) rfl rfl (by decide)
  have bad : (px (pR 1 4) r = none ∨ px (pR 1 4) c = none) → Q (some (.int (-2))) σ := by
    intro z
    have e : f_size r c (G, H, P, U, R, T, W, L) = (-2, (G, H, P, U, R, T, W, L)) := by
      rcases z with z | z
      · simp only [f_size, z]
      · cases hr : px (pR 1 4) r <;> simp only [f_size, hr, z]
    rw [e] at kk
    exact kk σ h
  refine w_M_size_0 (fun q q2 => ?_) (fun _ q => bad (Or.inr (b2 q))) (fun q => bad (Or.inl (a2 q)))
  obtain ⟨m, hm⟩ := a1 q
  obtain ⟨n, hn⟩ := b1 q2
  obtain ⟨pm, rfl, -⟩ := px_s hm
  obtain ⟨pn, rfl, -⟩ := px_s hn
  have e : f_size (nI m) (nI n) (G, H, P, U, R, T, W, L) = (nI (sg_n G), ((m, n, fun _ => false), (fun _ => 0), pno, [], [], T, W, L)) := by simp only [f_size, hm, hn]
  rw [e] at kk
  rw [gm_n r1]
  have hloop := sy_loop (sh := shM) (y := mX12_size) (Q := Q) (fun i σ' => (45, [some (.ref 0), none, none, some (.int (nI (sg_n G))), some (.int (nI i))], [], σ')) (fun i σ' => sm [1, 2] [0, 1] σ σ' ∧ σ'.1 0 0 = nI m ∧ σ'.1 0 1 = nI n ∧ ∀ j, j < i → σ'.1 1 j = 0 ∧ σ'.1 2 j = 0) 16 ?_ ?_ 0 (sy_up (sy_up σ.1 0 0 (nI m)) 0 1 (nI n), σ.2) (by decide) ⟨(sm.fu (i := 0) (x := nI m) (by simp)).tr (sm.fu (by simp)), ?_, ?_, fun j hj => absurd hj (Nat.not_lt_zero _)⟩
  · exact hloop
  · rintro i σ1 hi ⟨i1, i2, i3, i4⟩ ih
    have ei : (nI i).toNatClampNeg = i := nI_clamp (by omega)
    refine w_M_size_45 (fun _ => vp_in_nI hi (by decide)) (fun q => absurd q (nI_ge hi (by decide))) (fun _ => ?_)
    rw [ei, nar_b0, nI_1]
    refine ih _ ⟨i1.tr ((sm.up (k := 1) (i := i) (x := 0) (by simp) (by decide)).tr (sm.up (by simp) (by decide))), ?_, ?_, fun j hj => ?_⟩
    · dsimp only; rw [sy_up_ne _ _ _ (by decide), sy_up_ne _ _ _ (by decide)]; exact i2
    · dsimp only; rw [sy_up_ne _ _ _ (by decide), sy_up_ne _ _ _ (by decide)]; exact i3
    · dsimp only
      rw [sy_up_ne _ _ _ (show (1 : Nat) ≠ 2 by decide), sy_up2, sy_up2]
      by_cases y : j = i
      · rw [if_pos ⟨rfl, y⟩, if_pos ⟨rfl, y⟩]; exact ⟨rfl, rfl⟩
      · rw [if_neg (fun z => y z.2), if_neg (fun z => y z.2), sy_up_ne _ _ _ (by decide)]
        exact i4 j (by omega)
  · rintro σ1 ⟨i1, i2, i3, i4⟩
    have hGn : sg_ok (m, n, fun _ => false) := ⟨pm.1, pm.2, pn.1, pn.2⟩
    have h16 := sg_n16 hGn
    refine w_M_size_45 (fun q => absurd (nI_le (Nat.le_refl 16) (by decide)) q) (fun _ => ?_) (fun q => absurd (nI_le (Nat.le_refl 16) (by decide)) q)
    exact M_forgets (H := fun _ => 0) hGn ⟨i2, i3, fun k hk => (i4 k (by omega)).1⟩ (fun j hj => (i4 j hj).2) (r4.fe (i1.2.1 16 (by simp)) (i1.1 11 (by decide) (by simp))) (r5.fe (i1.2.1 18 (by simp)) (i1.2.1 17 (by simp))) (r7.fe (i1.1 25 (by decide) (by simp)) (i1.1 26 (by decide) (by simp))) (fun σ2 f => w_M_size_78 (kk σ2 f))
  · dsimp only; rw [sy_up2, if_neg (by decide), sy_up2, if_pos ⟨rfl, rfl⟩]
  · dsimp only; rw [sy_up2, if_pos ⟨rfl, rfl⟩]
theorem M_wall {Q : Option Value → sy_S → Prop} {σ : sy_S} {B : Nat} {S : st} (cell : Int32) (b : Bool) (ho : sO B S) (h : RM S σ.1) (kk : ∀ σ' : sy_S, RM (f_wall cell b S).2 σ'.1 → Q (some (.int (f_wall cell b S).1)) σ') : sy_E shM mX12_wall (0, sy_ent [.ref 0, .int cell, .int (if b = true then 1 else 0)] 4, [], σ) Q := by
  obtain ⟨G, H, P, U, R, T, W, L⟩ := S
  obtain ⟨r1, r2, r3, r4, r5, r6, r7⟩ := id h
  have hG := r1.1
  have hH := sO_H ho
  have h16 := sg_n16 hG
  have en := gm_n r1
  obtain ⟨z1, z2⟩ := m_rngL (x := cell) (lo := 0) (hi := (nI (sg_n G) - 1).toInt64) (n := sg_n G) rfl (by rw [sm_i64, nI_lit1, pk_sub_toInt (by omega) (by decide)]; rfl) (by omega)
  refine w_M_wall_0 ?_ ?_ ?_ ?_ ?_
  all_goals rw [en]
  · intro q
    obtain ⟨m, hm⟩ := z1 q
    exact px_in (fun k hk => by omega) (by decide) hm
  · intro q q2 q3
    obtain ⟨m, hm⟩ := z1 q
    obtain ⟨pm, rfl, pm3⟩ := px_s hm
    rw [nI_clamp pm3, r1.2.1.2.2 m pm] at q2 q3
    have hw : G.2.2 m = false := by cases y : G.2.2 m <;> simp_all
    have hb : b = false := by cases b <;> simp_all
    have e : f_wall (nI m) b (G, H, P, U, R, T, W, L) = (0, (G, H, P, U, R, T, W, L)) := by simp only [f_wall, hm, hw, hb, if_true]; rfl
    rw [e] at kk
    exact kk σ h
  · intro q q2 q3
    obtain ⟨m, hm⟩ := z1 q
    obtain ⟨pm, rfl, pm3⟩ := px_s hm
    rw [nI_clamp pm3, r1.2.1.2.2 m pm] at q2 q3
    have hw : G.2.2 m = true := by cases y : G.2.2 m <;> simp_all
    have hb : b = true := by cases b <;> simp_all
    have e : f_wall (nI m) b (G, H, P, U, R, T, W, L) = (1, (G, H, P, U, R, T, W, L)) := by simp only [f_wall, hm, hw, hb, if_true]
    rw [e] at kk
    exact kk σ h
  · intro q q2
    obtain ⟨m, hm⟩ := z1 q
    obtain ⟨pm, rfl, pm3⟩ := px_s hm
    have pm : m < sg_n G := pm
    rw [nI_clamp pm3, r1.2.1.2.2 m pm] at q2
    have hb : G.2.2 m ≠ b := fun y => q2 (by rw [y])
    have e : f_wall (nI m) b (G, H, P, U, R, T, W, L) = ((if b = true then 0 else 1), (gwal G m b, hset H m 0, pno, [], [], T, W, L)) := by simp only [f_wall, hm, if_neg hb]
    rw [e] at kk
    rw [nI_clamp pm3, r1.2.1.2.2 m pm]
    have hnar : vp_nar .boolean (if b = true then 1 else 0) = if b = true then 1 else 0 := by cases b <;> rfl
    rw [hnar]
    have c : ∀ q, q ≠ 1 → q ≠ 2 → sy_up (sy_up σ.1 1 m (if b = true then 1 else 0)) 2 m 0 q = σ.1 q := fun q a d => (sy_up_ne _ _ _ d).trans (sy_up_ne _ _ _ a)
    refine M_forgets (G := gwal G m b) (H := hset H m 0) (gwal_ok hG m b) ⟨?_, ?_, fun k hk => ?_⟩ (fun j hj => ?_) (r4.fe ?_ ?_) (r5.fe ?_ ?_) (r7.fe ?_ ?_) (fun σ2 f => ?_)
    · dsimp only; rw [c 0 (by decide) (by decide)]; exact r1.2.1.1
    · dsimp only; rw [c 0 (by decide) (by decide)]; exact r1.2.1.2.1
    · dsimp only
      rw [sy_up_ne _ _ _ (by decide), sy_up2]
      show _ = if (if k = m then b else G.2.2 k) = true then 1 else 0
      by_cases y : k = m
      · rw [if_pos ⟨rfl, y⟩, if_pos y]
      · rw [if_neg (fun z => y z.2), if_neg y]; exact r1.2.1.2.2 k hk
    · dsimp only
      rw [sy_up2]
      unfold hset
      by_cases y : j = m
      · rw [if_pos ⟨rfl, y⟩, if_pos y]; rfl
      · rw [if_neg (fun z => y z.2), if_neg y, sy_up_ne _ _ _ (by decide)]; exact r2 j hj
    · dsimp only; rw [c 0 (by decide) (by decide)]
    · exact c 11 (by decide) (by decide)
    · dsimp only; rw [c 0 (by decide) (by decide)]
    · dsimp only; rw [c 0 (by decide) (by decide)]
    · exact c 25 (by decide) (by decide)
    · exact c 26 (by decide) (by decide)
    · have h9 := kk σ2 f
      cases b
      · have hw : G.2.2 m = true := by cases y : G.2.2 m <;> simp_all
        rw [hw]
        exact w_M_wall_48 (fun q => absurd q (by decide)) (fun _ => h9)
      · have hw : G.2.2 m = false := by cases y : G.2.2 m <;> simp_all
        rw [hw]
        exact w_M_wall_48 (fun _ => h9) (fun q => absurd rfl q)
  · intro q
    have e : f_wall cell b (G, H, P, U, R, T, W, L) = (-1, (G, H, P, U, R, T, W, L)) := by simp only [f_wall, z2 q]
    rw [e] at kk
    exact kk σ h
theorem M_set {Q : Option Value → sy_S → Prop} {σ : sy_S} {B : Nat} {S : st} (cell : Int32) (v : Int32) (ho : sO B S) (h : RM S σ.1) (kk : ∀ σ' : sy_S, RM (f_set cell v S).2 σ'.1 → Q (some (.int (f_set cell v S).1)) σ') : sy_E shM mX12_set (0, sy_ent [.ref 0, .int cell, .int v] 4, [], σ) Q := by
  obtain ⟨G, H, P, U, R, T, W, L⟩ := S
  obtain ⟨r1, r2, r3, r4, r5, r6, r7⟩ := id h
  have hG := r1.1
  have hH := sO_H ho
  obtain ⟨z1, z2⟩ := m_rng (x := v) (lo := 0) (hi := 999) (a := 0) (b := 999) rfl rfl (by decide)
  refine w_M_set_0 r1 (fun m hm q => ?_) (fun m hm q => ?_) (fun q => ?_)
  · obtain ⟨w, hw⟩ := z1 q
    have e : f_set cell v (G, H, P, U, R, T, W, L) = (nI (H m), (G, hset H m w, P, (H :: U).take 8, [], T, W, L)) := by simp only [f_set, hm, hw]
    rw [e] at kk
    obtain ⟨p1, rfl, p3⟩ := px_s hm
    obtain ⟨-, rfl, -⟩ := px_s hw
    have hm16 := sg_p16 hG p1
    refine M_changes ho.2.1 r3 r2 (fun σ1 g1 g2 => w_M_set_29 (vp_in_nI hm16 (by decide)) ?_)
    rw [nI_clamp p3, g1.1 2 (by decide) (by simp), r2 m hm16]
    refine kk _ (RM_ch (l := []) h g1 g2 (sm.up (by simp) (by decide)) (by decide) (fun j hj => ?_))
    dsimp only
    rw [sy_up2]
    unfold hset
    by_cases y : j = m
    · rw [if_pos ⟨rfl, y⟩, if_pos y]
    · rw [if_neg (fun q => y q.2), if_neg y, g1.1 2 (by decide) (by simp)]; exact r2 j hj
  · have e : f_set cell v (G, H, P, U, R, T, W, L) = (-2, (G, H, P, U, R, T, W, L)) := by simp only [f_set, hm, z2 q]
    rw [e] at kk
    exact kk σ h
  · have e : f_set cell v (G, H, P, U, R, T, W, L) = (-1, (G, H, P, U, R, T, W, L)) := by simp only [f_set, q]
    rw [e] at kk
    exact kk σ h
theorem M_height {Q : Option Value → sy_S → Prop} {σ : sy_S} {B : Nat} {S : st} (cell : Int32) (ho : sO B S) (h : RM S σ.1) (kk : ∀ σ' : sy_S, RM S σ'.1 → Q (some (.int (f_height cell S))) σ') : sy_E shM mX12_height (0, sy_ent [.ref 0, .int cell] 2, [], σ) Q := by
  obtain ⟨G, H, P, U, R, T, W, L⟩ := S
  obtain ⟨r1, r2, r3, r4, r5, r6, r7⟩ := id h
  have hG := r1.1
  have hH := sO_H ho
  refine w_M_height_0 r1 (fun m hm => px_in (fun k hk => sg_p16 hG hk) (by decide) hm) (fun m hm => ?_) (fun q => ?_)
  · have e : f_height cell (G, H, P, U, R, T, W, L) = nI (H m) := by simp only [f_height, hm]
    rw [e] at kk
    obtain ⟨p1, rfl, p3⟩ := px_s hm
    rw [nI_clamp p3, r2 m (sg_p16 hG p1)]
    exact kk σ h
  · have e : f_height cell (G, H, P, U, R, T, W, L) = -1 := by simp only [f_height, q]
    rw [e] at kk
    exact kk σ h
theorem M_drop {Q : Option Value → sy_S → Prop} {σ : sy_S} {B : Nat} {S : st} (cell : Int32) (n : Int32) (hB : B ≤ 2000) (ho : sO B S) (h : RM S σ.1) (kk : ∀ σ' : sy_S, RM (f_drop cell n S).2 σ'.1 → Q (some (.int (f_drop cell n S).1)) σ') : sy_E shM mX12_drop (0, sy_ent [.ref 0, .int cell, .int n] 3, [], σ) Q := by
  obtain ⟨G, H, P, U, R, T, W, L⟩ := S
  obtain ⟨r1, r2, r3, r4, r5, r6, r7⟩ := id h
  have hG := r1.1
  have hH := sO_H ho
  obtain ⟨z1, z2⟩ := m_rng (x := n) (lo := 1) (hi := 99) (a := 1) (b := 99) rfl rfl (by decide)
  refine w_M_drop_0 r1 (fun m hm _ => px_in (fun k hk => sg_p16 hG hk) (by decide) hm) (fun m hm q q2 => ?_) (fun m hm q q2 => ?_) (fun m hm q => ?_) (fun q => ?_)
  · obtain ⟨w, hw⟩ := z1 q
    obtain ⟨p1, rfl, p3⟩ := px_s hm
    obtain ⟨pw, rfl, -⟩ := px_s hw
    have hm16 := sg_p16 hG p1
    have hHm := hH.2 m
    have pw2 : w ≤ 99 := pw.2
    rw [nI_clamp (by omega), r2 m hm16, nI_add, show (999 : Int32) = nI 999 from rfl, nI_leI (by omega) (by decide)] at q2
    have e : f_drop (nI m) (nI w) (G, H, P, U, R, T, W, L) = (nI (H m + w), (G, sg_ad H m w, P, (H :: U).take 8, [], T, W, L)) := by simp only [f_drop, hm, hw, if_neg (show ¬ 999 < H m + w by omega)]
    rw [e] at kk
    refine M_changes ho.2.1 r3 r2 (fun σ1 g1 g2 => w_M_drop_46 (vp_in_nI hm16 (by decide)) ?_)
    rw [nI_clamp p3, g1.1 2 (by decide) (by simp), r2 m hm16, nI_add, sy_up2, if_pos ⟨rfl, rfl⟩]
    refine kk _ (RM_ch (l := []) h g1 g2 (sm.up (by simp) (by decide)) (by decide) (fun j hj => ?_))
    dsimp only
    rw [sy_up2]
    unfold sg_ad
    by_cases y : j = m
    · rw [if_pos ⟨rfl, y⟩, if_pos y, y]
    · rw [if_neg (fun q => y q.2), if_neg y, g1.1 2 (by decide) (by simp)]; exact r2 j hj
  · obtain ⟨w, hw⟩ := z1 q
    obtain ⟨p1, rfl, p3⟩ := px_s hm
    obtain ⟨pw, rfl, -⟩ := px_s hw
    have hm16 := sg_p16 hG p1
    have hHm := hH.2 m
    have pw2 : w ≤ 99 := pw.2
    rw [nI_clamp (by omega), r2 m hm16, nI_add, show (999 : Int32) = nI 999 from rfl, nI_leI (by omega) (by decide)] at q2
    have e : f_drop (nI m) (nI w) (G, H, P, U, R, T, W, L) = (-4, (G, H, P, U, R, T, W, L)) := by simp only [f_drop, hm, hw, if_pos (show 999 < H m + w by omega)]
    rw [e] at kk
    exact kk σ h
  · have e : f_drop cell n (G, H, P, U, R, T, W, L) = (-2, (G, H, P, U, R, T, W, L)) := by simp only [f_drop, hm, z2 q]
    rw [e] at kk
    exact kk σ h
  · have e : f_drop cell n (G, H, P, U, R, T, W, L) = (-1, (G, H, P, U, R, T, W, L)) := by simp only [f_drop, q]
    rw [e] at kk
    exact kk σ h
theorem M_topple {Q : Option Value → sy_S → Prop} {σ : sy_S} {B : Nat} {S : st} (cell : Int32) (hB : B ≤ 2000) (ho : sO B S) (h : RM S σ.1) (kk : ∀ σ' : sy_S, RM (f_topple cell S).2 σ'.1 → Q (some (.int (f_topple cell S).1)) σ') : sy_E shM mX12_topple (0, sy_ent [.ref 0, .int cell] 2, [], σ) Q := by
  obtain ⟨G, H, P, U, R, T, W, L⟩ := S
  obtain ⟨r1, r2, r3, r4, r5, r6, r7⟩ := id h
  have hG := r1.1
  have hH := sO_H ho
  refine w_M_topple_0 r1 (fun m hm => ?_) (fun q => ?_)
  · obtain ⟨p1, rfl, p3⟩ := px_s hm
    have hm16 := sg_p16 hG p1
    have hHm := hH.2 m
    refine e_m_may rfl r1 r2 p1.1 (by omega) (fun q => ?_) (fun q => ?_)
    · have q := (rdy_iff.mp q).2
      have e : f_topple (nI m) (G, H, P, U, R, T, W, L) = (nI (4 - (sg_nb G m).length), (G, sg_tp G H m 1, P, (H :: U).take 8, [], T, W, L)) := by simp only [f_topple, hm, if_neg (show ¬ H m < 4 by omega)]
      rw [e] at kk
      refine w_M_topple_19 (fun _ => ?_) (fun z => absurd (by decide) z)
      refine M_changes ho.2.1 r3 r2 (fun σ1 g1 g2 => w_M_topple_29 ?_)
      obtain ⟨u, hu⟩ := ar_any σ1.1 5
      obtain ⟨lo, hlo⟩ := nI_any (σ1.1 0 7)
      have hg1 : gm G σ1.1 := g1.gm r1 (by simp) (by simp)
      refine e_m_topples (t := 1) ⟨rfl, by decide, by decide, by decide, by decide, by decide, by decide⟩ hg1 (ar_sm g1 r2 (by simp) (by decide)) hu hlo p1 (by omega) (fun σ2 f1 f2 f3 f4 => w_M_topple_39 (vp_in_nI hm16 (by decide)) ?_)
      have hR := RM_ch (l := [5]) h g1 g2 (f1.mono (by simp) (by simp)) (by decide) f2
      rw [nI_clamp p3, (gm_nb hR.1 p1.1).1, nI_lit4, pk_sub (sg_nb_len G m)]
      exact kk σ2 hR
    · have q : H m < 4 := by
        rcases Nat.lt_or_ge 3 (H m) with y | y
        · rw [rdy_iff.mpr ⟨p1, y⟩] at q; cases q
        · omega
      have e : f_topple (nI m) (G, H, P, U, R, T, W, L) = (-5, (G, H, P, U, R, T, W, L)) := by simp only [f_topple, hm, if_pos q]
      rw [e] at kk
      exact w_M_topple_19 (fun z => absurd rfl z) (fun _ => kk σ h)
  · have e : f_topple cell (G, H, P, U, R, T, W, L) = (-1, (G, H, P, U, R, T, W, L)) := by simp only [f_topple, q]
    rw [e] at kk
    exact kk σ h
theorem M_settle {Q : Option Value → sy_S → Prop} {σ : sy_S} {B : Nat} {S : st}  (hB : B ≤ 2000) (ho : sO B S) (h : RM S σ.1) (kk : ∀ σ' : sy_S, RM (f_settle S).2 σ'.1 → Q (some (.int (f_settle S).1)) σ') : sy_E shM mX12_settle (0, sy_ent [.ref 0] 1, [], σ) Q := by
  obtain ⟨G, H, P, U, R, T, W, L⟩ := S
  obtain ⟨r1, r2, r3, r4, r5, r6, r7⟩ := id h
  have hG := r1.1
  have hH := sO_H ho
  have hB9 := hz9 hH hB
  refine w_M_settle_0 (M_changes ho.2.1 r3 r2 (fun σ1 g1 g2 => w_M_settle_4 ?_))
  refine e_m_settles (h := H) ⟨rfl, by decide, by decide, by decide, by decide, by decide, by decide⟩ (g1.gm r1 (by simp) (by simp)) (ar_sm g1 r2 (by simp) (by decide)) hB9 (fun σ2 u Hn f1 f2 f3 f4 f5 f6 => w_M_settle_12 ?_)
  obtain ⟨e1, e2⟩ := stt_eq f2 f3
  rw [e1]
  refine kk σ2 (RM_ch (l := [5]) h g1 g2 f1 (by decide) ?_)
  rw [← e2]; exact f4
theorem M_feed {Q : Option Value → sy_S → Prop} {σ : sy_S} {B : Nat} {S : st} (b : Int32) (ho : sO B S) (h : RM S σ.1) (kk : ∀ σ' : sy_S, RM (f_feed b S).2 σ'.1 → Q (some (.int (f_feed b S).1)) σ') : sy_E shM mX12_feed (0, sy_ent [.ref 0, .int b] 2, [], σ) Q := by
  obtain ⟨G, H, P, U, R, T, W, L⟩ := S
  obtain ⟨r1, r2, r3, r4, r5, r6, r7⟩ := id h
  have hG := r1.1
  have hH := sO_H ho
  obtain ⟨z1, z2⟩ := m_rng (x := b) (lo := 1) (hi := 127) (a := 1) (b := 127) rfl rfl (by decide)
  have hT := ho.2.2.2.2.1.1
  have c40 : σ.1 0 16 = 40 ↔ T.length = 40 := by rw [r4.1]; exact nI_eq (by omega) (by decide)
  refine w_M_feed_0 (fun _ q => ?_) (fun q q2 => ?_) (fun q q2 => ?_) (fun q => ?_)
  · rw [c40] at q
    rw [r4.1]; exact vp_in_nI (by omega) (by decide)
  · rw [c40] at q2
    obtain ⟨m, hm⟩ := z1 q
    obtain ⟨pm, rfl, -⟩ := px_s hm
    have e : f_feed (nI m) (G, H, P, U, R, T, W, L) = (nI (T.length + 1), (G, H, P, U, R, T ++ [m], W, L)) := by simp only [f_feed, hm, if_neg q2]
    rw [e] at kk
    rw [r4.1, nI_clamp (by omega), nI_1]
    have c : ∀ q, q ≠ 0 → q ≠ 11 → sy_up (sy_up σ.1 11 T.length (nI m)) 0 16 (nI (T.length + 1)) q = σ.1 q := fun q a d => (sy_up_ne _ _ _ a).trans (sy_up_ne _ _ _ d)
    have d : ∀ j, j ≠ 16 → sy_up (sy_up σ.1 11 T.length (nI m)) 0 16 (nI (T.length + 1)) 0 j = σ.1 0 j := fun j a => by rw [sy_up2, if_neg (fun q => a q.2), sy_up_ne _ _ _ (by decide)]
    refine kk _ ⟨r1.fe (d 0 (by decide)) (d 1 (by decide)) (c 1 (by decide) (by decide)) (c 3 (by decide) (by decide)) (c 4 (by decide) (by decide)), fun j hj => ?_, r3.fe (d 13 (by decide)) (d 14 (by decide)) (c 9 (by decide) (by decide)) (c 10 (by decide) (by decide)), ⟨?_, fun j x hj => ?_⟩, r5.fe (d 18 (by decide)) (d 17 (by decide)), r6.fe (c 7 (by decide) (by decide)) (c 8 (by decide) (by decide)), r7.fe (c 25 (by decide) (by decide)) (c 26 (by decide) (by decide))⟩
    · dsimp only; rw [c 2 (by decide) (by decide)]; exact r2 j hj
    · dsimp only; rw [sy_up2, if_pos ⟨rfl, rfl⟩, List.length_append, List.length_singleton]
    · dsimp only
      rw [sy_up_ne _ _ _ (by decide), sy_up2]
      rw [List.getElem?_append] at hj
      split at hj
      · rename_i hlt
        rw [if_neg (by omega)]
        exact r4.2 j x hj
      · rename_i hge
        have hz : j - T.length = 0 := by
          rcases Nat.eq_zero_or_pos (j - T.length) with q | q
          · exact q
          · rw [List.getElem?_eq_none (by simp only [List.length_singleton]; omega)] at hj; cases hj
        rw [hz] at hj
        cases hj
        rw [if_pos ⟨rfl, by omega⟩]
  · rw [c40] at q2
    obtain ⟨m, hm⟩ := z1 q
    have e : f_feed b (G, H, P, U, R, T, W, L) = (-4, (G, H, P, U, R, T, W, L)) := by simp only [f_feed, hm, if_pos (Classical.byContradiction q2)]
    rw [e] at kk
    exact kk σ h
  · have e : f_feed b (G, H, P, U, R, T, W, L) = (-2, (G, H, P, U, R, T, W, L)) := by simp only [f_feed, z2 q]
    rw [e] at kk
    exact kk σ h
theorem M_why {Q : Option Value → sy_S → Prop} {σ : sy_S} {B : Nat} {S : st} (i : Int32) (ho : sO B S) (h : RM S σ.1) (kk : ∀ σ' : sy_S, RM S σ'.1 → Q (some (.int (f_why i S))) σ') : sy_E shM mX12_why (0, sy_ent [.ref 0, .int i] 2, [], σ) Q := by
  obtain ⟨G, H, P, U, R, T, W, L⟩ := S
  obtain ⟨r1, r2, r3, r4, r5, r6, r7⟩ := id h
  have hG := r1.1
  have hH := sO_H ho
  obtain ⟨z1, z2⟩ := m_rngL (x := i) (lo := 0) (hi := 2) (n := 3) rfl rfl (by decide)
  cases W with
  | none =>
    have r5 : σ.1 0 18 = nI 0 := r5
    have e : f_why i (G, H, P, U, R, T, none, L) = -1 := rfl
    rw [e] at kk
    exact w_M_why_0 (fun _ => kk σ h) (fun q => absurd (by rw [r5]; rfl) q) (fun q => absurd (by rw [r5]; rfl) q) (fun q => absurd (by rw [r5]; rfl) q) (fun q => absurd (by rw [r5]; rfl) q)
  | some sc =>
    obtain ⟨s, c⟩ := sc
    obtain ⟨w1, w2⟩ : σ.1 0 18 = nI c ∧ σ.1 0 17 = nI s := r5
    have hc := ho.2.2.2.2.2.1 s c rfl
    have hne : ¬ σ.1 0 18 = 0 := by rw [w1]; exact nI_ne0 (by omega) (by omega)
    have get : ∀ (k : Nat) (v : Int32), k < 3 → i = nI k → (px p3 i = some k → f_why i (G, H, P, U, R, T, some (s, c), L) = v) → Q (some (.int v)) σ := by
      intro k v hk e hv
      have h9 := kk σ h
      rw [hv (by rw [e]; exact px_i (by omega) hk)] at h9
      exact h9
    refine w_M_why_0 (fun q => absurd q hne) (fun _ q q2 q3 => ?_) (fun _ q q2 q3 => ?_) (fun _ q q2 => ?_) (fun _ q => ?_)
    · obtain ⟨k, hk⟩ := z1 q
      obtain ⟨pk, rfl, -⟩ := px_s hk
      have pk : k < 3 := pk
      rw [nI_lit0, nI_eq (by omega) (by decide)] at q2
      rw [nI_lit1, nI_eq (by omega) (by decide)] at q3
      rw [w1]
      have e2 : k = 2 := by omega
      subst e2
      exact get 2 _ (by decide) rfl (fun z => by simp only [f_why, z])
    · have q3 : i = nI 1 := Classical.byContradiction q3
      have e10 : (10 : Int32) + nI s = nI (10 + s) := nI_add 10 s
      rw [w2, e10]
      exact get 1 _ (by decide) q3 (fun z => by simp only [f_why, z])
    · have q2 : i = nI 0 := Classical.byContradiction q2
      exact get 0 1 (by decide) q2 (fun z => by simp only [f_why, z]; rfl)
    · have e : f_why i (G, H, P, U, R, T, some (s, c), L) = -1 := by simp only [f_why, z2 q]
      rw [e] at kk
      exact kk σ h
