/-! contracts of Changes and Shelf -/
theorem sy_cp2 (f : Nat → Nat → Int32) (a0 a n q j : Nat) : sy_cp f a0 a n q j = if q = a ∧ j < n then f a0 j else f q j := by
  unfold sy_cp
  by_cases h : q = a
  · subst h
    rw [if_pos rfl]
    unfold va_cpy
    by_cases h2 : j < n
    · rw [if_pos ⟨Nat.zero_le _, by omega⟩, if_pos ⟨rfl, h2⟩, show 0 + (j - 0) = j by omega]
    · rw [if_neg (by omega), if_neg (by omega)]
  · rw [if_neg h, if_neg (fun q => h q.1)]
theorem okR_of {sh : sy_Z} {k i r : Nat} (n : Nat) (fs : List (Option Nat)) (h : sh[k]? = some (3, n, fs)) (hi : i < n) (hn : n < 2 ^ 31) (hr : fs[i]? = some (some r)) : sy_okR sh k (nI i) := ⟨n, fs, r, h, vp_in_nI hi hn, by rw [nI_clamp (by omega)]; exact hr⟩
theorem rf9 : ∀ i, i < 9 → sy_rf shX 9 i = 10 + i := by decide +kernel
theorem row9 : ∀ i, i < 9 → shX[10 + i]? = some (0, 16, []) := by decide +kernel
theorem okR9 {i : Nat} (h : i < 9) : sy_okR shX 9 (nI i) := okR_of (r := 10 + i) 9 [some 10, some 11, some 12, some 13, some 14, some 15, some 16, some 17, some 18] rfl h (by decide) ((by decide +kernel : ∀ i, i < 9 → ([some 10, some 11, some 12, some 13, some 14, some 15, some 16, some 17, some 18] : List (Option Nat))[i]? = some (some (10 + i))) i h)
theorem rf24 : ∀ i, i < 6 → sy_rf shX 24 i = 25 + i := by decide +kernel
theorem row24 : ∀ i, i < 6 → shX[25 + i]? = some (0, 16, []) := by decide +kernel
theorem okR24 {i : Nat} (h : i < 6) : sy_okR shX 24 (nI i) := okR_of (r := 25 + i) 6 [some 25, some 26, some 27, some 28, some 29, some 30] rfl h (by decide) ((by decide +kernel : ∀ i, i < 6 → ([some 25, some 26, some 27, some 28, some 29, some 30] : List (Option Nat))[i]? = some (some (25 + i))) i h)
theorem rf33 : ∀ i, i < 4 → sy_rf shX 33 i = 34 + i := by decide +kernel
theorem row33 : ∀ i, i < 4 → shX[34 + i]? = some (0, 40, []) := by decide +kernel
theorem okR33 {i : Nat} (h : i < 4) : sy_okR shX 33 (nI i) := okR_of (r := 34 + i) 4 [some 34, some 35, some 36, some 37] rfl h (by decide) ((by decide +kernel : ∀ i, i < 4 → ([some 34, some 35, some 36, some 37] : List (Option Nat))[i]? = some (some (34 + i))) i h)
theorem e_x_restart {Q : Option Value → sy_S → Prop} {σ : sy_S} {H : Nat → Nat} (hH : ar σ.1 7 H) (kk : ∀ σ' : sy_S, sx [8, 10] σ σ' → cX H [] [] σ'.1 → Q none σ') : sy_E shX mX0_restart (0, sy_ent [.ref 8, .ref 7] 2, [], σ) Q := by
  refine w_x_restart (kk _ ⟨fun q hq => ?_, rfl⟩ ⟨?_, ?_, fun i h hi j hj => ?_⟩)
  · show sy_cp (sy_up (sy_up σ.1 8 1 0) 8 2 0) 7 10 16 q = σ.1 q
    rw [sy_cp_ne _ _ _ (fun e => hq (by rw [e]; simp)), sy_up_ne _ _ _ (fun e => hq (by rw [e]; simp)), sy_up_ne _ _ _ (fun e => hq (by rw [e]; simp))]
  · show sy_cp (sy_up (sy_up σ.1 8 1 0) 8 2 0) 7 10 16 8 1 = nI 0
    simp [sy_cp2, sy_up2, nI_0]
  · show sy_cp (sy_up (sy_up σ.1 8 1 0) 8 2 0) 7 10 16 8 2 = nI 0
    simp [sy_cp2, sy_up2, nI_0]
  · match i, hi with
    | 0, hi =>
      cases hi
      show sy_cp (sy_up (sy_up σ.1 8 1 0) 8 2 0) 7 10 16 10 j = nI (H j)
      rw [sy_cp2, if_pos ⟨rfl, hj⟩, sy_up_ne _ _ _ (by decide), sy_up_ne _ _ _ (by decide)]
      exact hH j hj
    | i + 1, hi => simp at hi
def lC : List Nat := [8, 10, 11, 12, 13, 14, 15, 16, 17, 18]
theorem lC_m {q : Nat} (h : q ∉ lC) : q ≠ 8 ∧ ∀ i, i < 9 → q ≠ 10 + i := ⟨fun e => h (by rw [e]; decide), fun i hi e => h (by rw [e]; exact (by decide +kernel : ∀ i, i < 9 → 10 + i ∈ lC) i hi)⟩
theorem e_x_note {Q : Option Value → sy_S → Prop} {σ : sy_S} {H H' : Nat → Nat} {U R : List (Nat → Nat)} (hl : U.length + R.length ≤ 8) (hc : cX H U R σ.1) (hH : ar σ.1 7 H') (kk : ∀ σ' : sy_S, sx lC σ σ' → cX H' ((H :: U).take 8) [] σ'.1 → Q none σ') : sy_E shX mX0_note (0, sy_ent [.ref 8, .ref 7] 3, [], σ) Q := by
  obtain ⟨c1, c2, c3⟩ := hc
  -- the end
  have fin : ∀ (σ1 : sy_S) (V : List (Nat → Nat)), V = (H :: U).take 8 → sx lC σ σ1 → σ1.1 8 1 = nI V.length → (∀ i h, V.reverse[i]? = some h → ar σ1.1 (10 + i) h) → sy_E shX mX0_note (57, [some (.ref 8), some (.ref 7), none], [], σ1) Q := by
    intro σ1 V hV hs e1 hr
    have hn : V.length < 9 := by rw [hV, List.length_take]; omega
    have h7 : ar σ1.1 7 H' := fun j hj => by rw [hs.1 7 (by decide)]; exact hH j hj
    refine w_x_note_57 ?_ ?_ ?_
    · rw [e1, nI_clamp (by omega), rf9 _ hn]; exact row9 _ hn
    · rw [e1]; exact okR9 hn
    · rw [e1, nI_clamp (by omega), rf9 _ hn]
      refine kk _ (hs.tr ⟨fun q hq => ?_, rfl⟩) ?_
      · obtain ⟨q1, q2⟩ := lC_m hq
        show sy_cp (sy_up σ1.1 8 2 (nI V.length)) 7 (10 + V.length) 16 q = σ1.1 q
        rw [sy_cp_ne _ _ _ (q2 _ hn), sy_up_ne _ _ _ q1]
      · rw [← hV]
        refine ⟨?_, ?_, fun i h hi j hj => ?_⟩
        · show sy_cp (sy_up σ1.1 8 2 (nI V.length)) 7 (10 + V.length) 16 8 1 = _
          rw [sy_cp2, if_neg (by omega), sy_up2, if_neg (by decide)]; exact e1
        · show sy_cp (sy_up σ1.1 8 2 (nI V.length)) 7 (10 + V.length) 16 8 2 = _
          rw [sy_cp2, if_neg (by omega), sy_up2, if_pos ⟨rfl, rfl⟩]; rfl
        · show sy_cp (sy_up σ1.1 8 2 (nI V.length)) 7 (10 + V.length) 16 (10 + i) j = _
          rw [List.getElem?_append] at hi
          split at hi
          · rename_i hlt
            rw [List.length_reverse] at hlt
            rw [sy_cp2, if_neg (by omega), sy_up2, if_neg (by omega)]
            exact hr i h hi j hj
          · rename_i hge
            rw [List.length_reverse] at hge hi
            have hz : i - V.length = 0 := by
              rcases Nat.eq_zero_or_pos (i - V.length) with q | q
              · exact q
              · rw [List.getElem?_eq_none (by simp only [List.length_singleton]; omega)] at hi; cases hi
            rw [hz] at hi
            cases hi
            rw [sy_cp2, if_pos ⟨by omega, hj⟩, sy_up2, if_neg (by omega)]
            exact h7 j hj
  refine w_x_note_0 (fun q => ?_) (fun q => ?_)
  · rw [c1, show (8 : Int32) = nI 8 from rfl, nI_eq (by omega) (by decide)] at q
    have hV : (H :: U).take 8 = H :: U := List.take_of_length_le (by simp only [List.length_cons]; omega)
    refine fin _ (H :: U) hV.symm (sx.up (by decide)) ?_ (fun i h hi j hj => ?_)
    · show sy_up σ.1 8 1 (σ.1 8 1 + 1) 8 1 = _
      rw [sy_up2, if_pos ⟨rfl, rfl⟩, c1, nI_1]; rfl
    · show sy_up σ.1 8 1 (σ.1 8 1 + 1) (10 + i) j = _
      rw [sy_up_ne _ _ _ (by omega)]
      refine c3 i h ?_ j hj
      rw [List.reverse_cons] at hi
      rw [List.getElem?_append] at hi ⊢
      split at hi
      · rename_i hlt; rw [if_pos hlt]; exact hi
      · rename_i hge
        rw [if_neg hge]
        have hz : i - U.reverse.length = 0 := by
          rcases Nat.eq_zero_or_pos (i - U.reverse.length) with q | q
          · exact q
          · rw [List.getElem?_eq_none (by simp only [List.length_singleton]; omega)] at hi; cases hi
        rw [hz] at hi ⊢
        exact hi
  · rw [c1, show (8 : Int32) = nI 8 from rfl, nI_eq (by omega) (by decide)] at q
    have q : U.length = 8 := Classical.byContradiction q
    have hR : R = [] := List.eq_nil_of_length_eq_zero (by omega)
    subst hR
    have hV : ∀ i, ((H :: U).take 8).reverse[i]? = (U.reverse ++ [H])[i + 1]? := by
      intro i
      rw [List.reverse_take, List.getElem?_drop, List.reverse_cons, List.length_cons, q]
      congr 1
      omega
    have hVl : ((H :: U).take 8).length = 8 := by rw [List.length_take, List.length_cons, q]; rfl
    have hl := sy_loop (sh := shX) (y := mX0_note) (Q := Q) (fun i σ' => (11, [some (.ref 8), some (.ref 7), some (.int (nI i))], [], σ')) (fun i σ' => sx lC σ σ' ∧ σ'.1 8 1 = nI 8 ∧ (∀ j h, j < i → (U.reverse ++ [H])[j + 1]? = some h → ar σ'.1 (10 + j) h) ∧ ∀ j h, i ≤ j → (U.reverse ++ [H])[j]? = some h → ar σ'.1 (10 + j) h) 8 ?_ ?_ 0 σ (by decide) ⟨sx.rf, by rw [c1, q], fun j h hj => absurd hj (Nat.not_lt_zero _), fun j h _ hj => c3 j h hj⟩
    · exact hl
    · rintro i σ1 hi ⟨i1, i2, i3, i4⟩ ih
      have ei : (nI i).toNatClampNeg = i := nI_clamp (by omega)
      have ei1 : (nI i + 1).toNatClampNeg = i + 1 := by rw [nI_1]; exact nI_clamp (by omega)
      refine w_x_note_11 ?_ ?_ (fun _ => by rw [nI_1]; exact okR9 (by omega)) (fun _ => okR9 (by omega)) (fun c => absurd c (nI_ge hi (by decide))) (fun _ => ?_)
      · rw [ei1, rf9 _ (by omega)]; exact row9 _ (by omega)
      · rw [ei, rf9 _ (by omega)]; exact row9 _ (by omega)
      · rw [ei, ei1, rf9 _ (by omega), rf9 _ (by omega), nI_1]
        refine ih _ ⟨i1.tr ⟨fun q hq => sy_cp_ne _ _ _ ((lC_m hq).2 i (by omega)), rfl⟩, ?_, fun j h hj hh k hk => ?_, fun j h hj hh k hk => ?_⟩
        · show sy_cp σ1.1 (10 + (i + 1)) (10 + i) 16 8 1 = _
          rw [sy_cp2, if_neg (by omega)]; exact i2
        · show sy_cp σ1.1 (10 + (i + 1)) (10 + i) 16 (10 + j) k = _
          by_cases e : j = i
          · subst e
            rw [sy_cp2, if_pos ⟨rfl, hk⟩]
            exact i4 (j + 1) h (by omega) hh k hk
          · rw [sy_cp2, if_neg (by omega)]
            exact i3 j h (by omega) hh k hk
        · show sy_cp σ1.1 (10 + (i + 1)) (10 + i) 16 (10 + j) k = _
          rw [sy_cp2, if_neg (by omega)]
          exact i4 j h (by omega) hh k hk
    · rintro σ1 ⟨i1, i2, i3, i4⟩
      have e8 : (nI 8).toNatClampNeg = 8 := rfl
      have e9 : (nI 8 + 1).toNatClampNeg = 9 := rfl
      have g : sy_E shX mX0_note (57, [some (.ref 8), some (.ref 7), none], [], σ1) Q := by
        refine fin σ1 _ rfl i1 (by rw [hVl]; exact i2) (fun i h hi => ?_)
        have hlt := (List.getElem?_eq_some_iff.mp hi).1
        rw [List.length_reverse, hVl] at hlt
        rw [hV] at hi
        exact i3 i h hlt hi
      refine sy_bk [(.iload_n 2, 0, 0, 0, 0), (.bipush 8, 0, 0, 8, 0)] (14, [some (.ref 8), some (.ref 7), some (.int (nI 8))], [.int 8, .int (nI 8)], σ1) [] (by decide +kernel) rfl trivial ?_
      refine sy_bk [(.if_icmp .ge 30, 1, 44, 0, 0)] (44, [some (.ref 8), some (.ref 7), some (.int (nI 8))], [], σ1) [sy_cc .ge (nI 8) 8] (by decide +kernel) rfl ⟨nI_le (Nat.le_refl 8) (by decide), trivial⟩ ?_
      refine sy_bk [(.goto 13, 0, 57, 0, 0)] (57, [some (.ref 8), some (.ref 7), some (.int (nI 8))], [], σ1) [] (by decide +kernel) rfl trivial ?_
      exact sy_drop [some (.ref 8), some (.ref 7), none] ⟨rfl, rfl, trivial⟩ g
theorem e_x_back {Q : Option Value → sy_S → Prop} {σ : sy_S} {H h : Nat → Nat} {U R : List (Nat → Nat)} (hl : (h :: U).length + R.length ≤ 8) (hc : cX H (h :: U) R σ.1) (kk : ∀ σ' : sy_S, sx [7, 8] σ σ' → ar σ'.1 7 h → cX h U (H :: R) σ'.1 → Q (some (.int (nI U.length))) σ') : sy_E shX mX0_back (0, sy_ent [.ref 8, .ref 7] 2, [], σ) Q := by
  obtain ⟨c1, c2, c3⟩ := hc
  rw [List.length_cons] at c1 c2 hl
  have en : σ.1 8 1 - 1 = nI U.length := by rw [c1, nI_lit1, pk_sub (by omega)]; rfl
  refine w_x_back ?_ ?_ (fun q => ?_) (fun _ => ?_) (fun q => ?_) (fun _ => ?_)
  · rw [en, nI_clamp (by omega), rf9 _ (by omega)]; exact row9 _ (by omega)
  · rw [c1, nI_clamp (by omega), rf9 _ (by omega)]; exact row9 _ (by omega)
  · rw [c1, nI_lit0, nI_leI (by omega) (by decide)] at q; omega
  · rw [en]; exact okR9 (by omega)
  · rw [c1, nI_lit0, nI_leI (by omega) (by decide)] at q; omega
  · rw [en, nI_clamp (by omega), rf9 _ (by omega)]
    have er : (h :: U).reverse ++ H :: R = U.reverse ++ h :: H :: R := by rw [List.reverse_cons, List.append_assoc]; rfl
    rw [er] at c3
    have h9 : ar σ.1 (10 + U.length) h := by
      refine c3 U.length h ?_
      rw [List.getElem?_append_right (by rw [List.length_reverse]; exact Nat.le_refl _), List.length_reverse, Nat.sub_self]; rfl
    refine kk _ ⟨fun q hq => ?_, rfl⟩ (fun j hj => ?_) ⟨?_, ?_, fun i g hi j hj => ?_⟩
    · show sy_cp (sy_up σ.1 8 1 (nI U.length)) (10 + U.length) 7 16 q = σ.1 q
      rw [sy_cp_ne _ _ _ (fun e => hq (by rw [e]; simp)), sy_up_ne _ _ _ (fun e => hq (by rw [e]; simp))]
    · show sy_cp (sy_up σ.1 8 1 (nI U.length)) (10 + U.length) 7 16 7 j = _
      rw [sy_cp2, if_pos ⟨rfl, hj⟩, sy_up2, if_neg (by omega)]
      exact h9 j hj
    · show sy_cp (sy_up σ.1 8 1 (nI U.length)) (10 + U.length) 7 16 8 1 = _
      rw [sy_cp2, if_neg (by decide), sy_up2, if_pos ⟨rfl, rfl⟩]
    · show sy_cp (sy_up σ.1 8 1 (nI U.length)) (10 + U.length) 7 16 8 2 = _
      rw [sy_cp2, if_neg (by decide), sy_up2, if_neg (by decide), c2, List.length_cons]
      congr 1; omega
    · show sy_cp (sy_up σ.1 8 1 (nI U.length)) (10 + U.length) 7 16 (10 + i) j = _
      rw [sy_cp2, if_neg (by omega), sy_up2, if_neg (by omega)]
      exact c3 i g hi j hj
theorem e_x_forth {Q : Option Value → sy_S → Prop} {σ : sy_S} {H h : Nat → Nat} {U R : List (Nat → Nat)} (hl : U.length + (h :: R).length ≤ 8) (hc : cX H U (h :: R) σ.1) (kk : ∀ σ' : sy_S, sx [7, 8] σ σ' → ar σ'.1 7 h → cX h (H :: U) R σ'.1 → Q (some (.int (nI R.length))) σ') : sy_E shX mX0_forth (0, sy_ent [.ref 8, .ref 7] 2, [], σ) Q := by
  obtain ⟨c1, c2, c3⟩ := hc
  rw [List.length_cons] at c2 hl
  have en : σ.1 8 1 + 1 = nI (U.length + 1) := by rw [c1, nI_1]
  refine w_x_forth ?_ ?_ (fun q => ?_) (fun _ => ?_) (fun q => ?_) (fun _ => ?_)
  · rw [en, nI_clamp (by omega), rf9 _ (by omega)]; exact row9 _ (by omega)
  · rw [c1, nI_clamp (by omega), rf9 _ (by omega)]; exact row9 _ (by omega)
  · rw [c1, c2, nI_leI (by omega) (by omega)] at q; omega
  · rw [en]; exact okR9 (by omega)
  · rw [c1, c2, nI_leI (by omega) (by omega)] at q; omega
  · rw [en, nI_clamp (by omega), rf9 _ (by omega), c2, pk_sub (by omega), show U.length + (R.length + 1) - (U.length + 1) = R.length by omega]
    have er : (H :: U).reverse ++ h :: R = U.reverse ++ H :: h :: R := by rw [List.reverse_cons, List.append_assoc]; rfl
    have h9 : ar σ.1 (10 + (U.length + 1)) h := by
      refine c3 (U.length + 1) h ?_
      rw [List.getElem?_append_right (by rw [List.length_reverse]; omega), List.length_reverse, show U.length + 1 - U.length = 1 by omega]; rfl
    refine kk _ ⟨fun q hq => ?_, rfl⟩ (fun j hj => ?_) ⟨?_, ?_, fun i g hi j hj => ?_⟩
    · show sy_cp (sy_up σ.1 8 1 (nI (U.length + 1))) (10 + (U.length + 1)) 7 16 q = σ.1 q
      rw [sy_cp_ne _ _ _ (fun e => hq (by rw [e]; simp)), sy_up_ne _ _ _ (fun e => hq (by rw [e]; simp))]
    · show sy_cp (sy_up σ.1 8 1 (nI (U.length + 1))) (10 + (U.length + 1)) 7 16 7 j = _
      rw [sy_cp2, if_pos ⟨rfl, hj⟩, sy_up2, if_neg (by omega)]
      exact h9 j hj
    · show sy_cp (sy_up σ.1 8 1 (nI (U.length + 1))) (10 + (U.length + 1)) 7 16 8 1 = _
      rw [sy_cp2, if_neg (by decide), sy_up2, if_pos ⟨rfl, rfl⟩]; rfl
    · show sy_cp (sy_up σ.1 8 1 (nI (U.length + 1))) (10 + (U.length + 1)) 7 16 8 2 = _
      rw [sy_cp2, if_neg (by decide), sy_up2, if_neg (by decide), c2, List.length_cons]
      congr 1; omega
    · rw [er] at hi
      show sy_cp (sy_up σ.1 8 1 (nI (U.length + 1))) (10 + (U.length + 1)) 7 16 (10 + i) j = _
      rw [sy_cp2, if_neg (by omega), sy_up2, if_neg (by omega)]
      exact c3 i g hi j hj
/-! Shelf -/
abbrev p6 : Nat → Prop := fun m => m < 6
abbrev p4 : Nat → Prop := fun m => m < 4
theorem px_in {p : Nat → Prop} {n : Nat} {x : Int32} {m : Nat} (hp : ∀ m, p m → m < n) (hn : n < 2 ^ 31) (h : px p x = some m) : vp_in x n := by
  obtain ⟨h1, h2, -⟩ := px_s h
  rw [h2]
  exact vp_in_nI (hp m h1) hn
theorem px_cut {n : Nat} {x : Int32} (hn : n < 2 ^ 31) : (x < 0 → px (fun m => m < n) x = none) ∧ (nI n ≤ x → px (fun m => m < n) x = none) ∧ (¬ x < 0 → ¬ nI n ≤ x → ∃ m, px (fun m => m < n) x = some m) := by
  refine ⟨fun h => px_no (fun m hm hp e => ?_), fun h => px_no (fun m hm hp e => ?_), fun h1 h2 => ?_⟩
  · subst e; exact absurd h (nI_pos hm)
  · subst e
    rw [nI_leI hn hm] at h
    have hp : m < n := hp
    omega
  · rcases pk_ix x hn with h | h | ⟨j, hj, rfl⟩
    · exact absurd h h1
    · exact absurd h h2
    · exact ⟨j, px_i (by omega) hj⟩
theorem e_pl_has {Q : Option Value → sy_S → Prop} {σ : sy_S} {i : Int32} (k1 : ∀ m, px p6 i = some m → Q (some (.int 1)) σ) (k0 : px p6 i = none → Q (some (.int 0)) σ) : sy_E shX mX7_has (0, sy_ent [.ref 23, .int i] 2, [], σ) Q := by
  obtain ⟨h1, h2, h3⟩ := px_cut (n := 6) (x := i) (by decide)
  exact w_pl_has (fun q => k0 (h1 q)) (fun _ q => k0 (h2 q)) (fun q q2 => (h3 q q2).elim fun m hm => k1 m hm)
theorem e_li_has {Q : Option Value → sy_S → Prop} {σ : sy_S} {i : Int32} (k1 : ∀ m, px p4 i = some m → Q (some (.int 1)) σ) (k0 : px p4 i = none → Q (some (.int 0)) σ) : sy_E shX mX7_has (0, sy_ent [.ref 32, .int i] 2, [], σ) Q := by
  obtain ⟨h1, h2, h3⟩ := px_cut (n := 4) (x := i) (by decide)
  exact w_li_has (fun q => k0 (h1 q)) (fun _ q => k0 (h2 q)) (fun q q2 => (h3 q q2).elim fun m hm => k1 m hm)
theorem e_x_isOrder {Q : Option Value → sy_S → Prop} {σ : sy_S} {o : Int32} (k1 : ∀ m, px p4 o = some m → Q (some (.int 1)) σ) (k0 : px p4 o = none → Q (some (.int 0)) σ) : sy_E shX mX11_isOrder (0, sy_ent [.int o] 1, [], σ) Q := by
  obtain ⟨h1, h2, h3⟩ := px_cut (n := 4) (x := o) (by decide)
  exact w_x_isOrder (fun q => k0 (h1 q)) (fun _ q => k0 (h2 q)) (fun q q2 => (h3 q q2).elim fun m hm => k1 m hm)
theorem sg_p16 {G : sg_G} (hG : sg_ok G) {c : Nat} (h : sg_p G c) : c < 16 := Nat.lt_of_lt_of_le h.1 (sg_n16 hG)
theorem e_x_isPl {Q : Option Value → sy_S → Prop} {σ : sy_S} {G : sg_G} {cell : Int32} (hg : gx G σ.1) (k1 : ∀ m, px (sg_p G) cell = some m → Q (some (.int 1)) σ) (k0 : px (sg_p G) cell = none → Q (some (.int 0)) σ) : sy_E shX mX3_isPlace (0, sy_ent [.ref 0, .int cell] 2, [], σ) Q := by
  refine e_x_isPlace hg (fun m e hp => k1 m ?_) (fun h => k0 (px_no fun m hm hp e => ?_))
  · subst e
    exact px_i (by have := sg_p16 hg.1 hp; omega) hp
  · exact h m (sg_p16 hg.1 hp) e hp
theorem e_x_clear {Q : Option Value → sy_S → Prop} {σ : sy_S} (kk : ∀ σ' : sy_S, sx [31] σ σ' → pX (fun _ => none) σ'.1 → Q none σ') : sy_E shX mX7_clear (0, sy_ent [.ref 23] 1, [], σ) Q := by
  refine w_pl_clear_0 (e_x_fill (n := 6) rfl (by decide) (fun σ1 h1 h2 h3 h4 => w_pl_clear_8 (kk σ1 ⟨fun q hq => h1 q (fun e => hq (by rw [e]; simp)), h4⟩ (fun i hi => h2 i hi))))
def phd (P : Nat → Option (Nat → Nat)) : Nat := ssum 6 fun i => if (P i).isSome then 1 else 0
theorem e_x_held {Q : Option Value → sy_S → Prop} {σ : sy_S} {P : Nat → Option (Nat → Nat)} (hP : pX P σ.1) (kk : Q (some (.int (nI (phd P)))) σ) : sy_E shX mX7_heldCount (0, sy_ent [.ref 23] 3, [], σ) Q := by
  refine w_pl_held_0 ?_
  have hl := sy_loop (sh := shX) (y := mX7_heldCount) (Q := Q) (fun i σ' => (4, [some (.ref 23), some (.int (nI (ssum i fun i => if (P i).isSome then 1 else 0))), some (.int (nI i))], [], σ')) (fun i σ' => σ' = σ) 6 ?_ ?_ 0 σ (by decide) rfl
  · exact hl
  · rintro i σ' hi rfl ih
    have ei : (nI i).toNatClampNeg = i := nI_clamp (by omega)
    have h := ih σ' rfl
    have h1 := hP i hi
    refine w_pl_held_4 (fun _ => vp_in_nI hi (by decide)) (fun q => absurd q (nI_ge hi (by decide))) (fun _ q => ?_) (fun _ q => ?_)
    · rw [ei] at q
      rw [nI_1]
      cases hp : P i with
      | none =>
        simp only [ssum, hp, Option.isSome_none, Bool.false_eq_true, if_false, Nat.add_zero] at h
        exact h
      | some g =>
        rw [hp] at h1
        rw [h1.1] at q
        exact absurd q (by decide)
    · rw [ei] at q
      rw [nI_1, nI_1]
      cases hp : P i with
      | none =>
        rw [hp] at h1
        rw [h1] at q
        exact absurd (by decide) q
      | some g =>
        simp only [ssum, hp, Option.isSome_some, if_true] at h
        exact h
  · rintro σ' rfl
    exact w_pl_held_4 (fun q => absurd (nI_le (Nat.le_refl 6) (by decide)) q) (fun _ => kk) (fun q => absurd (nI_le (Nat.le_refl 6) (by decide)) q) (fun q => absurd (nI_le (Nat.le_refl 6) (by decide)) q)
