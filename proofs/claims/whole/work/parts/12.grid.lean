/-! contracts of Grid.link, shape, build (by program: wip/whole/gen/p12.py) -/
theorem gx_step {G : sg_G} {f f1 f' : Nat → Nat → Int32} {m : Nat} (hk : gx_k G f m) (h7 : f1 0 7 = nI (sg_pm G (m + 1)).length) (h2 : ∀ j k, (sg_pm G (m + 1))[j]? = some k → f1 2 j = nI k) (h3 : f1 3 m = nI (sg_pm G m).length) (h3' : ∀ k, k ≠ m → f1 3 k = f 3 k) (h4 : f1 4 = f 4) (h5 : f1 5 = f 5) (hl : gx_lc f1 f' m (sg_nb G m)) : gx_k G f' (m + 1) := by
  obtain ⟨k1, k2, k3, k4, k5⟩ := hk
  obtain ⟨l1, l2, l3, l4, l5⟩ := hl
  refine ⟨?_, fun j k hj => ?_, fun k hkm => ?_, fun k hkm => ?_, fun k hkm j o hj => ?_⟩
  · rw [l1 0 (by decide) (by decide)]; exact h7
  · rw [l1 2 (by decide) (by decide)]; exact h2 j k hj
  · rw [l1 3 (by decide) (by decide)]
    rcases Nat.lt_or_ge k m with q | q
    · rw [h3' k (by omega)]; exact k3 k q
    · have e : k = m := by omega
      subst e; exact h3
  · rcases Nat.lt_or_ge k m with q | q
    · rw [l2 k (by omega), h5]; exact k4 k q
    · have e : k = m := by omega
      subst e; exact l4
  · rcases Nat.lt_or_ge k m with q | q
    · have hj4 : j < 4 := Nat.lt_of_lt_of_le (List.getElem?_eq_some_iff.mp hj).1 (sg_nb_len G k)
      rw [l3 _ (by omega), h4]; exact k5 k q j o hj
    · have e : k = m := by omega
      subst e; exact l5 j o hj
/-- what link keeps -/
def gx_lk (G : sg_G) (σ σ' : sy_S) (m : Nat) : Prop := gx_w G σ'.1 ∧ gx_k G σ'.1 m ∧ (∀ q, 6 ≤ q → σ'.1 q = σ.1 q) ∧ σ'.1 1 = σ.1 1 ∧ σ'.2 = σ.2

theorem e_x_link {Q : Option Value → sy_S → Prop} {σ : sy_S} {G : sg_G} (hG : sg_ok G) (hw : gx_w G σ.1) (k : ∀ σ' : sy_S, gx G σ'.1 → (∀ q, 6 ≤ q → σ'.1 q = σ.1 q) → σ'.1 1 = σ.1 1 → σ'.2 = σ.2 → Q none σ') : sy_E shX mX3_link (0, sy_ent [.ref 0] 4, [], σ) Q := by
  obtain ⟨hr1, hr4, hc1, hc4⟩ := id hG
  have h16 := sg_n16 hG
  have inner : ∀ i, i < G.1 → ∀ (hnext : ∀ σ' : sy_S, gx_lk G σ σ' ((i + 1) * G.2.1) → sy_E shX mX3_link (7, [some (.ref 0), some (.int (nI (i + 1))), none, none], [], σ') Q), ∀ j σ', j ≤ G.2.1 → gx_lk G σ σ' (i * G.2.1 + j) → sy_E shX mX3_link (17, [some (.ref 0), some (.int (nI i)), some (.int (nI j)), none], [], σ') Q := by
    intro i hi hnext
    refine sy_loop (fun j σ' => (17, [some (.ref 0), some (.int (nI i)), some (.int (nI j)), none], [], σ')) (fun j σ' => gx_lk G σ σ' (i * G.2.1 + j)) G.2.1 ?_ ?_
    · intro j σ' hj hI ih
      obtain ⟨i1, i2, i3, i4, i5⟩ := hI
      obtain ⟨w1, w2, w3⟩ := id i1
      obtain ⟨m, hm⟩ : ∃ m, m = i * G.2.1 + j := ⟨_, rfl⟩
      rw [← hm] at i2
      have hmn : m < sg_n G := by
        have : (i + 1) * G.2.1 ≤ G.1 * G.2.1 := Nat.mul_le_mul_right _ hi
        rw [Nat.add_mul] at this
        unfold sg_n
        omega
      have hdiv : m / G.2.1 = i := by rw [hm, Nat.mul_comm, Nat.mul_add_div (by omega), Nat.div_eq_of_lt hj]; rfl
      have hmod : m % G.2.1 = j := by rw [hm, Nat.mul_comm, Nat.mul_add_mod, Nat.mod_eq_of_lt hj]
      have ecell : nI i * σ'.1 0 6 + nI j = nI m := by rw [w2, pk_mul, nI_add, hm]
      have em : (nI m).toNatClampNeg = m := nI_clamp (by omega)
      have hpl := sg_pm_len G m
      have k7 := i2.1
      have e7 : (σ'.1 0 7).toNatClampNeg = (sg_pm G m).length := by rw [k7]; exact nI_clamp (by omega)
      have go : ∀ f1 : Nat → Nat → Int32, gx_w G f1 → f1 0 7 = nI (sg_pm G (m + 1)).length → (∀ j k, (sg_pm G (m + 1))[j]? = some k → f1 2 j = nI k) → f1 3 m = nI (sg_pm G m).length → (∀ k, k ≠ m → f1 3 k = σ'.1 3 k) → f1 4 = σ'.1 4 → f1 5 = σ'.1 5 → (∀ q, 6 ≤ q → f1 q = σ'.1 q) → f1 1 = σ'.1 1 → sy_E shX mX3_linkCell (0, sy_ent [.ref 0, .int (nI m), .int (nI i), .int (nI j)] 4, [], (f1, σ'.2)) (fun r9 σ9 => sy_E shX mX3_link (80, [some (.ref 0), some (.int (nI i)), some (.int (nI j)), none], r9.toList ++ [], σ9) Q) := by
        intro f1 g1 g2 g3 g4 g5 g6 g7 g8 g9
        have hlc := e_x_linkCell (Q := fun r9 σ9 => sy_E shX mX3_link (80, [some (.ref 0), some (.int (nI i)), some (.int (nI j)), none], r9.toList ++ [], σ9) Q) (σ := (f1, σ'.2)) hG g1 hmn (fun σ2 q q' => ?_)
        · rw [hdiv, hmod] at hlc
          exact hlc
        · refine w_x_link_80 ?_
          rw [nI_1]
          refine ih σ2 ⟨⟨?_, ?_, fun k hk => ?_⟩, ?_, fun q9 h9 => ?_, ?_, q'.trans i5⟩
          · rw [q.1 0 (by decide) (by decide)]; exact g1.1
          · rw [q.1 0 (by decide) (by decide)]; exact g1.2.1
          · rw [q.1 1 (by decide) (by decide)]; exact g1.2.2 k hk
          · rw [← Nat.add_assoc, ← hm]
            exact gx_step i2 g2 g3 g4 g5 g6 g7 q
          · rw [q.1 q9 (by omega) (by omega)]; exact (g8 q9 h9).trans (i3 q9 h9)
          · rw [q.1 1 (by decide) (by decide)]; exact g9.trans i4
      refine w_x_link_17 (fun _ => by rw [ecell]; exact vp_in_nI (by omega) (by decide)) (fun _ _ => by rw [k7]; exact vp_in_nI (by omega) (by decide)) (fun c => ?_) (fun c c2 => ?_) (fun c c2 => ?_)
      · rw [w2, nI_leI (by omega) (by omega)] at c
        exact absurd c (by omega)
      · rw [ecell, em, w3 m hmn] at c2
        have hwm : G.2.2 m = true := by cases h : G.2.2 m <;> simp_all
        rw [ecell, em]
        have es : sg_pm G (m + 1) = sg_pm G m := by rw [sg_pm_s, hwm]; simp
        refine go (sy_up σ'.1 3 m (σ'.1 0 7)) ⟨w1, w2, w3⟩ ?_ ?_ ?_ (fun k hk => ?_) rfl rfl (fun q h9 => ?_) rfl
        · rw [es]; exact k7
        · rw [es]; exact i2.2.1
        · rw [sy_up2, if_pos ⟨rfl, rfl⟩]; exact k7
        · rw [sy_up2, if_neg (by omega)]
        · exact sy_up_ne _ _ _ (by omega)
      · rw [ecell, em, w3 m hmn] at c2
        have hwm : G.2.2 m = false := by cases h : G.2.2 m <;> simp_all
        rw [ecell, em, e7]
        have es : sg_pm G (m + 1) = sg_pm G m ++ [m] := by rw [sg_pm_s, hwm]; simp
        refine go (sy_up (sy_up (sy_up σ'.1 3 m (σ'.1 0 7)) 2 (sg_pm G m).length (nI m)) 0 7 (σ'.1 0 7 + 1)) ⟨?_, ?_, w3⟩ ?_ (fun j k hj => ?_) ?_ (fun k hk => ?_) rfl rfl (fun q h9 => ?_) rfl
        · exact w1
        · exact w2
        · rw [sy_up2, if_pos ⟨rfl, rfl⟩, k7, nI_1, es, List.length_append, List.length_singleton]
        · rw [sy_up2, if_neg (by omega), sy_up2]
          rw [es, List.getElem?_append] at hj
          split at hj
          · rename_i hlt
            rw [if_neg (by omega), sy_up2, if_neg (by omega)]
            exact i2.2.1 j k hj
          · rename_i hge
            have hz : j - (sg_pm G m).length = 0 := by
              rcases Nat.eq_zero_or_pos (j - (sg_pm G m).length) with q | q
              · exact q
              · rw [List.getElem?_eq_none (by simp only [List.length_singleton]; omega)] at hj; cases hj
            rw [hz] at hj
            cases hj
            rw [if_pos ⟨rfl, by omega⟩]
        · rw [sy_up2, if_neg (by omega), sy_up2, if_neg (by omega), sy_up2, if_pos ⟨rfl, rfl⟩]; exact k7
        · rw [sy_up2, if_neg (by omega), sy_up2, if_neg (by omega), sy_up2, if_neg (by omega)]
        · rw [sy_up_ne _ _ _ (by omega), sy_up_ne _ _ _ (by omega), sy_up_ne _ _ _ (by omega)]
    · intro σ' hI
      obtain ⟨w1, w2, w3⟩ := hI.1
      refine w_x_link_17 (fun c => ?_) (fun c => ?_) (fun c => ?_) (fun c => ?_) (fun c => ?_)
      all_goals try (exact absurd (by rw [w2]; exact nI_le (Nat.le_refl _) (by omega)) c)
      rw [nI_1]
      exact hnext σ' (by rw [Nat.add_mul, Nat.one_mul]; exact hI)
  have outer : ∀ i σ', i ≤ G.1 → gx_lk G σ σ' (i * G.2.1) → sy_E shX mX3_link (7, [some (.ref 0), some (.int (nI i)), none, none], [], σ') Q := by
    refine sy_loop (fun i σ' => (7, [some (.ref 0), some (.int (nI i)), none, none], [], σ')) (fun i σ' => gx_lk G σ σ' (i * G.2.1)) G.1 ?_ ?_
    · intro i σ' hi hI ih
      have w1 := hI.1.1
      refine w_x_link_7 (fun c => ?_) (fun _ => ?_)
      · rw [w1, nI_leI (by omega) (by omega)] at c
        exact absurd c (by omega)
      · exact inner i hi (fun σ2 h2 => ih σ2 h2) 0 σ' (Nat.zero_le _) hI
    · intro σ' hI
      have w1 := hI.1.1
      refine w_x_link_7 (fun _ => ?_) (fun c => absurd (by rw [w1]; exact nI_le (Nat.le_refl _) (by omega)) c)
      exact k σ' ⟨hG, hI.1, hI.2.1⟩ hI.2.2.1 hI.2.2.2.1 hI.2.2.2.2
  refine w_x_link_0 ?_
  refine outer 0 _ (Nat.zero_le _) ⟨⟨hw.1, hw.2.1, hw.2.2⟩, ?_, fun q h9 => ?_, rfl, rfl⟩
  · rw [Nat.zero_mul]
    refine ⟨?_, fun j k hj => ?_, fun k hk => absurd hk (Nat.not_lt_zero _), fun k hk => absurd hk (Nat.not_lt_zero _), fun k hk => absurd hk (Nat.not_lt_zero _)⟩
    · show sy_up σ.1 0 7 0 0 7 = _
      rw [sy_up2, if_pos ⟨rfl, rfl⟩]; rfl
    · simp [sg_pm] at hj
  · exact sy_up_ne _ _ _ (by omega)
theorem e_x_shape {Q : Option Value → sy_S → Prop} {σ : sy_S} {r c : Nat} (hG : sg_ok (r, c, fun _ => false)) (k : ∀ σ' : sy_S, gx (r, c, fun _ => false) σ'.1 → (∀ q, 6 ≤ q → σ'.1 q = σ.1 q) → σ'.2 = σ.2 → Q none σ') : sy_E shX mX3_shape (0, sy_ent [.ref 0, .int (nI r), .int (nI c)] 3, [], σ) Q := by
  refine w_x_shape_0 ?_
  refine e_x_fill (n := 16) rfl (by decide) (fun σ1 h1 h2 h3 h4 => ?_)
  refine w_x_shape_18 ?_
  refine e_x_link (G := (r, c, fun _ => false)) hG ⟨?_, ?_, fun j hj => ?_⟩ (fun σ2 g1 g2 g3 g4 => ?_)
  · rw [h1 0 (by decide)]; rfl
  · rw [h1 0 (by decide)]; rfl
  · rw [h2 j (Nat.lt_of_lt_of_le hj (sg_n16 hG))]; rfl
  · refine w_x_shape_22 ?_
    refine k σ2 g1 (fun q hq => ?_) (g4.trans h4)
    rw [g2 q hq, h1 q (by omega)]
    show sy_up (sy_up σ.1 0 5 (nI r)) 0 6 (nI c) q = σ.1 q
    rw [sy_up_ne _ _ _ (by omega), sy_up_ne _ _ _ (by omega)]

theorem e_g_link {Q : Option Value → sy_S → Prop} {σ : sy_S} {G : sg_G} (hG : sg_ok G) (hw : gx_w G σ.1) (k : ∀ σ' : sy_S, gx G σ'.1 → (∀ q, 6 ≤ q → σ'.1 q = σ.1 q) → σ'.1 1 = σ.1 1 → σ'.2 = σ.2 → Q none σ') : sy_E shG mX3_link (0, sy_ent [.ref 0] 4, [], σ) Q := by
  obtain ⟨hr1, hr4, hc1, hc4⟩ := id hG
  have h16 := sg_n16 hG
  have inner : ∀ i, i < G.1 → ∀ (hnext : ∀ σ' : sy_S, gx_lk G σ σ' ((i + 1) * G.2.1) → sy_E shG mX3_link (7, [some (.ref 0), some (.int (nI (i + 1))), none, none], [], σ') Q), ∀ j σ', j ≤ G.2.1 → gx_lk G σ σ' (i * G.2.1 + j) → sy_E shG mX3_link (17, [some (.ref 0), some (.int (nI i)), some (.int (nI j)), none], [], σ') Q := by
    intro i hi hnext
    refine sy_loop (fun j σ' => (17, [some (.ref 0), some (.int (nI i)), some (.int (nI j)), none], [], σ')) (fun j σ' => gx_lk G σ σ' (i * G.2.1 + j)) G.2.1 ?_ ?_
    · intro j σ' hj hI ih
      obtain ⟨i1, i2, i3, i4, i5⟩ := hI
      obtain ⟨w1, w2, w3⟩ := id i1
      obtain ⟨m, hm⟩ : ∃ m, m = i * G.2.1 + j := ⟨_, rfl⟩
      rw [← hm] at i2
      have hmn : m < sg_n G := by
        have : (i + 1) * G.2.1 ≤ G.1 * G.2.1 := Nat.mul_le_mul_right _ hi
        rw [Nat.add_mul] at this
        unfold sg_n
        omega
      have hdiv : m / G.2.1 = i := by rw [hm, Nat.mul_comm, Nat.mul_add_div (by omega), Nat.div_eq_of_lt hj]; rfl
      have hmod : m % G.2.1 = j := by rw [hm, Nat.mul_comm, Nat.mul_add_mod, Nat.mod_eq_of_lt hj]
      have ecell : nI i * σ'.1 0 6 + nI j = nI m := by rw [w2, pk_mul, nI_add, hm]
      have em : (nI m).toNatClampNeg = m := nI_clamp (by omega)
      have hpl := sg_pm_len G m
      have k7 := i2.1
      have e7 : (σ'.1 0 7).toNatClampNeg = (sg_pm G m).length := by rw [k7]; exact nI_clamp (by omega)
      have go : ∀ f1 : Nat → Nat → Int32, gx_w G f1 → f1 0 7 = nI (sg_pm G (m + 1)).length → (∀ j k, (sg_pm G (m + 1))[j]? = some k → f1 2 j = nI k) → f1 3 m = nI (sg_pm G m).length → (∀ k, k ≠ m → f1 3 k = σ'.1 3 k) → f1 4 = σ'.1 4 → f1 5 = σ'.1 5 → (∀ q, 6 ≤ q → f1 q = σ'.1 q) → f1 1 = σ'.1 1 → sy_E shG mX3_linkCell (0, sy_ent [.ref 0, .int (nI m), .int (nI i), .int (nI j)] 4, [], (f1, σ'.2)) (fun r9 σ9 => sy_E shG mX3_link (80, [some (.ref 0), some (.int (nI i)), some (.int (nI j)), none], r9.toList ++ [], σ9) Q) := by
        intro f1 g1 g2 g3 g4 g5 g6 g7 g8 g9
        have hlc := e_g_linkCell (Q := fun r9 σ9 => sy_E shG mX3_link (80, [some (.ref 0), some (.int (nI i)), some (.int (nI j)), none], r9.toList ++ [], σ9) Q) (σ := (f1, σ'.2)) hG g1 hmn (fun σ2 q q' => ?_)
        · rw [hdiv, hmod] at hlc
          exact hlc
        · refine w_g_link_80 ?_
          rw [nI_1]
          refine ih σ2 ⟨⟨?_, ?_, fun k hk => ?_⟩, ?_, fun q9 h9 => ?_, ?_, q'.trans i5⟩
          · rw [q.1 0 (by decide) (by decide)]; exact g1.1
          · rw [q.1 0 (by decide) (by decide)]; exact g1.2.1
          · rw [q.1 1 (by decide) (by decide)]; exact g1.2.2 k hk
          · rw [← Nat.add_assoc, ← hm]
            exact gx_step i2 g2 g3 g4 g5 g6 g7 q
          · rw [q.1 q9 (by omega) (by omega)]; exact (g8 q9 h9).trans (i3 q9 h9)
          · rw [q.1 1 (by decide) (by decide)]; exact g9.trans i4
      refine w_g_link_17 (fun _ => by rw [ecell]; exact vp_in_nI (by omega) (by decide)) (fun _ _ => by rw [k7]; exact vp_in_nI (by omega) (by decide)) (fun c => ?_) (fun c c2 => ?_) (fun c c2 => ?_)
      · rw [w2, nI_leI (by omega) (by omega)] at c
        exact absurd c (by omega)
      · rw [ecell, em, w3 m hmn] at c2
        have hwm : G.2.2 m = true := by cases h : G.2.2 m <;> simp_all
        rw [ecell, em]
        have es : sg_pm G (m + 1) = sg_pm G m := by rw [sg_pm_s, hwm]; simp
        refine go (sy_up σ'.1 3 m (σ'.1 0 7)) ⟨w1, w2, w3⟩ ?_ ?_ ?_ (fun k hk => ?_) rfl rfl (fun q h9 => ?_) rfl
        · rw [es]; exact k7
        · rw [es]; exact i2.2.1
        · rw [sy_up2, if_pos ⟨rfl, rfl⟩]; exact k7
        · rw [sy_up2, if_neg (by omega)]
        · exact sy_up_ne _ _ _ (by omega)
      · rw [ecell, em, w3 m hmn] at c2
        have hwm : G.2.2 m = false := by cases h : G.2.2 m <;> simp_all
        rw [ecell, em, e7]
        have es : sg_pm G (m + 1) = sg_pm G m ++ [m] := by rw [sg_pm_s, hwm]; simp
        refine go (sy_up (sy_up (sy_up σ'.1 3 m (σ'.1 0 7)) 2 (sg_pm G m).length (nI m)) 0 7 (σ'.1 0 7 + 1)) ⟨?_, ?_, w3⟩ ?_ (fun j k hj => ?_) ?_ (fun k hk => ?_) rfl rfl (fun q h9 => ?_) rfl
        · exact w1
        · exact w2
        · rw [sy_up2, if_pos ⟨rfl, rfl⟩, k7, nI_1, es, List.length_append, List.length_singleton]
        · rw [sy_up2, if_neg (by omega), sy_up2]
          rw [es, List.getElem?_append] at hj
          split at hj
          · rename_i hlt
            rw [if_neg (by omega), sy_up2, if_neg (by omega)]
            exact i2.2.1 j k hj
          · rename_i hge
            have hz : j - (sg_pm G m).length = 0 := by
              rcases Nat.eq_zero_or_pos (j - (sg_pm G m).length) with q | q
              · exact q
              · rw [List.getElem?_eq_none (by simp only [List.length_singleton]; omega)] at hj; cases hj
            rw [hz] at hj
            cases hj
            rw [if_pos ⟨rfl, by omega⟩]
        · rw [sy_up2, if_neg (by omega), sy_up2, if_neg (by omega), sy_up2, if_pos ⟨rfl, rfl⟩]; exact k7
        · rw [sy_up2, if_neg (by omega), sy_up2, if_neg (by omega), sy_up2, if_neg (by omega)]
        · rw [sy_up_ne _ _ _ (by omega), sy_up_ne _ _ _ (by omega), sy_up_ne _ _ _ (by omega)]
    · intro σ' hI
      obtain ⟨w1, w2, w3⟩ := hI.1
      refine w_g_link_17 (fun c => ?_) (fun c => ?_) (fun c => ?_) (fun c => ?_) (fun c => ?_)
      all_goals try (exact absurd (by rw [w2]; exact nI_le (Nat.le_refl _) (by omega)) c)
      rw [nI_1]
      exact hnext σ' (by rw [Nat.add_mul, Nat.one_mul]; exact hI)
  have outer : ∀ i σ', i ≤ G.1 → gx_lk G σ σ' (i * G.2.1) → sy_E shG mX3_link (7, [some (.ref 0), some (.int (nI i)), none, none], [], σ') Q := by
    refine sy_loop (fun i σ' => (7, [some (.ref 0), some (.int (nI i)), none, none], [], σ')) (fun i σ' => gx_lk G σ σ' (i * G.2.1)) G.1 ?_ ?_
    · intro i σ' hi hI ih
      have w1 := hI.1.1
      refine w_g_link_7 (fun c => ?_) (fun _ => ?_)
      · rw [w1, nI_leI (by omega) (by omega)] at c
        exact absurd c (by omega)
      · exact inner i hi (fun σ2 h2 => ih σ2 h2) 0 σ' (Nat.zero_le _) hI
    · intro σ' hI
      have w1 := hI.1.1
      refine w_g_link_7 (fun _ => ?_) (fun c => absurd (by rw [w1]; exact nI_le (Nat.le_refl _) (by omega)) c)
      exact k σ' ⟨hG, hI.1, hI.2.1⟩ hI.2.2.1 hI.2.2.2.1 hI.2.2.2.2
  refine w_g_link_0 ?_
  refine outer 0 _ (Nat.zero_le _) ⟨⟨hw.1, hw.2.1, hw.2.2⟩, ?_, fun q h9 => ?_, rfl, rfl⟩
  · rw [Nat.zero_mul]
    refine ⟨?_, fun j k hj => ?_, fun k hk => absurd hk (Nat.not_lt_zero _), fun k hk => absurd hk (Nat.not_lt_zero _), fun k hk => absurd hk (Nat.not_lt_zero _)⟩
    · show sy_up σ.1 0 7 0 0 7 = _
      rw [sy_up2, if_pos ⟨rfl, rfl⟩]; rfl
    · simp [sg_pm] at hj
  · exact sy_up_ne _ _ _ (by omega)
theorem e_g_shape {Q : Option Value → sy_S → Prop} {σ : sy_S} {r c : Nat} (hG : sg_ok (r, c, fun _ => false)) (k : ∀ σ' : sy_S, gx (r, c, fun _ => false) σ'.1 → (∀ q, 6 ≤ q → σ'.1 q = σ.1 q) → σ'.2 = σ.2 → Q none σ') : sy_E shG mX3_shape (0, sy_ent [.ref 0, .int (nI r), .int (nI c)] 3, [], σ) Q := by
  refine w_g_shape_0 ?_
  refine e_g_fill (n := 16) rfl (by decide) (fun σ1 h1 h2 h3 h4 => ?_)
  refine w_g_shape_18 ?_
  refine e_g_link (G := (r, c, fun _ => false)) hG ⟨?_, ?_, fun j hj => ?_⟩ (fun σ2 g1 g2 g3 g4 => ?_)
  · rw [h1 0 (by decide)]; rfl
  · rw [h1 0 (by decide)]; rfl
  · rw [h2 j (Nat.lt_of_lt_of_le hj (sg_n16 hG))]; rfl
  · refine w_g_shape_22 ?_
    refine k σ2 g1 (fun q hq => ?_) (g4.trans h4)
    rw [g2 q hq, h1 q (by omega)]
    show sy_up (sy_up σ.1 0 5 (nI r)) 0 6 (nI c) q = σ.1 q
    rw [sy_up_ne _ _ _ (by omega), sy_up_ne _ _ _ (by omega)]

theorem e_x_build {Q : Option Value → sy_S → Prop} {σ : sy_S} {G : sg_G} {m : Nat} {is : Int32} (b : Bool) (hb : is = if b then 1 else 0) (hg : gx G σ.1) (hm : m < sg_n G) (k : ∀ σ' : sy_S, gx (G.1, G.2.1, fun j => if j = m then b else G.2.2 j) σ'.1 → (∀ q, 6 ≤ q → σ'.1 q = σ.1 q) → σ'.2 = σ.2 → Q none σ') : sy_E shX mX3_build (0, sy_ent [.ref 0, .int (nI m), .int is] 3, [], σ) Q := by
  have h16 := sg_n16 hg.1
  have em : (nI m).toNatClampNeg = m := nI_clamp (by omega)
  have go : ∀ v : Int32, (v = if b then 1 else 0) → sy_E shX mX3_link (0, sy_ent [.ref 0] 4, [], (sy_up σ.1 1 m v, σ.2)) (fun r9 σ9 => sy_E shX mX3_build (19, [none, none, none], r9.toList ++ [], σ9) Q) := by
    intro v hv
    refine e_x_link (G := (G.1, G.2.1, fun j => if j = m then b else G.2.2 j)) hg.1 ⟨hg.2.1.1, hg.2.1.2.1, fun j hj => ?_⟩ (fun σ2 g1 g2 g3 g4 => ?_)
    · show sy_up σ.1 1 m v 1 j = _
      rw [sy_up2]
      by_cases q : j = m
      · subst q
        rw [if_pos ⟨rfl, rfl⟩, hv]
        simp
      · rw [if_neg (by omega), hg.2.1.2.2 j hj]
        simp [q]
    · refine w_x_build_19 ?_
      refine k σ2 g1 (fun q hq => ?_) g4
      rw [g2 q hq]
      exact sy_up_ne _ _ _ (by omega)
  refine w_x_build_0 (fun _ => vp_in_nI (by omega) (by decide)) (fun _ => vp_in_nI (by omega) (by decide)) (fun c => ?_) (fun c => ?_)
  · rw [em]
    refine go 0 ?_
    rw [← hb, c]
  · rw [em]
    refine go 1 ?_
    cases b with
    | true => rfl
    | false => exact absurd hb c
