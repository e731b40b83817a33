/-! the model's toppling: contracts -/
theorem sg_lost_ad {G : sg_G} {u : Nat → Nat} {c t : Nat} (hc : sg_p G c) : sg_lost G (sg_ad u c t) = sg_lost G u + t * (4 - (sg_nb G c).length) := by
  unfold sg_lost sg_sum
  have e : t * (4 - (sg_nb G c).length) = ssum (sg_n G) (fun j => if j = c then t * (4 - (sg_nb G c).length) else 0) := by rw [ssum_one, if_pos hc.1]
  rw [e, ← ssum_add]
  apply ssum_congr
  intro j hj
  by_cases q : j = c
  · subst q
    simp only [hc.2, Bool.false_eq_true, if_false, if_true, sg_ad, Nat.add_mul]
  · simp only [if_neg q, sg_ad, Nat.add_zero]
theorem sg_lost_0 (G : sg_G) : sg_lost G (fun _ => 0) = 0 := by
  unfold sg_lost sg_sum
  rw [ssum_congr (g := fun _ => 0) (fun j _ => by simp), ssum_zero]
theorem gm_nb {G : sg_G} {f : Nat → Nat → Int32} (h : gm G f) {c : Nat} (hc : c < sg_n G) : f 4 c = nI (sg_nb G c).length ∧ ∀ j o, (sg_nb G c)[j]? = some o → f 3 (4 * c + j) = nI o := ⟨h.2.2.1 c hc, h.2.2.2 c hc⟩
/-- a row that topplings may be made on -/
def rowM (k : Nat) : Prop := shM[k]? = some (0, 16, []) ∧ k ≠ 0 ∧ k ≠ 1 ∧ k ≠ 3 ∧ k ≠ 4 ∧ k ≠ 5 ∧ k ≠ 6
theorem e_m_topples {Q : Option Value → sy_S → Prop} {σ : sy_S} {G : sg_G} {k c t lo : Nat} {H u : Nat → Nat} (hk : rowM k) (hg : gm G σ.1) (hH : ar σ.1 k H) (hu : ar σ.1 5 u) (hlo : σ.1 0 7 = nI lo) (hc : sg_p G c) (ht : 4 * t ≤ H c) (kk : ∀ σ' : sy_S, sm [k, 5] [7] σ σ' → ar σ'.1 k (sg_tp G H c t) → ar σ'.1 5 (sg_ad u c t) → σ'.1 0 7 = nI (lo + t * (4 - (sg_nb G c).length)) → Q none σ') : sy_E shM mX12_topples (0, sy_ent [.ref 0, .ref k, .int (nI c), .int (nI t)] 5, [], σ) Q := by
  obtain ⟨hz, k0, k1, k3, k4, k5, k6⟩ := hk
  have h16 := sg_n16 hg.1
  have hc16 : c < 16 := Nat.lt_of_lt_of_le hc.1 h16
  have ec : (nI c).toNatClampNeg = c := nI_clamp (by omega)
  obtain ⟨n1, n2⟩ := gm_nb hg hc.1
  have hlen := sg_nb_len G c
  have hnd := sg_nb_nodup hg.1 hc.1
  refine w_m_topples_0 hz (vp_in_nI hc16 (by decide)) ?_
  rw [ec, hH c hc16, nI_lit4, pk_mul, pk_sub ht]
  have hl := sy_loop (sh := shM) (y := mX12_topples) (Q := Q) (fun i σ' => (12, [some (.ref 0), some (.ref k), some (.int (nI c)), some (.int (nI t)), some (.int (nI i))], [], σ')) (fun i σ' => sm [k] [] σ σ' ∧ ar σ'.1 k (fun j => (if j = c then H j - 4 * t else H j) + if j ∈ (sg_nb G c).take i then t else 0)) (sg_nb G c).length ?_ ?_ 0 (sy_up σ.1 k c (nI (H c - 4 * t)), σ.2) (Nat.zero_le _) ⟨sm.up (List.mem_singleton.mpr rfl) k0, ?_⟩
  · exact hl
  · intro i σ' hi hI ih
    obtain ⟨i1, i2⟩ := hI
    obtain ⟨o, ho⟩ : ∃ o, (sg_nb G c)[i]? = some o := ⟨_, List.getElem?_eq_getElem hi⟩
    have hop := sg_nb_p hg.1 hc.1 (List.mem_of_getElem? ho)
    have ho16 : o < 16 := Nat.lt_of_lt_of_le hop.1.1 h16
    have e3 : σ'.1 3 (4 * c + i) = nI o := by rw [i1.1 3 (by decide) (by simp; omega)]; exact n2 i o ho
    have e4 : σ'.1 4 c = nI (sg_nb G c).length := by rw [i1.1 4 (by decide) (by simp; omega)]; exact n1
    have ei : 4 * nI c + nI i = nI (4 * c + i) := by rw [nI_lit4, pk_mul, nI_add]
    have ei2 : (nI (4 * c + i)).toNatClampNeg = 4 * c + i := nI_clamp (by omega)
    have eo : (nI o).toNatClampNeg = o := nI_clamp (by omega)
    have hts : (sg_nb G c).take (i + 1) = (sg_nb G c).take i ++ [o] := by rw [List.take_succ, ho]; rfl
    have hno : o ∉ (sg_nb G c).take i := by
      have h := List.Nodup.sublist (List.take_sublist (i + 1) (sg_nb G c)) hnd
      rw [hts, List.nodup_append] at h
      exact fun q => h.2.2 o q o (List.mem_singleton.mpr rfl) rfl
    refine w_m_topples_12 hz (vp_in_nI hc16 (by decide)) (fun _ => ?_) (fun _ => ?_) (fun q => ?_) (fun _ => ?_)
    · rw [ei]; exact vp_in_nI (by omega) (by decide)
    · rw [ei, ei2, e3]; exact vp_in_nI ho16 (by decide)
    · rw [ec, e4] at q; exact absurd q (nI_ge hi (by omega))
    · rw [ei, ei2, e3, eo, nI_1, i2 o ho16, nI_add]
      refine ih _ ⟨i1.tr (sm.up (List.mem_singleton.mpr rfl) k0), fun j hj => ?_⟩
      show sy_up σ'.1 k o _ k j = _
      rw [sy_up2, hts]
      by_cases e : j = o
      · subst e
        rw [if_pos ⟨rfl, rfl⟩]
        congr 1
        dsimp only
        rw [if_neg hno, if_pos (List.mem_append_right _ (List.mem_singleton.mpr rfl))]
        omega
      · rw [if_neg (fun q => e q.2), i2 j hj]
        congr 1
        dsimp only
        by_cases m : j ∈ (sg_nb G c).take i
        · rw [if_pos m, if_pos (List.mem_append_left _ m)]
        · rw [if_neg m, if_neg (fun q => (List.mem_append.mp q).elim m (fun q => e (List.mem_singleton.mp q)))]
  · intro σ' hI
    obtain ⟨i1, i2⟩ := hI
    have e4 : σ'.1 4 c = nI (sg_nb G c).length := by rw [i1.1 4 (by decide) (by simp; omega)]; exact n1
    have e5 : ∀ j, j < 16 → σ'.1 5 j = nI (u j) := fun j hj => by rw [i1.1 5 (by decide) (by simp; omega)]; exact hu j hj
    have e7 : σ'.1 0 7 = nI lo := by rw [i1.2.1 7 (by simp)]; exact hlo
    refine w_m_topples_12 hz (vp_in_nI hc16 (by decide)) (fun q => ?_) (fun q => ?_) (fun _ => ?_) (fun q => ?_)
    · exact absurd (by rw [ec, e4]; exact nI_le (Nat.le_refl _) (by omega)) q
    · exact absurd (by rw [ec, e4]; exact nI_le (Nat.le_refl _) (by omega)) q
    · rw [List.take_length] at i2
      rw [ec, e4, e5 c hc16, e7, nI_lit4, pk_sub hlen, pk_mul, nI_add, nI_add]
      refine kk _ (((i1.mono (by simp) (by simp)).tr (σ'' := (sy_up σ'.1 5 c (nI (u c + t)), σ'.2)) (sm.up (by simp) (by decide))).tr (sm.fu (by simp))) (fun j hj => ?_) (fun j hj => ?_) ?_
      · show sy_up (sy_up σ'.1 5 c (nI (u c + t))) 0 7 (nI (lo + t * (4 - (sg_nb G c).length))) k j = _
        rw [sy_up_ne _ _ _ k0, sy_up_ne _ _ _ k5]
        exact i2 j hj
      · show sy_up (sy_up σ'.1 5 c (nI (u c + t))) 0 7 (nI (lo + t * (4 - (sg_nb G c).length))) 5 j = _
        rw [sy_up_ne _ _ _ (by decide), sy_up2]
        unfold sg_ad
        by_cases e : j = c
        · subst e; rw [if_pos ⟨rfl, rfl⟩, if_pos rfl]
        · rw [if_neg (fun q => e q.2), if_neg e]; exact e5 j hj
      · show sy_up (sy_up σ'.1 5 c (nI (u c + t))) 0 7 (nI (lo + t * (4 - (sg_nb G c).length))) 0 7 = _
        rw [sy_up2, if_pos ⟨rfl, rfl⟩]
    · exact absurd (by rw [ec, e4]; exact nI_le (Nat.le_refl _) (by omega)) q
  · intro j hj
    show sy_up σ.1 k c (nI (H c - 4 * t)) k j = nI ((if j = c then H j - 4 * t else H j) + if j ∈ (sg_nb G c).take 0 then t else 0)
    rw [sy_up2, List.take_zero, if_neg List.not_mem_nil, Nat.add_zero]
    by_cases e : j = c
    · subst e
      rw [if_pos ⟨rfl, rfl⟩, if_pos rfl]
    · rw [if_neg (fun q => e q.2), if_neg e]
      exact hH j hj
theorem e_m_may {Q : Option Value → sy_S → Prop} {σ : sy_S} {G : sg_G} {k c : Nat} {H : Nat → Nat} (hk : shM[k]? = some (0, 16, [])) (hg : gm G σ.1) (hH : ar σ.1 k H) (hc : c < sg_n G) (hB : H c < 2 ^ 31) (k1 : rdy G H c = true → Q (some (.int 1)) σ) (k0 : rdy G H c = false → Q (some (.int 0)) σ) : sy_E shM mX12_may (0, sy_ent [.ref 0, .ref k, .int (nI c)] 3, [], σ) Q := by
  have h16 := sg_n16 hg.1
  have ec : (nI c).toNatClampNeg = c := nI_clamp (by omega)
  refine w_m_may hk (vp_in_nI (by omega) (by decide)) (fun q => k0 ?_) (fun q q2 => k0 ?_) (fun q q2 => k1 ?_)
  · rw [ec, hg.2.1.2.2 c hc] at q
    have : G.2.2 c = true := by cases h : G.2.2 c <;> simp_all
    unfold rdy
    rw [this]
    simp
  · rw [ec, hH c (by omega), nI_lit4, nI_ltI hB (by decide)] at q2
    unfold rdy
    rw [decide_eq_false (show ¬ 3 < H c by omega)]
    simp
  · rw [ec, hg.2.1.2.2 c hc] at q
    rw [ec, hH c (by omega), nI_lit4, nI_ltI hB (by decide)] at q2
    refine rdy_iff.mpr ⟨⟨hc, ?_⟩, by omega⟩
    cases h : G.2.2 c <;> simp_all
theorem e_m_isStable {Q : Option Value → sy_S → Prop} {σ : sy_S} {G : sg_G} {k : Nat} {H : Nat → Nat} (hk : shM[k]? = some (0, 16, [])) (hg : gm G σ.1) (hH : ar σ.1 k H) (hB : ∀ j, j < 16 → H j < 2 ^ 31) (k1 : (∀ c, sg_p G c → H c ≤ 3) → Q (some (.int 1)) σ) (k0 : (∃ c, sg_p G c ∧ 3 < H c) → Q (some (.int 0)) σ) : sy_E shM mX12_isStable (0, sy_ent [.ref 0, .ref k] 4, [], σ) Q := by
  have h16 := sg_n16 hg.1
  have ecl := gm_cells hg.2.1
  refine w_m_isStable_0 hk ?_
  have key : ∀ (d i : Nat) (s : Int32), i + d = sg_n G → ((s = 1 ∧ ∀ j, j < i → rdy G H j = false) ∨ (s = 0 ∧ ∃ j, j < i ∧ rdy G H j = true)) → sy_E shM mX12_isStable (4, [some (.ref 0), some (.ref k), some (.int s), some (.int (nI i))], [], σ) Q := by
    intro d
    induction d with
    | zero =>
      intro i s hi hs
      have e : i = sg_n G := hi
      subst e
      refine w_m_isStable_4 hk (fun _ => ?_) (fun _ => ?_) (fun q => ?_)
      · rcases hs with ⟨a, -⟩ | ⟨a, -⟩
        · exact Or.inr a
        · exact Or.inl a
      · rcases hs with ⟨rfl, b⟩ | ⟨rfl, j, b, c⟩
        · refine k1 (fun c hc => ?_)
          have := b c hc.1
          rcases Nat.lt_or_ge 3 (H c) with z | z
          · rw [rdy_iff.mpr ⟨hc, z⟩] at this; cases this
          · exact z
        · exact k0 ⟨j, rdy_iff.mp c⟩
      · exact absurd (by rw [ecl]; exact nI_le (Nat.le_refl _) (by omega)) q
    | succ d ih =>
      intro i s hi hs
      refine w_m_isStable_4 hk (fun q => ?_) (fun q => ?_) (fun _ => ?_)
      · rw [ecl] at q; exact absurd q (nI_ge (show i < sg_n G by omega) (by omega))
      · rw [ecl] at q; exact absurd q (nI_ge (show i < sg_n G by omega) (by omega))
      · refine e_m_may hk hg hH (by omega) (hB i (by omega)) (fun q => ?_) (fun q => ?_)
        · refine w_m_isStable_19 hk (fun _ => ?_) (fun z => absurd (by decide) z)
          rw [nI_1]
          refine ih (i + 1) (s &&& 0) (by omega) (Or.inr ⟨?_, i, by omega, q⟩)
          rcases hs with ⟨rfl, -⟩ | ⟨rfl, -⟩ <;> decide
        · refine w_m_isStable_19 hk (fun z => absurd rfl z) (fun _ => ?_)
          rw [nI_1]
          refine ih (i + 1) (s &&& 1) (by omega) ?_
          rcases hs with ⟨rfl, b⟩ | ⟨rfl, j, b, c⟩
          · left
            refine ⟨by decide, fun j hj => ?_⟩
            by_cases e : j = i
            · subst e; exact q
            · exact b j (by omega)
          · exact Or.inr ⟨by decide, j, by omega, c⟩
  exact key (sg_n G) 0 1 (by omega) (Or.inl ⟨rfl, fun j hj => absurd hj (Nat.not_lt_zero _)⟩)
theorem e_m_begins {Q : Option Value → sy_S → Prop} {σ : sy_S} (kk : ∀ σ' : sy_S, sm [5] [7] σ σ' → ar σ'.1 5 (fun _ => 0) → σ'.1 0 7 = nI 0 → Q none σ') : sy_E shM mX12_begins (0, sy_ent [.ref 0] 2, [], σ) Q := by
  refine w_m_begins_0 ?_
  have hl := sy_loop (sh := shM) (y := mX12_begins) (Q := Q) (fun i σ' => (7, [some (.ref 0), some (.int (nI i))], [], σ')) (fun i σ' => sm [5] [7] σ σ' ∧ (∀ j, j < i → σ'.1 5 j = nI 0) ∧ σ'.1 0 7 = nI 0) 16 ?_ ?_ 0 (sy_up σ.1 0 7 0, σ.2) (by decide) ⟨sm.fu (by simp), fun j hj => absurd hj (Nat.not_lt_zero _), by show sy_up σ.1 0 7 0 0 7 = _; rw [sy_up2, if_pos ⟨rfl, rfl⟩]; rfl⟩
  · exact hl
  · rintro i σ' hi ⟨i1, i2, i3⟩ ih
    have ei : (nI i).toNatClampNeg = i := nI_clamp (by omega)
    refine w_m_begins_7 (fun _ => vp_in_nI hi (by decide)) (fun q => absurd q (nI_ge hi (by decide))) (fun _ => ?_)
    rw [ei, nI_1]
    refine ih _ ⟨i1.tr (sm.up (by simp) (by decide)), fun j hj => ?_, ?_⟩
    · show sy_up σ'.1 5 i 0 5 j = _
      rw [sy_up2]
      by_cases e : j = i
      · rw [if_pos ⟨rfl, e⟩]; rfl
      · rw [if_neg (fun q => e q.2)]; exact i2 j (by omega)
    · show sy_up σ'.1 5 i 0 0 7 = _
      rw [sy_up_ne _ _ _ (by decide)]; exact i3
  · rintro σ' ⟨i1, i2, i3⟩
    exact w_m_begins_7 (fun q => absurd (nI_le (Nat.le_refl 16) (by decide)) q) (fun _ => kk σ' i1 i2 i3) (fun q => absurd (nI_le (Nat.le_refl 16) (by decide)) q)
theorem e_m_size {Q : Option Value → sy_S → Prop} {σ : sy_S} {u : Nat → Nat} (hu : ar σ.1 5 u) (kk : Q (some (.int (nI (ssum 16 u)))) σ) : sy_E shM mX12_sizeCounted (0, sy_ent [.ref 0] 3, [], σ) Q := by
  refine w_m_size_0 ?_
  have hl := sy_loop (sh := shM) (y := mX12_sizeCounted) (Q := Q) (fun i σ' => (4, [some (.ref 0), some (.int (nI (ssum i u))), some (.int (nI i))], [], σ')) (fun i σ' => σ' = σ) 16 ?_ ?_ 0 σ (by decide) rfl
  · exact hl
  · rintro i σ' hi rfl ih
    have ei : (nI i).toNatClampNeg = i := nI_clamp (by omega)
    refine w_m_size_4 (fun _ => vp_in_nI hi (by decide)) (fun q => absurd q (nI_ge hi (by decide))) (fun _ => ?_)
    rw [ei, hu i hi, nI_add, nI_1]
    exact ih σ' rfl
  · rintro σ' rfl
    exact w_m_size_4 (fun q => absurd (nI_le (Nat.le_refl 16) (by decide)) q) (fun _ => kk) (fun q => absurd (nI_le (Nat.le_refl 16) (by decide)) q)
/-- where the model's toppling of the row k stands -/
def fm (G : sg_G) (k : Nat) (h u H : Nat → Nat) (f : Nat → Nat → Int32) : Prop := gm G f ∧ sg_rc G h u H ∧ ar f k H ∧ ar f 5 u ∧ f 0 7 = nI (sg_lost G u)
theorem e_m_settles {Q : Option Value → sy_S → Prop} {σ : sy_S} {G : sg_G} {k : Nat} {h : Nat → Nat} (hk : rowM k) (hg : gm G σ.1) (hh : ar σ.1 k h) (hB : ∀ j, j < 16 → h j ≤ 10000) (kk : ∀ (σ' : sy_S) (u H : Nat → Nat), sm [k, 5] [7] σ σ' → sg_rc G h u H → (∀ c, sg_p G c → H c ≤ 3) → ar σ'.1 k H → ar σ'.1 5 u → σ'.1 0 7 = nI (sg_lost G u) → Q (some (.int (nI (ssum 16 u)))) σ') : sy_E shM mX12_settles (0, sy_ent [.ref 0, .ref k] 3, [], σ) Q := by
  obtain ⟨hz, k0, k1, k3, k4, k5, k6⟩ := id hk
  have hG := hg.1
  have h16 := sg_n16 hG
  have bH : ∀ {u H : Nat → Nat}, sg_rc G h u H → ∀ j, j < 16 → H j < 2 ^ 31 := fun hr j hj => Nat.lt_of_le_of_lt ((sg_rc_bd hG hr hB).1 j hj) (by decide)
  have kg : ∀ {σ1 σ2 : sy_S}, sm [k, 5] [7] σ1 σ2 → gm G σ1.1 → gm G σ2.1 := fun a b => a.gm b (by simp; omega) (by decide)
  -- a sweep
  have inner : ∀ (us Hs : Nat → Nat), (∃ c, sg_p G c ∧ 3 < Hs c) → (∀ (σ' : sy_S) (u H : Nat → Nat), fm G k h u H σ'.1 → sm [k, 5] [7] σ σ' → ssum 16 us < ssum 16 u → sy_E shM mX12_settles (4, [some (.ref 0), some (.ref k), none], [], σ') Q) → ∀ (d i : Nat) (σ' : sy_S) (u H : Nat → Nat), i + d = sg_n G → fm G k h u H σ'.1 → sm [k, 5] [7] σ σ' → ((H = Hs ∧ u = us ∧ ∀ j, j < i → rdy G Hs j = false) ∨ ssum 16 us < ssum 16 u) → sy_E shM mX12_settles (14, [some (.ref 0), some (.ref k), some (.int (nI i))], [], σ') Q := by
    intro us Hs hun next d
    induction d with
    | zero =>
      intro i σ' u H hi hf hs hm
      have e : i = sg_n G := hi
      subst e
      have ecl := gm_cells hf.1.2.1
      refine w_m_settles_14 hz (fun _ => next σ' u H hf hs ?_) (fun q => ?_)
      · rcases hm with ⟨-, -, c⟩ | hm
        · obtain ⟨c9, p1, p2⟩ := hun
          have := c c9 p1.1
          rw [rdy_iff.mpr ⟨p1, p2⟩] at this
          cases this
        · exact hm
      · exact absurd (by rw [ecl]; exact nI_le (Nat.le_refl _) (by omega)) q
    | succ d ih =>
      intro i σ' u H hi hf hs hm
      obtain ⟨f1, f2, f3, f4, f5⟩ := id hf
      have ecl := gm_cells f1.2.1
      have hi16 : i < 16 := by omega
      have ei : (nI i).toNatClampNeg = i := nI_clamp (by omega)
      refine w_m_settles_14 hz (fun q => ?_) (fun _ => ?_)
      · rw [ecl] at q; exact absurd q (nI_ge (show i < sg_n G by omega) (by omega))
      · refine e_m_may hz f1 f3 (by omega) (bH f2 i hi16) (fun q => ?_) (fun q => ?_)
        · obtain ⟨p1, p2⟩ := rdy_iff.mp q
          refine w_m_settles_28 hz (fun _ => vp_in_nI hi16 (by decide)) (fun z => absurd z (by decide)) (fun _ => ?_)
          rw [ei, f3 i hi16, nI_lit4, pk_div (bH f2 i hi16) (by decide) (by decide)]
          obtain ⟨t, et⟩ : ∃ t, t = H i / 4 := ⟨_, rfl⟩
          have ht : 4 * t ≤ H i := by rw [et]; exact Nat.mul_div_le _ _
          rw [← et]
          refine e_m_topples hk f1 f3 f4 f5 p1 ht (fun σ2 g1 g2 g3 g4 => ?_)
          refine w_m_settles_42 hz ?_
          rw [nI_1]
          refine ih (i + 1) σ2 (sg_ad u i t) (sg_tp G H i t) (by omega) ⟨kg g1 f1, sg_rc_tp hG f2 p1 ht, g2, g3, ?_⟩ (hs.tr g1) (Or.inr ?_)
          · rw [g4, sg_lost_ad p1]
          · rw [ssum_ad hi16]
            rcases hm with ⟨-, b, -⟩ | b
            · rw [b]; omega
            · omega
        · refine w_m_settles_28 hz (fun z => absurd rfl z) (fun _ => ?_) (fun z => absurd rfl z)
          rw [nI_1]
          refine ih (i + 1) σ' u H (by omega) hf hs ?_
          rcases hm with ⟨a, b, c⟩ | b
          · left
            refine ⟨a, b, fun j hj => ?_⟩
            by_cases e : j = i
            · subst e; rw [← a]; exact q
            · exact c j (by omega)
          · exact Or.inr b
  have outer : ∀ (d : Nat) (σ' : sy_S) (u H : Nat → Nat), fm G k h u H σ'.1 → sm [k, 5] [7] σ σ' → 480001 ≤ ssum 16 u + d → sy_E shM mX12_settles (4, [some (.ref 0), some (.ref k), none], [], σ') Q := by
    intro d
    induction d with
    | zero =>
      intro σ' u H hf hs hd
      have := (sg_rc_bd hG hf.2.1 hB).2
      exact absurd hd (by omega)
    | succ d ih =>
      intro σ' u H hf hs hd
      obtain ⟨f1, f2, f3, f4, f5⟩ := id hf
      refine w_m_settles_4 hz ?_
      refine e_m_isStable hz f1 f3 (bH f2) (fun q => ?_) (fun q => ?_)
      · refine w_m_settles_9 hz (fun _ => ?_) (fun z => absurd (by decide) z)
        exact e_m_size f4 (w_m_settles_55 (kk σ' u H hs f2 q f3 f4 f5))
      · refine w_m_settles_9 hz (fun z => absurd rfl z) (fun _ => ?_)
        refine inner u H q (fun σ2 u2 H2 g1 g2 g3 => ih σ2 u2 H2 g1 g2 (by omega)) (sg_n G) 0 σ' u H (by omega) hf hs (Or.inl ⟨rfl, rfl, fun j hj => absurd hj (Nat.not_lt_zero _)⟩)
  refine w_m_settles_0 hz ?_
  refine e_m_begins (fun σ1 g1 g2 g3 => ?_)
  have hs1 : sm [k, 5] [7] σ σ1 := g1.mono (by simp) (by simp)
  refine outer 480001 σ1 (fun _ => 0) h ⟨kg hs1 hg, sg_rc_0 G h, fun j hj => ?_, g2, ?_⟩ hs1 (by omega)
  · rw [g1.1 k k0 (by simp; omega)]; exact hh j hj
  · rw [sg_lost_0]; exact g3
