/-! contracts: isPlace, spill, Fall.level -/
abbrev sg_P (G : sg_G) : List Nat := sg_pm G (sg_n G)
theorem sg_P_mem {G : sg_G} {c : Nat} : c ∈ sg_P G ↔ sg_p G c := by
  unfold sg_P sg_pm sg_p
  rw [List.mem_filter, List.mem_range]
  simp
theorem sg_P_at {G : sg_G} {i c : Nat} (h : (sg_P G)[i]? = some c) : sg_p G c := sg_P_mem.mp (List.mem_of_getElem? h)
theorem sg_P_len {G : sg_G} (hG : sg_ok G) : (sg_P G).length ≤ 16 := Nat.le_trans (sg_pm_len G _) (sg_n16 hG)
theorem sg_P_nodup (G : sg_G) : (sg_P G).Nodup := List.Nodup.sublist List.filter_sublist List.nodup_range
/-- σ' is σ but for the cells of l -/
def sx (l : List Nat) (σ σ' : sy_S) : Prop := (∀ q, q ∉ l → σ'.1 q = σ.1 q) ∧ σ'.2 = σ.2
theorem sx.rf {l : List Nat} {σ : sy_S} : sx l σ σ := ⟨fun _ _ => rfl, rfl⟩
theorem sx.tr {l : List Nat} {σ σ' σ'' : sy_S} (a : sx l σ σ') (b : sx l σ' σ'') : sx l σ σ'' := ⟨fun q h => (b.1 q h).trans (a.1 q h), b.2.trans a.2⟩
theorem sx.mono {l l' : List Nat} {σ σ' : sy_S} (a : sx l σ σ') (h : ∀ q, q ∈ l → q ∈ l') : sx l' σ σ' := ⟨fun q hq => a.1 q (fun z => hq (h q z)), a.2⟩
theorem sx.up {l : List Nat} {σ : sy_S} {k i : Nat} {x : Int32} (h : k ∈ l) : sx l σ (sy_up σ.1 k i x, σ.2) := ⟨fun q hq => sy_up_ne _ _ _ (fun e => hq (e ▸ h)), rfl⟩
theorem sx.gx {l : List Nat} {σ σ' : sy_S} {G : sg_G} (a : sx l σ σ') (h : gx G σ.1) (hl : ∀ q, q ∈ l → 6 ≤ q) : gx G σ'.1 := h.frame (fun q hq => a.1 q (fun z => by have := hl q z; omega))
/-- a row of 16 numbers -/
def ar (f : Nat → Nat → Int32) (k : Nat) (H : Nat → Nat) : Prop := ∀ j, j < 16 → f k j = nI (H j)
theorem gx_pl {G : sg_G} {f : Nat → Nat → Int32} (h : gx G f) {i : Nat} (hi : i < (sg_P G).length) : ∃ c, (sg_P G)[i]? = some c ∧ sg_p G c ∧ c < 16 ∧ f 2 i = nI c ∧ (f 2 i).toNatClampNeg = c := by
  have h1 : (sg_P G)[i]? = some (sg_P G)[i] := List.getElem?_eq_getElem hi
  have h2 := sg_P_at h1
  have h3 : (sg_P G)[i] < 16 := Nat.lt_of_lt_of_le h2.1 (sg_n16 h.1)
  have h4 := h.2.2.2.1 i _ h1
  exact ⟨_, h1, h2, h3, h4, by rw [h4]; exact nI_clamp (by omega)⟩
theorem gx_nb {G : sg_G} {f : Nat → Nat → Int32} (h : gx G f) {c : Nat} (hc : c < sg_n G) : f 5 c = nI (sg_nb G c).length ∧ ∀ j o, (sg_nb G c)[j]? = some o → f 4 (4 * c + j) = nI o := ⟨h.2.2.2.2.2.1 c hc, h.2.2.2.2.2.2 c hc⟩
theorem e_x_isPlace {Q : Option Value → sy_S → Prop} {σ : sy_S} {G : sg_G} {cell : Int32} (hg : gx G σ.1) (k1 : ∀ m, cell = nI m → sg_p G m → Q (some (.int 1)) σ) (k0 : (∀ m, m < 16 → cell = nI m → ¬ sg_p G m) → Q (some (.int 0)) σ) : sy_E shX mX3_isPlace (0, sy_ent [.ref 0, .int cell] 2, [], σ) Q := by
  have h16 := sg_n16 hg.1
  have e1 : σ.1 0 5 * σ.1 0 6 = nI (sg_n G) := by rw [hg.2.1.1, hg.2.1.2.1, pk_mul]; rfl
  have hin : ¬ cell < 0 → ¬ σ.1 0 5 * σ.1 0 6 ≤ cell → ∃ m, m < sg_n G ∧ cell = nI m := by
    intro a b
    obtain ⟨j, hj, rfl⟩ := nI_of a
    rw [e1, nI_leI (by omega) hj] at b
    exact ⟨j, by omega, rfl⟩
  refine w_x_isPlace (fun a b => ?_) (fun a => k0 (fun m hm e => ?_)) (fun a b => k0 (fun m hm e hp => ?_)) (fun a b c => k0 (fun m hm e hp => ?_)) (fun a b c => ?_)
  · obtain ⟨m, hm, rfl⟩ := hin a b
    exact vp_in_nI (by omega) (by decide)
  · subst e
    exact absurd a (nI_pos (by omega))
  · subst e
    rw [e1, nI_leI (by omega) (by omega)] at b
    have := hp.1
    omega
  · subst e
    rw [nI_clamp (by omega), hg.2.1.2.2 m hp.1, hp.2] at c
    exact c rfl
  · obtain ⟨m, hm, rfl⟩ := hin a b
    rw [nI_clamp (by omega), hg.2.1.2.2 m hm] at c
    refine k1 m rfl ⟨hm, ?_⟩
    cases h : G.2.2 m <;> simp_all
theorem e_x_spill {Q : Option Value → sy_S → Prop} {σ : sy_S} {G : sg_G} {k c t : Nat} {H : Nat → Nat} (hk : shX[k]? = some (0, 16, [])) (h6 : 6 ≤ k) (hg : gx G σ.1) (hH : ar σ.1 k H) (hc : sg_p G c) (ht : 4 * t ≤ H c) (kk : ∀ σ' : sy_S, sx [k] σ σ' → ar σ'.1 k (sg_tp G H c t) → Q none σ') : sy_E shX mX3_spill (0, sy_ent [.ref 0, .ref k, .int (nI c), .int (nI t)] 7, [], σ) Q := by
  have h16 := sg_n16 hg.1
  have hc16 : c < 16 := Nat.lt_of_lt_of_le hc.1 h16
  have ec : (nI c).toNatClampNeg = c := nI_clamp (by omega)
  obtain ⟨n1, n2⟩ := gx_nb hg hc.1
  have hlen := sg_nb_len G c
  have hnd := sg_nb_nodup hg.1 hc.1
  refine w_x_spill_0 hk (vp_in_nI hc16 (by decide)) ?_
  rw [ec, hH c hc16, nI_lit4, pk_mul, pk_mul, pk_sub (by omega), sy_up_ne _ _ _ (show (5 : Nat) ≠ k by omega), n1, nI_add, Nat.mul_comm c 4]
  have hl := sy_loop (sh := shX) (y := mX3_spill) (Q := Q) (fun i σ' => (29, [some (.ref 0), some (.ref k), none, some (.int (nI t)), none, some (.int (nI (4 * c + (sg_nb G c).length))), some (.int (nI (4 * c + i)))], [], σ')) (fun i σ' => sx [k] σ σ' ∧ ar σ'.1 k (fun j => (if j = c then H j - 4 * t else H j) + if j ∈ (sg_nb G c).take i then t else 0)) (sg_nb G c).length ?_ ?_ 0 (sy_up σ.1 k c (nI (H c - 4 * t)), σ.2) (Nat.zero_le _) ⟨sx.up (List.mem_singleton.mpr rfl), ?_⟩
  · exact hl
  · intro i σ' hi hI ih
    obtain ⟨i1, i2⟩ := hI
    obtain ⟨o, ho⟩ : ∃ o, (sg_nb G c)[i]? = some o := ⟨_, List.getElem?_eq_getElem hi⟩
    have hop := sg_nb_p hg.1 hc.1 (List.mem_of_getElem? ho)
    have ho16 : o < 16 := Nat.lt_of_lt_of_le hop.1.1 h16
    have e4 : σ'.1 4 (4 * c + i) = nI o := by rw [i1.1 4 (by simp; omega)]; exact n2 i o ho
    have ei : (nI (4 * c + i)).toNatClampNeg = 4 * c + i := nI_clamp (by omega)
    have eo : (nI o).toNatClampNeg = o := nI_clamp (by omega)
    have hts : (sg_nb G c).take (i + 1) = (sg_nb G c).take i ++ [o] := by rw [List.take_succ, ho]; rfl
    have hno : o ∉ (sg_nb G c).take i := by
      have h := List.Nodup.sublist (List.take_sublist (i + 1) (sg_nb G c)) hnd
      rw [hts, List.nodup_append] at h
      exact fun q => h.2.2 o q o (List.mem_singleton.mpr rfl) rfl
    refine w_x_spill_29 hk (fun _ => ?_) (fun _ => ?_) (fun q => ?_) (fun _ => ?_)
    · exact vp_in_nI (by omega) (by decide)
    · rw [ei, e4]; exact vp_in_nI ho16 (by decide)
    · exact absurd q (nI_ge (by omega) (by omega))
    · rw [ei, e4, eo, nI_1, i2 o ho16, nI_add]
      refine ih _ ⟨i1.tr (sx.up (List.mem_singleton.mpr rfl)), fun j hj => ?_⟩
      show sy_up σ'.1 k o _ k j = _
      rw [sy_up2, hts]
      by_cases e : j = o
      · subst e
        rw [if_pos ⟨rfl, rfl⟩]
        congr 1
        dsimp only
        rw [if_neg hno, if_pos (List.mem_append_right _ (List.mem_singleton.mpr rfl))]
        omega
      · rw [if_neg (fun q => e q.2), i2 j hj]
        congr 1
        dsimp only
        by_cases m : j ∈ (sg_nb G c).take i
        · rw [if_pos m, if_pos (List.mem_append_left _ m)]
        · rw [if_neg m, if_neg (fun q => (List.mem_append.mp q).elim m (fun q => e (List.mem_singleton.mp q)))]
  · intro σ' hI
    obtain ⟨i1, i2⟩ := hI
    refine w_x_spill_29 hk (fun q => ?_) (fun q => ?_) (fun _ => kk σ' i1 ?_) (fun q => ?_)
    · exact absurd (nI_le (Nat.le_refl _) (by omega)) q
    · exact absurd (nI_le (Nat.le_refl _) (by omega)) q
    · rw [List.take_length] at i2
      exact i2
    · exact absurd (nI_le (Nat.le_refl _) (by omega)) q
  · intro j hj
    show sy_up σ.1 k c (nI (H c - 4 * t)) k j = nI ((if j = c then H j - 4 * t else H j) + if j ∈ (sg_nb G c).take 0 then t else 0)
    rw [sy_up2, List.take_zero, if_neg List.not_mem_nil, Nat.add_zero]
    by_cases e : j = c
    · subst e
      rw [if_pos ⟨rfl, rfl⟩, if_pos rfl]
    · rw [if_neg (fun q => e q.2), if_neg e]
      exact hH j hj
/-- where the fall stands: from h, toppled u, the counts began at c0 -/
def fx (G : sg_G) (h c0 u H : Nat → Nat) (f : Nat → Nat → Int32) : Prop := gx G f ∧ sg_rc G h u H ∧ ar f 40 H ∧ ar f 41 (fun j => c0 j + u j)
theorem e_x_level {Q : Option Value → sy_S → Prop} {σ : sy_S} {G : sg_G} {h c0 : Nat → Nat} (hg : gx G σ.1) (hh : ar σ.1 40 h) (hc : ar σ.1 41 c0) (hB : ∀ j, j < 16 → h j ≤ 10000) (kk : ∀ (σ' : sy_S) (u H : Nat → Nat), sx [40, 41] σ σ' → sg_rc G h u H → (∀ k, sg_p G k → H k ≤ 3) → ar σ'.1 40 H → ar σ'.1 41 (fun j => c0 j + u j) → Q (some (.int (nI (ssum 16 u)))) σ') : sy_E shX mX1_level (0, sy_ent [.ref 39] 9, [], σ) Q := by
  have hG := hg.1
  have h16 := sg_n16 hG
  have hP := sg_P_len hG
  have n7 : ∀ f, gx G f → f 0 7 = nI (sg_P G).length := fun f h => h.2.2.1
  refine w_x_level_0 ?_
  rw [n7 _ hg]
  -- the inner loop
  have inner : ∀ (sw : Nat) (us Hs : Nat → Nat), sg_rc G h us Hs → sw ≤ 480000 → (∀ (σ' : sy_S) (u H : Nat → Nat) (mv : Int32), fx G h c0 u H σ'.1 → sx [40, 41] σ σ' → ((mv = 0 ∧ u = us ∧ ∀ k, sg_p G k → H k ≤ 3) ∨ (mv = 1 ∧ ssum 16 us < ssum 16 u)) → sy_E shX mX1_level (24, [some (.ref 39), some (.ref 2), some (.int (nI (sg_P G).length)), some (.int (nI (ssum 16 u))), some (.int mv), some (.int (nI (sw + 1))), none, none, none], [], σ') Q) → ∀ (i : Nat) (σ' : sy_S) (u H : Nat → Nat) (mv : Int32), i ≤ (sg_P G).length → fx G h c0 u H σ'.1 → sx [40, 41] σ σ' → ((mv = 0 ∧ u = us ∧ ∀ j k, j < i → (sg_P G)[j]? = some k → H k ≤ 3) ∨ (mv = 1 ∧ ssum 16 us < ssum 16 u)) → sy_E shX mX1_level (42, [some (.ref 39), some (.ref 2), some (.int (nI (sg_P G).length)), some (.int (nI (ssum 16 u))), some (.int mv), some (.int (nI sw)), some (.int (nI i)), none, none], [], σ') Q := by
    intro sw us Hs hrs hsw next
    have key : ∀ (d i : Nat) (σ' : sy_S) (u H : Nat → Nat) (mv : Int32), i + d = (sg_P G).length → fx G h c0 u H σ'.1 → sx [40, 41] σ σ' → ((mv = 0 ∧ u = us ∧ ∀ j k, j < i → (sg_P G)[j]? = some k → H k ≤ 3) ∨ (mv = 1 ∧ ssum 16 us < ssum 16 u)) → sy_E shX mX1_level (42, [some (.ref 39), some (.ref 2), some (.int (nI (sg_P G).length)), some (.int (nI (ssum 16 u))), some (.int mv), some (.int (nI sw)), some (.int (nI i)), none, none], [], σ') Q := by
      intro d
      induction d with
      | zero =>
        intro i σ' u H mv hi hf hs hm
        have e : i = (sg_P G).length := hi
        subst e
        refine w_x_level_42 (fun q => ?_) (fun q => ?_) (fun _ => ?_) (fun q => ?_) (fun q => ?_)
        all_goals try (exact absurd (nI_le (Nat.le_refl _) (by omega)) q)
        rw [nI_1]
        refine next σ' u H mv hf hs ?_
        rcases hm with ⟨a, b, c⟩ | hm
        · left
          refine ⟨a, b, fun k hk => ?_⟩
          obtain ⟨j, hj⟩ := List.getElem?_of_mem (sg_P_mem.mpr hk)
          exact c j k (List.getElem?_eq_some_iff.mp hj).1 hj
        · exact Or.inr hm
      | succ d ih =>
        intro i σ' u H mv hi hf hs hm
        have hil : i < (sg_P G).length := by omega
        obtain ⟨f1, f2, f3, f4⟩ := id hf
        obtain ⟨c, p1, p2, p3, p4, p5⟩ := gx_pl f1 hil
        have ei : (nI i).toNatClampNeg = i := nI_clamp (by omega)
        obtain ⟨bd1, bd2⟩ := sg_rc_bd hG f2 hB
        have bH : H c < 2 ^ 31 := Nat.lt_of_le_of_lt (bd1 c p3) (by decide)
        have e40 : σ'.1 40 c = nI (H c) := f3 c p3
        refine w_x_level_42 (fun _ => vp_in_nI (by omega) (by decide)) (fun _ => by rw [ei, p4]; exact vp_in_nI p3 (by decide)) (fun q => ?_) (fun _ q => ?_) (fun _ q => ?_)
        · exact absurd q (nI_ge hil (by omega))
        · rw [ei, p5, e40, show (3 : Int32) = nI 3 from rfl, nI_leI bH (by decide)] at q
          rw [nI_1]
          refine ih (i + 1) σ' u H mv (by omega) hf hs ?_
          rcases hm with ⟨a, b, cc⟩ | hm
          · left
            refine ⟨a, b, fun j k hj hjk => ?_⟩
            by_cases e : j = i
            · subst e
              rw [p1] at hjk
              cases hjk
              exact q
            · exact cc j k (by omega) hjk
          · exact Or.inr hm
        · rw [ei, p5, e40, show (3 : Int32) = nI 3 from rfl, nI_leI bH (by decide)] at q
          rw [ei, p5, p4, e40, nI_lit4, pk_div bH (by decide) (by decide)]
          obtain ⟨t, et⟩ : ∃ t, t = H c / 4 := ⟨_, rfl⟩
          have ht : 4 * t ≤ H c := by rw [et]; exact Nat.mul_div_le _ _
          have ht1 : 1 ≤ t := by omega
          rw [← et]
          refine e_x_spill (H := H) rfl (by decide) f1 f3 p2 ht (fun σ2 g1 g2 => ?_)
          have r2 := sg_rc_tp hG f2 p2 ht
          have ec : (nI c).toNatClampNeg = c := nI_clamp (by omega)
          have e41 : σ2.1 41 c = nI (c0 c + u c) := by rw [g1.1 41 (by decide)]; exact f4 c p3
          have esum : ssum 16 (sg_ad u c t) = ssum 16 u + t := by
            have e : ssum 16 (sg_ad u c t) = ssum 16 (fun j => u j + if j = c then t else 0) := ssum_congr (fun j _ => by unfold sg_ad; by_cases e : j = c <;> simp [e])
            rw [e, ssum_add, ssum_one, if_pos p3]
          refine w_x_level_91 (vp_in_nI p3 (by decide)) ?_
          rw [ec, e41, nI_add, nI_1, nI_add, ← esum]
          have hsx : sx [40, 41] σ2 (sy_up σ2.1 41 c (nI (c0 c + u c + t)), σ2.2) := sx.up (by simp)
          have hs2 : sx [40, 41] σ (sy_up σ2.1 41 c (nI (c0 c + u c + t)), σ2.2) := (hs.tr (g1.mono (by simp))).tr hsx
          refine ih (i + 1) _ (sg_ad u c t) (sg_tp G H c t) 1 (by omega) ⟨hs2.gx hg (by decide), r2, fun j hj => ?_, fun j hj => ?_⟩ hs2 (Or.inr ⟨rfl, ?_⟩)
          · show sy_up σ2.1 41 c (nI (c0 c + u c + t)) 40 j = _
            rw [sy_up2, if_neg (by omega)]
            exact g2 j hj
          · show sy_up σ2.1 41 c (nI (c0 c + u c + t)) 41 j = nI (c0 j + sg_ad u c t j)
            rw [sy_up2]
            by_cases e : j = c
            · subst e
              rw [if_pos ⟨rfl, rfl⟩]
              congr 1
              unfold sg_ad
              rw [if_pos rfl]
              omega
            · rw [if_neg (fun q => e q.2), g1.1 41 (by decide), f4 j hj]
              congr 1
              unfold sg_ad
              rw [if_neg e]
          · rw [esum]
            rcases hm with ⟨-, b, -⟩ | ⟨-, b⟩
            · rw [b]; omega
            · omega
    intro i σ' u H mv hi hf hs hm
    exact key ((sg_P G).length - i) i σ' u H mv (by omega) hf hs hm
  -- the outer loop
  have outer : ∀ (n sw : Nat) (σ' : sy_S) (u H : Nat → Nat) (mv : Int32), fx G h c0 u H σ'.1 → sx [40, 41] σ σ' → ((mv = 0 ∧ ∀ k, sg_p G k → H k ≤ 3) ∨ (mv = 1 ∧ sw ≤ ssum 16 u ∧ 480001 ≤ sw + n)) → sy_E shX mX1_level (24, [some (.ref 39), some (.ref 2), some (.int (nI (sg_P G).length)), some (.int (nI (ssum 16 u))), some (.int mv), some (.int (nI sw)), none, none, none], [], σ') Q := by
    have fin : ∀ (sw : Nat) (σ' : sy_S) (u H : Nat → Nat), fx G h c0 u H σ'.1 → sx [40, 41] σ σ' → (∀ k, sg_p G k → H k ≤ 3) → sy_E shX mX1_level (24, [some (.ref 39), some (.ref 2), some (.int (nI (sg_P G).length)), some (.int (nI (ssum 16 u))), some (.int 0), some (.int (nI sw)), none, none, none], [], σ') Q := by
      intro sw σ' u H hf hs hst
      exact w_x_level_24 (fun _ => kk σ' u H hs hf.2.1 hst hf.2.2.1 hf.2.2.2) (fun q => absurd rfl q) (fun q => absurd rfl q)
    intro n
    induction n with
    | zero =>
      intro sw σ' u H mv hf hs hm
      rcases hm with ⟨rfl, hst⟩ | ⟨-, a, b⟩
      · exact fin sw σ' u H hf hs hst
      · have := (sg_rc_bd hG hf.2.1 hB).2
        exact absurd b (by omega)
    | succ n ih =>
      intro sw σ' u H mv hf hs hm
      rcases hm with ⟨rfl, hst⟩ | ⟨rfl, a, b⟩
      · exact fin sw σ' u H hf hs hst
      · have bd := (sg_rc_bd hG hf.2.1 hB).2
        refine w_x_level_24 (fun q => absurd q (by decide)) (fun _ q => ?_) (fun _ _ => ?_)
        · rw [show (1000000 : Int32) = nI 1000000 from rfl, nI_leI (by decide) (by omega)] at q
          omega
        · refine inner sw u H hf.2.1 (by omega) (fun σ2 u2 H2 mv2 q1 q2 q3 => ?_) 0 σ' u H 0 (Nat.zero_le _) hf hs (Or.inl ⟨rfl, rfl, fun j k hj => absurd hj (Nat.not_lt_zero _)⟩)
          refine ih (sw + 1) σ2 u2 H2 mv2 q1 q2 ?_
          rcases q3 with ⟨a1, -, a3⟩ | ⟨a1, a2⟩
          · exact Or.inl ⟨a1, a3⟩
          · exact Or.inr ⟨a1, by omega, by omega⟩
  have h0 : fx G h c0 (fun _ => 0) h σ.1 := ⟨hg, sg_rc_0 G h, hh, hc⟩
  have := outer 480001 0 σ (fun _ => 0) h 1 h0 sx.rf (Or.inr ⟨rfl, Nat.zero_le _, by omega⟩)
  rw [ssum_zero] at this
  exact this
