/-! March.step: contract (by program: wip/whole/gen/p38.py) -/

theorem e_a_step {Q : Option Value → sy_S → Prop} {σ : sy_S} {G : sg_G} {o : Nat} {H : Nat → Nat} {L : List Nat} (ho : o < 4) (hg : gx G σ.1) (hm : mx 42 o H L σ.1) (hi : minv G o H L) (hB : ∀ j, j < 16 → H j < 2 ^ 30) (k0 : mnext G o (H, L) = none → Q (some (.int (-1))) σ) (k1 : ∀ (σ' : sy_S) (c : Nat) (H' : Nat → Nat) (L' : List Nat), mnext G o (H, L) = some (c, H', L') → sx [42, 43, 44] σ σ' → mx 42 o H' L' σ'.1 → Q (some (.int (nI c))) σ') : sy_E shX mX4_step (0, sy_ent [.ref 42] 3, [], σ) Q := by
  have h16 := sg_n16 hg.1
  have hB1 : ∀ j, j < 16 → H j < 2 ^ 31 := fun j hj => Nat.lt_trans (hB j hj) (by decide)
  refine w_a_step_0 ?_
  refine e_a_chosen ho hg hm hB1 (fun hp => ?_) (fun σ1 c hp hs1 hm1 => ?_)
  · refine w_a_step_4 (fun q => absurd q (by decide)) (fun _ => k0 ?_)
    unfold mnext
    rw [hp]
  · obtain ⟨p1, p2⟩ := (mpick_ok hi).1 c hp
    have hc16 : c < 16 := Nat.lt_of_lt_of_le p1.1 h16
    have hn : mnext G o (H, L) = some (c, sg_tp G H c 1, if o = 1 ∨ o = 2 then (sg_nb G c ++ [c]).foldl (mline (sg_tp G H c 1)) (mrest o L) else L) := by
      unfold mnext
      rw [hp]
    have hg1 : gx G σ1.1 := hs1.gx hg (by decide)
    refine w_a_step_4 (fun _ => ?_) (fun q => absurd (nI_pos' (by omega)) q)
    refine e_x_spill (t := 1) (k := 43) rfl (by decide) hg1 hm1.1 p1 (by omega) (fun σ2 g1 g2 => ?_)
    have hg2 : gx G σ2.1 := g1.gx hg1 (by decide)
    have hs2 : sx [42, 43, 44] σ σ2 := (hs1.mono (by simp)).tr (g1.mono (by simp))
    have e3 : σ2.1 42 3 = nI o := by rw [g1.1 42 (by decide)]; exact hm1.2.1
    have hBt : ∀ j, j < 16 → sg_tp G H c 1 j < 2 ^ 31 := fun j hj => by
      have h9 := hB j hj
      unfold sg_tp
      split <;> split <;> omega
    have loop : (o = 1 ∨ o = 2) → sy_E shX mX4_step (42, [some (.ref 42), some (.int (nI c)), some (.int 0)], [], σ2) Q := by
      intro ho2
      rw [if_pos ho2] at hn hm1
      obtain ⟨n1, n2⟩ := gx_nb hg2 p1.1
      have hlen := sg_nb_len G c
      have ec : (nI c).toNatClampNeg = c := nI_clamp (by omega)
      have hm2 : mx 42 o (sg_tp G H c 1) (mrest o L) σ2.1 := by
        refine ⟨g2, e3, fun z => ?_⟩
        obtain ⟨z1, z2, a, z3, z4, z5, z6, z7⟩ := hm1.2.2 z
        refine ⟨z1, z2, a, z3, ?_, ?_, ?_, ?_⟩
        · rw [g1.1 42 (by decide)]; exact z4
        · rw [g1.1 42 (by decide)]; exact z5
        · rw [g1.1 (42 + 2) (by decide)]; exact z6
        · rw [g1.1 42 (by decide)]; exact z7
      refine e_a_lines (H := sg_tp G H c 1) σ2 (fun i σ' => (42, [some (.ref 42), some (.int (nI c)), some (.int (nI i))], [], σ')) (fun i r9 σ9 => (67, [some (.ref 42), some (.int (nI c)), some (.int (nI i))], r9.toList ++ [], σ9)) mX4_step (sg_nb G c) (fun d hd => Nat.lt_of_lt_of_le (sg_nb_p hg.1 p1.1 hd).1.1 h16) hBt o (mrest o L) (fun i σ' d hd hs ih => ?_) (fun i σ' hz => w_a_step_67 (by rw [nI_1]; exact hz)) (fun σ' hs hmm => ?_) ho2 hm2
      · have hi9 := (List.getElem?_eq_some_iff.mp hd).1
        have hg' : gx G σ'.1 := hs.gx hg2 (by decide)
        obtain ⟨n1', n2'⟩ := gx_nb hg' p1.1
        have ei : nI c * 4 + nI i = nI (4 * c + i) := by rw [nI_lit4, pk_mul, nI_add, Nat.mul_comm]
        refine w_a_step_42 (vp_in_nI hc16 (by decide)) (fun _ => by rw [ei]; exact vp_in_nI (by omega) (by decide)) (fun q => ?_) (fun _ => ?_)
        · rw [ec, n1'] at q; exact absurd q (nI_ge hi9 (by omega))
        · rw [ei, nI_clamp (show 4 * c + i < 2 ^ 31 by omega), n2' i d hd]
          exact ih
      · have hg' : gx G σ'.1 := hs.gx hg2 (by decide)
        obtain ⟨n1', n2'⟩ := gx_nb hg' p1.1
        refine w_a_step_42 (vp_in_nI hc16 (by decide)) (fun q => ?_) (fun _ => ?_) (fun q => ?_)
        · exact absurd (by rw [ec, n1']; exact nI_le (Nat.le_refl _) (by omega)) q
        · refine e_a_lineUp hc16 hmm.1 (hBt c hc16) (hmm.2.2 ho2) (fun σ3 f1 f2 f3 => w_a_step_78 ?_)
          refine k1 σ3 c _ _ hn (hs2.tr ((hs.mono (by simp)).tr (f1.mono (by simp)))) ⟨fun j hj => ?_, by rw [f2]; exact hmm.2.1, fun _ => ?_⟩
          · rw [f1.1 43 (by decide)]; exact hmm.1 j hj
          · rw [List.foldl_append]; exact f3
        · exact absurd (by rw [ec, n1']; exact nI_le (Nat.le_refl _) (by omega)) q
    refine w_a_step_24 (fun q => ?_) (fun q q2 => ?_) (fun q q2 => ?_)
    · rw [e3, nI_lit1, nI_eq (by omega) (by decide)] at q
      exact loop (Or.inl q)
    · rw [e3, nI_lit1, nI_eq (by omega) (by decide)] at q
      rw [e3, show (2 : Int32) = nI 2 from rfl, nI_eq (by omega) (by decide)] at q2
      have hno : ¬ (o = 1 ∨ o = 2) := by omega
      rw [if_neg hno] at hn
      exact k1 σ2 c _ _ hn hs2 ⟨g2, e3, fun z => absurd z hno⟩
    · rw [e3, show (2 : Int32) = nI 2 from rfl, nI_eq (by omega) (by decide)] at q2
      exact loop (Or.inr (Classical.byContradiction q2))

theorem e_b_step {Q : Option Value → sy_S → Prop} {σ : sy_S} {G : sg_G} {o : Nat} {H : Nat → Nat} {L : List Nat} (ho : o < 4) (hg : gx G σ.1) (hm : mx 45 o H L σ.1) (hi : minv G o H L) (hB : ∀ j, j < 16 → H j < 2 ^ 30) (k0 : mnext G o (H, L) = none → Q (some (.int (-1))) σ) (k1 : ∀ (σ' : sy_S) (c : Nat) (H' : Nat → Nat) (L' : List Nat), mnext G o (H, L) = some (c, H', L') → sx [45, 46, 47] σ σ' → mx 45 o H' L' σ'.1 → Q (some (.int (nI c))) σ') : sy_E shX mX4_step (0, sy_ent [.ref 45] 3, [], σ) Q := by
  have h16 := sg_n16 hg.1
  have hB1 : ∀ j, j < 16 → H j < 2 ^ 31 := fun j hj => Nat.lt_trans (hB j hj) (by decide)
  refine w_b_step_0 ?_
  refine e_b_chosen ho hg hm hB1 (fun hp => ?_) (fun σ1 c hp hs1 hm1 => ?_)
  · refine w_b_step_4 (fun q => absurd q (by decide)) (fun _ => k0 ?_)
    unfold mnext
    rw [hp]
  · obtain ⟨p1, p2⟩ := (mpick_ok hi).1 c hp
    have hc16 : c < 16 := Nat.lt_of_lt_of_le p1.1 h16
    have hn : mnext G o (H, L) = some (c, sg_tp G H c 1, if o = 1 ∨ o = 2 then (sg_nb G c ++ [c]).foldl (mline (sg_tp G H c 1)) (mrest o L) else L) := by
      unfold mnext
      rw [hp]
    have hg1 : gx G σ1.1 := hs1.gx hg (by decide)
    refine w_b_step_4 (fun _ => ?_) (fun q => absurd (nI_pos' (by omega)) q)
    refine e_x_spill (t := 1) (k := 46) rfl (by decide) hg1 hm1.1 p1 (by omega) (fun σ2 g1 g2 => ?_)
    have hg2 : gx G σ2.1 := g1.gx hg1 (by decide)
    have hs2 : sx [45, 46, 47] σ σ2 := (hs1.mono (by simp)).tr (g1.mono (by simp))
    have e3 : σ2.1 45 3 = nI o := by rw [g1.1 45 (by decide)]; exact hm1.2.1
    have hBt : ∀ j, j < 16 → sg_tp G H c 1 j < 2 ^ 31 := fun j hj => by
      have h9 := hB j hj
      unfold sg_tp
      split <;> split <;> omega
    have loop : (o = 1 ∨ o = 2) → sy_E shX mX4_step (42, [some (.ref 45), some (.int (nI c)), some (.int 0)], [], σ2) Q := by
      intro ho2
      rw [if_pos ho2] at hn hm1
      obtain ⟨n1, n2⟩ := gx_nb hg2 p1.1
      have hlen := sg_nb_len G c
      have ec : (nI c).toNatClampNeg = c := nI_clamp (by omega)
      have hm2 : mx 45 o (sg_tp G H c 1) (mrest o L) σ2.1 := by
        refine ⟨g2, e3, fun z => ?_⟩
        obtain ⟨z1, z2, a, z3, z4, z5, z6, z7⟩ := hm1.2.2 z
        refine ⟨z1, z2, a, z3, ?_, ?_, ?_, ?_⟩
        · rw [g1.1 45 (by decide)]; exact z4
        · rw [g1.1 45 (by decide)]; exact z5
        · rw [g1.1 (45 + 2) (by decide)]; exact z6
        · rw [g1.1 45 (by decide)]; exact z7
      refine e_b_lines (H := sg_tp G H c 1) σ2 (fun i σ' => (42, [some (.ref 45), some (.int (nI c)), some (.int (nI i))], [], σ')) (fun i r9 σ9 => (67, [some (.ref 45), some (.int (nI c)), some (.int (nI i))], r9.toList ++ [], σ9)) mX4_step (sg_nb G c) (fun d hd => Nat.lt_of_lt_of_le (sg_nb_p hg.1 p1.1 hd).1.1 h16) hBt o (mrest o L) (fun i σ' d hd hs ih => ?_) (fun i σ' hz => w_b_step_67 (by rw [nI_1]; exact hz)) (fun σ' hs hmm => ?_) ho2 hm2
      · have hi9 := (List.getElem?_eq_some_iff.mp hd).1
        have hg' : gx G σ'.1 := hs.gx hg2 (by decide)
        obtain ⟨n1', n2'⟩ := gx_nb hg' p1.1
        have ei : nI c * 4 + nI i = nI (4 * c + i) := by rw [nI_lit4, pk_mul, nI_add, Nat.mul_comm]
        refine w_b_step_42 (vp_in_nI hc16 (by decide)) (fun _ => by rw [ei]; exact vp_in_nI (by omega) (by decide)) (fun q => ?_) (fun _ => ?_)
        · rw [ec, n1'] at q; exact absurd q (nI_ge hi9 (by omega))
        · rw [ei, nI_clamp (show 4 * c + i < 2 ^ 31 by omega), n2' i d hd]
          exact ih
      · have hg' : gx G σ'.1 := hs.gx hg2 (by decide)
        obtain ⟨n1', n2'⟩ := gx_nb hg' p1.1
        refine w_b_step_42 (vp_in_nI hc16 (by decide)) (fun q => ?_) (fun _ => ?_) (fun q => ?_)
        · exact absurd (by rw [ec, n1']; exact nI_le (Nat.le_refl _) (by omega)) q
        · refine e_b_lineUp hc16 hmm.1 (hBt c hc16) (hmm.2.2 ho2) (fun σ3 f1 f2 f3 => w_b_step_78 ?_)
          refine k1 σ3 c _ _ hn (hs2.tr ((hs.mono (by simp)).tr (f1.mono (by simp)))) ⟨fun j hj => ?_, by rw [f2]; exact hmm.2.1, fun _ => ?_⟩
          · rw [f1.1 46 (by decide)]; exact hmm.1 j hj
          · rw [List.foldl_append]; exact f3
        · exact absurd (by rw [ec, n1']; exact nI_le (Nat.le_refl _) (by omega)) q
    refine w_b_step_24 (fun q => ?_) (fun q q2 => ?_) (fun q q2 => ?_)
    · rw [e3, nI_lit1, nI_eq (by omega) (by decide)] at q
      exact loop (Or.inl q)
    · rw [e3, nI_lit1, nI_eq (by omega) (by decide)] at q
      rw [e3, show (2 : Int32) = nI 2 from rfl, nI_eq (by omega) (by decide)] at q2
      have hno : ¬ (o = 1 ∨ o = 2) := by omega
      rw [if_neg hno] at hn
      exact k1 σ2 c _ _ hn hs2 ⟨g2, e3, fun z => absurd z hno⟩
    · rw [e3, show (2 : Int32) = nI 2 from rfl, nI_eq (by omega) (by decide)] at q2
      exact loop (Or.inr (Classical.byContradiction q2))
