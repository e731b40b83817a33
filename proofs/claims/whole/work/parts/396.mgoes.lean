/-! the model's goes: contract -/
theorem nI_any (x : Int32) : ∃ n, x = nI n := ⟨x.toBitVec.toNat, by
  apply Int32.toBitVec_inj.mp
  show x.toBitVec = BitVec.ofNat 32 x.toBitVec.toNat
  rw [BitVec.ofNat_toNat, BitVec.setWidth_eq]⟩
theorem ar_any (f : Nat → Nat → Int32) (k : Nat) : ∃ u, ar f k u := ⟨fun j => Classical.choose (nI_any (f k j)), fun j _ => Classical.choose_spec (nI_any (f k j))⟩
theorem mlr_p {G : sg_G} {H : Nat → Nat} {L : List Nat} {d : Nat} (hd : sg_p G d) : mlr G H L d = mline H L d := by
  unfold mlr mline
  have e : rdy G H d = true ↔ 3 < H d := by
    rw [rdy_iff]
    exact ⟨fun h => h.2, fun h => ⟨hd, h⟩⟩
  simp only [e]
theorem e_m_goes {Q : Option Value → sy_S → Prop} {σ : sy_S} {G : sg_G} {o : Nat} {H : Nat → Nat} {L : List Nat} (ho : o < 4) (hg : gm G σ.1) (hm : mm G o H L σ.1) (hi : minv G o H L) (hB : ∀ j, j < 16 → H j < 2 ^ 30) (k0 : mnext G o (H, L) = none → Q (some (.int (-1))) σ) (k1 : ∀ (σ' : sy_S) (c : Nat) (H' : Nat → Nat) (L' : List Nat), mnext G o (H, L) = some (c, H', L') → sm [12, 5, 13, 14] [7, 24] σ σ' → mm G o H' L' σ'.1 → Q (some (.int (nI c))) σ') : sy_E shM mX12_goes (0, sy_ent [.ref 0, .ref 12, .int (nI o)] 5, [], σ) Q := by
  have h16 := sg_n16 hg.1
  have hG := hg.1
  have hB1 : ∀ j, j < 16 → H j < 2 ^ 31 := fun j hj => Nat.lt_trans (hB j hj) (by decide)
  have hrow : rowM 12 := ⟨rfl, by decide, by decide, by decide, by decide, by decide, by decide⟩
  have kg : ∀ {σ1 σ2 : sy_S}, sm [12, 5, 13, 14] [7, 24] σ1 σ2 → gm G σ1.1 → gm G σ2.1 := fun a b => a.gm b (by decide) (by decide)
  -- behind the choice
  have rest : ∀ (σ1 : sy_S) (c : Nat), mpick G o H L = some c → sm [12, 5, 13, 14] [7, 24] σ σ1 → mm G o H (if o = 1 ∨ o = 2 then mrest o L else L) σ1.1 → sy_E shM mX12_topples (0, sy_ent [.ref 0, .ref 12, .int (nI c), .int 1] 5, [], σ1) (fun r9 σ9 => sy_E shM mX12_goes (53, [some (.ref 0), some (.ref 12), some (.int (nI o)), some (.int (nI c)), none], r9.toList ++ [], σ9) Q) := by
    intro σ1 c hp hs1 hm1
    obtain ⟨p1, p2⟩ := (mpick_ok hi).1 c hp
    have hc16 : c < 16 := Nat.lt_of_lt_of_le p1.1 h16
    have hn : mnext G o (H, L) = some (c, sg_tp G H c 1, if o = 1 ∨ o = 2 then (sg_nb G c ++ [c]).foldl (mline (sg_tp G H c 1)) (mrest o L) else L) := by
      unfold mnext
      rw [hp]
    have hg1 := kg hs1 hg
    obtain ⟨u, hu⟩ := ar_any σ1.1 5
    obtain ⟨lo, hlo⟩ := nI_any (σ1.1 0 7)
    refine e_m_topples (t := 1) hrow hg1 hm1.1 hu hlo p1 (by omega) (fun σ2 g1 g2 g3 g4 => w_m_goes_53 ?_)
    have g1' : sm [12, 5, 13, 14] [7, 24] σ1 σ2 := g1.mono (by simp) (by simp)
    have hs2 := hs1.tr g1'
    have hg2 := kg hs2 hg
    have hBt : ∀ j, j < 16 → sg_tp G H c 1 j < 2 ^ 31 := fun j hj => by
      have h9 := hB j hj
      unfold sg_tp
      split <;> split <;> omega
    have ec : (nI c).toNatClampNeg = c := nI_clamp (by omega)
    have hlen := sg_nb_len G c
    by_cases ho2 : o = 1 ∨ o = 2
    · rw [if_pos ho2] at hn hm1
      have hq2 : qm G σ2.1 (mrest o L) := by
        obtain ⟨z1, z2, z3, z4, z5⟩ := hm1.2 ho2
        refine ⟨z1, z2, ?_, ?_, ?_⟩
        · rw [g1.2.1 24 (by decide)]; exact z3
        · rw [g1.1 13 (by decide) (by decide)]; exact z4
        · rw [g1.1 14 (by decide) (by decide)]; exact z5
      have loop := sy_loop (sh := shM) (y := mX12_goes) (Q := Q) (fun i σ' => (56, [some (.ref 0), some (.ref 12), some (.int (nI o)), some (.int (nI c)), some (.int (nI i))], [], σ')) (fun i σ' => sm [12, 5, 13, 14] [7, 24] σ σ' ∧ ar σ'.1 12 (sg_tp G H c 1) ∧ qm G σ'.1 (((sg_nb G c).take i).foldl (mline (sg_tp G H c 1)) (mrest o L))) (sg_nb G c).length ?_ ?_ 0 σ2 (Nat.zero_le _) ⟨hs2, g2, by rw [List.take_zero]; exact hq2⟩
      · exact loop
      · rintro i σ' hil ⟨i1, i2, i3⟩ ih
        have hg' := kg i1 hg
        obtain ⟨n1, n2⟩ := gm_nb hg' p1.1
        have hd : (sg_nb G c)[i]? = some (sg_nb G c)[i] := List.getElem?_eq_getElem hil
        have hdp := (sg_nb_p hG p1.1 (List.mem_of_getElem? hd)).1
        have ei : 4 * nI c + nI i = nI (4 * c + i) := by rw [nI_lit4, pk_mul, nI_add]
        have go : sy_E shM mX12_comesBehind (0, sy_ent [.ref 0, .ref 12, .int (σ'.1 3 ((4 * nI c + nI i).toNatClampNeg))] 3, [], σ') (fun r9 σ9 => sy_E shM mX12_goes (93, [some (.ref 0), some (.ref 12), some (.int (nI o)), some (.int (nI c)), some (.int (nI i))], r9.toList ++ [], σ9) Q) := by
          rw [ei, nI_clamp (show 4 * c + i < 2 ^ 31 by omega), n2 i _ hd]
          refine e_m_comes hg' hdp.1 i2 (hBt _ (Nat.lt_of_lt_of_le hdp.1 h16)) i3 (fun σ3 f1 f2 => w_m_goes_93 ?_)
          rw [nI_1]
          refine ih σ3 ⟨i1.tr (f1.mono (by simp) (by simp)), fun j hj => ?_, ?_⟩
          · rw [f1.1 12 (by decide) (by decide)]; exact i2 j hj
          · rw [List.take_succ, hd]
            show qm G σ3.1 (((sg_nb G c).take i ++ [(sg_nb G c)[i]]).foldl (mline (sg_tp G H c 1)) (mrest o L))
            rw [List.foldl_append, mlr_p hdp] at *
            exact f2
        refine w_m_goes_56 (vp_in_nI hc16 (by decide)) (fun _ _ => by rw [ei]; exact vp_in_nI (by omega) (by decide)) (fun _ _ _ => by rw [ei]; exact vp_in_nI (by omega) (by decide)) (fun q => ?_) (fun _ _ => go) (fun _ q q2 => ?_) (fun _ _ _ => go)
        · rw [ec, n1] at q; exact absurd q (nI_ge hil (by omega))
        · rw [nI_lit1, nI_eq (by omega) (by decide)] at q
          rw [show (2 : Int32) = nI 2 from rfl, nI_eq (by omega) (by decide)] at q2
          omega
      · rintro σ' ⟨i1, i2, i3⟩
        have hg' := kg i1 hg
        obtain ⟨n1, n2⟩ := gm_nb hg' p1.1
        rw [List.take_length] at i3
        have fin : sy_E shM mX12_comesBehind (0, sy_ent [.ref 0, .ref 12, .int (nI c)] 3, [], σ') (fun r9 σ9 => sy_E shM mX12_goes (115, [none, none, none, some (.int (nI c)), none], r9.toList ++ [], σ9) Q) := by
          refine e_m_comes hg' p1.1 i2 (hBt c hc16) i3 (fun σ3 f1 f2 => w_m_goes_115 ?_)
          refine k1 σ3 c _ _ hn (i1.tr (f1.mono (by simp) (by simp))) ⟨fun j hj => ?_, fun _ => ?_⟩
          · rw [f1.1 12 (by decide) (by decide)]; exact i2 j hj
          · rw [List.foldl_append]
            rw [mlr_p p1] at f2
            exact f2
        refine w_m_goes_56 (vp_in_nI hc16 (by decide)) (fun q => ?_) (fun q => ?_) (fun _ => ?_) (fun q => ?_) (fun q => ?_) (fun q => ?_)
        · exact absurd (by rw [ec, n1]; exact nI_le (Nat.le_refl _) (by omega)) q
        · exact absurd (by rw [ec, n1]; exact nI_le (Nat.le_refl _) (by omega)) q
        · refine w_m_goes_99 (fun _ => fin) (fun q q2 => ?_) (fun _ _ => fin)
          rw [nI_lit1, nI_eq (by omega) (by decide)] at q
          rw [show (2 : Int32) = nI 2 from rfl, nI_eq (by omega) (by decide)] at q2
          omega
        · exact absurd (by rw [ec, n1]; exact nI_le (Nat.le_refl _) (by omega)) q
        · exact absurd (by rw [ec, n1]; exact nI_le (Nat.le_refl _) (by omega)) q
        · exact absurd (by rw [ec, n1]; exact nI_le (Nat.le_refl _) (by omega)) q
    · rw [if_neg ho2] at hn hm1
      have n1 : ¬ nI o = 1 := by rw [nI_lit1, nI_eq (by omega) (by decide)]; omega
      have n2 : ¬ nI o = 2 := by rw [show (2 : Int32) = nI 2 from rfl, nI_eq (by omega) (by decide)]; omega
      have fin : sy_E shM mX12_goes (99, [some (.ref 0), some (.ref 12), some (.int (nI o)), some (.int (nI c)), none], [], σ2) Q := w_m_goes_99 (fun q => absurd q n1) (fun _ _ => k1 σ2 c _ _ hn hs2 ⟨g2, fun z => absurd z ho2⟩) (fun _ q => absurd n2 q)
      exact w_m_goes_56 (vp_in_nI hc16 (by decide)) (fun _ q => absurd q n1) (fun _ _ q => absurd n2 q) (fun _ => fin) (fun _ q => absurd q n1) (fun _ _ _ => fin) (fun _ _ q => absurd n2 q)
  have none' : mpick G o H L = none → mnext G o (H, L) = none := fun hp => by unfold mnext; rw [hp]
  match o, ho, hm, hi, k0, k1, rest, none' with
  | 0, _, hm, hi, k0, k1, rest, none' =>
    refine w_m_goes_0 (fun q => absurd rfl q) (fun q => absurd rfl q) (fun q => absurd rfl q) (fun _ => ?_)
    refine e_m_least hg hm.1 hB1 ?_
    cases hp : (sg_P G).find? (fun c => decide (3 < H c)) with
    | none => exact w_m_goes_9 (fun q => absurd q (by decide)) (fun _ => k0 (none' hp))
    | some c =>
      have hc := (mpick_ok hi).1 c hp
      exact w_m_goes_9 (fun _ => rest σ c hp sm.rf hm) (fun q => absurd (nI_pos' (by have := hc.1.1; omega)) q)
  | 1, _, hm, hi, k0, k1, rest, none' =>
    refine w_m_goes_0 (fun _ _ q => absurd rfl q) (fun _ _ _ => ?_) (fun _ q => absurd (by decide) q) (fun q => absurd (by decide) q)
    refine e_m_leaves (o := 1) (Or.inl rfl) hG (hm.2 (Or.inl rfl)) (fun e => ?_) (fun σ' c hc h1 h2 => ?_)
    · exact w_m_goes_39 (fun q => absurd q (by decide)) (fun _ => k0 (none' (by rw [e]; rfl)))
    · have hcp := (mpick_ok hi).1 c hc
      refine w_m_goes_39 (fun _ => rest σ' c hc (h1.mono (by simp) (by simp)) ⟨fun j hj => ?_, fun _ => h2⟩) (fun q => absurd (nI_pos' (by have := hcp.1.1; omega)) q)
      rw [h1.1 12 (by decide) (by decide)]; exact hm.1 j hj
  | 2, _, hm, hi, k0, k1, rest, none' =>
    refine w_m_goes_0 (fun _ _ _ => ?_) (fun _ _ q => absurd (by decide) q) (fun _ q => absurd (by decide) q) (fun q => absurd (by decide) q)
    refine e_m_leaves (o := 2) (Or.inr rfl) hG (hm.2 (Or.inr rfl)) (fun e => ?_) (fun σ' c hc h1 h2 => ?_)
    · exact w_m_goes_39 (fun q => absurd q (by decide)) (fun _ => k0 (none' (by rw [e]; rfl)))
    · have hcp := (mpick_ok hi).1 c hc
      refine w_m_goes_39 (fun _ => rest σ' c hc (h1.mono (by simp) (by simp)) ⟨fun j hj => ?_, fun _ => h2⟩) (fun q => absurd (nI_pos' (by have := hcp.1.1; omega)) q)
      rw [h1.1 12 (by decide) (by decide)]; exact hm.1 j hj
  | 3, _, hm, hi, k0, k1, rest, none' =>
    refine w_m_goes_0 (fun _ q => absurd rfl q) (fun _ q => absurd rfl q) (fun _ _ => ?_) (fun q => absurd (by decide) q)
    refine e_m_tall hg hm.1 hB1 ?_
    cases hp : (sg_P G).foldl (mtall H) none with
    | none => exact w_m_goes_22 (fun q => absurd q (by decide)) (fun _ => k0 (none' hp))
    | some c =>
      have hc := (mpick_ok hi).1 c hp
      exact w_m_goes_22 (fun _ => rest σ c hp sm.rf hm) (fun q => absurd (nI_pos' (by have := hc.1.1; omega)) q)
