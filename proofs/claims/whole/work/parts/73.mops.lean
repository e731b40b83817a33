/-! the model reads its tape -/
theorem e_m_isCell {Q : Option Value → sy_S → Prop} {σ : sy_S} {b : Nat} (hb : b ≤ 127) (k1 : (b = 35 ∨ (48 ≤ b ∧ b ≤ 57)) → Q (some (.int 1)) σ) (k0 : ¬ (b = 35 ∨ (48 ≤ b ∧ b ≤ 57)) → Q (some (.int 0)) σ) : sy_E shM mX12_isCell (0, sy_ent [.int (nI b)] 1, [], σ) Q := by
  obtain ⟨h1, h2⟩ := m_rng (x := nI b) (lo := 48) (hi := 57) (a := 48) (b := 57) rfl rfl (by decide)
  have c35 : nI b = 35 ↔ b = 35 := nI_eq (by omega) (by decide)
  refine w_M_isCell_0 (fun q => k1 (Or.inl (c35.mp q))) (fun _ q => ?_) (fun q q2 => k0 (fun z => ?_))
  · obtain ⟨m, hm⟩ := h1 q
    obtain ⟨⟨m1, m2⟩, m3, m4⟩ := px_s hm
    have e : b = m := (nI_eq (by omega) m4).mp m3
    exact k1 (Or.inr (by omega))
  · rcases z with z | z
    · exact q (c35.mpr z)
    · have := h2 q2
      rw [px_i (p := pR 48 57) (by omega) z] at this
      cases this
theorem e_m_wrongAt {Q : Option Value → sy_S → Prop} {σ : sy_S} {s w r b : Nat} {v : List (Option Nat)} (hq : tok (s, w, r, v)) (e19 : σ.1 0 19 = nI s) (e20 : σ.1 0 20 = nI r) (e21 : σ.1 0 21 = nI w) (hb : b ≤ 127) (kk : Q (some (.int (nI (tcs s w r b)))) σ) : sy_E shM mX12_wrongAt (0, sy_ent [.ref 0, .int (nI b)] 3, [], σ) Q := by
  obtain ⟨h1, h2, h3, h4, h5, h6, h7⟩ := hq
  dsimp only at h1 h2 h3 h4 h5 h6 h7
  have hr4 : r ≤ 4 := by unfold tmost at h3; split at h3 <;> omega
  have c47 : nI b = 47 ↔ b = 47 := nI_eq (by omega) (by decide)
  have r0 : nI r ≤ 0 ↔ r ≤ 0 := by rw [nI_lit0, nI_leI (by omega) (by decide)]
  have w0 : nI w = 0 ↔ w = 0 := by rw [nI_lit0, nI_eq (by omega) (by decide)]
  have rw' : nI r = nI w ↔ r = w := nI_eq (by omega) (by omega)
  have r4 : nI r = 4 ↔ r = 4 := nI_eq (by omega) (by decide)
  have s3 : nI s = 3 ↔ s = 3 := nI_eq (by omega) (by decide)
  have ws : w = 0 ↔ s = 0 := ⟨fun q => Classical.byContradiction fun z => by have := h5 (by omega); omega, h4⟩
  have is : ∀ c : Nat, tcs s w r b = c → Q (some (.int (nI c))) σ := fun c e => e ▸ kk
  have i2 : tcs s w r b = 2 → Q (some (.int 2)) σ := is 2
  have i0 : tcs s w r b = 0 → Q (some (.int 0)) σ := is 0
  have i5 : tcs s w r b = 5 → Q (some (.int 5)) σ := is 5
  have i4 : tcs s w r b = 4 → Q (some (.int 4)) σ := is 4
  refine w_M_wrongAt_0 (e_m_isCell hb (fun hc => ?_) (fun hc => ?_))
  · have hne : b ≠ 47 := by omega
    refine w_M_wrongAt_4 (fun q => absurd q (by decide)) (fun q => absurd q (by decide)) (fun q => absurd q (by decide)) (fun q => absurd q (by decide)) (fun q => absurd q (by decide)) (fun q => absurd q (by decide)) (fun q => absurd q (by decide)) (fun q => absurd q (by decide)) (fun q => absurd q (by decide)) (fun q => absurd q (by decide)) (fun _ a b => ?_) (fun _ a b => ?_) (fun _ a b => ?_) (fun _ a b => ?_)
    all_goals rw [e21, w0, ws] at a
    all_goals rw [e20] at b
    · rw [e21, rw'] at b
      refine i0 ?_
      rw [tcs_cell hne hc]; unfold tmost at h3 ⊢; rw [if_neg a] at h3 ⊢; rw [if_pos (by omega)]
    · rw [e21, rw'] at b
      refine i4 ?_
      rw [tcs_cell hne hc]; unfold tmost at h3 ⊢; rw [if_neg a] at h3 ⊢; rw [if_neg (by omega)]
    · rw [r4] at b
      have a := Classical.byContradiction a
      refine i0 ?_
      rw [tcs_cell hne hc]; unfold tmost at h3 ⊢; rw [if_pos a] at h3 ⊢; rw [if_pos (by omega)]
    · rw [r4] at b
      have a := Classical.byContradiction a
      refine i4 ?_
      rw [tcs_cell hne hc]; unfold tmost at h3 ⊢; rw [if_pos a] at h3 ⊢; rw [if_neg (by omega)]
  · have two : b ≠ 47 → Q (some (.int 2)) σ := fun q => i2 (tcs_two q hc)
    have sl : ∀ c, b = 47 → (if twh s w r = true then (if s + 1 < 4 then 0 else 5) else 2) = c → tcs s w r b = c := fun c q e => by unfold tcs; rw [if_pos q]; exact e
    have wn0 : s = 0 → r ≤ 0 → twh s w r ≠ true := fun a b => by unfold twh; rw [if_pos a, decide_eq_false (by omega)]; decide
    have wy0 : s = 0 → ¬ r ≤ 0 → twh s w r = true := fun a b => by unfold twh; rw [if_pos a, decide_eq_true (by omega)]
    have wn1 : s ≠ 0 → r ≠ w → twh s w r ≠ true := fun a b => by unfold twh; rw [if_neg a, decide_eq_false b]; decide
    have wy1 : s ≠ 0 → r = w → twh s w r = true := fun a b => by unfold twh; rw [if_neg a, decide_eq_true b]
    have no0 : r ≤ 0 → twh s w r ≠ true := fun b => by
      by_cases a : s = 0
      · exact wn0 a b
      · exact wn1 a (by have := h5 (by omega); omega)
    have zero : b = 47 → twh s w r = true → ¬ s = 3 → Q (some (.int 0)) σ := fun q a c => i0 (sl 0 q (by rw [if_pos a, if_pos (by omega)]))
    have five : b = 47 → twh s w r = true → s = 3 → Q (some (.int 5)) σ := fun q a c => i5 (sl 5 q (by rw [if_pos a, if_neg (by omega)]))
    have bad : twh s w r ≠ true → Q (some (.int 2)) σ := fun a => i2 (by
      by_cases q : b = 47
      · exact sl 2 q (by rw [if_neg a])
      · exact tcs_two q hc)
    refine w_M_wrongAt_4 (fun _ a b => ?_) (fun _ a b => ?_) (fun _ a c b => ?_) (fun _ a c b d => ?_) (fun _ a c b d => ?_) (fun _ a c d b => ?_) (fun _ a c d b => ?_) (fun _ a c d b => ?_) (fun _ a c d b e => ?_) (fun _ a c d b e => ?_) (fun q => absurd rfl q) (fun q => absurd rfl q) (fun q => absurd rfl q) (fun q => absurd rfl q)
    all_goals rw [e20, r0] at a
    all_goals rw [c47] at b
    · exact two b
    · exact bad (no0 a)
    · exact two b
    · rw [e21, w0, ws] at c
      rw [e19, s3] at d
      exact zero (Classical.byContradiction b) (wy0 c a) d
    · rw [e21, w0, ws] at c
      rw [e19, s3] at d
      exact five (Classical.byContradiction b) (wy0 c a) (Classical.byContradiction d)
    · exact two b
    · rw [e21, w0, ws] at c
      rw [e20, e21, rw'] at d
      exact bad (wn1 c d)
    · exact two b
    · rw [e21, w0, ws] at c
      rw [e20, e21, rw'] at d
      rw [e19, s3] at e
      exact zero (Classical.byContradiction b) (wy1 c (Classical.byContradiction d)) e
    · rw [e21, w0, ws] at c
      rw [e20, e21, rw'] at d
      rw [e19, s3] at e
      exact five (Classical.byContradiction b) (wy1 c (Classical.byContradiction d)) (Classical.byContradiction e)
theorem e_m_wrongPlace {Q : Option Value → sy_S → Prop} {σ : sy_S} {T : List Nat} (hT : tM T σ.1) (hl : T.length ≤ 40) (hb : ∀ b, b ∈ T → 1 ≤ b ∧ b ≤ 127) (k1 : ∀ (σ' : sy_S) (fa s c : Nat), trun T 0 (0, 0, 0, []) = .inl (fa, s, c) → sm [] [18, 19, 20, 21] σ σ' → σ'.1 0 18 = nI c → σ'.1 0 19 = nI s → Q (some (.int (nI fa))) σ') (k0 : ∀ (σ' : sy_S) (q : tq), trun T 0 (0, 0, 0, []) = .inr q → sm [] [18, 19, 20, 21] σ σ' → σ'.1 0 18 = nI 0 → σ'.1 0 19 = nI q.1 → σ'.1 0 20 = nI q.2.2.1 → Q (some (.int (-1))) σ') : sy_E shM mX12_wrongPlace (0, sy_ent [.ref 0] 2, [], σ) Q := by
  have key : ∀ (l : List Nat) (i : Nat) (s w r : Nat) (v : List (Option Nat)) (σ1 : sy_S), T.drop i = l → i ≤ T.length → tok (s, w, r, v) → σ1.1 0 19 = nI s → σ1.1 0 20 = nI r → σ1.1 0 21 = nI w → trun T 0 (0, 0, 0, []) = trun l i (s, w, r, v) → sm [] [18, 19, 20, 21] σ σ1 → sy_E shM mX12_wrongPlace (17, [some (.ref 0), some (.int (nI i))], [], σ1) Q := by
    intro l
    induction l with
    | nil =>
      intro i s w r v σ1 hd hi hq s1 s3 s2 he hs
      have hi2 : i = T.length := by
        have := congrArg List.length hd
        rw [List.length_drop, List.length_nil] at this
        omega
      subst hi2
      obtain ⟨q1, q2, q3, q4, q5, q6, q7⟩ := id hq
      dsimp only at q1 q2 q3 q4 q5 q6 q7
      have hr4 : r ≤ 4 := by unfold tmost at q3; split at q3 <;> omega
      have ws : w = 0 ↔ s = 0 := ⟨fun q => Classical.byContradiction fun z => by have := q5 (by omega); omega, q4⟩
      have e16 : σ1.1 0 16 = nI T.length := (hs.2.1 16 (by simp)).trans hT.1
      have le : σ1.1 0 16 ≤ nI T.length := by rw [e16]; exact nI_le (Nat.le_refl _) (by omega)
      rw [trun] at he
      have bad : ¬ twh s w r = true → Q (some (.int (σ1.1 0 16))) (sy_up σ1.1 0 18 3, σ1.2) := by
        intro hw
        rw [if_neg hw] at he
        rw [e16]
        refine k1 _ _ _ _ he (hs.tr (sm.fu (by simp))) ?_ ?_
        · dsimp only; rw [sy_up2, if_pos ⟨rfl, rfl⟩]; rfl
        · dsimp only; rw [sy_up2, if_neg (by decide)]; exact s1
      have good : twh s w r = true → Q (some (.int (-1))) (sy_up σ1.1 0 18 0, σ1.2) := by
        intro hw
        rw [if_pos hw] at he
        refine k0 _ _ he (hs.tr (sm.fu (by simp))) ?_ ?_ ?_
        · dsimp only; rw [sy_up2, if_pos ⟨rfl, rfl⟩]; rfl
        · dsimp only; rw [sy_up2, if_neg (by decide)]; exact s1
        · dsimp only; rw [sy_up2, if_neg (by decide)]; exact s3
      have r0 : σ1.1 0 20 ≤ 0 ↔ r ≤ 0 := by rw [s3, nI_lit0, nI_leI (by omega) (by decide)]
      have w0 : σ1.1 0 21 = 0 ↔ w = 0 := by rw [s2, nI_lit0, nI_eq (by omega) (by decide)]
      have rw' : σ1.1 0 20 = σ1.1 0 21 ↔ r = w := by rw [s3, s2, nI_eq (by omega) (by omega)]
      refine w_M_wrongPlace_17 (fun q => absurd le q) (fun _ a => bad ?_) (fun _ a b => good ?_) (fun _ a b c => bad ?_) (fun _ a b c => good ?_) (fun q => absurd le q)
      · rw [r0] at a
        unfold twh
        by_cases z : s = 0
        · rw [if_pos z, decide_eq_false (by omega)]; decide
        · have := q5 (by omega)
          rw [if_neg z, decide_eq_false (by omega)]; decide
      · rw [r0] at a; rw [w0, ws] at b
        unfold twh; rw [if_pos b, decide_eq_true (by omega)]
      · rw [w0, ws] at b; rw [rw'] at c
        unfold twh; rw [if_neg b, decide_eq_false c]; decide
      · rw [w0, ws] at b; rw [rw'] at c
        unfold twh; rw [if_neg b, decide_eq_true (Classical.byContradiction c)]
    | cons b l ih =>
      intro i s w r v σ1 hd hi hq s1 s3 s2 he hs
      have hib : T[i]? = some b := by
        have h := congrArg (fun m => m[0]?) hd
        simp only [List.getElem?_drop, Nat.add_zero] at h
        simpa using h
      have hlt := (List.getElem?_eq_some_iff.mp hib).1
      have hd2 : T.drop (i + 1) = l := by
        rw [← List.drop_drop, hd]; rfl
      have e16 : σ1.1 0 16 = nI T.length := (hs.2.1 16 (by simp)).trans hT.1
      have nle : ¬ σ1.1 0 16 ≤ nI i := by rw [e16]; exact nI_ge hlt (by omega)
      have e11 : σ1.1 11 i = nI b := by rw [hs.1 11 (by decide) (by simp)]; exact hT.2 i b hib
      have hbb := (hb b (List.mem_of_getElem? hib)).2
      refine w_M_wrongPlace_17 (fun _ => vp_in_nI (by omega) (by decide)) (fun q => absurd q nle) (fun q => absurd q nle) (fun q => absurd q nle) (fun q => absurd q nle) (fun _ => ?_)
      rw [nI_clamp (by omega), e11]
      rw [trun] at he
      refine e_m_wrongAt hq s1 s3 s2 hbb ?_
      have c47 : nI b = 47 ↔ b = 47 := nI_eq (by omega) (by decide)
      have hle := tcs_le s w r b
      refine w_M_wrongPlace_36 (fun _ => vp_in_nI (by omega) (by decide)) (fun a c => ?_) (fun a c => ?_) (fun a => ?_)
      · rw [nI_clamp (by omega), e11, c47] at c
        have e : tcs s w r b = 0 := by rw [nI_lit0, nI_leI (by omega) (by decide)] at a; omega
        rw [if_pos e] at he
        have htk := tok_nx hq e
        have hn : tnx (s, w, r, v) b = (s, w, r + 1, v ++ [tcl b]) := by unfold tnx; rw [if_neg c]
        rw [hn] at he htk
        rw [nI_1]
        refine ih (i + 1) s w (r + 1) (v ++ [tcl b]) _ hd2 hlt htk ?_ ?_ ?_ he (hs.tr ((sm.fu (i := 18) (x := nI (tcs s w r b)) (by simp)).tr (sm.fu (by simp))))
        · simp [sy_up2, s1]
        · simp [sy_up2, s3, nI_1]
        · simp [sy_up2, s2]
      · rw [nI_clamp (by omega), e11, c47] at c
        have c := Classical.byContradiction c
        have e : tcs s w r b = 0 := by rw [nI_lit0, nI_leI (by omega) (by decide)] at a; omega
        rw [if_pos e] at he
        have htk := tok_nx hq e
        have hn : tnx (s, w, r, v) b = (s + 1, r, 0, v) := by unfold tnx; rw [if_pos c]
        rw [hn] at he htk
        rw [nI_1]
        refine ih (i + 1) (s + 1) r 0 v _ hd2 hlt htk ?_ ?_ ?_ he (hs.tr ⟨fun q hq _ => ?_, fun j hj => ?_, rfl⟩)
        · simp [sy_up2, s1, nI_1]
        · simp [sy_up2, nI_0]
        · simp [sy_up2, s3]
        · dsimp only; rw [sy_up_ne _ _ _ hq, sy_up_ne _ _ _ hq, sy_up_ne _ _ _ hq, sy_up_ne _ _ _ hq]
        · simp only [List.mem_cons, List.not_mem_nil, or_false, not_or] at hj
          simp [sy_up2, hj.1, hj.2.1, hj.2.2.1, hj.2.2.2]
      · have e : tcs s w r b ≠ 0 := fun e => a (by rw [e]; decide)
        rw [if_neg e] at he
        refine k1 _ _ _ _ he (hs.tr (sm.fu (by simp))) ?_ ?_
        · dsimp only; rw [sy_up2, if_pos ⟨rfl, rfl⟩]
        · dsimp only; rw [sy_up2, if_neg (by decide)]; exact s1
  refine w_M_wrongPlace_0 ?_
  refine key T 0 0 0 0 [] _ rfl (Nat.zero_le _) tok_0 ?_ ?_ ?_ rfl ⟨fun q hq _ => ?_, fun j hj => ?_, rfl⟩
  · simp [sy_up2, nI_0]
  · simp [sy_up2, nI_0]
  · simp [sy_up2, nI_0]
  · dsimp only; rw [sy_up_ne _ _ _ hq, sy_up_ne _ _ _ hq, sy_up_ne _ _ _ hq]
  · simp only [List.mem_cons, List.not_mem_nil, or_false, not_or] at hj
    simp [sy_up2, hj.2.1, hj.2.2.1, hj.2.2.2]
theorem tgw_sn (v : List (Option Nat)) (x : Option Nat) (k : Nat) : tgw (v ++ [x]) k = if k = v.length then x.isNone else tgw v k := by
  unfold tgw
  rw [List.getElem?_append]
  by_cases e : k = v.length
  · rw [if_pos e, if_neg (by omega), e, Nat.sub_self]
    cases x <;> rfl
  · rw [if_neg e]
    by_cases q : k < v.length
    · rw [if_pos q]
    · rw [if_neg q, List.getElem?_eq_none (by simp only [List.length_singleton]; omega), List.getElem?_eq_none (by omega)]
theorem tgh_sn (v : List (Option Nat)) (x : Option Nat) (k : Nat) : tgh (v ++ [x]) k = if k = v.length then x.getD 0 else tgh v k := by
  unfold tgh
  rw [List.getElem?_append]
  by_cases e : k = v.length
  · rw [if_pos e, if_neg (by omega), e, Nat.sub_self]
    cases x <;> rfl
  · rw [if_neg e]
    by_cases q : k < v.length
    · rw [if_pos q]
    · rw [if_neg q, List.getElem?_eq_none (by simp only [List.length_singleton]; omega), List.getElem?_eq_none (by omega)]
theorem tok_16 {s w r b : Nat} {v : List (Option Nat)} (h : tok (s, w, r, v)) (hb : b ≠ 47) (hc : tcs s w r b = 0) : (b = 35 ∨ (48 ≤ b ∧ b ≤ 57)) ∧ v.length < 16 := by
  obtain ⟨h1, h2, h3, h4, h5, h6, h7⟩ := h
  dsimp only at h1 h2 h3 h4 h5 h6 h7
  by_cases hcell : b = 35 ∨ (48 ≤ b ∧ b ≤ 57)
  · refine ⟨hcell, ?_⟩
    rw [tcs_cell hb hcell] at hc
    split at hc
    · rename_i hr
      unfold tmost at hr
      rw [h6]
      by_cases q : s = 0
      · rw [if_pos q] at hr
        rw [q, h4 q]; omega
      · rw [if_neg q] at hr
        have h9 : s * w ≤ 3 * w := Nat.mul_le_mul_right _ h1
        omega
    · cases hc
  · rw [tcs_two hb hcell] at hc
    cases hc
theorem M_read {Q : Option Value → sy_S → Prop} {σ : sy_S} {B : Nat} {S : st}  (ho : sO B S) (h : RM S σ.1) (kk : ∀ σ' : sy_S, RM (f_read S).2 σ'.1 → Q (some (.int (f_read S).1)) σ') : sy_E shM mX12_read (0, sy_ent [.ref 0] 5, [], σ) Q := by
  obtain ⟨G, H, P, U, R, T, W, L⟩ := S
  obtain ⟨r1, r2, r3, r4, r5, r6, r7⟩ := id h
  have hG := r1.1
  have hH := sO_H ho
  obtain ⟨hT, hTb⟩ := ho.2.2.2.2.1
  obtain ⟨t1, t2⟩ := trun_ok T 0 (0, 0, 0, []) tok_0
  refine w_M_read_0 (e_m_wrongPlace r4 hT hTb (fun σ1 fa s c e g1 g18 g19 => ?_) (fun σ1 q e g1 g18 g19 g20 => ?_))
  · have hfa := (t1 fa s c e).1
    rw [Nat.zero_add] at hfa
    refine w_M_read_4 (fun q => absurd q (nI_pos (by omega))) (fun _ => ?_)
    have ef : f_read (G, H, P, U, R, T, W, L) = (-100 - nI fa, (G, H, P, U, R, [], some (s, c), L)) := by simp only [f_read, e]
    rw [ef] at kk
    have e2 : ∀ q, q ≠ 0 → sy_up (sy_up σ1.1 0 17 (σ1.1 0 19)) 0 16 0 q = σ.1 q := fun q a => (sy_up_ne _ _ _ a).trans ((sy_up_ne _ _ _ a).trans (g1.1 q a (by simp)))
    have d2 : ∀ j, j ≠ 16 → j ≠ 17 → j ≠ 18 → j ≠ 19 → j ≠ 20 → j ≠ 21 → sy_up (sy_up σ1.1 0 17 (σ1.1 0 19)) 0 16 0 0 j = σ.1 0 j := fun j a b c d e f => by
      rw [sy_up2, if_neg (fun q => a q.2), sy_up2, if_neg (fun q => b q.2)]
      exact g1.2.1 j (by simp [c, d, e, f])
    refine kk _ ⟨r1.fe (d2 0 (by decide) (by decide) (by decide) (by decide) (by decide) (by decide)) (d2 1 (by decide) (by decide) (by decide) (by decide) (by decide) (by decide)) (e2 1 (by decide)) (e2 3 (by decide)) (e2 4 (by decide)), fun j hj => ?_, r3.fe (d2 13 (by decide) (by decide) (by decide) (by decide) (by decide) (by decide)) (d2 14 (by decide) (by decide) (by decide) (by decide) (by decide) (by decide)) (e2 9 (by decide)) (e2 10 (by decide)), ⟨?_, fun j x hj => by simp at hj⟩, ⟨?_, ?_⟩, r6.fe (e2 7 (by decide)) (e2 8 (by decide)), r7.fe (e2 25 (by decide)) (e2 26 (by decide))⟩
    · dsimp only; rw [e2 2 (by decide)]; exact r2 j hj
    · simp [sy_up2, nI_0]
    · simp [sy_up2, g18]
    · simp [sy_up2, g19]
  · obtain ⟨hq, hw⟩ := t2 q e
    obtain ⟨s, w, r, v⟩ := q
    obtain ⟨k1, k2, k3, k4, k5, k6, k7⟩ := id hq
    dsimp only at k1 k2 k3 k4 k5 k6 k7 hw g19 g20
    have hr4 : r ≤ 4 := by unfold tmost at k3; split at k3 <;> omega
    have hr1 : 1 ≤ r := by
      unfold twh at hw
      by_cases z : s = 0
      · rw [if_pos z, decide_eq_true_eq] at hw; exact hw
      · rw [if_neg z, decide_eq_true_eq] at hw
        rw [hw]; exact k5 (by omega)
    have ef : f_read (G, H, P, U, R, T, W, L) = (nI ((s + 1) * r), ((s + 1, r, tgw v), tgh v, pno, [], [], [], none, L)) := by simp only [f_read, e]
    rw [ef] at kk
    have e16 : σ1.1 0 16 = nI T.length := (g1.2.1 16 (by simp)).trans r4.1
    refine w_M_read_4 (fun _ => ?_) (fun q => absurd (by decide) q)
    rw [e16]
    -- what the walls' and heights' loops keep
    have hloop := sy_loop (sh := shM) (y := mX12_read) (Q := Q) (fun i σ' => (55, [some (.ref 0), none, some (.int (nI T.length)), some (.int 0), some (.int (nI i))], [], σ')) (fun i σ' => sm [1, 2] [0, 1, 16, 17] σ1 σ' ∧ (σ'.1 0 0 = nI (s + 1) ∧ σ'.1 0 1 = nI r ∧ σ'.1 0 16 = nI 0) ∧ ∀ j, j < i → σ'.1 1 j = 0 ∧ σ'.1 2 j = 0) 16 ?_ ?_ 0 (sy_up (sy_up (sy_up (sy_up σ1.1 0 17 (σ1.1 0 19)) 0 16 0) 0 0 (σ1.1 0 19 + 1)) 0 1 (σ1.1 0 20), σ1.2) (by decide) ⟨⟨fun q a _ => ?_, fun j hj => ?_, rfl⟩, ⟨?_, ?_, ?_⟩, fun j hj => absurd hj (Nat.not_lt_zero _)⟩
    · exact hloop
    · rintro i σ2 hi ⟨i1, i2, i3⟩ ih
      have ei : (nI i).toNatClampNeg = i := nI_clamp (by omega)
      refine w_M_read_55 (fun _ => vp_in_nI hi (by decide)) (fun q => absurd q (nI_ge hi (by decide))) (fun _ => ?_)
      rw [ei, nar_b0, nI_1]
      refine ih _ ⟨i1.tr ((sm.up (k := 1) (i := i) (x := 0) (by simp) (by decide)).tr (sm.up (by simp) (by decide))), ⟨?_, ?_, ?_⟩, fun j hj => ?_⟩
      · dsimp only; rw [sy_up_ne _ _ _ (by decide), sy_up_ne _ _ _ (by decide)]; exact i2.1
      · dsimp only; rw [sy_up_ne _ _ _ (by decide), sy_up_ne _ _ _ (by decide)]; exact i2.2.1
      · dsimp only; rw [sy_up_ne _ _ _ (by decide), sy_up_ne _ _ _ (by decide)]; exact i2.2.2
      · dsimp only
        rw [sy_up_ne _ _ _ (show (1 : Nat) ≠ 2 by decide), sy_up2, sy_up2]
        by_cases y : j = i
        · rw [if_pos ⟨rfl, y⟩, if_pos ⟨rfl, y⟩]; exact ⟨rfl, rfl⟩
        · rw [if_neg (fun z => y z.2), if_neg (fun z => y z.2), sy_up_ne _ _ _ (by decide)]
          exact i3 j (by omega)
    · rintro σ2 ⟨i1, i2, i3⟩
      refine w_M_read_55 (fun q => absurd (nI_le (Nat.le_refl 16) (by decide)) q) (fun _ => ?_) (fun q => absurd (nI_le (Nat.le_refl 16) (by decide)) q)
      have key : ∀ (l : List Nat) (i : Nat) (s' w' r' : Nat) (v' : List (Option Nat)) (σ3 : sy_S), T.drop i = l → i ≤ T.length → tok (s', w', r', v') → trun l i (s', w', r', v') = .inr (s, w, r, v) → sm [1, 2] [] σ2 σ3 → (∀ k, k < 16 → σ3.1 1 k = (if tgw v' k then 1 else 0)) → (∀ k, k < 16 → σ3.1 2 k = nI (tgh v' k)) → sy_E shM mX12_read (87, [some (.ref 0), none, some (.int (nI T.length)), some (.int (nI v'.length)), some (.int (nI i))], [], σ3) Q := by
        intro l
        induction l with
        | nil =>
          intro i s' w' r' v' σ3 hd hi hq' he hs hw1 hh1
          have hi2 : i = T.length := by
            have := congrArg List.length hd
            rw [List.length_drop, List.length_nil] at this
            omega
          subst hi2
          have hev : v' = v := by
            rw [trun] at he
            split at he
            · cases he; rfl
            · cases he
          subst hev
          have le : nI T.length ≤ nI T.length := nI_le (Nat.le_refl _) (by omega)
          refine w_M_read_87 (fun q => absurd le q) (fun q => absurd le q) (fun q => absurd le q) (fun _ => ?_) (fun q => absurd le q) (fun q => absurd le q) (fun q => absurd le q) (fun q => absurd le q) (fun q => absurd le q)
          have c : ∀ q, q ≠ 0 → q ≠ 1 → q ≠ 2 → σ3.1 q = σ.1 q := fun q a b d => (hs.1 q a (by simp [b, d])).trans ((i1.1 q a (by simp [b, d])).trans (g1.1 q a (by simp)))
          have d : ∀ j, σ3.1 0 j = σ2.1 0 j := fun j => hs.2.1 j (by simp)
          have hGn : sg_ok (s + 1, r, tgw v') := ⟨by dsimp only; omega, by dsimp only; omega, hr1, hr4⟩
          have h16 := sg_n16 hGn
          refine M_forgets (G := (s + 1, r, tgw v')) (H := tgh v') (T := []) (W := none) (L := L) hGn ⟨?_, ?_, fun k hk => hw1 k (by omega)⟩ (fun j hj => hh1 j hj) ⟨?_, fun j x hj => by simp at hj⟩ ?_ (r7.fe (c 25 (by decide) (by decide) (by decide)) (c 26 (by decide) (by decide) (by decide))) (fun σ4 hr => w_M_read_170 ?_)
          · rw [d]; exact i2.1
          · rw [d]; exact i2.2.1
          · rw [d]; exact i2.2.2
          · show σ3.1 0 18 = nI 0
            rw [d, i1.2.1 18 (by simp)]; exact g18
          · rw [gm_n hr.1]
            exact kk σ4 hr
        | cons b l ih =>
          intro i s' w' r' v' σ3 hd hi hq' he hs hw1 hh1
          have hib : T[i]? = some b := by
            have h := congrArg (fun m => m[0]?) hd
            simp only [List.getElem?_drop, Nat.add_zero] at h
            simpa using h
          have hlt := (List.getElem?_eq_some_iff.mp hib).1
          have hd2 : T.drop (i + 1) = l := by
            rw [← List.drop_drop, hd]; rfl
          have nle : ¬ nI T.length ≤ nI i := nI_ge hlt (by omega)
          have e11 : σ3.1 11 i = nI b := by rw [hs.1 11 (by decide) (by simp), i1.1 11 (by decide) (by simp), g1.1 11 (by decide) (by simp)]; exact r4.2 i b hib
          have hbb := (hTb b (List.mem_of_getElem? hib)).2
          have c47 : nI b = 47 ↔ b = 47 := nI_eq (by omega) (by decide)
          have c35 : nI b = 35 ↔ b = 35 := nI_eq (by omega) (by decide)
          rw [trun] at he
          split at he
          · rename_i hc
            dsimp only at hc
            have htk := tok_nx hq' hc
            have cell : b ≠ 47 → (b = 35 ∨ (48 ≤ b ∧ b ≤ 57)) ∧ v'.length < 16 := fun q => tok_16 hq' q hc
            have hin : b ≠ 47 → vp_in (nI v'.length) 16 := fun q => vp_in_nI (cell q).2 (by decide)
            -- a cell more
            have put : ∀ (x y : Int32), b ≠ 47 → x = (if (tcl b).isNone then 1 else 0) → y = nI ((tcl b).getD 0) → sy_E shM mX12_read (87, [some (.ref 0), none, some (.int (nI T.length)), some (.int (nI v'.length + 1)), some (.int (nI i + 1))], [], (sy_up (sy_up σ3.1 1 v'.length x) 2 v'.length y, σ3.2)) Q := by
              intro x y q hx hy
              have hn : tnx (s', w', r', v') b = (s', w', r' + 1, v' ++ [tcl b]) := by unfold tnx; rw [if_neg q]
              rw [hn] at he htk
              have := ih (i + 1) s' w' (r' + 1) (v' ++ [tcl b]) (sy_up (sy_up σ3.1 1 v'.length x) 2 v'.length y, σ3.2) hd2 hlt htk he (hs.tr ((sm.up (k := 1) (i := v'.length) (x := x) (by simp) (by decide)).tr (sm.up (by simp) (by decide)))) (fun k hk => ?_) (fun k hk => ?_)
              · rw [List.length_append, List.length_singleton] at this
                rw [nI_1, nI_1]
                exact this
              · dsimp only
                rw [sy_up_ne _ _ _ (by decide), sy_up2, tgw_sn]
                by_cases e : k = v'.length
                · rw [if_pos ⟨rfl, e⟩, if_pos e]; exact hx
                · rw [if_neg (fun q => e q.2), if_neg e]; exact hw1 k hk
              · dsimp only
                rw [sy_up2, tgh_sn]
                by_cases e : k = v'.length
                · rw [if_pos ⟨rfl, e⟩, if_pos e]; exact hy
                · rw [if_neg (fun q => e q.2), if_neg e, sy_up_ne _ _ _ (by decide)]; exact hh1 k hk
            have ev : b ≠ 47 → (nI v'.length).toNatClampNeg = v'.length := fun q => nI_clamp (by have := (cell q).2; omega)
            have wall : b = 35 → tcl b = none := fun q => by unfold tcl; rw [if_pos q]
            have fig : b ≠ 35 → tcl b = some (b - 48) := fun q => by unfold tcl; rw [if_neg q]
            refine w_M_read_87 (fun _ => vp_in_nI (by omega) (by decide)) (fun _ q _ => ?_) (fun _ q _ => ?_) (fun q => absurd q nle) (fun _ q => ?_) (fun _ q a _ => ?_) (fun _ q a z => ?_) (fun _ q a z => ?_) (fun _ q a _ => ?_)
            all_goals rw [nI_clamp (by omega), e11, c47] at q
            · exact hin q
            · exact hin q
            · have hn : tnx (s', w', r', v') b = (s' + 1, r', 0, v') := by unfold tnx; rw [if_pos q]
              rw [hn] at he htk
              rw [nI_1]
              exact ih (i + 1) (s' + 1) r' 0 v' σ3 hd2 hlt htk he hs hw1 hh1
            all_goals rw [nI_clamp (by omega), e11, c35] at a
            all_goals rw [ev q]
            · rw [nI_clamp (show i < 2 ^ 31 by omega), e11, nar_b0]
              refine put 0 _ q ?_ ?_
              · rw [fig a]; rfl
              · rw [fig a, show (48 : Int32) = nI 48 from rfl, pk_sub (by have := (cell q).1; omega)]; rfl
            · exfalso
              rw [ev q, sy_up2, if_pos ⟨rfl, rfl⟩] at z
              exact z rfl
            · exfalso
              rw [ev q, sy_up2, if_pos ⟨rfl, rfl⟩] at z
              cases z
            · rw [nar_b1]
              refine put 1 0 q ?_ ?_
              · rw [wall (Classical.byContradiction a)]; rfl
              · rw [wall (Classical.byContradiction a)]; rfl
          · cases he
      exact key T 0 0 0 0 [] σ2 rfl (Nat.zero_le _) tok_0 e sm.rf (fun k hk => (i3 k hk).1) (fun k hk => (i3 k hk).2)
    · dsimp only; rw [sy_up_ne _ _ _ a, sy_up_ne _ _ _ a, sy_up_ne _ _ _ a, sy_up_ne _ _ _ a]
    · simp only [List.mem_cons, List.not_mem_nil, or_false, not_or] at hj
      simp [sy_up2, hj.1, hj.2.1, hj.2.2.1, hj.2.2.2]
    · simp [sy_up2, g19, nI_1]
    · simp [sy_up2, g20]
    · simp [sy_up2, nI_0]
