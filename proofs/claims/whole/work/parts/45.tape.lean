/-! the tape's text as mathematics; contracts of Tape -/
def twh (s w r : Nat) : Bool := if s = 0 then decide (0 < r) else decide (r = w)
def tmost (s w : Nat) : Nat := if s = 0 then 4 else w
/-- what a byte may not be there for; 0 -/
def tcs (s w r b : Nat) : Nat := if b = 47 then (if twh s w r = true then (if s + 1 < 4 then 0 else 5) else 2) else if b = 35 ∨ (48 ≤ b ∧ b ≤ 57) then (if r < tmost s w then 0 else 4) else 2
def tcl (b : Nat) : Option Nat := if b = 35 then none else some (b - 48)
/-- rows behind, their width, cells of this row, all cells -/
abbrev tq : Type := Nat × Nat × Nat × List (Option Nat)
def tnx (q : tq) (b : Nat) : tq := if b = 47 then (q.1 + 1, q.2.2.1, 0, q.2.2.2) else (q.1, q.2.1, q.2.2.1 + 1, q.2.2.2 ++ [tcl b])
def tok (q : tq) : Prop := q.1 ≤ 3 ∧ q.2.1 ≤ 4 ∧ q.2.2.1 ≤ tmost q.1 q.2.1 ∧ (q.1 = 0 → q.2.1 = 0) ∧ (0 < q.1 → 1 ≤ q.2.1) ∧ q.2.2.2.length = q.1 * q.2.1 + q.2.2.1 ∧ ∀ d, some d ∈ q.2.2.2 → d ≤ 9
def trun : List Nat → Nat → tq → (Nat × Nat × Nat) ⊕ tq
  | [], i, q => if twh q.1 q.2.1 q.2.2.1 = true then .inr q else .inl (i, q.1, 3)
  | b :: l, i, q => if tcs q.1 q.2.1 q.2.2.1 b = 0 then trun l (i + 1) (tnx q b) else .inl (i, q.1, tcs q.1 q.2.1 q.2.2.1 b)
theorem tok_0 : tok (0, 0, 0, []) := ⟨by decide, by decide, by decide, fun _ => rfl, fun h => absurd h (by decide), rfl, fun d h => absurd h List.not_mem_nil⟩
theorem tcs_cell {s w r b : Nat} (h : b ≠ 47) (h2 : b = 35 ∨ (48 ≤ b ∧ b ≤ 57)) : tcs s w r b = if r < tmost s w then 0 else 4 := by
  unfold tcs
  rw [if_neg h, if_pos h2]
theorem tcs_two {s w r b : Nat} (h : b ≠ 47) (h2 : ¬ (b = 35 ∨ (48 ≤ b ∧ b ≤ 57))) : tcs s w r b = 2 := by
  unfold tcs
  rw [if_neg h, if_neg h2]
theorem tcs_le (s w r b : Nat) : tcs s w r b = 0 ∨ (2 ≤ tcs s w r b ∧ tcs s w r b ≤ 5) := by
  unfold tcs
  split
  · split
    · split
      · exact Or.inl rfl
      · exact Or.inr ⟨by decide, by decide⟩
    · exact Or.inr ⟨by decide, by decide⟩
  · split
    · split
      · exact Or.inl rfl
      · exact Or.inr ⟨by decide, by decide⟩
    · exact Or.inr ⟨by decide, by decide⟩
theorem tok_nx {q : tq} {b : Nat} (h : tok q) (hc : tcs q.1 q.2.1 q.2.2.1 b = 0) : tok (tnx q b) := by
  obtain ⟨s, w, r, v⟩ := q
  obtain ⟨h1, h2, h3, h4, h5, h6, h7⟩ := h
  dsimp only at h1 h2 h3 h4 h5 h6 h7 hc
  unfold tnx
  by_cases hb : b = 47
  · rw [if_pos hb]
    unfold tcs at hc
    rw [if_pos hb] at hc
    split at hc
    · rename_i hw
      split at hc
      · rename_i hs
        unfold twh at hw
        unfold tmost at h3
        refine ⟨by dsimp only; omega, ?_, Nat.zero_le _, fun z => absurd z (by dsimp only; omega), fun _ => ?_, ?_, h7⟩
        · dsimp only
          split at h3 <;> omega
        · dsimp only
          by_cases q : s = 0
          · rw [if_pos q, decide_eq_true_eq] at hw; omega
          · rw [if_neg q, decide_eq_true_eq] at hw
            have := h5 (by omega)
            omega
        · dsimp only
          rw [h6]
          by_cases q : s = 0
          · rw [q, h4 q]; omega
          · rw [if_neg q, decide_eq_true_eq] at hw
            rw [hw, Nat.add_mul]
            omega
      · cases hc
    · cases hc
  · rw [if_neg hb]
    by_cases hcell : b = 35 ∨ (48 ≤ b ∧ b ≤ 57)
    · rw [tcs_cell hb hcell] at hc
      split at hc
      · rename_i hr
        refine ⟨h1, h2, hr, h4, h5, ?_, fun d hd => ?_⟩
        · dsimp only
          rw [List.length_append, List.length_singleton, h6]
          omega
        · dsimp only at hd
          rcases List.mem_append.mp hd with z | z
          · exact h7 d z
          · rw [List.mem_singleton] at z
            unfold tcl at z
            split at z
            · cases z
            · cases z; omega
      · cases hc
    · rw [tcs_two hb hcell] at hc
      cases hc
theorem trun_ok : ∀ (l : List Nat) (i : Nat) (q : tq), tok q → (∀ fa s c, trun l i q = .inl (fa, s, c) → fa ≤ i + l.length ∧ s ≤ 3 ∧ 2 ≤ c ∧ c ≤ 5) ∧ (∀ q', trun l i q = .inr q' → tok q' ∧ twh q'.1 q'.2.1 q'.2.2.1 = true)
  | [], i, q, h => by
    rw [trun]
    split
    · rename_i hw
      refine ⟨(fun fa s c e => by cases e), fun q' e => ?_⟩
      cases e
      exact ⟨h, hw⟩
    · refine ⟨fun fa s c e => ?_, (fun q' e => by cases e)⟩
      cases e
      exact ⟨Nat.le_add_right _ _, h.1, by decide, by decide⟩
  | b :: l, i, q, h => by
    rw [trun]
    split
    · rename_i hc
      obtain ⟨r1, r2⟩ := trun_ok l (i + 1) (tnx q b) (tok_nx h hc)
      refine ⟨fun fa s c e => ?_, r2⟩
      have := r1 fa s c e
      rw [List.length_cons]
      omega
    · rename_i hc
      refine ⟨fun fa s c e => ?_, (fun q' e => by cases e)⟩
      cases e
      rw [List.length_cons]
      rcases tcs_le q.1 q.2.1 q.2.2.1 b with z | z
      · exact absurd z hc
      · exact ⟨by omega, h.1, z.1, z.2⟩
/-! the class's tape while it is read -/
def tS (q : tq) (f : Nat → Nat → Int32) : Prop := f 19 5 = nI q.1 ∧ f 19 6 = nI q.2.1 ∧ f 19 7 = nI q.2.2.1 ∧ ∀ j x, q.2.2.2[j]? = some x → f 21 j = x.elim (-1) nI
theorem e_x_tslash {Q : Option Value → sy_S → Prop} {σ : sy_S} {s w r : Nat} {v : List (Option Nat)} (hq : tok (s, w, r, v)) (hS : tS (s, w, r, v) σ.1) (k0 : tcs s w r 47 = 0 → ∀ σ' : sy_S, sx [19, 21] σ σ' → σ'.1 19 3 = σ.1 19 3 → σ'.1 19 4 = σ.1 19 4 → tS (tnx (s, w, r, v) 47) σ'.1 → Q (some (.int 0)) σ') (k1 : tcs s w r 47 ≠ 0 → Q (some (.int (nI (tcs s w r 47)))) σ) : sy_E shX mX10_acceptSlash (0, sy_ent [.ref 19] 1, [], σ) Q := by
  obtain ⟨h1, h2, h3, h4, h5, h6, h7⟩ := hq
  obtain ⟨s1, s2, s3, s4⟩ := hS
  dsimp only at h1 h2 h3 h4 h5 h6 h7 s1 s2 s3 s4
  have hr4 : r ≤ 4 := by unfold tmost at h3; split at h3 <;> omega
  have good : twh s w r = true → s + 1 < 4 → Q (some (.int 0)) (sy_up (sy_up (sy_up σ.1 19 6 (σ.1 19 7)) 19 5 (σ.1 19 5 + 1)) 19 7 0, σ.2) := by
    intro hw hs
    refine k0 (by unfold tcs; rw [if_pos rfl, if_pos hw, if_pos hs]) _ ⟨fun q hq => ?_, rfl⟩ ?_ ?_ ⟨?_, ?_, ?_, fun j x hj => ?_⟩
    · dsimp only
      rw [sy_up_ne _ _ _ (fun e => hq (by rw [e]; simp)), sy_up_ne _ _ _ (fun e => hq (by rw [e]; simp)), sy_up_ne _ _ _ (fun e => hq (by rw [e]; simp))]
    · simp [sy_up2]
    · simp [sy_up2]
    · simp [sy_up2, tnx, s1, nI_1]
    · simp [sy_up2, tnx, s3]
    · simp [sy_up2, tnx, nI_0]
    · dsimp only
      rw [sy_up_ne _ _ _ (by decide), sy_up_ne _ _ _ (by decide), sy_up_ne _ _ _ (by decide)]
      exact s4 j x hj
  have five : twh s w r = true → ¬ s + 1 < 4 → Q (some (.int 5)) σ := by
    intro hw hs
    have e : tcs s w r 47 = 5 := by unfold tcs; rw [if_pos rfl, if_pos hw, if_neg hs]
    rw [e] at k1
    exact k1 (by decide)
  have two : ¬ twh s w r = true → Q (some (.int 2)) σ := by
    intro hw
    have e : tcs s w r 47 = 2 := by unfold tcs; rw [if_pos rfl, if_neg hw]
    rw [e] at k1
    exact k1 (by decide)
  have c5 : σ.1 19 5 = 0 ↔ s = 0 := by rw [s1, nI_lit0, nI_eq (by omega) (by decide)]
  have c76 : σ.1 19 7 = σ.1 19 6 ↔ r = w := by rw [s3, s2, nI_eq (by omega) (by omega)]
  have c70 : σ.1 19 7 ≤ 0 ↔ r ≤ 0 := by rw [s3, nI_lit0, nI_leI (by omega) (by decide)]
  have c54 : σ.1 19 5 + 1 < 4 ↔ s + 1 < 4 := by rw [s1, nI_1, nI_lit4, nI_ltI (by omega) (by decide)]
  have w0 : s = 0 → 0 < r → twh s w r = true := fun a b => by unfold twh; rw [if_pos a, decide_eq_true b]
  have w1 : s ≠ 0 → r = w → twh s w r = true := fun a b => by unfold twh; rw [if_neg a, decide_eq_true b]
  have w2 : s = 0 → r ≤ 0 → ¬ twh s w r = true := fun a b => by unfold twh; rw [if_pos a, decide_eq_false (by omega)]; decide
  have w3 : s ≠ 0 → r ≠ w → ¬ twh s w r = true := fun a b => by unfold twh; rw [if_neg a, decide_eq_false b]; decide
  refine w_x_tslash (fun a b => ?_) (fun a b c => ?_) (fun a b c => ?_) (fun a b => ?_) (fun a b c => ?_) (fun a b c => ?_)
  · rw [c5] at a; rw [c76] at b; exact two (w3 a b)
  · rw [c5] at a; rw [c76] at b; rw [c54] at c; exact good (w1 a (Classical.byContradiction b)) c
  · rw [c5] at a; rw [c76] at b; rw [c54] at c; exact five (w1 a (Classical.byContradiction b)) c
  · rw [c5] at a; rw [c70] at b; exact two (w2 (Classical.byContradiction a) b)
  · rw [c5] at a; rw [c70] at b; rw [c54] at c; exact good (w0 (Classical.byContradiction a) (by omega)) c
  · rw [c5] at a; rw [c70] at b; rw [c54] at c; exact five (w0 (Classical.byContradiction a) (by omega)) c
theorem e_x_taccept {Q : Option Value → sy_S → Prop} {σ : sy_S} {s w r b : Nat} {v : List (Option Nat)} (hq : tok (s, w, r, v)) (hS : tS (s, w, r, v) σ.1) (hb : b ≤ 127) (k0 : tcs s w r b = 0 → ∀ σ' : sy_S, sx [19, 21] σ σ' → σ'.1 19 3 = σ.1 19 3 → σ'.1 19 4 = σ.1 19 4 → tS (tnx (s, w, r, v) b) σ'.1 → Q (some (.int 0)) σ') (k1 : tcs s w r b ≠ 0 → Q (some (.int (nI (tcs s w r b)))) σ) : sy_E shX mX10_accept (0, sy_ent [.ref 19, .int (nI b)] 3, [], σ) Q := by
  obtain ⟨h1, h2, h3, h4, h5, h6, h7⟩ := id hq
  obtain ⟨s1, s2, s3, s4⟩ := id hS
  dsimp only at h1 h2 h3 h4 h5 h6 h7 s1 s2 s3 s4
  have hr4 : r ≤ 4 := by unfold tmost at h3; split at h3 <;> omega
  have eix : σ.1 19 5 * σ.1 19 6 + σ.1 19 7 = nI v.length := by rw [s1, s2, s3, pk_mul, nI_add, h6]
  have hv : r < tmost s w → v.length < 16 := by
    intro h
    unfold tmost at h
    rw [h6]
    by_cases q : s = 0
    · rw [if_pos q] at h
      rw [q, h4 q]; omega
    · rw [if_neg q] at h
      have h9 : s * w ≤ 3 * w := Nat.mul_le_mul_right _ h1
      omega
  have c47 : nI b = 47 ↔ b = 47 := nI_eq (by omega) (by decide)
  have c35 : nI b = 35 ↔ b = 35 := nI_eq (by omega) (by decide)
  have c48 : nI b < 48 ↔ b < 48 := nI_ltI (by omega) (by decide)
  have c57 : 57 < nI b ↔ 57 < b := nI_ltI (by decide) (by omega)
  have c5 : σ.1 19 5 = 0 ↔ s = 0 := by rw [s1, nI_lit0, nI_eq (by omega) (by decide)]
  have c76 : σ.1 19 7 < σ.1 19 6 ↔ r < w := by rw [s3, s2, nI_ltI (by omega) (by omega)]
  have c74 : σ.1 19 7 < 4 ↔ r < 4 := by rw [s3, nI_lit4, nI_ltI (by omega) (by decide)]
  have m0 : s = 0 → tmost s w = 4 := fun a => by unfold tmost; rw [if_pos a]
  have m1 : s ≠ 0 → tmost s w = w := fun a => by unfold tmost; rw [if_neg a]
  have put : ∀ val : Int32, b ≠ 47 → (b = 35 ∨ (48 ≤ b ∧ b ≤ 57)) → r < tmost s w → val = (tcl b).elim (-1) nI → Q (some (.int 0)) (sy_up (sy_up σ.1 21 ((σ.1 19 5 * σ.1 19 6 + σ.1 19 7).toNatClampNeg) val) 19 7 (σ.1 19 7 + 1), σ.2) := by
    intro val a1 a2 a3 a4
    have hv16 := hv a3
    rw [eix, nI_clamp (by omega)]
    refine k0 (by rw [tcs_cell a1 a2, if_pos a3]) _ ⟨fun q hq => ?_, rfl⟩ ?_ ?_ ?_
    · dsimp only
      rw [sy_up_ne _ _ _ (fun e => hq (by rw [e]; simp)), sy_up_ne _ _ _ (fun e => hq (by rw [e]; simp))]
    · simp [sy_up2]
    · simp [sy_up2]
    · unfold tnx
      rw [if_neg a1]
      refine ⟨?_, ?_, ?_, fun j x hj => ?_⟩
      · simp [sy_up2, s1]
      · simp [sy_up2, s2]
      · simp [sy_up2, s3, nI_1]
      · dsimp only at hj ⊢
        rw [sy_up_ne _ _ _ (by decide), sy_up2]
        rw [List.getElem?_append] at hj
        split at hj
        · rename_i hlt
          rw [if_neg (by omega)]
          exact s4 j x hj
        · rename_i hge
          have hz : j - v.length = 0 := by
            rcases Nat.eq_zero_or_pos (j - v.length) with q | q
            · exact q
            · rw [List.getElem?_eq_none (by simp only [List.length_singleton]; omega)] at hj; cases hj
          rw [hz] at hj
          cases hj
          rw [if_pos ⟨rfl, by omega⟩]
          exact a4
  have four : b ≠ 47 → (b = 35 ∨ (48 ≤ b ∧ b ≤ 57)) → ¬ r < tmost s w → Q (some (.int 4)) σ := by
    intro a1 a2 a3
    have e : tcs s w r b = 4 := by rw [tcs_cell a1 a2, if_neg a3]
    rw [e] at k1
    exact k1 (by decide)
  have two : b ≠ 47 → ¬ (b = 35 ∨ (48 ≤ b ∧ b ≤ 57)) → Q (some (.int 2)) σ := by
    intro a1 a2
    rw [tcs_two a1 a2] at k1
    exact k1 (by decide)
  have vin : r < tmost s w → vp_in (σ.1 19 5 * σ.1 19 6 + σ.1 19 7) 16 := fun h => by rw [eix]; exact vp_in_nI (hv h) (by decide)
  have wall : b = 35 → (-1 : Int32) = (tcl b).elim (-1) nI := fun h => by unfold tcl; rw [if_pos h]; rfl
  have fig : b ≠ 35 → 48 ≤ b → nI b - 48 = (tcl b).elim (-1) nI := fun h h2 => by
    unfold tcl; rw [if_neg h, show (48 : Int32) = nI 48 from rfl, pk_sub h2]; rfl
  refine w_x_taccept_0 ?_ ?_ ?_ ?_ ?_ ?_ ?_ ?_ ?_ ?_ ?_ ?_ ?_ ?_ ?_ ?_ ?_ ?_ ?_ ?_ ?_ ?_ ?_ ?_ ?_ ?_ ?_
  all_goals simp only [c47, c35, c48, c57, c5, c76, c74]
  · intro _ _ _ a e; exact vin (by rw [m1 a]; exact e)
  · intro _ _ _ a e; exact vin (by rw [m0 (Classical.byContradiction a)]; exact e)
  · intro _ _ _ _ a e; exact vin (by rw [m1 a]; exact e)
  · intro _ _ _ _ a e; exact vin (by rw [m0 (Classical.byContradiction a)]; exact e)
  · intro _ _ _ _ a e; exact vin (by rw [m1 a]; exact e)
  · intro _ _ _ _ a e; exact vin (by rw [m0 (Classical.byContradiction a)]; exact e)
  · intro _ _ _ _ a e; exact vin (by rw [m1 a]; exact e)
  · intro _ _ _ _ a e; exact vin (by rw [m0 (Classical.byContradiction a)]; exact e)
  · intro a1 a2 a3 a4 a5; exact put _ a1 (Or.inl a3) (by rw [m1 a4]; exact a5) (wall a3)
  · intro a1 a2 a3 a4 a5; exact four a1 (Or.inl a3) (by rw [m1 a4]; exact a5)
  · intro a1 a2 a3 a4 a5; exact put _ a1 (Or.inl a3) (by rw [m0 (Classical.byContradiction a4)]; exact a5) (wall a3)
  · intro a1 a2 a3 a4 a5; exact four a1 (Or.inl a3) (by rw [m0 (Classical.byContradiction a4)]; exact a5)
  · intro a1 a2 a3; exact two a1 (by omega)
  · intro a1 a2 a3 a4; omega
  · intro a1 a2 a3 a4; omega
  · intro a1 a2 a3 a4; omega
  · intro a1 a2 a3 a4; omega
  · intro a1 a2 a3 a4; exact two a1 (by omega)
  · intro a1 a2 a3 a4; omega
  · intro a1 a2 a3 a4; omega
  · intro a1 a2 a3 a4; omega
  · intro a1 a2 a3 a4; omega
  · intro a1 a2 a3 a4 a5 a6; exact put _ a1 (Or.inr (by omega)) (by rw [m1 a5]; exact a6) (fig a4 (by omega))
  · intro a1 a2 a3 a4 a5 a6; exact four a1 (Or.inr (by omega)) (by rw [m1 a5]; exact a6)
  · intro a1 a2 a3 a4 a5 a6; exact put _ a1 (Or.inr (by omega)) (by rw [m0 (Classical.byContradiction a5)]; exact a6) (fig a4 (by omega))
  · intro a1 a2 a3 a4 a5 a6; exact four a1 (Or.inr (by omega)) (by rw [m0 (Classical.byContradiction a5)]; exact a6)
  · intro a
    have a : b = 47 := Classical.byContradiction a
    subst a
    exact e_x_tslash hq hS (fun e σ' q1 q2 q3 q4 => w_x_taccept_10 (k0 e σ' q1 q2 q3 q4)) (fun e => w_x_taccept_10 (k1 e))
theorem e_x_tparse {Q : Option Value → sy_S → Prop} {σ : sy_S} {T : List Nat} (hT : tX T σ.1) (hl : T.length ≤ 40) (hb : ∀ b, b ∈ T → 1 ≤ b ∧ b ≤ 127) (k1 : ∀ (σ' : sy_S) (fa s c : Nat), trun T 0 (0, 0, 0, []) = .inl (fa, s, c) → sx [19, 21, 22] σ σ' → σ'.1 19 3 = σ.1 19 3 → wX (some (s, c)) σ'.1 → Q (some (.int (nI fa))) σ') (k0 : ∀ (σ' : sy_S) (q : tq), trun T 0 (0, 0, 0, []) = .inr q → sx [19, 21, 22] σ σ' → σ'.1 19 3 = σ.1 19 3 → wX none σ'.1 → σ'.1 19 5 = nI q.1 → σ'.1 19 6 = nI q.2.2.1 → (∀ j x, q.2.2.2[j]? = some x → σ'.1 21 j = x.elim (-1) nI) → Q (some (.int (-1))) σ') : sy_E shX mX10_parse (0, sy_ent [.ref 19] 3, [], σ) Q := by
  -- a refusal
  have ref : ∀ (σ1 : sy_S) (fa s w r c : Nat) (v : List (Option Nat)), trun T 0 (0, 0, 0, []) = .inl (fa, s, c) → sx [19, 21, 22] σ σ1 → σ1.1 19 3 = σ.1 19 3 → tS (s, w, r, v) σ1.1 → Q (some (.int (nI fa))) (sy_up (sy_up (sy_up (sy_up σ1.1 22 0 1) 22 1 (10 + σ1.1 19 5)) 22 2 (nI c)) 19 4 3, σ1.2) := by
    intro σ1 fa s w r c v e hs h3 hS
    refine k1 _ fa s c e (hs.tr ⟨fun q hq => ?_, rfl⟩) ?_ ⟨?_, ?_, ?_, ?_⟩
    · dsimp only
      rw [sy_up_ne _ _ _ (fun e => hq (by rw [e]; simp)), sy_up_ne _ _ _ (fun e => hq (by rw [e]; simp)), sy_up_ne _ _ _ (fun e => hq (by rw [e]; simp)), sy_up_ne _ _ _ (fun e => hq (by rw [e]; simp))]
    · simp [sy_up2, h3]
    · simp [sy_up2]; rfl
    · simp [sy_up2]; rfl
    · have e10 : (10 : Int32) + nI s = nI (10 + s) := nI_add 10 s
      simp [sy_up2, hS.1, e10]
    · simp [sy_up2]
  have key : ∀ (l : List Nat) (i : Nat) (s w r : Nat) (v : List (Option Nat)) (σ1 : sy_S), T.drop i = l → i ≤ T.length → tok (s, w, r, v) → tS (s, w, r, v) σ1.1 → trun T 0 (0, 0, 0, []) = trun l i (s, w, r, v) → sx [19, 21, 22] σ σ1 → σ1.1 19 3 = σ.1 19 3 → σ1.1 19 4 = nI 0 → sy_E shX mX10_parse (22, [some (.ref 19), some (.int (nI i)), none], [], σ1) Q := by
    intro l
    induction l with
    | nil =>
      intro i s w r v σ1 hd hi hq hS he hs h3 h4
      have hi2 : i = T.length := by
        have := congrArg List.length hd
        rw [List.length_drop, List.length_nil] at this
        omega
      subst hi2
      obtain ⟨q1, q2, q3, q4, q5, q6, q7⟩ := id hq
      obtain ⟨s1, s2, s3, s4⟩ := id hS
      dsimp only at q1 q2 q3 q4 q5 q6 q7 s1 s2 s3 s4
      have hr4 : r ≤ 4 := by unfold tmost at q3; split at q3 <;> omega
      have e3 : σ1.1 19 3 = nI T.length := h3.trans hT.1
      have le : σ1.1 19 3 ≤ nI T.length := by rw [e3]; exact nI_le (Nat.le_refl _) (by omega)
      rw [trun] at he
      have bad : ¬ twh s w r = true → Q (some (.int (σ1.1 19 3))) (sy_up (sy_up (sy_up (sy_up σ1.1 22 0 1) 22 1 (10 + σ1.1 19 5)) 22 2 3) 19 4 3, σ1.2) := by
        intro hw
        rw [if_neg hw] at he
        rw [e3]
        exact ref σ1 T.length s w r 3 v he hs h3 hS
      have good : twh s w r = true → Q (some (.int (-1))) (sy_up σ1.1 19 6 (σ1.1 19 7), σ1.2) := by
        intro hw
        rw [if_pos hw] at he
        refine k0 _ _ he (hs.tr (sx.up (by simp))) ?_ ?_ ?_ ?_ (fun j x hj => ?_)
        · simp [sy_up2, h3]
        · show sy_up σ1.1 19 6 (σ1.1 19 7) 19 4 = nI 0
          rw [sy_up2, if_neg (by decide)]; exact h4
        · simp [sy_up2, s1]
        · simp [sy_up2, s3]
        · dsimp only
          rw [sy_up_ne _ _ _ (by decide)]
          exact s4 j x hj
      have c5 : σ1.1 19 5 = 0 ↔ s = 0 := by rw [s1, nI_lit0, nI_eq (by omega) (by decide)]
      have c76 : σ1.1 19 7 = σ1.1 19 6 ↔ r = w := by rw [s3, s2, nI_eq (by omega) (by omega)]
      have c70 : σ1.1 19 7 ≤ 0 ↔ r ≤ 0 := by rw [s3, nI_lit0, nI_leI (by omega) (by decide)]
      refine w_x_tparse_22 (fun q => absurd le q) (fun _ a b => bad ?_) (fun _ a b => good ?_) (fun _ a b => bad ?_) (fun _ a b => good ?_) (fun q => absurd le q)
      · rw [c5] at a; rw [c76] at b; unfold twh; rw [if_neg a, decide_eq_false b]; decide
      · rw [c5] at a; rw [c76] at b; unfold twh; rw [if_neg a, decide_eq_true (Classical.byContradiction b)]
      · rw [c5] at a; rw [c70] at b; unfold twh; rw [if_pos (Classical.byContradiction a), decide_eq_false (by omega)]; decide
      · rw [c5] at a; rw [c70] at b; unfold twh; rw [if_pos (Classical.byContradiction a), decide_eq_true (by omega)]
    | cons b l ih =>
      intro i s w r v σ1 hd hi hq hS he hs h3 h4
      have hib : T[i]? = some b := by
        have h := congrArg (fun m => m[0]?) hd
        simp only [List.getElem?_drop, Nat.add_zero] at h
        simpa using h
      have hlt := (List.getElem?_eq_some_iff.mp hib).1
      have hd2 : T.drop (i + 1) = l := by
        rw [← List.drop_drop, hd]; rfl
      have e3 : σ1.1 19 3 = nI T.length := h3.trans hT.1
      have nle : ¬ σ1.1 19 3 ≤ nI i := by rw [e3]; exact nI_ge hlt (by omega)
      have e20 : σ1.1 20 i = nI b := by rw [hs.1 20 (by decide)]; exact hT.2 i b hib
      have hbb := (hb b (List.mem_of_getElem? hib)).2
      refine w_x_tparse_22 (fun _ => vp_in_nI (by omega) (by decide)) (fun q => absurd q nle) (fun q => absurd q nle) (fun q => absurd q nle) (fun q => absurd q nle) (fun _ => ?_)
      rw [nI_clamp (by omega), e20]
      rw [trun] at he
      refine e_x_taccept hq hS hbb (fun e σ2 g1 g2 g3 g4 => ?_) (fun e => ?_)
      · refine w_x_tparse_40 (fun _ => ?_) (fun q => absurd rfl q)
        rw [nI_1]
        rw [if_pos e] at he
        have htk := tok_nx hq e
        obtain ⟨⟨s', w', r', v'⟩, hn⟩ : ∃ q', tnx (s, w, r, v) b = q' := ⟨_, rfl⟩
        rw [hn] at he g4 htk
        exact ih (i + 1) s' w' r' v' σ2 hd2 hlt htk g4 he (hs.tr (g1.mono (by simp))) (g2.trans h3) (g3.trans h4)
      · have hle := tcs_le s w r b
        refine w_x_tparse_40 (fun q => ?_) (fun _ => ?_)
        · rw [nI_lit0, nI_eq (by omega) (by decide)] at q; exact absurd q e
        · rw [if_neg e] at he
          exact ref σ1 i s w r _ v he hs h3 hS
  refine w_x_tparse_0 ?_
  refine key T 0 0 0 0 [] _ rfl (Nat.zero_le _) tok_0 ⟨?_, ?_, ?_, fun j x hj => by simp at hj⟩ rfl ⟨fun q hq => ?_, rfl⟩ ?_ ?_
  · simp [sy_up2, nI_0]
  · simp [sy_up2, nI_0]
  · simp [sy_up2, nI_0]
  · dsimp only
    rw [sy_up_ne _ _ _ (fun e => hq (by rw [e]; simp)), sy_up_ne _ _ _ (fun e => hq (by rw [e]; simp)), sy_up_ne _ _ _ (fun e => hq (by rw [e]; simp)), sy_up_ne _ _ _ (fun e => hq (by rw [e]; simp))]
  · simp [sy_up2]
  · simp [sy_up2, nI_0]
