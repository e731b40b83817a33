/-! the abstract state, and how it stands in the two stores -/
noncomputable def px (p : Nat → Prop) (x : Int32) : Option Nat := @dite _ (∃ m, m < 2 ^ 31 ∧ p m ∧ x = nI m) (Classical.propDecidable _) (fun e => some (Classical.choose e)) (fun _ => none)
theorem px_i {p : Nat → Prop} {m : Nat} (hm : m < 2 ^ 31) (hp : p m) : px p (nI m) = some m := by
  have e : ∃ k, k < 2 ^ 31 ∧ p k ∧ nI m = nI k := ⟨m, hm, hp, rfl⟩
  unfold px
  rw [dif_pos e]
  obtain ⟨h1, -, h3⟩ := Classical.choose_spec e
  exact congrArg some ((nI_eq h1 hm).mp h3.symm)
theorem px_s {p : Nat → Prop} {x : Int32} {m : Nat} (h : px p x = some m) : p m ∧ x = nI m ∧ m < 2 ^ 31 := by
  unfold px at h
  split at h
  · rename_i e
    cases h
    obtain ⟨h1, h2, h3⟩ := Classical.choose_spec e
    exact ⟨h2, h3, h1⟩
  · cases h
theorem px_n {p : Nat → Prop} {x : Int32} (h : px p x = none) {m : Nat} (hm : m < 2 ^ 31) (hp : p m) : x ≠ nI m := by
  intro e
  subst e
  rw [px_i hm hp] at h
  cases h
theorem px_no {p : Nat → Prop} {x : Int32} (h : ∀ m, m < 2 ^ 31 → p m → x ≠ nI m) : px p x = none := by
  cases e : px p x with
  | none => rfl
  | some m =>
    obtain ⟨h1, h2, h3⟩ := px_s e
    exact absurd h2 (h m h3 h1)
/-! what is settled always is there -/
theorem stt_ex {G : sg_G} (hG : sg_ok G) (h : Nat → Nat) : ∃ u H, sg_rc G h u H ∧ ∀ k, sg_p G k → H k ≤ 3 := by
  have h16 := sg_n16 hG
  have key : ∀ (n : Nat) (u H : Nat → Nat), sg_rc G h u H → sg_pot G h ≤ 2 * ssum 16 u + n → ∃ u H, sg_rc G h u H ∧ ∀ k, sg_p G k → H k ≤ 3 := by
    intro n
    induction n with
    | zero =>
      intro u H hr hn
      refine ⟨u, H, hr, fun k hk => ?_⟩
      have h1 := hr.2.2.2
      have h2 := sg_pot_ge (h := H) hG hk.1
      omega
    | succ n ih =>
      intro u H hr hn
      by_cases q : ∀ k, sg_p G k → H k ≤ 3
      · exact ⟨u, H, hr, q⟩
      · have q2 : ∃ k, sg_p G k ∧ 3 < H k := Classical.byContradiction fun z => q (fun k hk => by
          rcases Nat.lt_or_ge 3 (H k) with y | y
          · exact absurd ⟨k, hk, y⟩ z
          · exact y)
        obtain ⟨k, hk, hk3⟩ := q2
        refine ih _ _ (sg_rc_tp hG (t := 1) hr hk (by omega)) ?_
        rw [ssum_ad (Nat.lt_of_lt_of_le hk.1 h16)]
        omega
  exact key (sg_pot G h) _ _ (sg_rc_0 G h) (by omega)
theorem stt_ok {G : sg_G} (hG : sg_ok G) (h : Nat → Nat) : sg_rc G h (od G h) (stt G h) ∧ ∀ k, sg_p G k → stt G h k ≤ 3 := by
  obtain ⟨u, H, h1, h2⟩ := stt_ex hG h
  obtain ⟨e1, e2⟩ := stt_eq h1 h2
  rw [← e1, ← e2]
  exact ⟨h1, h2⟩
theorem od_ex {G : sg_G} (hG : sg_ok G) (h : Nat → Nat) : ∃ u, sg_odo G h u := ⟨_, sg_rc_odo (stt_ok hG h).1 (stt_ok hG h).2⟩
theorem od_bd {G : sg_G} (hG : sg_ok G) {h : Nat → Nat} {B : Nat} (hB : ∀ k, k < 16 → h k ≤ B) : ssum 16 (od G h) ≤ 48 * B ∧ ∀ k, k < 16 → od G h k ≤ 48 * B := by
  have h1 := (sg_rc_bd hG (stt_ok hG h).1 hB).2
  exact ⟨h1, fun k hk => Nat.le_trans (ssum_ge _ hk) h1⟩
theorem od_np {G : sg_G} (hG : sg_ok G) (h : Nat → Nat) {k : Nat} (hk : ¬ sg_p G k) : od G h k = 0 := ((stt_ok hG h).1.2.2.1 k hk).1
/-- heights: nought where no place is, at most B -/
def hz (G : sg_G) (B : Nat) (h : Nat → Nat) : Prop := (∀ c, ¬ sg_p G c → h c = 0) ∧ ∀ c, h c ≤ B
theorem hz.mono {G : sg_G} {B B' : Nat} {h : Nat → Nat} (a : hz G B h) (hb : B ≤ B') : hz G B' h := ⟨a.1, fun c => Nat.le_trans (a.2 c) hb⟩
theorem hz_0 (G : sg_G) (B : Nat) : hz G B fun _ => 0 := ⟨fun _ _ => rfl, fun _ => Nat.zero_le _⟩
theorem stt_hz {G : sg_G} (hG : sg_ok G) {h : Nat → Nat} (hh : ∀ c, ¬ sg_p G c → h c = 0) : hz G 3 (stt G h) := by
  obtain ⟨h1, h2⟩ := stt_ok hG h
  have h3 : ∀ c, ¬ sg_p G c → stt G h c = 0 := fun c hc => by rw [(h1.2.2.1 c hc).2]; exact hh c hc
  refine ⟨h3, fun c => ?_⟩
  by_cases q : sg_p G c
  · exact h2 c q
  · rw [h3 c q]; exact Nat.zero_le _
/-! the state: grid, heights, piles, heights to come back by undo and by redo, tape, why, lists -/
abbrev st : Type := sg_G × (Nat → Nat) × (Nat → Option (Nat → Nat)) × List (Nat → Nat) × List (Nat → Nat) × List Nat × Option (Nat × Nat) × (Nat → Option (List Int32))
def cX (H : Nat → Nat) (U R : List (Nat → Nat)) (f : Nat → Nat → Int32) : Prop := f 8 1 = nI U.length ∧ f 8 2 = nI (U.length + R.length) ∧ ∀ i h, (U.reverse ++ H :: R)[i]? = some h → ar f (10 + i) h
def tX (T : List Nat) (f : Nat → Nat → Int32) : Prop := f 19 3 = nI T.length ∧ ∀ j b, T[j]? = some b → f 20 j = nI b
def wX (W : Option (Nat × Nat)) (f : Nat → Nat → Int32) : Prop := match W with
  | none => f 19 4 = nI 0
  | some (s, c) => f 19 4 = nI 3 ∧ f 22 0 = nI 1 ∧ f 22 1 = nI (10 + s) ∧ f 22 2 = nI c
def pX (P : Nat → Option (Nat → Nat)) (f : Nat → Nat → Int32) : Prop := ∀ i, i < 6 → match P i with
  | none => f 31 i = -1
  | some h => f 31 i = nI 16 ∧ ar f (25 + i) h
def lX (L : Nat → Option (List Int32)) (f : Nat → Nat → Int32) : Prop := ∀ i, i < 4 → match L i with
  | none => f 38 i = -1
  | some l => f 38 i = nI l.length ∧ ∀ j x, l[j]? = some x → f (34 + i) j = x
/-- bounds -/
def sO (B : Nat) : st → Prop
  | (G, H, P, U, R, T, W, L) => sg_ok G ∧ U.length + R.length ≤ 8 ∧ (∀ h, (h = H ∨ h ∈ U ∨ h ∈ R) → hz G B h) ∧ (∀ i h, P i = some h → hz G 3 h) ∧ (T.length ≤ 40 ∧ ∀ b, b ∈ T → 1 ≤ b ∧ b ≤ 127) ∧ (∀ s c, W = some (s, c) → s ≤ 3 ∧ 2 ≤ c ∧ c ≤ 5) ∧ ∀ i l, L i = some l → l.length ≤ 40
theorem sO.mono {B B' : Nat} {S : st} (h : sO B S) (hb : B ≤ B') : sO B' S := by
  obtain ⟨G, H, P, U, R, T, W, L⟩ := S
  obtain ⟨h1, h2, h3, h4⟩ := h
  exact ⟨h1, h2, fun h q => (h3 h q).mono hb, h4⟩
def RX : st → (Nat → Nat → Int32) → Prop
  | (G, H, P, U, R, T, W, L), f => gx G f ∧ ar f 7 H ∧ cX H U R f ∧ tX T f ∧ wX W f ∧ pX P f ∧ lX L f
/-! the model's -/
def aro (f : Nat → Nat → Int32) (k o : Nat) (H : Nat → Nat) : Prop := ∀ j, j < 16 → f k (o + j) = nI (H j)
def cM (U R : List (Nat → Nat)) (f : Nat → Nat → Int32) : Prop := f 0 13 = nI U.length ∧ f 0 14 = nI R.length ∧ (∀ i h, U.reverse[i]? = some h → aro f 9 (16 * i) h) ∧ ∀ i h, R.reverse[i]? = some h → aro f 10 (16 * i) h
def tM (T : List Nat) (f : Nat → Nat → Int32) : Prop := f 0 16 = nI T.length ∧ ∀ j b, T[j]? = some b → f 11 j = nI b
def wM (W : Option (Nat × Nat)) (f : Nat → Nat → Int32) : Prop := match W with
  | none => f 0 18 = nI 0
  | some (s, c) => f 0 18 = nI c ∧ f 0 17 = nI s
def pM (P : Nat → Option (Nat → Nat)) (f : Nat → Nat → Int32) : Prop := ∀ i, i < 6 → match P i with
  | none => f 8 i = 0
  | some h => f 8 i = 1 ∧ aro f 7 (16 * i) h
def lM (L : Nat → Option (List Int32)) (f : Nat → Nat → Int32) : Prop := ∀ i, i < 4 → match L i with
  | none => f 25 i = -1
  | some l => f 25 i = nI l.length ∧ ∀ j x, l[j]? = some x → f 26 (40 * i + j) = x
def RM : st → (Nat → Nat → Int32) → Prop
  | (G, H, P, U, R, T, W, L), f => gm G f ∧ ar f 2 H ∧ cM U R f ∧ tM T f ∧ wM W f ∧ pM P f ∧ lM L f
/-! frames -/
theorem cX.fe {H : Nat → Nat} {U R : List (Nat → Nat)} {f f' : Nat → Nat → Int32} (hl : U.length + R.length ≤ 8) (h : cX H U R f) (e : ∀ q, 8 ≤ q → q < 19 → f' q = f q) : cX H U R f' := by
  obtain ⟨h1, h2, h3⟩ := h
  refine ⟨by rw [e 8 (by decide) (by decide)]; exact h1, by rw [e 8 (by decide) (by decide)]; exact h2, fun i g hi j hj => ?_⟩
  have := (List.getElem?_eq_some_iff.mp hi).1
  simp only [List.length_append, List.length_reverse, List.length_cons] at this
  rw [e (10 + i) (by omega) (by omega)]
  exact h3 i g hi j hj
theorem tX.fe {T : List Nat} {f f' : Nat → Nat → Int32} (h : tX T f) (e : f' 19 3 = f 19 3) (e2 : f' 20 = f 20) : tX T f' := ⟨by rw [e]; exact h.1, fun j b hj => by rw [e2]; exact h.2 j b hj⟩
theorem wX.fe {W : Option (Nat × Nat)} {f f' : Nat → Nat → Int32} (h : wX W f) (e : f' 19 4 = f 19 4) (e2 : f' 22 = f 22) : wX W f' := by
  unfold wX at *
  split <;> simp_all
theorem pX.fe {P : Nat → Option (Nat → Nat)} {f f' : Nat → Nat → Int32} (h : pX P f) (e : ∀ q, 25 ≤ q → q < 32 → f' q = f q) : pX P f' := by
  intro i hi
  have h1 := h i hi
  cases hP : P i with
  | none =>
    rw [hP] at h1
    show f' 31 i = -1
    rw [e 31 (by decide) (by decide)]; exact h1
  | some g =>
    rw [hP] at h1
    refine ⟨by rw [e 31 (by decide) (by decide)]; exact h1.1, fun j hj => ?_⟩
    rw [e (25 + i) (by omega) (by omega)]; exact h1.2 j hj
theorem lX.fe {L : Nat → Option (List Int32)} {f f' : Nat → Nat → Int32} (h : lX L f) (e : ∀ q, 34 ≤ q → q < 39 → f' q = f q) : lX L f' := by
  intro i hi
  have h1 := h i hi
  cases hL : L i with
  | none =>
    rw [hL] at h1
    show f' 38 i = -1
    rw [e 38 (by decide) (by decide)]; exact h1
  | some l =>
    rw [hL] at h1
    refine ⟨by rw [e 38 (by decide) (by decide)]; exact h1.1, fun j x hj => ?_⟩
    rw [e (34 + i) (by omega) (by omega)]; exact h1.2 j x hj
theorem RX.fe {B : Nat} {S : st} {f f' : Nat → Nat → Int32} (ho : sO B S) (h : RX S f) (e : ∀ q, q < 39 → f' q = f q) : RX S f' := by
  obtain ⟨G, H, P, U, R, T, W, L⟩ := S
  obtain ⟨h1, h2, h3, h4, h5, h6, h7⟩ := h
  exact ⟨h1.frame (fun q hq => e q (by omega)), fun j hj => by rw [e 7 (by decide)]; exact h2 j hj, h3.fe ho.2.1 (fun q _ h => e q (by omega)), h4.fe (by rw [e 19 (by decide)]) (e 20 (by decide)), h5.fe (by rw [e 19 (by decide)]) (e 22 (by decide)), h6.fe (fun q _ h => e q (by omega)), h7.fe (fun q _ h => e q (by omega))⟩
theorem RX.fr {B : Nat} {S : st} {l : List Nat} {σ σ' : sy_S} (ho : sO B S) (h : RX S σ.1) (hs : sx l σ σ') (hl : ∀ q, q ∈ l → 39 ≤ q) : RX S σ'.1 := h.fe ho (fun q hq => hs.1 q (fun z => by have := hl q z; omega))
theorem cM.fe {U R : List (Nat → Nat)} {f f' : Nat → Nat → Int32} (h : cM U R f) (e1 : f' 0 13 = f 0 13) (e2 : f' 0 14 = f 0 14) (e3 : f' 9 = f 9) (e4 : f' 10 = f 10) : cM U R f' := by
  obtain ⟨h1, h2, h3, h4⟩ := h
  exact ⟨by rw [e1]; exact h1, by rw [e2]; exact h2, fun i g hi j hj => by rw [e3]; exact h3 i g hi j hj, fun i g hi j hj => by rw [e4]; exact h4 i g hi j hj⟩
theorem tM.fe {T : List Nat} {f f' : Nat → Nat → Int32} (h : tM T f) (e : f' 0 16 = f 0 16) (e2 : f' 11 = f 11) : tM T f' := ⟨by rw [e]; exact h.1, fun j b hj => by rw [e2]; exact h.2 j b hj⟩
theorem wM.fe {W : Option (Nat × Nat)} {f f' : Nat → Nat → Int32} (h : wM W f) (e : f' 0 18 = f 0 18) (e2 : f' 0 17 = f 0 17) : wM W f' := by
  unfold wM at *
  split <;> simp_all
theorem pM.fe {P : Nat → Option (Nat → Nat)} {f f' : Nat → Nat → Int32} (h : pM P f) (e7 : f' 7 = f 7) (e8 : f' 8 = f 8) : pM P f' := by
  intro i hi
  have h1 := h i hi
  cases hP : P i with
  | none =>
    rw [hP] at h1
    show f' 8 i = 0
    rw [e8]; exact h1
  | some g =>
    rw [hP] at h1
    exact ⟨by rw [e8]; exact h1.1, fun j hj => by rw [e7]; exact h1.2 j hj⟩
theorem lM.fe {L : Nat → Option (List Int32)} {f f' : Nat → Nat → Int32} (h : lM L f) (e5 : f' 25 = f 25) (e6 : f' 26 = f 26) : lM L f' := by
  intro i hi
  have h1 := h i hi
  cases hL : L i with
  | none =>
    rw [hL] at h1
    show f' 25 i = -1
    rw [e5]; exact h1
  | some l =>
    rw [hL] at h1
    exact ⟨by rw [e5]; exact h1.1, fun j x hj => by rw [e6]; exact h1.2 j x hj⟩
theorem gm.fe {G : sg_G} {f f' : Nat → Nat → Int32} (h : gm G f) (e0 : f' 0 0 = f 0 0) (e1 : f' 0 1 = f 0 1) (e : f' 1 = f 1) (e3 : f' 3 = f 3) (e4 : f' 4 = f 4) : gm G f' := by
  obtain ⟨h1, ⟨h2, h3, h4⟩, h5, h6⟩ := h
  exact ⟨h1, ⟨by rw [e0]; exact h2, by rw [e1]; exact h3, fun k hk => by rw [e]; exact h4 k hk⟩, fun k hk => by rw [e4]; exact h5 k hk, fun k hk j o ho => by rw [e3]; exact h6 k hk j o ho⟩
def mC : List Nat := [1, 2, 3, 4, 7, 8, 9, 10, 11, 25, 26]
def mF : List Nat := [0, 1, 13, 14, 16, 17, 18]
theorem RM.fr {S : st} {l fs : List Nat} {σ σ' : sy_S} (h : RM S σ.1) (hs : sm l fs σ σ') (hl : (mC.all fun q => !l.elem q) = true) (hf : (mF.all fun q => !fs.elem q) = true) : RM S σ'.1 := by
  obtain ⟨G, H, P, U, R, T, W, L⟩ := S
  obtain ⟨h1, h2, h3, h4, h5, h6, h7⟩ := h
  have c : ∀ q, q ∈ mC → q ≠ 0 → σ'.1 q = σ.1 q := fun q hq h0 => hs.1 q h0 (fun z => by
    have := List.all_eq_true.mp hl q hq
    rw [List.elem_iff.mpr z] at this
    cases this)
  have d : ∀ q, q ∈ mF → σ'.1 0 q = σ.1 0 q := fun q hq => hs.2.1 q (fun z => by
    have := List.all_eq_true.mp hf q hq
    rw [List.elem_iff.mpr z] at this
    cases this)
  refine ⟨h1.fe ?_ ?_ ?_ ?_ ?_, fun j hj => ?_, h3.fe ?_ ?_ ?_ ?_, h4.fe ?_ ?_, h5.fe ?_ ?_, h6.fe ?_ ?_, h7.fe ?_ ?_⟩
  case refine_6 => rw [c 2 (by decide) (by decide)]; exact h2 j hj
  all_goals first | exact c _ (by decide) (by decide) | exact d _ (by decide)
