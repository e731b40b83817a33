/-! more rules -/
theorem sy_bk {sh : sy_Z} {y : sy_M} {Q : Option Value → sy_S → Prop} (seg : List sy_I) {pc : Nat} {loc : List (Option Value)} {st : List Value} {σ : sy_S} (cf' : sy_Cf) (P : List Prop) (hk : sy_ck y pc seg = true) (h : sy_xL sh seg (pc, loc, st, σ) = some (cf', P)) (hP : sy_all P) (k : sy_E sh y cf' Q) : sy_E sh y (pc, loc, st, σ) Q := sy_blk seg cf' P hk h hP k
theorem sy_lc (x y : Int64) : (lg_cmp x y = -1 ∧ x < y) ∨ (lg_cmp x y = 0 ∧ x = y) ∨ (lg_cmp x y = 1 ∧ y < x) := by
  unfold lg_cmp
  rcases Int.lt_trichotomy x.toInt y.toInt with h | h | h
  · left
    have h1 : x < y := Int64.lt_iff_toInt_lt.mpr h
    have h2 : ¬ y < x := fun q => by have := Int64.lt_iff_toInt_lt.mp q; omega
    have h3 : ¬ x = y := fun q => by subst q; omega
    simp [h1, h2, h3]
  · right; left
    have h1 : x = y := Int64.toInt_inj.mp h
    subst h1
    simp
  · right; right
    have h1 : y < x := Int64.lt_iff_toInt_lt.mpr h
    have h2 : ¬ x < y := fun q => by have := Int64.lt_iff_toInt_lt.mp q; omega
    have h3 : ¬ x = y := fun q => by subst q; omega
    simp [h1, h2, h3]
theorem sy_l_lt {x y : Int64} : x < y ↔ x.toInt < y.toInt := Int64.lt_iff_toInt_lt
theorem sy_l_le {x y : Int64} : x ≤ y ↔ x.toInt ≤ y.toInt := Int64.le_iff_toInt_le
theorem sy_lc_lt {x y : Int64} : lg_cmp x y < 0 ↔ x < y := by
  rcases sy_lc x y with ⟨h, h1⟩ | ⟨h, h1⟩ | ⟨h, h1⟩ <;> rw [h, sy_l_lt] <;> (try rw [sy_l_lt] at h1) <;> (try rw [h1]) <;> constructor <;> intro q <;> first | omega | exact absurd q (by decide) | decide
theorem sy_lc_ge {x y : Int64} : 0 ≤ lg_cmp x y ↔ y ≤ x := by
  rcases sy_lc x y with ⟨h, h1⟩ | ⟨h, h1⟩ | ⟨h, h1⟩ <;> rw [h, sy_l_le] <;> (try rw [sy_l_lt] at h1) <;> (try rw [h1]) <;> constructor <;> intro q <;> first | omega | exact absurd q (by decide) | decide
theorem sy_lc_gt {x y : Int64} : 0 < lg_cmp x y ↔ y < x := by
  rcases sy_lc x y with ⟨h, h1⟩ | ⟨h, h1⟩ | ⟨h, h1⟩ <;> rw [h, sy_l_lt] <;> (try rw [sy_l_lt] at h1) <;> (try rw [h1]) <;> constructor <;> intro q <;> first | omega | exact absurd q (by decide) | decide
theorem sy_lc_le {x y : Int64} : lg_cmp x y ≤ 0 ↔ x ≤ y := by
  rcases sy_lc x y with ⟨h, h1⟩ | ⟨h, h1⟩ | ⟨h, h1⟩ <;> rw [h, sy_l_le] <;> (try rw [sy_l_lt] at h1) <;> (try rw [h1]) <;> constructor <;> intro q <;> first | omega | exact absurd q (by decide) | decide
theorem sy_lc_ne {x y : Int64} : ¬ lg_cmp x y = 0 ↔ ¬ x = y := by
  rcases sy_lc x y with ⟨h, h1⟩ | ⟨h, h1⟩ | ⟨h, h1⟩
  · rw [h]
    exact ⟨fun _ q => by subst q; rw [sy_l_lt] at h1; omega, fun _ => by decide⟩
  · rw [h]
    exact ⟨fun q => absurd rfl q, fun q => absurd h1 q⟩
  · rw [h]
    exact ⟨fun _ q => by subst q; rw [sy_l_lt] at h1; omega, fun _ => by decide⟩
theorem sy_ti {x : Int32} {n : Int} (h : x.toInt = n) : x = Int32.ofInt n := by rw [← h, Int32.ofInt_toInt]
theorem sy_sw9 {x : Int32} (h0 : ¬ x = 0) (h1 : ¬ x = 1) (h2 : ¬ x = 2) (h3 : ¬ x = 3) (h4 : ¬ x = 4) (h5 : ¬ x = 5) (h6 : ¬ x = 6) (h7 : ¬ x = 7) (h8 : ¬ x = 8) : x.toInt < 0 ∨ 8 < x.toInt := by
  by_cases q : x.toInt < 0
  · exact Or.inl q
  by_cases q2 : 8 < x.toInt
  · exact Or.inr q2
  exfalso
  have : x.toInt = 0 ∨ x.toInt = 1 ∨ x.toInt = 2 ∨ x.toInt = 3 ∨ x.toInt = 4 ∨ x.toInt = 5 ∨ x.toInt = 6 ∨ x.toInt = 7 ∨ x.toInt = 8 := by omega
  rcases this with h | h | h | h | h | h | h | h | h
  · exact h0 (sy_ti h)
  · exact h1 (sy_ti h)
  · exact h2 (sy_ti h)
  · exact h3 (sy_ti h)
  · exact h4 (sy_ti h)
  · exact h5 (sy_ti h)
  · exact h6 (sy_ti h)
  · exact h7 (sy_ti h)
  · exact h8 (sy_ti h)
theorem sy_sw4 {x : Int32} (h0 : ¬ x = 0) (h1 : ¬ x = 1) (h2 : ¬ x = 2) (h3 : ¬ x = 3) : x.toInt < 0 ∨ 3 < x.toInt := by
  by_cases q : x.toInt < 0
  · exact Or.inl q
  by_cases q2 : 3 < x.toInt
  · exact Or.inr q2
  exfalso
  have : x.toInt = 0 ∨ x.toInt = 1 ∨ x.toInt = 2 ∨ x.toInt = 3 := by omega
  rcases this with h | h | h | h
  · exact h0 (sy_ti h)
  · exact h1 (sy_ti h)
  · exact h2 (sy_ti h)
  · exact h3 (sy_ti h)
theorem sy_sw3 {x : Int32} (h0 : ¬ x = 0) (h1 : ¬ x = 1) (h2 : ¬ x = 2) : x.toInt < 0 ∨ 2 < x.toInt := by
  by_cases q : x = 3
  · subst q; right; decide
  · rcases sy_sw4 h0 h1 h2 q with h | h
    · exact Or.inl h
    · right; omega
/-- locals that are forgotten -/
def sy_le : List (Option Value) → List (Option Value) → Prop
  | [], [] => True
  | none :: r, _ :: r' => sy_le r r'
  | some v :: r, w :: r' => w = some v ∧ sy_le r r'
  | _, _ => False
theorem sy_le_at : ∀ (a b : List (Option Value)), sy_le a b → a.length = b.length ∧ ∀ (i : Nat) (v : Value), a[i]? = some (some v) → b[i]? = some (some v)
  | [], [], _ => ⟨rfl, fun _ _ h => h⟩
  | none :: r, w :: r', h => by
    obtain ⟨h1, h2⟩ := sy_le_at r r' h
    refine ⟨by simp [h1], fun i v hv => ?_⟩
    match i, hv with
    | 0, hv => cases hv
    | i + 1, hv => exact h2 i v hv
  | some u :: r, w :: r', h => by
    obtain ⟨h1, h2⟩ := sy_le_at r r' h.2
    refine ⟨by simp [h1], fun i v hv => ?_⟩
    match i, hv with
    | 0, hv => cases hv; rw [h.1]; rfl
    | i + 1, hv => exact h2 i v hv
  | [], _ :: _, h => h.elim
  | none :: _, [], h => h.elim
  | some _ :: _, [], h => h.elim
theorem sy_drop {sh : sy_Z} {y : sy_M} {Q : Option Value → sy_S → Prop} {pc : Nat} {loc : List (Option Value)} {st : List Value} {σ : sy_S} (loc' : List (Option Value)) (h : sy_le loc' loc) (k : sy_E sh y (pc, loc', st, σ) Q) : sy_E sh y (pc, loc, st, σ) Q := by
  intro l X p e s m args below meth c C H locs ls hW hD hS hl
  obtain ⟨h1, h2⟩ := sy_le_at loc' loc h
  exact k l X p e s m args below meth c C H locs ls hW hD hS ⟨by show loc'.length = _; rw [h1]; exact hl.1, hl.2.1, hl.2.2.1, fun i v hv => hl.2.2.2 i v (h2 i v hv)⟩
/-- a loop that counts up -/
theorem sy_loop {sh : sy_Z} {y : sy_M} {Q : Option Value → sy_S → Prop} (cf : Nat → sy_S → sy_Cf) (I : Nat → sy_S → Prop) (N : Nat)
    (step : ∀ i σ, i < N → I i σ → (∀ σ', I (i + 1) σ' → sy_E sh y (cf (i + 1) σ') Q) → sy_E sh y (cf i σ) Q) (exit : ∀ σ, I N σ → sy_E sh y (cf N σ) Q) : ∀ i σ, i ≤ N → I i σ → sy_E sh y (cf i σ) Q := by
  have key : ∀ d i σ, i + d = N → I i σ → sy_E sh y (cf i σ) Q := by
    intro d
    induction d with
    | zero =>
      intro i σ h hI
      have h : i = N := h
      subst h
      exact exit σ hI
    | succ d ih =>
      intro i σ h hI
      exact step i σ (by omega) hI (fun σ' h' => ih (i + 1) σ' (by omega) h')
  intro i σ h hI
  exact key (N - i) i σ (by omega) hI
/-- a loop whose measure falls -/
theorem sy_while {α : Type} {sh : sy_Z} {y : sy_M} {Q : Option Value → sy_S → Prop} (cf : α → sy_S → sy_Cf) (I : α → sy_S → Prop) (μ : α → sy_S → Nat)
    (step : ∀ a σ, I a σ → (∀ a' σ', I a' σ' → μ a' σ' < μ a σ → sy_E sh y (cf a' σ') Q) → sy_E sh y (cf a σ) Q) : ∀ a σ, I a σ → sy_E sh y (cf a σ) Q := by
  have key : ∀ n a σ, μ a σ < n → I a σ → sy_E sh y (cf a σ) Q := by
    intro n
    induction n with
    | zero => intro a σ h; exact absurd h (Nat.not_lt_zero _)
    | succ n ih =>
      intro a σ h hI
      exact step a σ hI (fun a' σ' h' hm => ih a' σ' (by omega) h')
  intro a σ hI
  exact key (μ a σ + 1) a σ (by omega) hI
