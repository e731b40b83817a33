/-! contracts of Tally and Seen -/
def tadd (s : Nat) : List (Nat × Nat) → List (Nat × Nat)
  | [] => [(s, 1)]
  | (a, c) :: r => if a = s then (a, c + 1) :: r else (a, c) :: tadd s r
theorem tadd_none {s : Nat} {Y : List (Nat × Nat)} (h : ∀ (j a c : Nat), Y[j]? = some (a, c) → a ≠ s) : tadd s Y = Y ++ [(s, 1)] := by
  induction Y with
  | nil => rfl
  | cons p r ih =>
    obtain ⟨a, c⟩ := p
    rw [tadd, if_neg (h 0 a c rfl), ih (fun j a c hj => h (j + 1) a c hj)]
    rfl
theorem tadd_at {s : Nat} {Y : List (Nat × Nat)} {i c : Nat} (h : ∀ (j a c : Nat), j < i → Y[j]? = some (a, c) → a ≠ s) (hi : Y[i]? = some (s, c)) : tadd s Y = Y.set i (s, c + 1) := by
  induction Y generalizing i with
  | nil => simp at hi
  | cons p r ih =>
    obtain ⟨a, d⟩ := p
    match i, hi, h with
    | 0, hi, h =>
      cases hi
      rw [tadd, if_pos rfl]
      rfl
    | i + 1, hi, h =>
      rw [tadd, if_neg (h 0 a d (by omega) rfl), ih (i := i) (fun j a c hj hh => h (j + 1) a c (by omega) hh) hi]
      rfl
theorem tadd_len (s : Nat) (Y : List (Nat × Nat)) : (tadd s Y).length ≤ Y.length + 1 := by
  induction Y with
  | nil => exact Nat.le_refl _
  | cons p r ih =>
    obtain ⟨a, c⟩ := p
    rw [tadd]
    split <;> simp only [List.length_cons] <;> omega
theorem tadd_mem {s : Nat} {Y : List (Nat × Nat)} {a c : Nat} (h : (a, c) ∈ tadd s Y) : a = s ∨ ∃ d, (a, d) ∈ Y := by
  induction Y with
  | nil =>
    rw [tadd, List.mem_singleton] at h
    cases h
    exact Or.inl rfl
  | cons p r ih =>
    obtain ⟨a', c'⟩ := p
    rw [tadd] at h
    split at h
    · rcases List.mem_cons.mp h with h | h
      · cases h; exact Or.inr ⟨_, List.mem_cons_self⟩
      · exact Or.inr ⟨c, List.mem_cons_of_mem _ h⟩
    · rcases List.mem_cons.mp h with h | h
      · cases h; exact Or.inr ⟨_, List.mem_cons_self⟩
      · rcases ih h with h | ⟨d, h⟩
        · exact Or.inl h
        · exact Or.inr ⟨d, List.mem_cons_of_mem _ h⟩
def yX (a b : Nat) (Y : List (Nat × Nat)) (f : Nat → Nat → Int32) : Prop := ∀ j s c, Y[j]? = some (s, c) → f a j = nI s ∧ f b j = nI c
theorem yX_add {a b : Nat} (hab : a ≠ b) {Y : List (Nat × Nat)} {f : Nat → Nat → Int32} {s n : Nat} (h : yX a b Y f) (hn : n = Y.length) : yX a b (Y ++ [(s, 1)]) (sy_up (sy_up f a n (nI s)) b n 1) := by
  subst hn
  intro j s' c' hj
  rw [List.getElem?_append] at hj
  split at hj
  · rename_i hlt
    obtain ⟨h1, h2⟩ := h j s' c' hj
    refine ⟨?_, ?_⟩
    · rw [sy_up2, if_neg (by omega), sy_up2, if_neg (by omega)]; exact h1
    · rw [sy_up2, if_neg (by omega), sy_up2, if_neg (by omega)]; exact h2
  · rename_i hge
    have hz : j - Y.length = 0 := by
      rcases Nat.eq_zero_or_pos (j - Y.length) with q | q
      · exact q
      · rw [List.getElem?_eq_none (by simp only [List.length_singleton]; omega)] at hj; cases hj
    rw [hz] at hj
    cases hj
    have e : j = Y.length := by omega
    subst e
    refine ⟨?_, ?_⟩
    · rw [sy_up2, if_neg (fun q => hab q.1), sy_up2, if_pos ⟨rfl, rfl⟩]
    · rw [sy_up2, if_pos ⟨rfl, rfl⟩]; rfl
theorem yX_set {a b : Nat} (hab : a ≠ b) {Y : List (Nat × Nat)} {f : Nat → Nat → Int32} {s c i : Nat} (h : yX a b Y f) (hi : Y[i]? = some (s, c)) : yX a b (Y.set i (s, c + 1)) (sy_up f b i (f b i + 1)) := by
  intro j s' c' hj
  obtain ⟨h1, h2⟩ := h i s c hi
  by_cases e : i = j
  · subst e
    rw [List.getElem?_set_self (List.getElem?_eq_some_iff.mp hi).1] at hj
    cases hj
    refine ⟨?_, ?_⟩
    · rw [sy_up2, if_neg (fun q => hab q.1)]; exact h1
    · rw [sy_up2, if_pos ⟨rfl, rfl⟩, h2, nI_1]
  · rw [List.getElem?_set_ne e] at hj
    obtain ⟨h3, h4⟩ := h j s' c' hj
    refine ⟨?_, ?_⟩
    · rw [sy_up2, if_neg (fun q => hab q.1)]; exact h3
    · rw [sy_up2, if_neg (fun q => e q.2.symm)]; exact h4
theorem e_x_yadd {Q : Option Value → sy_S → Prop} {σ : sy_S} {Y : List (Nat × Nat)} {s tg gr : Nat} (h1 : σ.1 61 2 = nI Y.length) (h2 : σ.1 61 3 = nI tg) (h3 : σ.1 61 4 = nI gr) (hY : yX 62 63 Y σ.1) (hB : ∀ a c, (a, c) ∈ Y → a < 2 ^ 31) (hs : s < 2 ^ 31) (hgr : gr < 2 ^ 31) (hl : Y.length < 200) (kk : ∀ σ' : sy_S, sx [61, 62, 63] σ σ' → σ'.1 61 2 = nI (tadd s Y).length → σ'.1 61 3 = nI (tg + s) → σ'.1 61 4 = nI (max gr s) → yX 62 63 (tadd s Y) σ'.1 → Q none σ') : sy_E shX mX9_add (0, sy_ent [.ref 61, .int (nI s)] 3, [], σ) Q := by
  refine w_x_yadd_0 ?_
  have emax : (if σ.1 61 4 < nI s then nI s else σ.1 61 4) = nI (max gr s) := by
    rw [h3]
    by_cases q : gr < s
    · rw [if_pos (nI_lt q hs), Nat.max_eq_right (by omega)]
    · rw [if_neg (nI_nlt (by omega) hgr), Nat.max_eq_left (by omega)]
  rw [emax, h2, nI_add]
  have hl9 := sy_loop (sh := shX) (y := mX9_add) (Q := Q) (fun i σ' => (24, [some (.ref 61), some (.int (nI s)), some (.int (nI i))], [], σ')) (fun i σ' => sx [61, 62, 63] σ σ' ∧ σ'.1 61 2 = nI Y.length ∧ σ'.1 61 3 = nI (tg + s) ∧ σ'.1 61 4 = nI (max gr s) ∧ yX 62 63 Y σ'.1 ∧ ∀ j a c, j < i → Y[j]? = some (a, c) → a ≠ s) Y.length ?_ ?_ 0 (sy_up (sy_up σ.1 61 3 (nI (tg + s))) 61 4 (nI (max gr s)), σ.2) (Nat.zero_le _) ⟨⟨fun q hq => ?_, rfl⟩, ?_, ?_, ?_, fun j s' c' hj => ?_, fun j a c hj => absurd hj (Nat.not_lt_zero _)⟩
  · exact hl9
  · rintro i σ' hi ⟨i1, i2, i3, i4, i5, hI⟩ ih
    have ei : (nI i).toNatClampNeg = i := nI_clamp (by omega)
    obtain ⟨⟨a, c⟩, hac⟩ : ∃ p, Y[i]? = some p := ⟨_, List.getElem?_eq_getElem hi⟩
    obtain ⟨y1, y2⟩ := i5 i a c hac
    have nle : ¬ σ'.1 61 2 ≤ nI i := by rw [i2]; exact nI_ge hi (by omega)
    refine w_x_yadd_24 (fun q => absurd q nle) (fun _ => vp_in_nI (by omega) (by decide)) (fun q => absurd q nle) (fun q => absurd q nle) (fun _ q => ?_) (fun _ q => ?_)
    · rw [ei, y1] at q
      rw [nI_1]
      refine ih _ ⟨i1, i2, i3, i4, i5, fun j a' c' hj hj' => ?_⟩
      by_cases e : j = i
      · subst e
        rw [hac] at hj'
        cases hj'
        exact fun z => q (by rw [z])
      · exact hI j a' c' (by omega) hj'
    · rw [ei, y1] at q
      have q : a = s := (nI_eq (hB a c (List.mem_of_getElem? hac)) hs).mp (Classical.byContradiction q)
      subst q
      have et := tadd_at hI hac
      rw [et] at kk
      rw [ei]
      refine kk _ (i1.tr (sx.up (by simp))) ?_ ?_ ?_ (yX_set (by decide) i5 hac)
      · dsimp only
        rw [List.length_set, sy_up_ne _ _ _ (by decide)]; exact i2
      · dsimp only
        rw [sy_up_ne _ _ _ (by decide)]; exact i3
      · dsimp only
        rw [sy_up_ne _ _ _ (by decide)]; exact i4
  · rintro σ' ⟨i1, i2, i3, i4, i5, hI⟩
    have et := tadd_none (s := s) (Y := Y) (fun j a c hj => hI j a c (List.getElem?_eq_some_iff.mp hj).1 hj)
    have le : σ'.1 61 2 ≤ nI Y.length := by rw [i2]; exact nI_le (Nat.le_refl _) (by omega)
    refine w_x_yadd_24 (fun _ _ => by rw [i2]; exact vp_in_nI hl (by decide)) (fun q => absurd le q) (fun _ q => ?_) (fun _ _ => ?_) (fun q => absurd le q) (fun q => absurd le q)
    · rw [i2] at q; exact absurd q (nI_ge hl (by decide))
    · rw [i2, nI_clamp (by omega), nI_1]
      refine kk _ (((i1.tr (sx.up (k := 62) (i := Y.length) (x := nI s) (by simp))).tr (sx.up (k := 63) (i := Y.length) (x := 1) (by simp))).tr (sx.up (by simp))) ?_ ?_ ?_ ?_
      · dsimp only
        rw [et, List.length_append, List.length_singleton, sy_up2, if_pos ⟨rfl, rfl⟩]
      · dsimp only
        rw [sy_up2, if_neg (by decide), sy_up_ne _ _ _ (by decide), sy_up_ne _ _ _ (by decide)]; exact i3
      · dsimp only
        rw [sy_up2, if_neg (by decide), sy_up_ne _ _ _ (by decide), sy_up_ne _ _ _ (by decide)]; exact i4
      · rw [et]
        have h9 := yX_add (a := 62) (b := 63) (by decide) (s := s) i5 rfl
        intro j s' c' hj
        obtain ⟨g1, g2⟩ := h9 j s' c' hj
        refine ⟨?_, ?_⟩
        · dsimp only
          rw [sy_up_ne _ _ _ (by decide)]; exact g1
        · dsimp only
          rw [sy_up_ne _ _ _ (by decide)]; exact g2
  · dsimp only
    rw [sy_up_ne _ _ _ (fun e => hq (by rw [e]; simp)), sy_up_ne _ _ _ (fun e => hq (by rw [e]; simp))]
  · dsimp only
    rw [sy_up2, if_neg (by decide), sy_up2, if_neg (by decide)]; exact h1
  · dsimp only
    rw [sy_up2, if_neg (by decide), sy_up2, if_pos ⟨rfl, rfl⟩]
  · dsimp only
    rw [sy_up2, if_pos ⟨rfl, rfl⟩]
  · dsimp only
    rw [sy_up_ne _ _ _ (by decide), sy_up_ne _ _ _ (by decide), sy_up_ne _ _ _ (by decide), sy_up_ne _ _ _ (by decide)]
    exact hY j s' c' hj
/-! Seen -/
def hch (c : Int32) : Nat := ((c * (-1640531535)).toBitVec.toNat) / 2 ^ 24
theorem hch_lt (c : Int32) : hch c < 256 := by
  unfold hch
  have := (c * (-1640531535)).toBitVec.isLt
  omega
theorem hch_eq (c : Int32) : (((c * (-1640531535)).toUInt32 >>> (Int32.toUInt32 24 &&& Int32.toUInt32 31)).toInt32) = nI (hch c) := by
  have h : c * (-1640531535) = nI ((c * (-1640531535)).toBitVec.toNat) := by
    apply Int32.toBitVec_inj.mp
    show (c * (-1640531535)).toBitVec = BitVec.ofNat 32 (c * (-1640531535)).toBitVec.toNat
    rw [BitVec.ofNat_toNat, BitVec.setWidth_eq]
  have h2 := pk_ushrN (n := (c * (-1640531535)).toBitVec.toNat) ((c * (-1640531535)).toBitVec.isLt) 24 24 (by decide)
  rw [← h] at h2
  exact h2
def lk (Cs : List Int32) (b n : Nat) (v : Int32) : Prop := (v = -1 ∧ ∀ j c, j < n → Cs[j]? = some c → hch c ≠ b) ∨ ∃ i, i < n ∧ v = nI i ∧ (∃ c, Cs[i]? = some c ∧ hch c = b) ∧ ∀ j c, i < j → j < n → Cs[j]? = some c → hch c ≠ b
def sX (Cs : List Int32) (f : Nat → Nat → Int32) : Prop := f 57 3 = nI Cs.length ∧ (∀ j c, Cs[j]? = some c → f 58 j = c) ∧ (∀ b, b < 256 → lk Cs b Cs.length (f 60 b)) ∧ ∀ j c, Cs[j]? = some c → lk Cs (hch c) j (f 59 j)
theorem e_x_sclear {Q : Option Value → sy_S → Prop} {σ : sy_S} (kk : ∀ σ' : sy_S, sx [57, 60] σ σ' → sX [] σ'.1 → Q none σ') : sy_E shX mX6_clear (0, sy_ent [.ref 57] 1, [], σ) Q := by
  refine w_x_sclear_0 (e_x_fill (n := 256) rfl (by decide) (fun σ1 h1 h2 h3 h4 => w_x_sclear_8 (kk _ ⟨fun q hq => ?_, h4⟩ ⟨?_, fun j c hj => by simp at hj, fun b hb => Or.inl ⟨?_, fun j c hj => absurd hj (Nat.not_lt_zero _)⟩, fun j c hj => by simp at hj⟩)))
  · dsimp only
    rw [sy_up_ne _ _ _ (fun e => hq (by rw [e]; simp))]
    exact h1 q (fun e => hq (by rw [e]; simp))
  · dsimp only
    rw [sy_up2, if_pos ⟨rfl, rfl⟩]; rfl
  · dsimp only
    rw [sy_up_ne _ _ _ (by decide)]
    exact h2 b hb
theorem e_x_sadd {Q : Option Value → sy_S → Prop} {σ : sy_S} {Cs : List Int32} {code : Int32} (hs : sX Cs σ.1) (hl : Cs.length ≤ 2000) (kk : ∀ σ' : sy_S, sx [57, 58, 59, 60] σ σ' → sX (Cs ++ [code]) σ'.1 → Q none σ') : sy_E shX mX6_add (0, sy_ent [.ref 57, .int code] 3, [], σ) Q := by
  obtain ⟨h1, h2, h3, h4⟩ := hs
  have hlt := hch_lt code
  refine w_x_sadd_0 (fun _ => ?_) (fun _ => ?_) (fun q => ?_) (fun _ => ?_)
  · rw [h1]; exact vp_in_nI (by omega) (by decide)
  · rw [hch_eq]; exact vp_in_nI hlt (by decide)
  · rw [h1] at q; exact absurd q (nI_ge (show Cs.length < 2001 by omega) (by decide))
  · rw [hch_eq, h1, nI_clamp (by omega), nI_clamp (by omega), nI_1]
    have ext : ∀ {j : Nat} {c : Int32}, (Cs ++ [code])[j]? = some c → Cs[j]? = some c ∨ (j = Cs.length ∧ c = code) := by
      intro j c hj
      rw [List.getElem?_append] at hj
      split at hj
      · exact Or.inl hj
      · rename_i hge
        have hz : j - Cs.length = 0 := by
          rcases Nat.eq_zero_or_pos (j - Cs.length) with q | q
          · exact q
          · rw [List.getElem?_eq_none (by simp only [List.length_singleton]; omega)] at hj; cases hj
        rw [hz] at hj
        cases hj
        exact Or.inr ⟨by omega, rfl⟩
    have old : ∀ {j : Nat} {c : Int32}, Cs[j]? = some c → (Cs ++ [code])[j]? = some c := fun {j c} hj => by
      rw [List.getElem?_append_left (List.getElem?_eq_some_iff.mp hj).1]; exact hj
    have lkm : ∀ {b n : Nat} {v : Int32}, n ≤ Cs.length → lk Cs b n v → lk (Cs ++ [code]) b n v := by
      intro b n v hn hk
      rcases hk with ⟨a1, a2⟩ | ⟨i, a1, a2, ⟨c, a3, a4⟩, a5⟩
      · refine Or.inl ⟨a1, fun j c hj hc => ?_⟩
        rcases ext hc with q | q
        · exact a2 j c hj q
        · omega
      · refine Or.inr ⟨i, a1, a2, ⟨c, old a3, a4⟩, fun j c hj hjn hc => ?_⟩
        rcases ext hc with q | q
        · exact a5 j c hj hjn q
        · omega
    refine kk _ ⟨fun q hq => ?_, rfl⟩ ⟨?_, fun j c hj => ?_, fun b hb => ?_, fun j c hj => ?_⟩
    · dsimp only
      rw [sy_up_ne _ _ _ (fun e => hq (by rw [e]; simp)), sy_up_ne _ _ _ (fun e => hq (by rw [e]; simp)), sy_up_ne _ _ _ (fun e => hq (by rw [e]; simp)), sy_up_ne _ _ _ (fun e => hq (by rw [e]; simp))]
    · dsimp only
      rw [sy_up2, if_pos ⟨rfl, rfl⟩, List.length_append, List.length_singleton]
    · dsimp only
      rw [sy_up_ne _ _ _ (by decide), sy_up_ne _ _ _ (by decide), sy_up_ne _ _ _ (by decide), sy_up2]
      rcases ext hj with q | ⟨q, q2⟩
      · rw [if_neg (fun z => by have := (List.getElem?_eq_some_iff.mp q).1; omega)]
        exact h2 j c q
      · rw [if_pos ⟨rfl, q⟩, q2]
    · dsimp only
      rw [sy_up_ne _ _ _ (by decide), sy_up2]
      by_cases e : b = hch code
      · rw [if_pos ⟨rfl, e⟩]
        refine Or.inr ⟨Cs.length, by simp, rfl, ⟨code, by simp, e.symm⟩, fun j c hj hjn => ?_⟩
        rw [List.length_append, List.length_singleton] at hjn
        omega
      · rw [if_neg (fun z => e z.2), sy_up_ne _ _ _ (by decide), sy_up_ne _ _ _ (by decide)]
        rw [List.length_append, List.length_singleton]
        rcases h3 b hb with ⟨a1, a2⟩ | ⟨i, a1, a2, ⟨c, a3, a4⟩, a5⟩
        · refine Or.inl ⟨a1, fun j c hj hc => ?_⟩
          rcases ext hc with q | ⟨-, q⟩
          · exact a2 j c (List.getElem?_eq_some_iff.mp q).1 q
          · rw [q]; exact fun z => e z.symm
        · refine Or.inr ⟨i, by omega, a2, ⟨c, old a3, a4⟩, fun j c hj hjn hc => ?_⟩
          rcases ext hc with q | ⟨-, q⟩
          · exact a5 j c hj (List.getElem?_eq_some_iff.mp q).1 q
          · rw [q]; exact fun z => e z.symm
    · dsimp only
      rw [sy_up_ne _ _ _ (by decide), sy_up_ne _ _ _ (by decide), sy_up2]
      rcases ext hj with q | ⟨q, q2⟩
      · have hjl := (List.getElem?_eq_some_iff.mp q).1
        rw [if_neg (by omega), sy_up_ne _ _ _ (by decide)]
        exact lkm (by omega) (h4 j c q)
      · rw [if_pos ⟨rfl, q⟩, q, q2]
        exact lkm (Nat.le_refl _) (h3 _ hlt)
theorem e_x_sfind {Q : Option Value → sy_S → Prop} {σ : sy_S} {Cs : List Int32} {code : Int32} (hs : sX Cs σ.1) (hl : Cs.length ≤ 2001) (k1 : ∀ j : Nat, Cs[j]? = some code → (∀ i : Nat, j < i → Cs[i]? ≠ some code) → Q (some (.int (nI j))) σ) (k0 : (∀ j : Nat, Cs[j]? ≠ some code) → Q (some (.int (-1))) σ) : sy_E shX mX6_find (0, sy_ent [.ref 57, .int code] 4, [], σ) Q := by
  obtain ⟨h1, h2, h3, h4⟩ := hs
  have hlt := hch_lt code
  have key : ∀ (d k n : Nat) (v : Int32), k + d = Cs.length → n + k ≤ Cs.length → lk Cs (hch code) n v → (∀ j : Nat, n ≤ j → Cs[j]? ≠ some code) → sy_E shX mX6_find (12, [some (.ref 57), some (.int code), some (.int v), some (.int (nI k))], [], σ) Q := by
    intro d
    induction d with
    | zero =>
      intro k n v hk hn hv hno
      have e : k = Cs.length := hk
      subst e
      have hn0 : n = 0 := by omega
      subst hn0
      have g := k0 (fun j => hno j (Nat.zero_le _))
      refine w_x_sfind_12 (fun q => ?_) (fun _ => g) (fun _ _ => g) (fun q => ?_) (fun q => ?_)
      all_goals exact absurd (by rw [h1]; exact nI_le (Nat.le_refl _) (by omega)) q
    | succ d ih =>
      intro k n v hk hn hv hno
      refine w_x_sfind_12 (fun _ q => ?_) (fun q => ?_) (fun _ q => ?_) (fun _ q q2 => ?_) (fun _ q q2 => ?_)
      · rcases hv with ⟨rfl, -⟩ | ⟨i, a1, rfl, -⟩
        · exact absurd (by decide) q
        · exact vp_in_nI (by omega) (by decide)
      · rw [h1] at q; exact absurd q (nI_ge (by omega) (by omega))
      · rcases hv with ⟨rfl, a2⟩ | ⟨i, a1, rfl, -⟩
        · refine k0 (fun j hj => ?_)
          rcases Nat.lt_or_ge j n with z | z
          · exact a2 j code z hj rfl
          · exact hno j z hj
        · exact absurd q (nI_pos (by omega))
      · rcases hv with ⟨rfl, -⟩ | ⟨i, a1, rfl, ⟨c, a3, a4⟩, a5⟩
        · exact absurd (by decide) q
        · rw [nI_clamp (by omega), h2 i c a3] at q2
          rw [nI_clamp (by omega), nI_1]
          have hl4 := h4 i c a3
          rw [a4] at hl4
          refine ih (k + 1) i _ (by omega) (by omega) hl4 (fun j hj hc => ?_)
          by_cases e : j = i
          · subst e
            rw [a3] at hc
            cases hc
            exact q2 rfl
          · rcases Nat.lt_or_ge j n with z | z
            · exact a5 j code (by omega) z hc rfl
            · exact hno j z hc
      · rcases hv with ⟨rfl, -⟩ | ⟨i, a1, rfl, ⟨c, a3, a4⟩, a5⟩
        · exact absurd (by decide) q
        · rw [nI_clamp (by omega), h2 i c a3] at q2
          have q2 : c = code := Classical.byContradiction q2
          subst q2
          refine k1 i a3 (fun j hj hc => ?_)
          rcases Nat.lt_or_ge j n with z | z
          · exact a5 j c hj z hc rfl
          · exact hno j z hc
  refine w_x_sfind_0 ?_ ?_
  · rw [hch_eq]; exact vp_in_nI hlt (by decide)
  · rw [hch_eq, nI_clamp (by omega)]
    exact key Cs.length 0 Cs.length _ (by omega) (by omega) (h3 _ hlt) (fun j hj hc => by rw [List.getElem?_eq_none hj] at hc; cases hc)
