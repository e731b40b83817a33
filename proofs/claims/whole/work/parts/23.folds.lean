/-! ===== Int32 by its bits: bt x i ===== -/
def bt (x : Int32) (i : Nat) : Bool := x.toBitVec.getLsbD i
theorem b_ext {x y : Int32} (h : ∀ i, i < 32 → bt x i = bt y i) : x = y := Int32.toBitVec_inj.mp (BitVec.eq_of_getLsbD_eq (fun i hi => h i hi))
theorem b_or (x y : Int32) (i : Nat) : bt (x ||| y) i = (bt x i || bt y i) := by unfold bt; rw [Int32.toBitVec_or, BitVec.getLsbD_or]
theorem b_and (x y : Int32) (i : Nat) : bt (x &&& y) i = (bt x i && bt y i) := by unfold bt; rw [Int32.toBitVec_and, BitVec.getLsbD_and]
theorem b_xor (x y : Int32) (i : Nat) : bt (x ^^^ y) i = (bt x i ^^ bt y i) := by unfold bt; rw [Int32.toBitVec_xor, BitVec.getLsbD_xor]
theorem b_big {x : Int32} {i : Nat} (h : 32 ≤ i) : bt x i = false := BitVec.getLsbD_of_ge _ _ h
theorem b_255 (i : Nat) : bt 255 i = decide (i < 8) := by
  rcases Nat.lt_or_ge i 32 with h | h
  · exact (by decide +kernel : ∀ i, i < 32 → bt 255 i = decide (i < 8)) i h
  · rw [b_big h, decide_eq_false (by omega)]
theorem b_65535 (i : Nat) : bt 65535 i = decide (i < 16) := by
  rcases Nat.lt_or_ge i 32 with h | h
  · exact (by decide +kernel : ∀ i, i < 32 → bt 65535 i = decide (i < 16)) i h
  · rw [b_big h, decide_eq_false (by omega)]
theorem b_m1 : ∀ i, i < 32 → bt (-1) i = true := by decide +kernel
theorem b_0 (i : Nat) : bt 0 i = false := BitVec.getLsbD_zero
theorem s_l : ∀ n, n < 32 → ((nI n &&& 31).toBitVec.smod 32).toNat = n := by decide +kernel
theorem s_u : ∀ n, n < 32 → (((nI n).toUInt32 &&& Int32.toUInt32 31).toBitVec % 32).toNat = n := by decide +kernel
theorem b_shl (n : Nat) (hn : n < 32) (x : Int32) {i : Nat} (hi : i < 32) : bt (x <<< (nI n &&& 31)) i = (decide (n ≤ i) && bt x (i - n)) := by
  unfold bt
  rw [Int32.toBitVec_shiftLeft]
  show (x.toBitVec <<< ((nI n &&& 31).toBitVec.smod 32).toNat).getLsbD i = _
  rw [s_l n hn, BitVec.getLsbD_shiftLeft]
  rcases Nat.lt_or_ge i n with h | h
  · simp [h, Nat.not_le.mpr h]
  · simp [hi, h, Nat.not_lt.mpr h]
theorem b_ushr (n : Nat) (hn : n < 32) (x : Int32) (i : Nat) : bt ((x.toUInt32 >>> ((nI n).toUInt32 &&& Int32.toUInt32 31)).toInt32) i = bt x (n + i) := by
  show (x.toUInt32 >>> ((nI n).toUInt32 &&& Int32.toUInt32 31)).toBitVec.getLsbD i = x.toUInt32.toBitVec.getLsbD (n + i)
  rw [UInt32.toBitVec_shiftRight]
  show (x.toUInt32.toBitVec >>> (((nI n).toUInt32 &&& Int32.toUInt32 31).toBitVec % 32).toNat).getLsbD i = _
  rw [s_u n hn, BitVec.getLsbD_ushiftRight]
theorem b_sshr (n : Nat) (hn : n < 32) (x : Int32) {i : Nat} (hi : i < 32) : bt (x >>> (nI n &&& 31)) i = if n + i < 32 then bt x (n + i) else bt x 31 := by
  unfold bt
  rw [Int32.toBitVec_shiftRight]
  show (x.toBitVec.sshiftRight ((nI n &&& 31).toBitVec.smod 32).toNat).getLsbD i = _
  rw [s_l n hn, BitVec.getLsbD_sshiftRight, BitVec.msb_eq_getLsbD_last]
  simp [hi]
/-! folds over places; the other contracts of Fall -/
theorem sx_fold {sh : sy_Z} {y : sy_M} {Q : Option Value → sy_S → Prop} (L : List Nat) (cf : List Nat → Nat → sy_Cf) (step : ∀ i c, L[i]? = some c → sy_E sh y (cf (L.take i ++ [c]) (i + 1)) Q → sy_E sh y (cf (L.take i) i) Q) (exit : sy_E sh y (cf L L.length) Q) : sy_E sh y (cf [] 0) Q := by
  have key : ∀ d i, i + d = L.length → sy_E sh y (cf (L.take i) i) Q := by
    intro d
    induction d with
    | zero =>
      intro i h
      have h : i = L.length := h
      subst h
      rw [List.take_length]
      exact exit
    | succ d ih =>
      intro i h
      have hi : i < L.length := by omega
      have h1 : L[i]? = some L[i] := List.getElem?_eq_getElem hi
      refine step i _ h1 ?_
      have h2 := ih (i + 1) (by omega)
      rw [List.take_succ, h1] at h2
      exact h2
  have h := key L.length 0 (by omega)
  rw [List.take_zero] at h
  exact h
def lsum (H : Nat → Nat) (l : List Nat) : Nat := (l.map H).sum
theorem lsum_app (H : Nat → Nat) (l : List Nat) (c : Nat) : lsum H (l ++ [c]) = lsum H l + H c := by simp [lsum]
/-- all of the places together -/
def sg_sum (G : sg_G) (H : Nat → Nat) : Nat := ssum (sg_n G) fun c => if G.2.2 c then 0 else H c
theorem lsum_pm (G : sg_G) (H : Nat → Nat) (m : Nat) : lsum H (sg_pm G m) = ssum m fun c => if G.2.2 c then 0 else H c := by
  induction m with
  | zero => rfl
  | succ m ih =>
    rw [sg_pm_s]
    simp only [ssum]
    rw [← ih]
    cases h : G.2.2 m
    · simp only [Bool.false_eq_true, if_false, lsum_app]
    · simp
def bts (p : Nat → Bool) (l : List Nat) : Int32 := l.foldl (fun s c => if p c then s ||| (1 <<< (nI c &&& 31)) else s) 0
theorem bts_app (p : Nat → Bool) (l : List Nat) (c : Nat) : bts p (l ++ [c]) = if p c then bts p l ||| (1 <<< (nI c &&& 31)) else bts p l := by simp [bts, List.foldl_append]
theorem bts_s (p : Nat → Bool) (m : Nat) : bts p (List.range (m + 1)) = if p m then bts p (List.range m) ||| (1 <<< (nI m &&& 31)) else bts p (List.range m) := by rw [List.range_succ, bts_app]
theorem bts_pm (G : sg_G) (p : Nat → Bool) (m : Nat) : bts p (sg_pm G m) = bts (fun c => !G.2.2 c && p c) (List.range m) := by
  induction m with
  | zero => rfl
  | succ m ih =>
    rw [sg_pm_s, bts_s, ← ih]
    cases h : G.2.2 m
    · simp only [Bool.false_eq_true, if_false, bts_app, Bool.not_false, Bool.true_and]
    · simp
theorem bts_ext {p : Nat → Bool} {m n : Nat} (h : m ≤ n) (hp : ∀ c, m ≤ c → c < n → p c = false) : bts p (List.range n) = bts p (List.range m) := by
  induction n with
  | zero => have : m = 0 := by omega
            subst this; rfl
  | succ n ih =>
    by_cases e : m = n + 1
    · subst e; rfl
    · rw [bts_s, hp n (by omega) (by omega)]
      exact ih (by omega) (fun c h1 h2 => hp c h1 (by omega))
theorem bts_congr {p q : Nat → Bool} {m : Nat} (h : ∀ c, c < m → p c = q c) : bts p (List.range m) = bts q (List.range m) := by
  induction m with
  | zero => rfl
  | succ m ih => rw [bts_s, bts_s, h m (by omega), ih (fun c hc => h c (by omega))]
theorem b_1 : ∀ i, i < 32 → bt 1 i = decide (i = 0) := by decide +kernel
theorem bts_bt (p : Nat → Bool) {m i : Nat} (hm : m ≤ 16) (hi : i < 32) : bt (bts p (List.range m)) i = (decide (i < m) && p i) := by
  induction m with
  | zero => simp [bts, b_0]
  | succ m ih =>
    rw [bts_s]
    have h1 := ih (by omega)
    by_cases hp : p m = true
    · rw [if_pos hp, b_or, h1, b_shl m (by omega) 1 hi]
      by_cases e : i = m
      · subst e
        simp [hp, b_1 0 (by omega)]
      · have : bt 1 (i - m) = decide (i - m = 0) := b_1 _ (by omega)
        rw [this]
        by_cases l : i < m
        · rw [decide_eq_true l, decide_eq_true (show i < m + 1 by omega), decide_eq_false (show ¬ m ≤ i by omega)]
          simp
        · rw [decide_eq_false l, decide_eq_false (show ¬ i < m + 1 by omega), decide_eq_false (show ¬ i - m = 0 by omega)]
          simp
    · rw [if_neg hp, h1]
      by_cases e : i = m
      · subst e
        simp at hp
        simp [hp]
      · by_cases l : i < m
        · rw [decide_eq_true l, decide_eq_true (show i < m + 1 by omega)]
        · rw [decide_eq_false l, decide_eq_false (show ¬ i < m + 1 by omega)]
theorem bts_test (p : Nat → Bool) {m i : Nat} (hm : m ≤ 16) (hi : i < 16) : ((bts p (List.range m) >>> (nI i &&& 31)) &&& 1 = 0) ↔ ¬ (i < m ∧ p i = true) := by
  have e : (bts p (List.range m) >>> (nI i &&& 31)) &&& 1 = if i < m ∧ p i = true then 1 else 0 := by
    apply b_ext
    intro j hj
    rw [b_and, b_1 j hj, b_sshr i (by omega) _ hj]
    by_cases z : j = 0
    · subst z
      rw [if_pos (by omega), bts_bt p hm (by omega)]
      by_cases q : i < m ∧ p i = true
      · rw [if_pos q]
        simp [q.1, q.2, b_1 0 (by omega)]
      · rw [if_neg q, b_0]
        simp only [decide_true, Bool.and_true, Nat.add_zero, Bool.and_eq_false_iff, decide_eq_false_iff_not]
        by_cases l : i < m
        · right
          cases hp : p i
          · rfl
          · exact absurd ⟨l, hp⟩ q
        · exact Or.inl l
    · rw [decide_eq_false z, Bool.and_false]
      split
      · rw [b_1 j hj, decide_eq_false z]
      · rw [b_0]
  rw [e]
  by_cases q : i < m ∧ p i = true
  · rw [if_pos q]
    exact ⟨fun h => absurd h (by decide), fun h => absurd q h⟩
  · rw [if_neg q]
    exact ⟨fun _ => q, fun _ => rfl⟩
theorem bts_zero (p : Nat → Bool) {m : Nat} (hm : m ≤ 16) : bts p (List.range m) = 0 ↔ ∀ i, i < m → p i = false := by
  constructor
  · intro h i hi
    have h1 := bts_bt p hm (show i < 32 by omega)
    rw [h, b_0, decide_eq_true hi] at h1
    simpa using h1.symm
  · intro h
    apply b_ext
    intro i hi
    rw [bts_bt p hm hi, b_0]
    by_cases l : i < m
    · rw [h i l, Bool.and_false]
    · rw [decide_eq_false l]; rfl
