/-! the elimination as mathematics -/
def isum : Nat → (Nat → Int) → Int
  | 0, _ => 0
  | n + 1, f => isum n f + f n
theorem isum_congr {n : Nat} {f g : Nat → Int} (h : ∀ j, j < n → f j = g j) : isum n f = isum n g := by
  induction n with
  | zero => rfl
  | succ n ih => rw [isum, isum, ih (fun j hj => h j (by omega)), h n (by omega)]
theorem isum_add (n : Nat) (f g : Nat → Int) : isum n (fun j => f j + g j) = isum n f + isum n g := by
  induction n with
  | zero => rfl
  | succ n ih => simp only [isum]; rw [ih]; omega
theorem isum_mul (n : Nat) (c : Int) (f : Nat → Int) : isum n (fun j => c * f j) = c * isum n f := by
  induction n with
  | zero => simp [isum]
  | succ n ih => simp only [isum]; rw [ih, Int.mul_add]
theorem isum_le {n : Nat} {f g : Nat → Int} (h : ∀ j, j < n → f j ≤ g j) : isum n f ≤ isum n g := by
  induction n with
  | zero => exact Int.le_refl _
  | succ n ih =>
    simp only [isum]
    have h1 := ih (fun j hj => h j (by omega))
    have h2 := h n (by omega)
    omega
theorem isum_one (n k : Nat) (t : Int) : isum n (fun j => if j = k then t else 0) = if k < n then t else 0 := by
  induction n with
  | zero => rfl
  | succ n ih =>
    simp only [isum]
    rw [ih]
    by_cases h : k < n
    · rw [if_pos h, if_neg (show ¬ n = k by omega), if_pos (show k < n + 1 by omega)]; omega
    · by_cases h2 : n = k
      · rw [if_neg h, if_pos h2, if_pos (show k < n + 1 by omega)]; omega
      · rw [if_neg h, if_neg h2, if_neg (show ¬ k < n + 1 by omega)]; omega
theorem isum_nat (n : Nat) (f : Nat → Nat) : isum n (fun j => (f j : Int)) = (ssum n f : Nat) := by
  induction n with
  | zero => rfl
  | succ n ih => simp only [isum, ssum]; rw [ih]; omega
theorem nd_len {n : Nat} : ∀ {l : List Nat}, l.Nodup → (∀ x, x ∈ l → x < n) → l.length = ssum n fun b => if b ∈ l then 1 else 0
  | [], _, _ => by
    rw [ssum_congr (g := fun _ => 0) (fun j _ => by simp), ssum_zero]; rfl
  | a :: l, hn, hl => by
    rw [List.nodup_cons] at hn
    rw [List.length_cons, nd_len hn.2 (fun x hx => hl x (List.mem_cons_of_mem _ hx))]
    have e : ssum n (fun b => if b ∈ a :: l then 1 else 0) = ssum n (fun b => (if b ∈ l then 1 else 0) + if b = a then 1 else 0) := by
      apply ssum_congr
      intro j _
      by_cases q : j = a
      · subst q
        rw [if_pos List.mem_cons_self, if_neg hn.1, if_pos rfl]
      · by_cases m : j ∈ l
        · rw [if_pos (List.mem_cons_of_mem _ m), if_pos m, if_neg q]
        · rw [if_neg (fun z => (List.mem_cons.mp z).elim q m), if_neg m, if_neg q]
    rw [e, ssum_add, ssum_one, if_pos (hl a List.mem_cons_self)]
def zi (G : sg_G) : Nat → Nat → Int := fun a b => if a = b then 4 else if b ∈ sg_nb G a then -1 else 0
def zst (p : Nat) (Z : (Nat → Nat → Int) × Int) : (Nat → Nat → Int) × Int := (fun a b => (Z.1 a b * Z.1 p p - Z.1 a p * Z.1 p b).tdiv Z.2, Z.1 p p)
def zN (G : sg_G) : Nat → (Nat → Nat → Int) × Int
  | 0 => (zi G, 1)
  | p + 1 => if pb G p = true then zst p (zN G p) else zN G p
def zr (G : sg_G) (p : Nat) (M : Nat → Nat → Int) (a : Nat) : Nat → Int := fun b => if p ≤ b ∧ pb G b = true then M a b else 0
def zI (G : sg_G) (p : Nat) (M : Nat → Nat → Int) (A : Int) : Prop := 0 < A ∧ A ≤ 4 ^ p ∧ ∀ a, sg_p G a → p ≤ a → (∀ b, sg_p G b → p ≤ b → (a ≠ b → M a b ≤ 0) ∧ (b ∈ sg_nb G a → M a b ≤ -A)) ∧ M a a ≤ 4 * A ∧ (4 - ((sg_nb G a).length : Int)) * A ≤ isum 16 (zr G p M a)
theorem nb_len {G : sg_G} (hG : sg_ok G) {a : Nat} (ha : sg_p G a) : (sg_nb G a).length = ssum 16 fun b => if b ∈ sg_nb G a then 1 else 0 := nd_len (sg_nb_nodup hG ha.1) (fun x hx => sg_p16 hG (sg_nb_p hG ha.1 hx).1)
theorem zI_0 {G : sg_G} (hG : sg_ok G) : zI G 0 (zi G) 1 := by
  refine ⟨by decide, by decide, fun a ha _ => ⟨fun b hb _ => ⟨fun h => ?_, fun h => ?_⟩, ?_, ?_⟩⟩
  · unfold zi
    rw [if_neg h]
    split <;> decide
  · unfold zi
    rw [if_neg (fun e => (sg_nb_p hG ha.1 h).2 e.symm), if_pos h]
    decide
  · unfold zi
    rw [if_pos rfl]
    decide
  · have ha16 := sg_p16 hG ha
    have hna : a ∉ sg_nb G a := fun q => (sg_nb_p hG ha.1 q).2 rfl
    have e : isum 16 (zr G 0 (zi G) a) = isum 16 (fun b => (if b = a then 4 else 0) + (-1) * (((if b ∈ sg_nb G a then 1 else 0 : Nat)) : Int)) := by
      apply isum_congr
      intro b _
      unfold zr zi
      by_cases q : a = b
      · subst q
        rw [if_pos ⟨Nat.zero_le _, pb_iff.mpr ha⟩, if_pos rfl, if_pos rfl, if_neg hna]; rfl
      · by_cases m : b ∈ sg_nb G a
        · rw [if_pos ⟨Nat.zero_le _, pb_iff.mpr (sg_nb_p hG ha.1 m).1⟩, if_neg q, if_pos m, if_neg (show ¬ b = a from fun z => q z.symm), if_pos m]; rfl
        · rw [if_neg q, if_neg m, if_neg (show ¬ b = a from fun z => q z.symm), if_neg m]
          split <;> rfl
    rw [e, isum_add, isum_mul, isum_nat, isum_one, if_pos ha16, ← nb_len hG ha]
    omega
theorem zr_p {G : sg_G} {p : Nat} {M : Nat → Nat → Int} {a b : Nat} (hp : p ≤ b) (hb : sg_p G b) : zr G p M a b = M a b := by
  unfold zr
  rw [if_pos ⟨hp, pb_iff.mpr hb⟩]
theorem zI_off {G : sg_G} (hG : sg_ok G) {p : Nat} {M : Nat → Nat → Int} {A : Int} (h : zI G p M A) {a b : Nat} (ha : sg_p G a) (hpa : p ≤ a) (hb : sg_p G b) (hpb : p ≤ b) : -(4 * A) ≤ M a b ∧ M a b ≤ 4 * A := by
  obtain ⟨h0, -, h1⟩ := h
  obtain ⟨g1, g2, g3⟩ := h1 a ha hpa
  by_cases e : a = b
  · subst e
    refine ⟨?_, g2⟩
    -- the sum of its row is not below 0, and all others are 0 or less
    have h5 : isum 16 (zr G p M a) ≤ isum 16 (fun j => if j = a then M a a else 0) := by
      apply isum_le
      intro j _
      unfold zr
      by_cases q : j = a
      · subst q
        rw [if_pos rfl]
        split
        · exact Int.le_refl _
        · rename_i z; exact absurd ⟨hpa, pb_iff.mpr ha⟩ z
      · rw [if_neg q]
        split
        · rename_i z; exact (g1 j (pb_iff.mp z.2) z.1).1 (fun y => q y.symm)
        · exact Int.le_refl _
    rw [isum_one, if_pos (sg_p16 hG ha)] at h5
    have hlen := sg_nb_len G a
    have h6 : 0 ≤ (4 - ((sg_nb G a).length : Int)) * A := Int.mul_nonneg (by omega) (by omega)
    omega
  · have hle := (g1 b hb hpb).1 e
    refine ⟨?_, by omega⟩
    have h5 : isum 16 (zr G p M a) ≤ isum 16 (fun j => (if j = a then M a a else 0) + if j = b then M a b else 0) := by
      apply isum_le
      intro j _
      unfold zr
      by_cases q : j = a
      · subst q
        rw [if_pos rfl, if_neg e]
        split
        · omega
        · rename_i z; exact absurd ⟨hpa, pb_iff.mpr ha⟩ z
      · rw [if_neg q]
        by_cases q2 : j = b
        · subst q2
          rw [if_pos rfl]
          split
          · omega
          · rename_i z; exact absurd ⟨hpb, pb_iff.mpr hb⟩ z
        · rw [if_neg q2]
          split
          · rename_i z
            have := (g1 j (pb_iff.mp z.2) z.1).1 (fun y => q y.symm)
            omega
          · omega
    rw [isum_add, isum_one, isum_one, if_pos (sg_p16 hG ha), if_pos (sg_p16 hG hb)] at h5
    have hlen := sg_nb_len G a
    have h6 : 0 ≤ (4 - ((sg_nb G a).length : Int)) * A := Int.mul_nonneg (by omega) (by omega)
    omega
/-- of those next to a place, at most two come ahead of it -/
theorem nb_late {G : sg_G} (hG : sg_ok G) {p : Nat} (hp : sg_p G p) : (sg_nb G p).length ≤ 2 + ssum 16 fun b => if p < b ∧ b ∈ sg_nb G p then 1 else 0 := by
  obtain ⟨la, hla⟩ : ∃ l, l = sg_if G (decide (0 < p / G.2.1)) (p - G.2.1) := ⟨_, rfl⟩
  obtain ⟨lb, hlb⟩ : ∃ l, l = sg_if G (decide (0 < p % G.2.1)) (p - 1) := ⟨_, rfl⟩
  obtain ⟨lc, hlc⟩ : ∃ l, l = sg_if G (decide (p % G.2.1 + 1 < G.2.1)) (p + 1) := ⟨_, rfl⟩
  obtain ⟨ld, hld⟩ : ∃ l, l = sg_if G (decide (p / G.2.1 + 1 < G.1)) (p + G.2.1) := ⟨_, rfl⟩
  have hnb : sg_nb G p = (la ++ lb) ++ (lc ++ ld) := by rw [← List.append_assoc, hla, hlb, hlc, hld]; rfl
  have na : la.length ≤ 1 := by rw [hla]; exact sg_if_len _ _ _
  have nb : lb.length ≤ 1 := by rw [hlb]; exact sg_if_len _ _ _
  have hnd := sg_nb_nodup hG hp.1
  rw [hnb, List.nodup_append] at hnd
  have hmem : ∀ x, x ∈ lc ++ ld → p < x ∧ x ∈ sg_nb G p := by
    intro x hx
    refine ⟨?_, by rw [hnb]; exact List.mem_append_right _ hx⟩
    obtain ⟨-, -, h3, -⟩ := hG
    rcases List.mem_append.mp hx with h | h
    · rw [hlc] at h
      obtain ⟨-, -, e⟩ := sg_mem_if.mp h
      omega
    · rw [hld] at h
      obtain ⟨-, -, e⟩ := sg_mem_if.mp h
      omega
  have h2 : (lc ++ ld).length = ssum 16 fun b => if b ∈ lc ++ ld then 1 else 0 := nd_len hnd.2.1 (fun x hx => sg_p16 hG (sg_nb_p hG hp.1 (hmem x hx).2).1)
  have h3 : (ssum 16 fun b => if b ∈ lc ++ ld then 1 else 0) ≤ ssum 16 fun b => if p < b ∧ b ∈ sg_nb G p then 1 else 0 := by
    apply ssum_le
    intro b _
    by_cases q : b ∈ lc ++ ld
    · rw [if_pos q, if_pos (hmem b q)]; exact Nat.le_refl _
    · rw [if_neg q]; exact Nat.zero_le _
  have h4 : (sg_nb G p).length = (la ++ lb).length + (lc ++ ld).length := by rw [hnb, List.length_append]
  rw [List.length_append] at h4
  omega
theorem zI_piv {G : sg_G} (hG : sg_ok G) {p : Nat} {M : Nat → Nat → Int} {A : Int} (h : zI G p M A) (hp : sg_p G p) : 2 * A ≤ M p p ∧ M p p ≤ 4 * A := by
  obtain ⟨h0, -, h1⟩ := h
  obtain ⟨g1, g2, g3⟩ := h1 p hp (Nat.le_refl _)
  refine ⟨?_, g2⟩
  have h5 : isum 16 (zr G p M p) ≤ isum 16 (fun j => (if j = p then M p p else 0) + (-A) * ((if p < j ∧ j ∈ sg_nb G p then 1 else 0 : Nat) : Int)) := by
    apply isum_le
    intro j _
    unfold zr
    by_cases q : j = p
    · subst q
      rw [if_pos rfl, if_neg (show ¬ (j < j ∧ j ∈ sg_nb G j) from fun z => Nat.lt_irrefl _ z.1), if_pos ⟨Nat.le_refl _, pb_iff.mpr hp⟩]
      simp
    · rw [if_neg q]
      by_cases m : p < j ∧ j ∈ sg_nb G p
      · have hj := (sg_nb_p hG hp.1 m.2).1
        rw [if_pos m, if_pos ⟨by omega, pb_iff.mpr hj⟩]
        have := (g1 j hj (by omega)).2 m.2
        simp
        omega
      · rw [if_neg m]
        simp
        split
        · rename_i z; exact (g1 j (pb_iff.mp z.2) z.1).1 (fun y => q y.symm)
        · exact Int.le_refl _
  rw [isum_add, isum_mul, isum_nat, isum_one, if_pos (sg_p16 hG hp)] at h5
  have hl := nb_late hG hp
  obtain ⟨c, hc⟩ : ∃ c, c = ssum 16 fun b => if p < b ∧ b ∈ sg_nb G p then 1 else 0 := ⟨_, rfl⟩
  rw [← hc] at h5 hl
  have h6 : (2 : Int) * A ≤ (4 - ((sg_nb G p).length : Int)) * A + (c : Int) * A := by
    rw [← Int.add_mul]
    exact Int.mul_le_mul_of_nonneg_right (by omega) (by omega)
  rw [Int.neg_mul, Int.mul_comm A] at h5
  omega
theorem td_any {n A : Int} (hA : 0 < A) : n - (A - 1) ≤ A * n.tdiv A := by
  have h1 := Int.mul_tdiv_add_tmod n A
  have h2 := Int.tmod_lt_of_pos n hA
  omega
theorem td_np {n A : Int} (hA : 0 < A) (hn : n ≤ 0) : n ≤ A * n.tdiv A ∧ n.tdiv A ≤ 0 := by
  have h1 : n.tdiv A = -((-n).tdiv A) := by rw [Int.neg_tdiv, Int.neg_neg]
  have h2 := Int.mul_tdiv_add_tmod (-n) A
  have h3 := Int.tmod_nonneg A (show 0 ≤ -n by omega)
  have h4 := Int.tdiv_nonneg (show 0 ≤ -n by omega) (show 0 ≤ A by omega)
  rw [h1, Int.mul_neg]
  omega
theorem td_le {n A P : Int} (hA : 0 < A) (hP : 0 ≤ P) (hn : n ≤ A * P) : n.tdiv A ≤ P := by
  by_cases q : n ≤ 0
  · exact Int.le_trans (td_np hA q).2 hP
  · have h1 := Int.mul_tdiv_add_tmod n A
    have h2 := Int.tmod_nonneg A (show 0 ≤ n by omega)
    have h3 : A * n.tdiv A ≤ A * P := by omega
    exact Int.le_of_mul_le_mul_left h3 hA
theorem td_neg {n A P : Int} (hA : 0 < A) (hP : 0 ≤ P) (hn : n ≤ -(A * P)) : n.tdiv A ≤ -P := by
  have hAP : 0 ≤ A * P := Int.mul_nonneg (by omega) hP
  have h1 : n.tdiv A = -((-n).tdiv A) := by rw [Int.neg_tdiv, Int.neg_neg]
  have h2 := Int.mul_tdiv_add_tmod (-n) A
  have h3 := Int.tmod_lt_of_pos (-n) hA
  have h4 : A * (P - 1) < A * (-n).tdiv A := by rw [Int.mul_sub, Int.mul_one]; omega
  have h5 := Int.lt_of_mul_lt_mul_left h4 (by omega)
  omega
theorem zI_st {G : sg_G} (hG : sg_ok G) {p : Nat} {M : Nat → Nat → Int} {A : Int} (h : zI G p M A) (hp : sg_p G p) : zI G (p + 1) (zst p (M, A)).1 (zst p (M, A)).2 := by
  obtain ⟨v1, v2⟩ := zI_piv hG h hp
  obtain ⟨h0, hA4, h1⟩ := id h
  obtain ⟨P, hP⟩ : ∃ P, P = M p p := ⟨_, rfl⟩
  rw [← hP] at v1 v2
  have hP0 : 0 < P := by omega
  unfold zst
  dsimp only
  rw [← hP]
  have hRp : 0 ≤ isum 16 (zr G p M p) := by
    obtain ⟨-, -, g3⟩ := h1 p hp (Nat.le_refl _)
    have hlen := sg_nb_len G p
    have h6 : 0 ≤ (4 - ((sg_nb G p).length : Int)) * A := Int.mul_nonneg (by omega) (by omega)
    omega
  refine ⟨hP0, ?_, fun a ha hpa => ?_⟩
  · have e : (4 : Int) ^ (p + 1) = 4 ^ p * 4 := Int.pow_succ 4 p
    omega
  · obtain ⟨g1, g2, g3⟩ := h1 a ha (by omega)
    have hap : a ≠ p := by omega
    have nap := (g1 p hp (Nat.le_refl _)).1 hap
    refine ⟨fun b hb hpb => ⟨fun hab => ?_, fun hnb => ?_⟩, ?_, ?_⟩
    · have npb := ((h1 p hp (Nat.le_refl _)).1 b hb (by omega)).1 (by omega)
      have nab := (g1 b hb (by omega)).1 hab
      have m1 : M a b * P ≤ 0 := Int.mul_nonpos_of_nonpos_of_nonneg nab (by omega)
      have m2 : 0 ≤ M a p * M p b := Int.mul_nonneg_of_nonpos_of_nonpos nap npb
      exact (td_np h0 (by omega)).2
    · have npb := ((h1 p hp (Nat.le_refl _)).1 b hb (by omega)).1 (by omega)
      have nab := (g1 b hb (by omega)).2 hnb
      have m1 : M a b * P ≤ -A * P := Int.mul_le_mul_of_nonneg_right nab (by omega)
      have m2 : 0 ≤ M a p * M p b := Int.mul_nonneg_of_nonpos_of_nonpos nap npb
      rw [Int.neg_mul] at m1
      exact td_neg h0 (by omega) (by omega)
    · have npa := ((h1 p hp (Nat.le_refl _)).1 a ha (by omega)).1 (by omega)
      have m1 : M a a * P ≤ 4 * A * P := Int.mul_le_mul_of_nonneg_right g2 (by omega)
      have m2 : 0 ≤ M a p * M p a := Int.mul_nonneg_of_nonpos_of_nonpos nap npa
      refine td_le h0 (by omega) ?_
      rw [Int.mul_comm 4 A, Int.mul_assoc] at m1
      omega
    · obtain ⟨ρ, hρ⟩ : ∃ ρ : Int, ρ = 4 - ((sg_nb G a).length : Int) := ⟨_, rfl⟩
      rw [← hρ] at g3 ⊢
      obtain ⟨S, hS⟩ : ∃ S, S = isum 16 (zr G (p + 1) (fun a b => (M a b * P - M a p * M p b).tdiv A) a) := ⟨_, rfl⟩
      rw [← hS]
      have c1 : isum 16 (fun b => P * zr G p M a b + (-(M a p)) * zr G p M p b + (-(A - 1)) * (if b = a then 1 else 0)) ≤ A * S := by
        rw [hS, ← isum_mul]
        apply isum_le
        intro b _
        by_cases q : p ≤ b ∧ pb G b = true
        · have hb := pb_iff.mp q.2
          rw [zr_p q.1 hb, zr_p q.1 hb]
          by_cases e : b = p
          · subst e
            have e0 : zr G (b + 1) (fun a c => (M a c * P - M a b * M b c).tdiv A) a b = 0 := by
              unfold zr
              rw [if_neg (by omega)]
            rw [e0, if_neg (fun z => hap z.symm), ← hP, Int.mul_comm P, Int.neg_mul]
            omega
          · rw [zr_p (by omega) hb]
            have npb := ((h1 p hp (Nat.le_refl _)).1 b hb q.1).1 (fun z => e z.symm)
            have m2 : 0 ≤ M a p * M p b := Int.mul_nonneg_of_nonpos_of_nonpos nap npb
            rw [Int.mul_comm P, Int.neg_mul]
            by_cases e2 : b = a
            · subst e2
              rw [if_pos rfl, Int.mul_one]
              have := td_any (n := M b b * P - M b p * M p b) h0
              omega
            · rw [if_neg e2, Int.mul_zero]
              have nab := (g1 b hb q.1).1 (fun z => e2 z.symm)
              have m1 : M a b * P ≤ 0 := Int.mul_nonpos_of_nonpos_of_nonneg nab (by omega)
              have := (td_np (n := M a b * P - M a p * M p b) h0 (by omega)).1
              omega
        · have z1 : zr G p M a b = 0 := if_neg q
          have z2 : zr G p M p b = 0 := if_neg q
          have z3 : zr G (p + 1) (fun a c => (M a c * P - M a p * M p c).tdiv A) a b = 0 := if_neg (fun z => q ⟨by omega, z.2⟩)
          have z4 : ¬ b = a := fun z => q (by rw [z]; exact ⟨by omega, pb_iff.mpr ha⟩)
          rw [z1, z2, z3, if_neg z4]
          simp
      rw [isum_add, isum_add, isum_mul, isum_mul, isum_mul, isum_one, if_pos (sg_p16 hG ha), Int.mul_one, Int.neg_mul] at c1
      have m1 : M a p * isum 16 (zr G p M p) ≤ 0 := Int.mul_nonpos_of_nonpos_of_nonneg nap hRp
      have m2 : P * (ρ * A) ≤ P * isum 16 (zr G p M a) := Int.mul_le_mul_of_nonneg_left g3 (by omega)
      have e1 : P * (ρ * A) = A * (ρ * P) := by rw [Int.mul_comm ρ A, Int.mul_left_comm, Int.mul_comm P ρ]
      have c2 : A * (ρ * P - 1) < A * S := by
        rw [Int.mul_sub, Int.mul_one]
        omega
      have := Int.lt_of_mul_lt_mul_left c2 (by omega)
      omega
theorem zN_I {G : sg_G} (hG : sg_ok G) (p : Nat) : zI G p (zN G p).1 (zN G p).2 := by
  induction p with
  | zero => exact zI_0 hG
  | succ p ih =>
    rw [zN]
    by_cases q : pb G p = true
    · rw [if_pos q]
      exact zI_st hG ih (pb_iff.mp q)
    · rw [if_neg q]
      obtain ⟨h0, h1, h2⟩ := ih
      have hne : ∀ a, sg_p G a → a ≠ p := fun a ha e => q (by rw [← e]; exact pb_iff.mpr ha)
      refine ⟨h0, ?_, fun a ha hpa => ?_⟩
      · have e : (4 : Int) ^ (p + 1) = 4 ^ p * 4 := Int.pow_succ 4 p
        omega
      · obtain ⟨g1, g2, g3⟩ := h2 a ha (by omega)
        refine ⟨fun b hb hpb => g1 b hb (by omega), g2, ?_⟩
        have e : isum 16 (zr G (p + 1) (zN G p).1 a) = isum 16 (zr G p (zN G p).1 a) := by
          apply isum_congr
          intro b _
          unfold zr
          by_cases z : p ≤ b ∧ pb G b = true
          · have := hne b (pb_iff.mp z.2)
            rw [if_pos z, if_pos ⟨by omega, z.2⟩]
          · rw [if_neg z, if_neg (fun y => z ⟨by omega, y.2⟩)]
        rw [e]
        exact g3
/-- the group's number -/
def grp (G : sg_G) : Int := (zN G 16).2
theorem zN_skip {G : sg_G} {p : Nat} : ∀ (d : Nat), (∀ c, p ≤ c → c < p + d → pb G c = false) → zN G (p + d) = zN G p
  | 0, _ => rfl
  | d + 1, h => by
    rw [← Nat.add_assoc, zN, if_neg (by rw [h (p + d) (by omega) (by omega)]; decide)]
    exact zN_skip d (fun c h1 h2 => h c h1 (by omega))
