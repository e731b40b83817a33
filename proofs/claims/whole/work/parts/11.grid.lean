/-! the grid as mathematics; contracts of the Grid's methods (by program: wip/whole/gen/p11.py) -/
theorem sy_up2 (f : Nat → Nat → Int32) (k i : Nat) (x : Int32) (a b : Nat) : sy_up f k i x a b = if a = k ∧ b = i then x else f a b := by
  unfold sy_up
  by_cases h : a = k
  · subst h
    by_cases h2 : b = i
    · subst h2; simp [upd]
    · simp [upd, h2]
  · simp [h]
theorem nI_lit4 : (4 : Int32) = nI 4 := rfl
theorem nI_lit1 : (1 : Int32) = nI 1 := rfl
theorem nI_lit0 : (0 : Int32) = nI 0 := rfl
abbrev sg_G : Type := Nat × Nat × (Nat → Bool)
def sg_n (G : sg_G) : Nat := G.1 * G.2.1
def sg_ok (G : sg_G) : Prop := 1 ≤ G.1 ∧ G.1 ≤ 4 ∧ 1 ≤ G.2.1 ∧ G.2.1 ≤ 4
def sg_p (G : sg_G) (k : Nat) : Prop := k < sg_n G ∧ G.2.2 k = false
def sg_if (G : sg_G) (b : Bool) (o : Nat) : List Nat := if b && !G.2.2 o then [o] else []
/-- those next to a cell: above, left, right, below, as far as they are places -/
def sg_nb (G : sg_G) (k : Nat) : List Nat := ((sg_if G (decide (0 < k / G.2.1)) (k - G.2.1) ++ sg_if G (decide (0 < k % G.2.1)) (k - 1)) ++ sg_if G (decide (k % G.2.1 + 1 < G.2.1)) (k + 1)) ++ sg_if G (decide (k / G.2.1 + 1 < G.1)) (k + G.2.1)
/-- the places among the cells below m -/
def sg_pm (G : sg_G) (m : Nat) : List Nat := (List.range m).filter fun k => !G.2.2 k
theorem sg_if_len (G : sg_G) (b : Bool) (o : Nat) : (sg_if G b o).length ≤ 1 := by
  unfold sg_if
  split <;> simp
theorem sg_if_f (G : sg_G) (o : Nat) : sg_if G false o = [] := by simp [sg_if]
theorem sg_n16 {G : sg_G} (h : sg_ok G) : sg_n G ≤ 16 := Nat.le_trans (Nat.mul_le_mul h.2.1 h.2.2.2) (by decide)
theorem sg_pm_len (G : sg_G) (m : Nat) : (sg_pm G m).length ≤ m := by
  unfold sg_pm
  exact Nat.le_trans (List.length_filter_le _ _) (by simp)
theorem sg_pm_s (G : sg_G) (m : Nat) : sg_pm G (m + 1) = sg_pm G m ++ if G.2.2 m then [] else [m] := by
  unfold sg_pm
  rw [List.range_succ, List.filter_append]
  cases h : G.2.2 m <;> simp [h]
theorem sg_nb_len (G : sg_G) (k : Nat) : (sg_nb G k).length ≤ 4 := by
  unfold sg_nb
  have h1 := sg_if_len G (decide (0 < k / G.2.1)) (k - G.2.1)
  have h2 := sg_if_len G (decide (0 < k % G.2.1)) (k - 1)
  have h3 := sg_if_len G (decide (k % G.2.1 + 1 < G.2.1)) (k + 1)
  have h4 := sg_if_len G (decide (k / G.2.1 + 1 < G.1)) (k + G.2.1)
  simp only [List.length_append]
  omega
/-! the class's grid in the store: rows, columns, walls; the tables up to the cell m -/
def gx_w (G : sg_G) (f : Nat → Nat → Int32) : Prop := f 0 5 = nI G.1 ∧ f 0 6 = nI G.2.1 ∧ ∀ k, k < sg_n G → f 1 k = if G.2.2 k then 1 else 0
def gx_k (G : sg_G) (f : Nat → Nat → Int32) (m : Nat) : Prop := f 0 7 = nI (sg_pm G m).length ∧ (∀ j k, (sg_pm G m)[j]? = some k → f 2 j = nI k) ∧ (∀ k, k < m → f 3 k = nI (sg_pm G k).length) ∧ (∀ k, k < m → f 5 k = nI (sg_nb G k).length) ∧ ∀ k, k < m → ∀ j o, (sg_nb G k)[j]? = some o → f 4 (4 * k + j) = nI o
def gx (G : sg_G) (f : Nat → Nat → Int32) : Prop := sg_ok G ∧ gx_w G f ∧ gx_k G f (sg_n G)
theorem gx.frame {G : sg_G} {f f' : Nat → Nat → Int32} (h : gx G f) (e : ∀ q, q < 6 → f' q = f q) : gx G f' := by
  obtain ⟨h1, h2, h3⟩ := h
  refine ⟨h1, ?_, ?_⟩
  · unfold gx_w at *
    rw [e 0 (by decide), e 1 (by decide)]
    exact h2
  · unfold gx_k at *
    rw [e 0 (by decide), e 2 (by decide), e 3 (by decide), e 4 (by decide), e 5 (by decide)]
    exact h3
/-- while the neighbours of the cell m are laid: l are laid already -/
def gx_lc (f0 f : Nat → Nat → Int32) (m : Nat) (l : List Nat) : Prop := (∀ q, q ≠ 4 → q ≠ 5 → f q = f0 q) ∧ (∀ k, k ≠ m → f 5 k = f0 5 k) ∧ (∀ i, (i < 4 * m ∨ 4 * m + 4 ≤ i) → f 4 i = f0 4 i) ∧ f 5 m = nI l.length ∧ ∀ j o, l[j]? = some o → f 4 (4 * m + j) = nI o

theorem e_x_fill {Q : Option Value → sy_S → Prop} {σ : sy_S} {k n : Nat} {v : Int32} (hk : shX[k]? = some (0, n, [])) (hn : n < 2 ^ 31) (kk : ∀ σ' : sy_S, (∀ q, q ≠ k → σ'.1 q = σ.1 q) → (∀ j, j < n → σ'.1 k j = v) → (∀ j, n ≤ j → σ'.1 k j = σ.1 k j) → σ'.2 = σ.2 → Q none σ') : sy_E shX mJ7_fill_53178 (0, sy_ent [.ref k, .int v] 4, [], σ) Q := by
  have el : sy_len shX k = nI n := by unfold sy_len; rw [hk]; rfl
  refine w_x_fill_0 hk ?_
  rw [el]
  have hloop := sy_loop (sh := shX) (y := mJ7_fill_53178) (Q := Q) (fun i σ' => (5, [some (.ref k), some (.int v), some (.int (nI i)), some (.int (nI n))], [], σ')) (fun i σ' => (∀ q, q ≠ k → σ'.1 q = σ.1 q) ∧ (∀ j, j < i → σ'.1 k j = v) ∧ (∀ j, i ≤ j → σ'.1 k j = σ.1 k j) ∧ σ'.2 = σ.2) n ?_ ?_ 0 σ (Nat.zero_le _) ⟨fun _ _ => rfl, fun j h => absurd h (Nat.not_lt_zero _), fun _ _ => rfl, rfl⟩
  · exact hloop
  · intro i σ' hi hI ih
    obtain ⟨h1, h2, h3, h4⟩ := hI
    refine w_x_fill_5 hk (fun _ => vp_in_nI hi hn) (fun c => absurd c (nI_ge hi hn)) (fun _ => ?_)
    have e1 : (nI i).toNatClampNeg = i := nI_clamp (by omega)
    rw [nI_1, e1]
    refine ih _ ⟨fun q hq => ?_, fun j hj => ?_, fun j hj => ?_, h4⟩
    · show sy_up σ'.1 k i v q = σ.1 q
      rw [sy_up_ne _ _ _ hq]
      exact h1 q hq
    · show sy_up σ'.1 k i v k j = v
      rw [sy_up2]
      split
      · rfl
      · rename_i h
        exact h2 j (by rcases Nat.lt_or_ge j i with q | q; exact q; exact absurd ⟨rfl, by omega⟩ h)
    · show sy_up σ'.1 k i v k j = σ.1 k j
      rw [sy_up2, if_neg (by omega)]
      exact h3 j (by omega)
  · intro σ' hI
    obtain ⟨h1, h2, h3, h4⟩ := hI
    refine w_x_fill_5 hk (fun c => absurd (nI_le (Nat.le_refl n) hn) c) (fun _ => kk σ' h1 h2 h3 h4) (fun c => absurd (nI_le (Nat.le_refl n) hn) c)
theorem e_x_join {Q : Option Value → sy_S → Prop} {σ : sy_S} {G : sg_G} {f0 : Nat → Nat → Int32} {m o : Nat} {l : List Nat} (hm : m < 16) (ho : o < 16) (hl : l.length < 4) (hlc : gx_lc f0 σ.1 m l) (hw : f0 1 o = if G.2.2 o then 1 else 0) (k : ∀ σ' : sy_S, gx_lc f0 σ'.1 m (l ++ sg_if G true o) → σ'.2 = σ.2 → Q none σ') : sy_E shX mX3_join (0, sy_ent [.ref 0, .int (nI m), .int (nI o)] 3, [], σ) Q := by
  have em : (nI m).toNatClampNeg = m := nI_clamp (by omega)
  have eo : (nI o).toNatClampNeg = o := nI_clamp (by omega)
  obtain ⟨h1, h2, h3, h4, h5⟩ := hlc
  have e1 : σ.1 1 = f0 1 := h1 1 (by decide) (by decide)
  have ei : nI m * 4 + σ.1 5 m = nI (4 * m + l.length) := by rw [h4, nI_lit4, pk_mul, nI_add, Nat.mul_comm]
  refine w_x_join (vp_in_nI ho (by decide)) (fun _ => vp_in_nI hm (by decide)) (fun _ => ?_) (fun c => ?_) (fun c => ?_)
  · rw [em, ei]; exact vp_in_nI (by omega) (by decide)
  · rw [eo, e1, hw] at c
    have hwo : G.2.2 o = true := by cases h : G.2.2 o <;> simp_all
    refine k σ ?_ rfl
    rw [show sg_if G true o = [] by simp [sg_if, hwo], List.append_nil]
    exact ⟨h1, h2, h3, h4, h5⟩
  · rw [eo, e1, hw] at c
    have hwo : G.2.2 o = false := by cases h : G.2.2 o <;> simp_all
    refine k _ ?_ rfl
    rw [em, ei, nI_clamp (show 4 * m + l.length < 2 ^ 31 by omega), show sg_if G true o = [o] by simp [sg_if, hwo]]
    refine ⟨fun q h4q h5q => ?_, fun j hj => ?_, fun i hi => ?_, ?_, fun j o' hj => ?_⟩
    · show sy_up (sy_up σ.1 4 (4 * m + l.length) (nI o)) 5 m (σ.1 5 m + 1) q = f0 q
      rw [sy_up_ne _ _ _ h5q, sy_up_ne _ _ _ h4q]
      exact h1 q h4q h5q
    · show sy_up (sy_up σ.1 4 (4 * m + l.length) (nI o)) 5 m (σ.1 5 m + 1) 5 j = f0 5 j
      rw [sy_up2, if_neg (by omega), sy_up2, if_neg (by omega)]
      exact h2 j hj
    · show sy_up (sy_up σ.1 4 (4 * m + l.length) (nI o)) 5 m (σ.1 5 m + 1) 4 i = f0 4 i
      rw [sy_up2, if_neg (by omega), sy_up2, if_neg (by omega)]
      exact h3 i hi
    · show sy_up (sy_up σ.1 4 (4 * m + l.length) (nI o)) 5 m (σ.1 5 m + 1) 5 m = nI (l ++ [o]).length
      rw [sy_up2, if_pos ⟨rfl, rfl⟩, h4, nI_1, List.length_append, List.length_singleton]
    · show sy_up (sy_up σ.1 4 (4 * m + l.length) (nI o)) 5 m (σ.1 5 m + 1) 4 (4 * m + j) = nI o'
      rw [sy_up2, if_neg (by omega), sy_up2]
      rw [List.getElem?_append] at hj
      split at hj
      · rename_i hlt
        rw [if_neg (by omega)]
        exact h5 j o' hj
      · rename_i hge
        have hz : j - l.length = 0 := by
          rcases Nat.eq_zero_or_pos (j - l.length) with q | q
          · exact q
          · rw [List.getElem?_eq_none (by simp only [List.length_singleton]; omega)] at hj; cases hj
        rw [hz] at hj
        cases hj
        rw [if_pos ⟨rfl, by omega⟩]
theorem e_x_linkCell {Q : Option Value → sy_S → Prop} {σ : sy_S} {G : sg_G} {m : Nat} (hG : sg_ok G) (hw : gx_w G σ.1) (hm : m < sg_n G) (k : ∀ σ' : sy_S, gx_lc σ.1 σ'.1 m (sg_nb G m) → σ'.2 = σ.2 → Q none σ') : sy_E shX mX3_linkCell (0, sy_ent [.ref 0, .int (nI m), .int (nI (m / G.2.1)), .int (nI (m % G.2.1))] 4, [], σ) Q := by
  have h16 : m < 16 := Nat.lt_of_lt_of_le hm (sg_n16 hG)
  obtain ⟨hr1, hr4, hc1, hc4⟩ := hG
  obtain ⟨w1, w2, w3⟩ := hw
  have hdm : G.2.1 * (m / G.2.1) + m % G.2.1 = m := Nat.div_add_mod m G.2.1
  have hml : m % G.2.1 < G.2.1 := Nat.mod_lt _ (by omega)
  have hdl : m / G.2.1 < G.1 := Nat.div_lt_of_lt_mul (by unfold sg_n at hm; rw [Nat.mul_comm]; exact hm)
  have hd4 : m / G.2.1 < 4 := by omega
  have em : (nI m).toNatClampNeg = m := nI_clamp (by omega)
  have hn : sg_n G = G.2.1 * G.1 := Nat.mul_comm _ _
  have hup : G.2.1 * (m / G.2.1 + 1) ≤ G.2.1 * G.1 := Nat.mul_le_mul_left _ hdl
  rw [Nat.mul_add] at hup
  -- the pieces
  obtain ⟨la, hla⟩ : ∃ l, l = sg_if G (decide (0 < m / G.2.1)) (m - G.2.1) := ⟨_, rfl⟩
  obtain ⟨lb, hlb⟩ : ∃ l, l = sg_if G (decide (0 < m % G.2.1)) (m - 1) := ⟨_, rfl⟩
  obtain ⟨lc, hlc⟩ : ∃ l, l = sg_if G (decide (m % G.2.1 + 1 < G.2.1)) (m + 1) := ⟨_, rfl⟩
  obtain ⟨ld, hld⟩ : ∃ l, l = sg_if G (decide (m / G.2.1 + 1 < G.1)) (m + G.2.1) := ⟨_, rfl⟩
  have hnb : sg_nb G m = ((la ++ lb) ++ lc) ++ ld := by rw [hla, hlb, hlc, hld]; rfl
  have na : la.length ≤ 1 := by rw [hla]; exact sg_if_len _ _ _
  have nb : lb.length ≤ 1 := by rw [hlb]; exact sg_if_len _ _ _
  have nc : lc.length ≤ 1 := by rw [hlc]; exact sg_if_len _ _ _
  have cols : ∀ (f : Nat → Nat → Int32) (l : List Nat), gx_lc σ.1 f m l → f 0 6 = nI G.2.1 := fun f l h => by rw [h.1 0 (by decide) (by decide)]; exact w2
  have rws : ∀ (f : Nat → Nat → Int32) (l : List Nat), gx_lc σ.1 f m l → f 0 5 = nI G.1 := fun f l h => by rw [h.1 0 (by decide) (by decide)]; exact w1
  have s73 : ∀ σ' : sy_S, gx_lc σ.1 σ'.1 m (((la ++ lb) ++ lc) ++ ld) → σ'.2 = σ.2 → sy_E shX mX3_linkCell (73, [none, none, none, none], [], σ') Q := fun σ' h h' => w_x_linkCell_73 (k σ' (by rw [hnb]; exact h) h')
  have s52 : ∀ σ' : sy_S, gx_lc σ.1 σ'.1 m ((la ++ lb) ++ lc) → σ'.2 = σ.2 → sy_E shX mX3_linkCell (52, [some (.ref 0), some (.int (nI m)), some (.int (nI (m / G.2.1))), none], [], σ') Q := by
    intro σ' h h'
    have ec := cols _ _ h
    have er := rws _ _ h
    refine w_x_linkCell_52 (fun c => ?_) (fun c => ?_)
    · rw [er, nI_1, nI_leI (by omega) (by omega)] at c
      have e : ld = [] := by rw [hld, show decide (m / G.2.1 + 1 < G.1) = false from decide_eq_false (by omega)]; exact sg_if_f _ _
      exact k σ' (by rw [hnb, e, List.append_nil]; exact h) h'
    · rw [er, nI_1, nI_leI (by omega) (by omega)] at c
      rw [ec, nI_add]
      have e : ld = sg_if G true (m + G.2.1) := by rw [hld, show decide (m / G.2.1 + 1 < G.1) = true from decide_eq_true (by omega)]
      have hup2 : G.2.1 * (m / G.2.1 + 2) ≤ G.2.1 * G.1 := Nat.mul_le_mul_left _ (by omega)
      rw [Nat.mul_add] at hup2
      have hlt : m + G.2.1 < sg_n G := by rw [hn]; omega
      refine e_x_join h16 (Nat.lt_of_lt_of_le hlt (Nat.le_trans (Nat.mul_le_mul hr4 hc4) (by decide))) (by simp only [List.length_append]; omega) h (w3 _ hlt) (fun σ2 q q' => ?_)
      exact s73 σ2 (by rw [e]; exact q) (q'.trans h')
  have s34 : ∀ σ' : sy_S, gx_lc σ.1 σ'.1 m (la ++ lb) → σ'.2 = σ.2 → sy_E shX mX3_linkCell (34, [some (.ref 0), some (.int (nI m)), some (.int (nI (m / G.2.1))), some (.int (nI (m % G.2.1)))], [], σ') Q := by
    intro σ' h h'
    have ec := cols _ _ h
    refine w_x_linkCell_34 (fun c => ?_) (fun c => ?_)
    · rw [ec, nI_1, nI_leI (by omega) (by omega)] at c
      have e : lc = [] := by rw [hlc, show decide (m % G.2.1 + 1 < G.2.1) = false from decide_eq_false (by omega)]; exact sg_if_f _ _
      exact s52 σ' (by rw [e, List.append_nil]; exact h) h'
    · rw [ec, nI_1, nI_leI (by omega) (by omega)] at c
      rw [nI_1]
      have e : lc = sg_if G true (m + 1) := by rw [hlc, show decide (m % G.2.1 + 1 < G.2.1) = true from decide_eq_true (by omega)]
      have hlt : m + 1 < sg_n G := by rw [hn]; omega
      refine e_x_join h16 (Nat.lt_of_lt_of_le hlt (Nat.le_trans (Nat.mul_le_mul hr4 hc4) (by decide))) (by simp only [List.length_append]; omega) h (w3 _ hlt) (fun σ2 q q' => ?_)
      exact s52 σ2 (by rw [e]; exact q) (q'.trans h')
  have s22 : ∀ σ' : sy_S, gx_lc σ.1 σ'.1 m la → σ'.2 = σ.2 → sy_E shX mX3_linkCell (22, [some (.ref 0), some (.int (nI m)), some (.int (nI (m / G.2.1))), some (.int (nI (m % G.2.1)))], [], σ') Q := by
    intro σ' h h'
    refine w_x_linkCell_22 (fun c => ?_) (fun c => ?_)
    · rw [nI_lit0, nI_leI (by omega) (by omega)] at c
      have e : lb = [] := by rw [hlb, show decide (0 < m % G.2.1) = false from decide_eq_false (by omega)]; exact sg_if_f _ _
      exact s34 σ' (by rw [e, List.append_nil]; exact h) h'
    · rw [nI_lit0, nI_leI (by omega) (by omega)] at c
      rw [nI_lit1, pk_sub (by omega)]
      have e : lb = sg_if G true (m - 1) := by rw [hlb, show decide (0 < m % G.2.1) = true from decide_eq_true (by omega)]
      refine e_x_join h16 (by omega) (by omega) h (w3 _ (by omega)) (fun σ2 q q' => ?_)
      exact s34 σ2 (by rw [e]; exact q) (q'.trans h')
  have h0 : gx_lc σ.1 (sy_up σ.1 5 m 0) m [] := by
    refine ⟨fun q h4q h5q => sy_up_ne _ _ _ h5q, fun j hj => ?_, fun i hi => ?_, ?_, fun j o hj => by simp at hj⟩
    · rw [sy_up2, if_neg (by omega)]
    · rw [sy_up2, if_neg (by omega)]
    · rw [sy_up2, if_pos ⟨rfl, rfl⟩]; rfl
  refine w_x_linkCell_0 (vp_in_nI h16 (by decide)) (fun c => ?_) (fun c => ?_)
  · rw [nI_lit0, nI_leI (by omega) (by omega)] at c
    rw [em]
    have e : la = [] := by rw [hla, show decide (0 < m / G.2.1) = false from decide_eq_false (by omega)]; exact sg_if_f _ _
    exact s22 (sy_up σ.1 5 m 0, σ.2) (by rw [e]; exact h0) rfl
  · rw [nI_lit0, nI_leI (by omega) (by omega)] at c
    have hge : G.2.1 * 1 ≤ G.2.1 * (m / G.2.1) := Nat.mul_le_mul_left _ (by omega)
    rw [w2, pk_sub (by omega), em]
    have e : la = sg_if G true (m - G.2.1) := by rw [hla, show decide (0 < m / G.2.1) = true from decide_eq_true (by omega)]
    refine e_x_join (σ := (sy_up σ.1 5 m 0, σ.2)) (l := []) h16 (by omega) (by simp) h0 (w3 _ (by omega)) (fun σ2 q q' => ?_)
    exact s22 σ2 (by rw [e]; exact q) q'

theorem e_g_fill {Q : Option Value → sy_S → Prop} {σ : sy_S} {k n : Nat} {v : Int32} (hk : shG[k]? = some (0, n, [])) (hn : n < 2 ^ 31) (kk : ∀ σ' : sy_S, (∀ q, q ≠ k → σ'.1 q = σ.1 q) → (∀ j, j < n → σ'.1 k j = v) → (∀ j, n ≤ j → σ'.1 k j = σ.1 k j) → σ'.2 = σ.2 → Q none σ') : sy_E shG mJ7_fill_53178 (0, sy_ent [.ref k, .int v] 4, [], σ) Q := by
  have el : sy_len shG k = nI n := by unfold sy_len; rw [hk]; rfl
  refine w_g_fill_0 hk ?_
  rw [el]
  have hloop := sy_loop (sh := shG) (y := mJ7_fill_53178) (Q := Q) (fun i σ' => (5, [some (.ref k), some (.int v), some (.int (nI i)), some (.int (nI n))], [], σ')) (fun i σ' => (∀ q, q ≠ k → σ'.1 q = σ.1 q) ∧ (∀ j, j < i → σ'.1 k j = v) ∧ (∀ j, i ≤ j → σ'.1 k j = σ.1 k j) ∧ σ'.2 = σ.2) n ?_ ?_ 0 σ (Nat.zero_le _) ⟨fun _ _ => rfl, fun j h => absurd h (Nat.not_lt_zero _), fun _ _ => rfl, rfl⟩
  · exact hloop
  · intro i σ' hi hI ih
    obtain ⟨h1, h2, h3, h4⟩ := hI
    refine w_g_fill_5 hk (fun _ => vp_in_nI hi hn) (fun c => absurd c (nI_ge hi hn)) (fun _ => ?_)
    have e1 : (nI i).toNatClampNeg = i := nI_clamp (by omega)
    rw [nI_1, e1]
    refine ih _ ⟨fun q hq => ?_, fun j hj => ?_, fun j hj => ?_, h4⟩
    · show sy_up σ'.1 k i v q = σ.1 q
      rw [sy_up_ne _ _ _ hq]
      exact h1 q hq
    · show sy_up σ'.1 k i v k j = v
      rw [sy_up2]
      split
      · rfl
      · rename_i h
        exact h2 j (by rcases Nat.lt_or_ge j i with q | q; exact q; exact absurd ⟨rfl, by omega⟩ h)
    · show sy_up σ'.1 k i v k j = σ.1 k j
      rw [sy_up2, if_neg (by omega)]
      exact h3 j (by omega)
  · intro σ' hI
    obtain ⟨h1, h2, h3, h4⟩ := hI
    refine w_g_fill_5 hk (fun c => absurd (nI_le (Nat.le_refl n) hn) c) (fun _ => kk σ' h1 h2 h3 h4) (fun c => absurd (nI_le (Nat.le_refl n) hn) c)
theorem e_g_join {Q : Option Value → sy_S → Prop} {σ : sy_S} {G : sg_G} {f0 : Nat → Nat → Int32} {m o : Nat} {l : List Nat} (hm : m < 16) (ho : o < 16) (hl : l.length < 4) (hlc : gx_lc f0 σ.1 m l) (hw : f0 1 o = if G.2.2 o then 1 else 0) (k : ∀ σ' : sy_S, gx_lc f0 σ'.1 m (l ++ sg_if G true o) → σ'.2 = σ.2 → Q none σ') : sy_E shG mX3_join (0, sy_ent [.ref 0, .int (nI m), .int (nI o)] 3, [], σ) Q := by
  have em : (nI m).toNatClampNeg = m := nI_clamp (by omega)
  have eo : (nI o).toNatClampNeg = o := nI_clamp (by omega)
  obtain ⟨h1, h2, h3, h4, h5⟩ := hlc
  have e1 : σ.1 1 = f0 1 := h1 1 (by decide) (by decide)
  have ei : nI m * 4 + σ.1 5 m = nI (4 * m + l.length) := by rw [h4, nI_lit4, pk_mul, nI_add, Nat.mul_comm]
  refine w_g_join (vp_in_nI ho (by decide)) (fun _ => vp_in_nI hm (by decide)) (fun _ => ?_) (fun c => ?_) (fun c => ?_)
  · rw [em, ei]; exact vp_in_nI (by omega) (by decide)
  · rw [eo, e1, hw] at c
    have hwo : G.2.2 o = true := by cases h : G.2.2 o <;> simp_all
    refine k σ ?_ rfl
    rw [show sg_if G true o = [] by simp [sg_if, hwo], List.append_nil]
    exact ⟨h1, h2, h3, h4, h5⟩
  · rw [eo, e1, hw] at c
    have hwo : G.2.2 o = false := by cases h : G.2.2 o <;> simp_all
    refine k _ ?_ rfl
    rw [em, ei, nI_clamp (show 4 * m + l.length < 2 ^ 31 by omega), show sg_if G true o = [o] by simp [sg_if, hwo]]
    refine ⟨fun q h4q h5q => ?_, fun j hj => ?_, fun i hi => ?_, ?_, fun j o' hj => ?_⟩
    · show sy_up (sy_up σ.1 4 (4 * m + l.length) (nI o)) 5 m (σ.1 5 m + 1) q = f0 q
      rw [sy_up_ne _ _ _ h5q, sy_up_ne _ _ _ h4q]
      exact h1 q h4q h5q
    · show sy_up (sy_up σ.1 4 (4 * m + l.length) (nI o)) 5 m (σ.1 5 m + 1) 5 j = f0 5 j
      rw [sy_up2, if_neg (by omega), sy_up2, if_neg (by omega)]
      exact h2 j hj
    · show sy_up (sy_up σ.1 4 (4 * m + l.length) (nI o)) 5 m (σ.1 5 m + 1) 4 i = f0 4 i
      rw [sy_up2, if_neg (by omega), sy_up2, if_neg (by omega)]
      exact h3 i hi
    · show sy_up (sy_up σ.1 4 (4 * m + l.length) (nI o)) 5 m (σ.1 5 m + 1) 5 m = nI (l ++ [o]).length
      rw [sy_up2, if_pos ⟨rfl, rfl⟩, h4, nI_1, List.length_append, List.length_singleton]
    · show sy_up (sy_up σ.1 4 (4 * m + l.length) (nI o)) 5 m (σ.1 5 m + 1) 4 (4 * m + j) = nI o'
      rw [sy_up2, if_neg (by omega), sy_up2]
      rw [List.getElem?_append] at hj
      split at hj
      · rename_i hlt
        rw [if_neg (by omega)]
        exact h5 j o' hj
      · rename_i hge
        have hz : j - l.length = 0 := by
          rcases Nat.eq_zero_or_pos (j - l.length) with q | q
          · exact q
          · rw [List.getElem?_eq_none (by simp only [List.length_singleton]; omega)] at hj; cases hj
        rw [hz] at hj
        cases hj
        rw [if_pos ⟨rfl, by omega⟩]
theorem e_g_linkCell {Q : Option Value → sy_S → Prop} {σ : sy_S} {G : sg_G} {m : Nat} (hG : sg_ok G) (hw : gx_w G σ.1) (hm : m < sg_n G) (k : ∀ σ' : sy_S, gx_lc σ.1 σ'.1 m (sg_nb G m) → σ'.2 = σ.2 → Q none σ') : sy_E shG mX3_linkCell (0, sy_ent [.ref 0, .int (nI m), .int (nI (m / G.2.1)), .int (nI (m % G.2.1))] 4, [], σ) Q := by
  have h16 : m < 16 := Nat.lt_of_lt_of_le hm (sg_n16 hG)
  obtain ⟨hr1, hr4, hc1, hc4⟩ := hG
  obtain ⟨w1, w2, w3⟩ := hw
  have hdm : G.2.1 * (m / G.2.1) + m % G.2.1 = m := Nat.div_add_mod m G.2.1
  have hml : m % G.2.1 < G.2.1 := Nat.mod_lt _ (by omega)
  have hdl : m / G.2.1 < G.1 := Nat.div_lt_of_lt_mul (by unfold sg_n at hm; rw [Nat.mul_comm]; exact hm)
  have hd4 : m / G.2.1 < 4 := by omega
  have em : (nI m).toNatClampNeg = m := nI_clamp (by omega)
  have hn : sg_n G = G.2.1 * G.1 := Nat.mul_comm _ _
  have hup : G.2.1 * (m / G.2.1 + 1) ≤ G.2.1 * G.1 := Nat.mul_le_mul_left _ hdl
  rw [Nat.mul_add] at hup
  -- the pieces
  obtain ⟨la, hla⟩ : ∃ l, l = sg_if G (decide (0 < m / G.2.1)) (m - G.2.1) := ⟨_, rfl⟩
  obtain ⟨lb, hlb⟩ : ∃ l, l = sg_if G (decide (0 < m % G.2.1)) (m - 1) := ⟨_, rfl⟩
  obtain ⟨lc, hlc⟩ : ∃ l, l = sg_if G (decide (m % G.2.1 + 1 < G.2.1)) (m + 1) := ⟨_, rfl⟩
  obtain ⟨ld, hld⟩ : ∃ l, l = sg_if G (decide (m / G.2.1 + 1 < G.1)) (m + G.2.1) := ⟨_, rfl⟩
  have hnb : sg_nb G m = ((la ++ lb) ++ lc) ++ ld := by rw [hla, hlb, hlc, hld]; rfl
  have na : la.length ≤ 1 := by rw [hla]; exact sg_if_len _ _ _
  have nb : lb.length ≤ 1 := by rw [hlb]; exact sg_if_len _ _ _
  have nc : lc.length ≤ 1 := by rw [hlc]; exact sg_if_len _ _ _
  have cols : ∀ (f : Nat → Nat → Int32) (l : List Nat), gx_lc σ.1 f m l → f 0 6 = nI G.2.1 := fun f l h => by rw [h.1 0 (by decide) (by decide)]; exact w2
  have rws : ∀ (f : Nat → Nat → Int32) (l : List Nat), gx_lc σ.1 f m l → f 0 5 = nI G.1 := fun f l h => by rw [h.1 0 (by decide) (by decide)]; exact w1
  have s73 : ∀ σ' : sy_S, gx_lc σ.1 σ'.1 m (((la ++ lb) ++ lc) ++ ld) → σ'.2 = σ.2 → sy_E shG mX3_linkCell (73, [none, none, none, none], [], σ') Q := fun σ' h h' => w_g_linkCell_73 (k σ' (by rw [hnb]; exact h) h')
  have s52 : ∀ σ' : sy_S, gx_lc σ.1 σ'.1 m ((la ++ lb) ++ lc) → σ'.2 = σ.2 → sy_E shG mX3_linkCell (52, [some (.ref 0), some (.int (nI m)), some (.int (nI (m / G.2.1))), none], [], σ') Q := by
    intro σ' h h'
    have ec := cols _ _ h
    have er := rws _ _ h
    refine w_g_linkCell_52 (fun c => ?_) (fun c => ?_)
    · rw [er, nI_1, nI_leI (by omega) (by omega)] at c
      have e : ld = [] := by rw [hld, show decide (m / G.2.1 + 1 < G.1) = false from decide_eq_false (by omega)]; exact sg_if_f _ _
      exact k σ' (by rw [hnb, e, List.append_nil]; exact h) h'
    · rw [er, nI_1, nI_leI (by omega) (by omega)] at c
      rw [ec, nI_add]
      have e : ld = sg_if G true (m + G.2.1) := by rw [hld, show decide (m / G.2.1 + 1 < G.1) = true from decide_eq_true (by omega)]
      have hup2 : G.2.1 * (m / G.2.1 + 2) ≤ G.2.1 * G.1 := Nat.mul_le_mul_left _ (by omega)
      rw [Nat.mul_add] at hup2
      have hlt : m + G.2.1 < sg_n G := by rw [hn]; omega
      refine e_g_join h16 (Nat.lt_of_lt_of_le hlt (Nat.le_trans (Nat.mul_le_mul hr4 hc4) (by decide))) (by simp only [List.length_append]; omega) h (w3 _ hlt) (fun σ2 q q' => ?_)
      exact s73 σ2 (by rw [e]; exact q) (q'.trans h')
  have s34 : ∀ σ' : sy_S, gx_lc σ.1 σ'.1 m (la ++ lb) → σ'.2 = σ.2 → sy_E shG mX3_linkCell (34, [some (.ref 0), some (.int (nI m)), some (.int (nI (m / G.2.1))), some (.int (nI (m % G.2.1)))], [], σ') Q := by
    intro σ' h h'
    have ec := cols _ _ h
    refine w_g_linkCell_34 (fun c => ?_) (fun c => ?_)
    · rw [ec, nI_1, nI_leI (by omega) (by omega)] at c
      have e : lc = [] := by rw [hlc, show decide (m % G.2.1 + 1 < G.2.1) = false from decide_eq_false (by omega)]; exact sg_if_f _ _
      exact s52 σ' (by rw [e, List.append_nil]; exact h) h'
    · rw [ec, nI_1, nI_leI (by omega) (by omega)] at c
      rw [nI_1]
      have e : lc = sg_if G true (m + 1) := by rw [hlc, show decide (m % G.2.1 + 1 < G.2.1) = true from decide_eq_true (by omega)]
      have hlt : m + 1 < sg_n G := by rw [hn]; omega
      refine e_g_join h16 (Nat.lt_of_lt_of_le hlt (Nat.le_trans (Nat.mul_le_mul hr4 hc4) (by decide))) (by simp only [List.length_append]; omega) h (w3 _ hlt) (fun σ2 q q' => ?_)
      exact s52 σ2 (by rw [e]; exact q) (q'.trans h')
  have s22 : ∀ σ' : sy_S, gx_lc σ.1 σ'.1 m la → σ'.2 = σ.2 → sy_E shG mX3_linkCell (22, [some (.ref 0), some (.int (nI m)), some (.int (nI (m / G.2.1))), some (.int (nI (m % G.2.1)))], [], σ') Q := by
    intro σ' h h'
    refine w_g_linkCell_22 (fun c => ?_) (fun c => ?_)
    · rw [nI_lit0, nI_leI (by omega) (by omega)] at c
      have e : lb = [] := by rw [hlb, show decide (0 < m % G.2.1) = false from decide_eq_false (by omega)]; exact sg_if_f _ _
      exact s34 σ' (by rw [e, List.append_nil]; exact h) h'
    · rw [nI_lit0, nI_leI (by omega) (by omega)] at c
      rw [nI_lit1, pk_sub (by omega)]
      have e : lb = sg_if G true (m - 1) := by rw [hlb, show decide (0 < m % G.2.1) = true from decide_eq_true (by omega)]
      refine e_g_join h16 (by omega) (by omega) h (w3 _ (by omega)) (fun σ2 q q' => ?_)
      exact s34 σ2 (by rw [e]; exact q) (q'.trans h')
  have h0 : gx_lc σ.1 (sy_up σ.1 5 m 0) m [] := by
    refine ⟨fun q h4q h5q => sy_up_ne _ _ _ h5q, fun j hj => ?_, fun i hi => ?_, ?_, fun j o hj => by simp at hj⟩
    · rw [sy_up2, if_neg (by omega)]
    · rw [sy_up2, if_neg (by omega)]
    · rw [sy_up2, if_pos ⟨rfl, rfl⟩]; rfl
  refine w_g_linkCell_0 (vp_in_nI h16 (by decide)) (fun c => ?_) (fun c => ?_)
  · rw [nI_lit0, nI_leI (by omega) (by omega)] at c
    rw [em]
    have e : la = [] := by rw [hla, show decide (0 < m / G.2.1) = false from decide_eq_false (by omega)]; exact sg_if_f _ _
    exact s22 (sy_up σ.1 5 m 0, σ.2) (by rw [e]; exact h0) rfl
  · rw [nI_lit0, nI_leI (by omega) (by omega)] at c
    have hge : G.2.1 * 1 ≤ G.2.1 * (m / G.2.1) := Nat.mul_le_mul_left _ (by omega)
    rw [w2, pk_sub (by omega), em]
    have e : la = sg_if G true (m - G.2.1) := by rw [hla, show decide (0 < m / G.2.1) = true from decide_eq_true (by omega)]
    refine e_g_join (σ := (sy_up σ.1 5 m 0, σ.2)) (l := []) h16 (by omega) (by simp) h0 (w3 _ (by omega)) (fun σ2 q q' => ?_)
    exact s22 σ2 (by rw [e]; exact q) q'
