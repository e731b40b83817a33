/-! sums, neighbours, toppling: mathematics alone -/
def ssum : Nat → (Nat → Nat) → Nat
  | 0, _ => 0
  | n + 1, f => ssum n f + f n
theorem ssum_congr {n : Nat} {f g : Nat → Nat} (h : ∀ j, j < n → f j = g j) : ssum n f = ssum n g := by
  induction n with
  | zero => rfl
  | succ n ih => rw [ssum, ssum, ih (fun j hj => h j (by omega)), h n (by omega)]
theorem ssum_add (n : Nat) (f g : Nat → Nat) : ssum n (fun j => f j + g j) = ssum n f + ssum n g := by
  induction n with
  | zero => rfl
  | succ n ih => simp only [ssum]; rw [ih]; omega
theorem ssum_le {n : Nat} {f g : Nat → Nat} (h : ∀ j, j < n → f j ≤ g j) : ssum n f ≤ ssum n g := by
  induction n with
  | zero => exact Nat.le_refl _
  | succ n ih =>
    simp only [ssum]
    have h1 := ih (fun j hj => h j (by omega))
    have h2 := h n (by omega)
    omega
theorem ssum_zero (n : Nat) : ssum n (fun _ => 0) = 0 := by
  induction n with
  | zero => rfl
  | succ n ih => simp only [ssum, ih]
theorem ssum_one (n k t : Nat) : ssum n (fun j => if j = k then t else 0) = if k < n then t else 0 := by
  induction n with
  | zero => rfl
  | succ n ih =>
    simp only [ssum]
    rw [ih]
    by_cases h : k < n
    · rw [if_pos h, if_neg (show ¬ n = k by omega), if_pos (show k < n + 1 by omega)]; omega
    · by_cases h2 : n = k
      · rw [if_neg h, if_pos h2, if_pos (show k < n + 1 by omega)]; omega
      · rw [if_neg h, if_neg h2, if_neg (show ¬ k < n + 1 by omega)]
theorem ssum_mul (n c : Nat) (f : Nat → Nat) : ssum n (fun j => c * f j) = c * ssum n f := by
  induction n with
  | zero => rfl
  | succ n ih => simp only [ssum]; rw [ih, Nat.mul_add]
theorem ssum_ge {n k : Nat} (f : Nat → Nat) (h : k < n) : f k ≤ ssum n f := by
  induction n with
  | zero => omega
  | succ n ih =>
    simp only [ssum]
    by_cases h2 : k = n
    · subst h2; omega
    · have := ih (by omega); omega
theorem ssum_const (n c : Nat) : ssum n (fun _ => c) = n * c := by
  induction n with
  | zero => simp [ssum]
  | succ n ih => simp only [ssum, ih, Nat.add_mul, Nat.one_mul]
/-- k and j are side by side in a grid of r rows and c columns -/
def sg_geo (r c k j : Nat) : Bool := (decide (0 < k / c) && decide (j = k - c)) || (decide (0 < k % c) && decide (j = k - 1)) || (decide (k % c + 1 < c) && decide (j = k + 1)) || (decide (k / c + 1 < r) && decide (j = k + c))
theorem sg_mem_if {G : sg_G} {b : Bool} {o j : Nat} : j ∈ sg_if G b o ↔ G.2.2 j = false ∧ b = true ∧ j = o := by
  unfold sg_if
  constructor
  · intro h
    split at h
    · rename_i hb
      rw [List.mem_singleton] at h
      subst h
      simp only [Bool.and_eq_true, Bool.not_eq_true'] at hb
      exact ⟨hb.2, hb.1, rfl⟩
    · exact absurd h List.not_mem_nil
  · rintro ⟨h1, h2, rfl⟩
    rw [if_pos (by simp [h1, h2])]
    exact List.mem_singleton.mpr rfl
theorem sg_mem {G : sg_G} {k j : Nat} : j ∈ sg_nb G k ↔ G.2.2 j = false ∧ sg_geo G.1 G.2.1 k j = true := by
  unfold sg_nb sg_geo
  simp only [List.mem_append, sg_mem_if, Bool.or_eq_true, Bool.and_eq_true, decide_eq_true_eq]
  constructor
  · rintro (((⟨h1, h2, h3⟩ | ⟨h1, h2, h3⟩) | ⟨h1, h2, h3⟩) | ⟨h1, h2, h3⟩)
    · exact ⟨h1, Or.inl (Or.inl (Or.inl ⟨h2, h3⟩))⟩
    · exact ⟨h1, Or.inl (Or.inl (Or.inr ⟨h2, h3⟩))⟩
    · exact ⟨h1, Or.inl (Or.inr ⟨h2, h3⟩)⟩
    · exact ⟨h1, Or.inr ⟨h2, h3⟩⟩
  · rintro ⟨h1, ((⟨h2, h3⟩ | ⟨h2, h3⟩) | ⟨h2, h3⟩) | ⟨h2, h3⟩⟩
    · exact Or.inl (Or.inl (Or.inl ⟨h1, h2, h3⟩))
    · exact Or.inl (Or.inl (Or.inr ⟨h1, h2, h3⟩))
    · exact Or.inl (Or.inr ⟨h1, h2, h3⟩)
    · exact Or.inr ⟨h1, h2, h3⟩
def sg_wt (c k : Nat) : Nat := [4, 6, 6, 4].getD (k / c) 0
/-- the facts of geometry, for all sizes -/
def sg_geoOK (r c : Nat) : Bool := (List.range (r * c)).all fun k => (List.range 20).all (fun j => (!sg_geo r c k j || decide (j < r * c)) && (!sg_geo r c k j || decide (j ≠ k)) && (decide (r * c ≤ j) || (sg_geo r c k j == sg_geo r c j k))) && decide (ssum 16 (fun j => if sg_geo r c k j then sg_wt c j else 0) + 2 ≤ 4 * sg_wt c k) && decide (4 ≤ sg_wt c k) && decide (sg_wt c k ≤ 6)
theorem sg_geo_ok : ((List.range 4).all fun r => (List.range 4).all fun c => sg_geoOK (r + 1) (c + 1)) = true := by decide +kernel
theorem sg_geo_at {r c : Nat} (h1 : 1 ≤ r) (h2 : r ≤ 4) (h3 : 1 ≤ c) (h4 : c ≤ 4) : sg_geoOK r c = true := by
  have h := List.all_eq_true.mp sg_geo_ok (r - 1) (List.mem_range.mpr (by omega))
  have h := List.all_eq_true.mp h (c - 1) (List.mem_range.mpr (by omega))
  rw [show r - 1 + 1 = r by omega, show c - 1 + 1 = c by omega] at h
  exact h
theorem sg_geo_lt {r c k j : Nat} (hk : k < r * c) (h2 : r ≤ 4) (h4 : c ≤ 4) (h : sg_geo r c k j = true) : j < 20 := by
  have h16 : r * c ≤ 16 := Nat.mul_le_mul h2 h4
  unfold sg_geo at h
  simp only [Bool.or_eq_true, Bool.and_eq_true, decide_eq_true_eq] at h
  omega
theorem sg_geo_f {G : sg_G} (hG : sg_ok G) {k : Nat} (hk : k < sg_n G) : (∀ j, sg_geo G.1 G.2.1 k j = true → j < sg_n G ∧ j ≠ k) ∧ (∀ j, j < sg_n G → sg_geo G.1 G.2.1 k j = sg_geo G.1 G.2.1 j k) ∧ ssum 16 (fun j => if sg_geo G.1 G.2.1 k j then sg_wt G.2.1 j else 0) + 2 ≤ 4 * sg_wt G.2.1 k ∧ 4 ≤ sg_wt G.2.1 k ∧ sg_wt G.2.1 k ≤ 6 := by
  obtain ⟨h1, h2, h3, h4⟩ := id hG
  have h16 := sg_n16 hG
  have h := List.all_eq_true.mp (sg_geo_at h1 h2 h3 h4) k (List.mem_range.mpr hk)
  simp only [Bool.and_eq_true, decide_eq_true_eq] at h
  obtain ⟨⟨⟨ha, hb⟩, hc⟩, hd⟩ := h
  have hj : ∀ j, j < 20 → _ := fun j hj => List.all_eq_true.mp ha j (List.mem_range.mpr hj)
  simp only [Bool.and_eq_true, Bool.or_eq_true, Bool.not_eq_true', decide_eq_true_eq, beq_iff_eq] at hj
  refine ⟨fun j hg => ?_, fun j hlt => ?_, hb, hc, hd⟩
  · obtain ⟨⟨q1, q2⟩, -⟩ := hj j (sg_geo_lt hk h2 h4 hg)
    rw [hg] at q1 q2
    simp at q1 q2
    exact ⟨q1, q2⟩
  · obtain ⟨-, q3⟩ := hj j (by omega)
    rcases q3 with q3 | q3
    · unfold sg_n at hlt; omega
    · exact q3
theorem sg_nb_p {G : sg_G} (hG : sg_ok G) {k j : Nat} (hk : k < sg_n G) (h : j ∈ sg_nb G k) : sg_p G j ∧ j ≠ k := by
  obtain ⟨h1, h2⟩ := sg_mem.mp h
  obtain ⟨h3, h4⟩ := (sg_geo_f hG hk).1 j h2
  exact ⟨⟨h3, h1⟩, h4⟩
theorem sg_nb_sym {G : sg_G} (hG : sg_ok G) {k j : Nat} (hk : sg_p G k) (hj : sg_p G j) : j ∈ sg_nb G k ↔ k ∈ sg_nb G j := by
  rw [sg_mem, sg_mem, (sg_geo_f hG hk.1).2.1 j hj.1]
  exact ⟨fun h => ⟨hk.2, h.2⟩, fun h => ⟨hj.2, h.2⟩⟩
theorem sg_nb_nodup {G : sg_G} (hG : sg_ok G) {k : Nat} (hk : k < sg_n G) : (sg_nb G k).Nodup := by
  obtain ⟨h1, h2, h3, h4⟩ := id hG
  have hm : k % G.2.1 < G.2.1 := Nat.mod_lt _ (by omega)
  have hd : G.2.1 * (k / G.2.1) + k % G.2.1 = k := Nat.div_add_mod k G.2.1
  have hge : 0 < k / G.2.1 → G.2.1 ≤ k := fun h => by
    have : G.2.1 * 1 ≤ G.2.1 * (k / G.2.1) := Nat.mul_le_mul_left _ h
    omega
  unfold sg_nb
  rw [List.nodup_append, List.nodup_append, List.nodup_append]
  have one : ∀ b o, (sg_if G b o).Nodup := fun b o => by unfold sg_if; split <;> simp
  refine ⟨⟨⟨one _ _, one _ _, ?_⟩, one _ _, ?_⟩, one _ _, ?_⟩
  · intro a ha b hb
    obtain ⟨-, a1, a2⟩ := sg_mem_if.mp ha
    obtain ⟨-, b1, b2⟩ := sg_mem_if.mp hb
    simp only [decide_eq_true_eq] at a1 b1
    have := hge a1
    omega
  · intro a ha b hb
    obtain ⟨-, b1, b2⟩ := sg_mem_if.mp hb
    rcases List.mem_append.mp ha with ha | ha
    · obtain ⟨-, a1, a2⟩ := sg_mem_if.mp ha
      omega
    · obtain ⟨-, a1, a2⟩ := sg_mem_if.mp ha
      omega
  · intro a ha b hb
    obtain ⟨-, b1, b2⟩ := sg_mem_if.mp hb
    rcases List.mem_append.mp ha with ha | ha
    · rcases List.mem_append.mp ha with ha | ha
      · obtain ⟨-, a1, a2⟩ := sg_mem_if.mp ha
        omega
      · obtain ⟨-, a1, a2⟩ := sg_mem_if.mp ha
        omega
    · obtain ⟨-, a1, a2⟩ := sg_mem_if.mp ha
      simp only [decide_eq_true_eq] at a1 b1
      omega
/-! toppling -/
def sg_su (G : sg_G) (u : Nat → Nat) (k : Nat) : Nat := ssum 16 fun j => if j ∈ sg_nb G k then u j else 0
def sg_pot (G : sg_G) (H : Nat → Nat) : Nat := ssum 16 fun j => (if j < sg_n G then sg_wt G.2.1 j else 0) * H j
def sg_tp (G : sg_G) (H : Nat → Nat) (k t : Nat) : Nat → Nat := fun j => (if j = k then H j - 4 * t else H j) + if j ∈ sg_nb G k then t else 0
def sg_ad (u : Nat → Nat) (k t : Nat) : Nat → Nat := fun j => if j = k then u j + t else u j
def sg_stz (G : sg_G) (h v : Nat → Nat) : Prop := ∀ k, sg_p G k → h k + sg_su G v k ≤ 3 + 4 * v k
/-- from h, legal topplings have led to H, each place having toppled u times -/
def sg_rc (G : sg_G) (h u H : Nat → Nat) : Prop := (∀ k, sg_p G k → H k + 4 * u k = h k + sg_su G u k) ∧ (∀ v, sg_stz G h v → ∀ k, sg_p G k → u k ≤ v k) ∧ (∀ k, ¬ sg_p G k → u k = 0 ∧ H k = h k) ∧ sg_pot G H + 2 * ssum 16 u ≤ sg_pot G h
theorem sg_rc_0 (G : sg_G) (h : Nat → Nat) : sg_rc G h (fun _ => 0) h := by
  refine ⟨fun k hk => ?_, fun v _ k _ => Nat.zero_le _, fun k _ => ⟨rfl, rfl⟩, ?_⟩
  · unfold sg_su
    rw [ssum_congr (g := fun _ => 0) (fun j _ => by simp), ssum_zero]
    simp
  · rw [ssum_zero]; omega
theorem sg_su_ad {G : sg_G} (hG : sg_ok G) {u : Nat → Nat} {k t j : Nat} (hk : sg_p G k) (hj : sg_p G j) : sg_su G (sg_ad u k t) j = sg_su G u j + if j ∈ sg_nb G k then t else 0 := by
  have h16 := sg_n16 hG
  have hk16 : k < 16 := Nat.lt_of_lt_of_le hk.1 h16
  unfold sg_su
  rw [show (if j ∈ sg_nb G k then t else 0) = ssum 16 (fun i => if i = k then (if j ∈ sg_nb G k then t else 0) else 0) by rw [ssum_one, if_pos hk16], ← ssum_add]
  apply ssum_congr
  intro i hi
  unfold sg_ad
  by_cases e : i = k
  · subst e
    simp only [if_true]
    by_cases m : i ∈ sg_nb G j
    · rw [if_pos m, if_pos m, if_pos ((sg_nb_sym hG hk hj).mpr m)]
    · rw [if_neg m, if_neg m, if_neg (fun q => m ((sg_nb_sym hG hk hj).mp q))]
  · simp only [if_neg e, Nat.add_zero]
theorem sg_pot_tp {G : sg_G} (hG : sg_ok G) {H : Nat → Nat} {k t : Nat} (hk : sg_p G k) (ht : 4 * t ≤ H k) : sg_pot G (sg_tp G H k t) + 2 * t ≤ sg_pot G H := by
  have h16 := sg_n16 hG
  have hk16 : k < 16 := Nat.lt_of_lt_of_le hk.1 h16
  obtain ⟨g1, g2, g3, g4, g5⟩ := sg_geo_f hG hk.1
  obtain ⟨W, hW⟩ : ∃ W : Nat → Nat, W = fun j => if j < sg_n G then sg_wt G.2.1 j else 0 := ⟨_, rfl⟩
  have e1 : sg_pot G (sg_tp G H k t) + ssum 16 (fun j => if j = k then W k * (4 * t) else 0) = sg_pot G H + ssum 16 (fun j => if j ∈ sg_nb G k then W j * t else 0) := by
    unfold sg_pot
    rw [← ssum_add, ← ssum_add]
    apply ssum_congr
    intro j hj
    have hWj : (if j < sg_n G then sg_wt G.2.1 j else 0) = W j := by rw [hW]
    rw [hWj]
    unfold sg_tp
    by_cases e : j = k
    · subst e
      have hn : j ∉ sg_nb G j := fun q => (sg_nb_p hG hk.1 q).2 rfl
      simp only [if_true, if_neg hn, Nat.add_zero]
      rw [← Nat.mul_add]
      congr 1
      omega
    · simp only [if_neg e, Nat.add_zero]
      by_cases m : j ∈ sg_nb G k
      · simp only [if_pos m, Nat.mul_add]
      · simp only [if_neg m, Nat.add_zero]
  rw [ssum_one, if_pos hk16] at e1
  have e2 : ssum 16 (fun j => if j ∈ sg_nb G k then W j * t else 0) ≤ t * ssum 16 (fun j => if sg_geo G.1 G.2.1 k j then sg_wt G.2.1 j else 0) := by
    rw [← ssum_mul]
    apply ssum_le
    intro j hj
    by_cases m : j ∈ sg_nb G k
    · have hp := sg_nb_p hG hk.1 m
      rw [if_pos m, if_pos (sg_mem.mp m).2, hW]
      simp only [if_pos hp.1.1]
      rw [Nat.mul_comm]
      exact Nat.le_refl _
    · rw [if_neg m]; exact Nat.zero_le _
  have e3 : t * ssum 16 (fun j => if sg_geo G.1 G.2.1 k j then sg_wt G.2.1 j else 0) + t * 2 ≤ t * (4 * sg_wt G.2.1 k) := by
    rw [← Nat.mul_add]; exact Nat.mul_le_mul_left _ g3
  have e4 : W k * (4 * t) = t * (4 * sg_wt G.2.1 k) := by
    rw [hW]
    simp only [if_pos hk.1]
    rw [Nat.mul_left_comm, ← Nat.mul_assoc, Nat.mul_comm]
  omega
theorem sg_rc_tp {G : sg_G} (hG : sg_ok G) {h u H : Nat → Nat} {k t : Nat} (hr : sg_rc G h u H) (hk : sg_p G k) (ht : 4 * t ≤ H k) : sg_rc G h (sg_ad u k t) (sg_tp G H k t) := by
  obtain ⟨r1, r2, r3, r4⟩ := hr
  have h16 := sg_n16 hG
  have hk16 : k < 16 := Nat.lt_of_lt_of_le hk.1 h16
  refine ⟨fun j hj => ?_, fun v hv j hj => ?_, fun j hj => ?_, ?_⟩
  · rw [sg_su_ad hG hk hj, ← Nat.add_assoc, ← r1 j hj]
    unfold sg_tp sg_ad
    by_cases e : j = k
    · subst e
      simp only [if_true]
      omega
    · simp only [if_neg e]
      omega
  · have h1 := r2 v hv j hj
    unfold sg_ad
    by_cases e : j = k
    · subst e
      simp only [if_true]
      have h2 := r1 j hj
      have h3 := hv j hj
      have h4 : sg_su G u j ≤ sg_su G v j := by
        unfold sg_su
        apply ssum_le
        intro i hi
        by_cases m : i ∈ sg_nb G j
        · rw [if_pos m, if_pos m]
          exact r2 v hv i (sg_nb_p hG hj.1 m).1
        · rw [if_neg m, if_neg m]; exact Nat.le_refl _
      omega
    · simp only [if_neg e]
      exact h1
  · have e : j ≠ k := fun q => hj (q ▸ hk)
    unfold sg_ad sg_tp
    simp only [if_neg e]
    have hn : j ∉ sg_nb G k := fun q => hj (sg_nb_p hG hk.1 q).1
    rw [if_neg hn, Nat.add_zero]
    exact r3 j hj
  · have h1 := sg_pot_tp hG hk ht
    have h2 : ssum 16 (sg_ad u k t) = ssum 16 u + t := by
      have e : ssum 16 (sg_ad u k t) = ssum 16 (fun j => u j + if j = k then t else 0) := ssum_congr (fun j _ => by unfold sg_ad; by_cases e : j = k <;> simp [e])
      rw [e, ssum_add, ssum_one, if_pos hk16]
    omega
/-- u is the least that settles h -/
def sg_odo (G : sg_G) (h u : Nat → Nat) : Prop := sg_stz G h u ∧ (∀ v, sg_stz G h v → ∀ k, sg_p G k → u k ≤ v k) ∧ ∀ k, ¬ sg_p G k → u k = 0
theorem sg_odo_one {G : sg_G} {h u u' : Nat → Nat} (a : sg_odo G h u) (b : sg_odo G h u') : u = u' := by
  funext k
  by_cases hk : sg_p G k
  · exact Nat.le_antisymm (a.2.1 u' b.1 k hk) (b.2.1 u a.1 k hk)
  · rw [a.2.2 k hk, b.2.2 k hk]
theorem sg_rc_odo {G : sg_G} {h u H : Nat → Nat} (hr : sg_rc G h u H) (hs : ∀ k, sg_p G k → H k ≤ 3) : sg_odo G h u := by
  obtain ⟨r1, r2, r3, r4⟩ := hr
  exact ⟨fun k hk => by have := r1 k hk; have := hs k hk; omega, r2, fun k hk => (r3 k hk).1⟩
theorem sg_rc_H {G : sg_G} {h u H H' : Nat → Nat} (a : sg_rc G h u H) (b : sg_rc G h u H') : H = H' := by
  funext k
  by_cases hk : sg_p G k
  · have := a.1 k hk; have := b.1 k hk; omega
  · rw [(a.2.2.1 k hk).2, (b.2.2.1 k hk).2]
theorem sg_pot_le {G : sg_G} (hG : sg_ok G) {h : Nat → Nat} {B : Nat} (hB : ∀ k, k < 16 → h k ≤ B) : sg_pot G h ≤ 96 * B := by
  have h1 : sg_pot G h ≤ ssum 16 (fun _ => 6 * B) := by
    unfold sg_pot
    apply ssum_le
    intro j hj
    refine Nat.mul_le_mul ?_ (hB j hj)
    by_cases hn : j < sg_n G
    · rw [if_pos hn]; exact (sg_geo_f hG hn).2.2.2.2
    · rw [if_neg hn]; exact Nat.zero_le _
  rw [ssum_const] at h1
  omega
theorem sg_pot_ge {G : sg_G} (hG : sg_ok G) {h : Nat → Nat} {k : Nat} (hk : k < sg_n G) : 4 * h k ≤ sg_pot G h := by
  have h16 := sg_n16 hG
  have h1 := ssum_ge (n := 16) (fun j => (if j < sg_n G then sg_wt G.2.1 j else 0) * h j) (show k < 16 by omega)
  simp only [if_pos hk] at h1
  have h2 : 4 * h k ≤ sg_wt G.2.1 k * h k := Nat.mul_le_mul_right _ (sg_geo_f hG hk).2.2.2.1
  unfold sg_pot
  omega
/-- bounds along the way -/
theorem sg_rc_bd {G : sg_G} (hG : sg_ok G) {h u H : Nat → Nat} (hr : sg_rc G h u H) {B : Nat} (hB : ∀ k, k < 16 → h k ≤ B) : (∀ k, k < 16 → H k ≤ 24 * B + B) ∧ ssum 16 u ≤ 48 * B := by
  have h1 := sg_pot_le hG hB
  have h2 := hr.2.2.2
  refine ⟨fun k hk => ?_, by omega⟩
  by_cases hn : k < sg_n G
  · have := sg_pot_ge (h := H) hG hn
    omega
  · have := (hr.2.2.1 k (fun q => hn q.1)).2
    have := hB k hk
    omega
