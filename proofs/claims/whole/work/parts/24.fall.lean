/-! rounds as mathematics; contracts of Fall's other methods -/
def rdy (G : sg_G) (H : Nat → Nat) (i : Nat) : Bool := decide (i < sg_n G) && (!G.2.2 i && decide (3 < H i))
theorem rdy_iff {G : sg_G} {H : Nat → Nat} {i : Nat} : rdy G H i = true ↔ sg_p G i ∧ 3 < H i := by
  unfold rdy sg_p
  simp only [Bool.and_eq_true, decide_eq_true_eq, Bool.not_eq_true']
  exact ⟨fun h => ⟨⟨h.1, h.2.1⟩, h.2.2⟩, fun h => ⟨h.1.1, h.1.2, h.2⟩⟩
/-- a round from H, the cells below i done -/
def rd1 (G : sg_G) (H : Nat → Nat) : Nat → Nat → Nat
  | 0 => H
  | i + 1 => if rdy G H i then sg_tp G (rd1 G H i) i 1 else rd1 G H i
def ru1 (G : sg_G) (H u : Nat → Nat) : Nat → Nat → Nat
  | 0 => u
  | i + 1 => if rdy G H i then sg_ad (ru1 G H u i) i 1 else ru1 G H u i
def rdN (G : sg_G) (H : Nat → Nat) : Nat → Nat → Nat
  | 0 => H
  | n + 1 => rd1 G (rdN G H n) 16
theorem rd1_ge (G : sg_G) (H : Nat → Nat) (i : Nat) : ∀ j, i ≤ j → H j ≤ rd1 G H i j := by
  induction i with
  | zero => intro j _; exact Nat.le_refl _
  | succ i ih =>
    intro j hj
    rw [rd1]
    have h1 := ih j (by omega)
    split
    · unfold sg_tp
      rw [if_neg (show ¬ j = i by omega)]
      omega
    · exact h1
theorem rd1_rc {G : sg_G} (hG : sg_ok G) {h u H : Nat → Nat} (hr : sg_rc G h u H) (i : Nat) : sg_rc G h (ru1 G H u i) (rd1 G H i) := by
  induction i with
  | zero => exact hr
  | succ i ih =>
    rw [rd1, ru1]
    by_cases q : rdy G H i = true
    · rw [if_pos q, if_pos q]
      obtain ⟨p1, p2⟩ := rdy_iff.mp q
      have := rd1_ge G H i i (Nat.le_refl _)
      exact sg_rc_tp hG ih p1 (by omega)
    · rw [if_neg q, if_neg q]
      exact ih
theorem ssum_ad {u : Nat → Nat} {k t : Nat} (h : k < 16) : ssum 16 (sg_ad u k t) = ssum 16 u + t := by
  have e : ssum 16 (sg_ad u k t) = ssum 16 (fun j => u j + if j = k then t else 0) := ssum_congr (fun j _ => by unfold sg_ad; by_cases e : j = k <;> simp [e])
  rw [e, ssum_add, ssum_one, if_pos h]
theorem ru1_sum {G : sg_G} (hG : sg_ok G) {H u : Nat → Nat} (i : Nat) : ssum 16 u ≤ ssum 16 (ru1 G H u i) ∧ ((∃ j, j < i ∧ rdy G H j = true) → ssum 16 u < ssum 16 (ru1 G H u i)) := by
  have h16 := sg_n16 hG
  induction i with
  | zero => exact ⟨Nat.le_refl _, fun ⟨j, hj, _⟩ => absurd hj (Nat.not_lt_zero _)⟩
  | succ i ih =>
    rw [ru1]
    by_cases q : rdy G H i = true
    · rw [if_pos q, ssum_ad (show i < 16 from Nat.lt_of_lt_of_le (rdy_iff.mp q).1.1 h16)]
      exact ⟨by omega, fun _ => by omega⟩
    · rw [if_neg q]
      refine ⟨ih.1, fun ⟨j, hj, hq⟩ => ih.2 ⟨j, ?_, hq⟩⟩
      by_cases e : j = i
      · subst e; exact absurd hq q
      · omega
/-- the rounds come to an end at N -/
def rdE (G : sg_G) (h : Nat → Nat) (N : Nat) : Prop := (∀ m, m < N → ∃ k, sg_p G k ∧ 3 < rdN G h m k) ∧ ∀ k, sg_p G k → rdN G h N k ≤ 3
theorem rdE_one {G : sg_G} {h : Nat → Nat} {N M : Nat} (a : rdE G h N) (b : rdE G h M) : N = M := by
  rcases Nat.lt_trichotomy N M with q | q | q
  · obtain ⟨k, h1, h2⟩ := b.1 N q
    have := a.2 k h1
    omega
  · exact q
  · obtain ⟨k, h1, h2⟩ := a.1 M q
    have := b.2 k h1
    omega
theorem gx_n7 {G : sg_G} {f : Nat → Nat → Int32} (h : gx G f) : f 0 7 = nI (sg_P G).length := h.2.2.1
theorem e_x_grainsOf {Q : Option Value → sy_S → Prop} {σ : sy_S} {G : sg_G} {k : Nat} {H : Nat → Nat} (hk : shX[k]? = some (0, 16, [])) (hg : gx G σ.1) (hH : ar σ.1 k H) (kk : Q (some (.int (nI (sg_sum G H)))) σ) : sy_E shX mX3_grainsOf (0, sy_ent [.ref 0, .ref k] 4, [], σ) Q := by
  have hP := sg_P_len hg.1
  refine w_x_grainsOf_0 hk ?_
  refine sx_fold (sg_P G) (fun l i => (4, [some (.ref 0), some (.ref k), some (.int (nI (lsum H l))), some (.int (nI i))], [], σ)) ?_ ?_
  · intro i c hc ih
    have hi := (List.getElem?_eq_some_iff.mp hc).1
    obtain ⟨c', p1, p2, p3, p4, p5⟩ := gx_pl hg hi
    rw [hc] at p1; cases p1
    have ei : (nI i).toNatClampNeg = i := nI_clamp (by omega)
    refine w_x_grainsOf_4 hk (fun _ => vp_in_nI (by omega) (by decide)) (fun _ => by rw [ei, p4]; exact vp_in_nI p3 (by decide)) (fun q => ?_) (fun _ => ?_)
    · rw [gx_n7 hg] at q; exact absurd q (nI_ge hi (by omega))
    · rw [ei, p5, hH c p3, nI_add, nI_1, ← lsum_app]; exact ih
  · refine w_x_grainsOf_4 hk (fun q => ?_) (fun q => ?_) (fun _ => ?_) (fun q => ?_)
    all_goals try (exact absurd (by rw [gx_n7 hg]; exact nI_le (Nat.le_refl _) (by omega)) q)
    rw [lsum_pm]; exact kk
theorem e_x_isStable {Q : Option Value → sy_S → Prop} {σ : sy_S} {G : sg_G} {k : Nat} {H : Nat → Nat} (hk : shX[k]? = some (0, 16, [])) (hg : gx G σ.1) (hH : ar σ.1 k H) (hB : ∀ j, j < 16 → H j < 2 ^ 31) (k1 : (∀ c, sg_p G c → H c ≤ 3) → Q (some (.int 1)) σ) (k0 : (∃ c, sg_p G c ∧ 3 < H c) → Q (some (.int 0)) σ) : sy_E shX mX3_isStable (0, sy_ent [.ref 0, .ref k] 3, [], σ) Q := by
  have hP := sg_P_len hg.1
  refine w_x_isStable_0 hk ?_
  have hl := sy_loop (sh := shX) (y := mX3_isStable) (Q := Q) (fun i σ' => (2, [some (.ref 0), some (.ref k), some (.int (nI i))], [], σ')) (fun i σ' => σ' = σ ∧ ∀ j c, j < i → (sg_P G)[j]? = some c → H c ≤ 3) (sg_P G).length ?_ ?_ 0 σ (Nat.zero_le _) ⟨rfl, fun j c hj => absurd hj (Nat.not_lt_zero _)⟩
  · exact hl
  · rintro i σ' hi ⟨rfl, hI⟩ ih
    obtain ⟨c, p1, p2, p3, p4, p5⟩ := gx_pl hg hi
    have ei : (nI i).toNatClampNeg = i := nI_clamp (by omega)
    refine w_x_isStable_2 hk (fun _ => vp_in_nI (by omega) (by decide)) (fun _ => by rw [ei, p4]; exact vp_in_nI p3 (by decide)) (fun q => ?_) (fun _ q => ?_) (fun _ q => ?_)
    · rw [gx_n7 hg] at q; exact absurd q (nI_ge hi (by omega))
    · rw [ei, p5, hH c p3, show (3 : Int32) = nI 3 from rfl, nI_leI (hB c p3) (by decide)] at q
      rw [nI_1]
      refine ih σ' ⟨rfl, fun j d hj hd => ?_⟩
      by_cases e : j = i
      · subst e; rw [p1] at hd; cases hd; exact q
      · exact hI j d (by omega) hd
    · rw [ei, p5, hH c p3, show (3 : Int32) = nI 3 from rfl, nI_leI (hB c p3) (by decide)] at q
      exact k0 ⟨c, p2, by omega⟩
  · rintro σ' ⟨rfl, hI⟩
    refine w_x_isStable_2 hk (fun q => ?_) (fun q => ?_) (fun _ => ?_) (fun q => ?_) (fun q => ?_)
    all_goals try (exact absurd (by rw [gx_n7 hg]; exact nI_le (Nat.le_refl _) (by omega)) q)
    refine k1 (fun c hc => ?_)
    obtain ⟨j, hj⟩ := List.getElem?_of_mem (sg_P_mem.mpr hc)
    exact hI j c (List.getElem?_eq_some_iff.mp hj).1 hj
theorem e_x_begin {Q : Option Value → sy_S → Prop} {σ : sy_S} {k : Nat} {h : Nat → Nat} (hk : shX[k]? = some (0, 16, [])) (hh : ar σ.1 k h) (kk : ∀ σ' : sy_S, sx [40, 41] σ σ' → ar σ'.1 40 h → ar σ'.1 41 (fun _ => 0) → Q none σ') : sy_E shX mX1_begin (0, sy_ent [.ref 39, .ref k] 2, [], σ) Q := by
  refine w_x_begin_0 hk ?_
  refine e_x_fill (n := 16) rfl (by decide) (fun σ1 h1 h2 h3 h4 => ?_)
  refine w_x_begin_20 ?_
  refine kk σ1 ⟨fun q hq => ?_, h4⟩ (fun j hj => ?_) (fun j hj => ?_)
  · rw [h1 q (fun e => hq (by rw [e]; simp))]
    exact sy_cp_ne _ _ _ (fun e => hq (by rw [e]; simp))
  · rw [h1 40 (by decide)]
    show sy_cp σ.1 k 40 16 40 j = _
    rw [sy_cp_self, pk_cpy_in (Nat.zero_le _) (by omega)]
    rw [show 0 + (j - 0) = j by omega]
    exact hh j hj
  · rw [h2 j hj]; rfl
theorem e_x_forget {Q : Option Value → sy_S → Prop} {σ : sy_S} (kk : ∀ σ' : sy_S, sx [41] σ σ' → ar σ'.1 41 (fun _ => 0) → Q none σ') : sy_E shX mX1_forgetCounts (0, sy_ent [.ref 39] 1, [], σ) Q := by
  refine w_x_forget_0 ?_
  refine e_x_fill (n := 16) rfl (by decide) (fun σ1 h1 h2 h3 h4 => ?_)
  refine w_x_forget_8 ?_
  refine kk σ1 ⟨fun q hq => h1 q (fun e => hq (by rw [e]; simp)), h4⟩ (fun j hj => ?_)
  rw [h2 j hj]; rfl
theorem e_x_addGrain {Q : Option Value → sy_S → Prop} {σ : sy_S} {c : Nat} {H : Nat → Nat} (hc : c < 16) (hH : ar σ.1 40 H) (kk : ∀ σ' : sy_S, sx [40] σ σ' → ar σ'.1 40 (sg_ad H c 1) → Q none σ') : sy_E shX mX1_addGrain (0, sy_ent [.ref 39, .int (nI c)] 2, [], σ) Q := by
  have ec : (nI c).toNatClampNeg = c := nI_clamp (by omega)
  refine w_x_addGrain (vp_in_nI hc (by decide)) ?_
  rw [ec, hH c hc, nI_1]
  refine kk _ (sx.up (by simp)) (fun j hj => ?_)
  show sy_up σ.1 40 c (nI (H c + 1)) 40 j = _
  rw [sy_up2]
  unfold sg_ad
  by_cases e : j = c
  · subst e; rw [if_pos ⟨rfl, rfl⟩, if_pos rfl]
  · rw [if_neg (fun q => e q.2), if_neg e]; exact hH j hj
theorem e_x_copyTo {Q : Option Value → sy_S → Prop} {σ : sy_S} {k : Nat} {H : Nat → Nat} (hk : shX[k]? = some (0, 16, [])) (hH : ar σ.1 40 H) (kk : ∀ σ' : sy_S, sx [k] σ σ' → ar σ'.1 k H → Q none σ') : sy_E shX mX1_copyTo (0, sy_ent [.ref 39, .ref k] 2, [], σ) Q := by
  refine w_x_copyTo hk ?_
  refine kk _ ⟨fun q hq => sy_cp_ne _ _ _ (fun e => hq (by rw [e]; simp)), rfl⟩ (fun j hj => ?_)
  show sy_cp σ.1 40 k 16 k j = _
  rw [sy_cp_self, pk_cpy_in (Nat.zero_le _) (by omega), show 0 + (j - 0) = j by omega]
  exact hH j hj
theorem e_x_heightAt {Q : Option Value → sy_S → Prop} {σ : sy_S} {c : Nat} {H : Nat → Nat} (hc : c < 16) (hH : ar σ.1 40 H) (kk : Q (some (.int (nI (H c)))) σ) : sy_E shX mX1_heightAt (0, sy_ent [.ref 39, .int (nI c)] 2, [], σ) Q := by
  refine w_x_heightAt (vp_in_nI hc (by decide)) ?_
  rw [nI_clamp (by omega), hH c hc]; exact kk
theorem e_x_countAt {Q : Option Value → sy_S → Prop} {σ : sy_S} {c : Nat} {H : Nat → Nat} (hc : c < 16) (hH : ar σ.1 41 H) (kk : Q (some (.int (nI (H c)))) σ) : sy_E shX mX1_countAt (0, sy_ent [.ref 39, .int (nI c)] 2, [], σ) Q := by
  refine w_x_countAt (vp_in_nI hc (by decide)) ?_
  rw [nI_clamp (by omega), hH c hc]; exact kk
theorem e_x_fgrains {Q : Option Value → sy_S → Prop} {σ : sy_S} {G : sg_G} {H : Nat → Nat} (hg : gx G σ.1) (hH : ar σ.1 40 H) (kk : Q (some (.int (nI (sg_sum G H)))) σ) : sy_E shX mX1_grains (0, sy_ent [.ref 39] 1, [], σ) Q :=
  w_x_fgrains_0 (e_x_grainsOf rfl hg hH (w_x_fgrains_r kk))
theorem e_x_ftoppled {Q : Option Value → sy_S → Prop} {σ : sy_S} {G : sg_G} {H : Nat → Nat} (hg : gx G σ.1) (hH : ar σ.1 41 H) (kk : Q (some (.int (nI (sg_sum G H)))) σ) : sy_E shX mX1_toppled (0, sy_ent [.ref 39] 1, [], σ) Q :=
  w_x_ftoppled_0 (e_x_grainsOf rfl hg hH (w_x_ftoppled_r kk))
/-- what is lost, of counts -/
def sg_lost (G : sg_G) (u : Nat → Nat) : Nat := sg_sum G fun c => u c * (4 - (sg_nb G c).length)
theorem e_x_lost {Q : Option Value → sy_S → Prop} {σ : sy_S} {G : sg_G} {u : Nat → Nat} (hg : gx G σ.1) (hu : ar σ.1 41 u) (kk : Q (some (.int (nI (sg_lost G u)))) σ) : sy_E shX mX1_lost (0, sy_ent [.ref 39] 4, [], σ) Q := by
  have hP := sg_P_len hg.1
  refine w_x_lost_0 ?_
  refine sx_fold (sg_P G) (fun l i => (4, [some (.ref 39), some (.int (nI (lsum (fun c => u c * (4 - (sg_nb G c).length)) l))), some (.int (nI i)), none], [], σ)) ?_ ?_
  · intro i c hc ih
    have hi := (List.getElem?_eq_some_iff.mp hc).1
    obtain ⟨c', p1, p2, p3, p4, p5⟩ := gx_pl hg hi
    rw [hc] at p1; cases p1
    have ei : (nI i).toNatClampNeg = i := nI_clamp (by omega)
    have hl4 := sg_nb_len G c
    refine w_x_lost_4 (fun _ => vp_in_nI (by omega) (by decide)) (fun _ => by rw [ei, p4]; exact vp_in_nI p3 (by decide)) (fun q => ?_) (fun _ => ?_)
    · rw [gx_n7 hg] at q; exact absurd q (nI_ge hi (by omega))
    · rw [ei, p5, hu c p3, (gx_nb hg p2.1).1, nI_lit4, pk_sub hl4, pk_mul, nI_add, nI_1]
      rw [lsum_app] at ih
      exact ih
  · refine w_x_lost_4 (fun q => ?_) (fun q => ?_) (fun _ => ?_) (fun q => ?_)
    all_goals try (exact absurd (by rw [gx_n7 hg]; exact nI_le (Nat.le_refl _) (by omega)) q)
    rw [lsum_pm]; exact kk
theorem e_x_area {Q : Option Value → sy_S → Prop} {σ : sy_S} {u : Nat → Nat} (hu : ar σ.1 41 u) (hB : ∀ j, j < 16 → u j < 2 ^ 31) (kk : Q (some (.int (bts (fun c => decide (0 < u c)) (List.range 16)))) σ) : sy_E shX mX1_area (0, sy_ent [.ref 39] 3, [], σ) Q := by
  refine w_x_area_0 ?_
  have hl := sy_loop (sh := shX) (y := mX1_area) (Q := Q) (fun i σ' => (4, [some (.ref 39), some (.int (bts (fun c => decide (0 < u c)) (List.range i))), some (.int (nI i))], [], σ')) (fun i σ' => σ' = σ) 16 ?_ ?_ 0 σ (by decide) rfl
  · exact hl
  · rintro i σ' hi rfl ih
    have ei : (nI i).toNatClampNeg = i := nI_clamp (by omega)
    refine w_x_area_4 (fun _ => vp_in_nI (by omega) (by decide)) (fun q => absurd q (nI_ge hi (by decide))) (fun _ q => ?_) (fun _ q => ?_)
    · rw [ei, hu i hi, nI_lit0, nI_leI (hB i hi) (by decide)] at q
      have h := ih σ' rfl
      rw [bts_s, decide_eq_false (show ¬ 0 < u i by omega)] at h
      rw [nI_1]
      exact h
    · rw [ei, hu i hi, nI_lit0, nI_leI (hB i hi) (by decide)] at q
      have h := ih σ' rfl
      rw [bts_s, decide_eq_true (show 0 < u i by omega)] at h
      rw [nI_1]
      exact h
  · rintro σ' rfl
    exact w_x_area_4 (fun q => absurd (nI_le (Nat.le_refl 16) (by decide)) q) (fun _ => kk) (fun q => absurd (nI_le (Nat.le_refl 16) (by decide)) q) (fun q => absurd (nI_le (Nat.le_refl 16) (by decide)) q)
theorem rdb_eq {G : sg_G} (hG : sg_ok G) (H : Nat → Nat) : bts (fun c => decide (3 < H c)) (sg_P G) = bts (rdy G H) (List.range 16) := by
  rw [bts_pm, bts_ext (p := rdy G H) (sg_n16 hG) (fun c h1 _ => by unfold rdy; rw [decide_eq_false (by omega)]; rfl)]
  exact bts_congr (fun c hc => by unfold rdy; rw [decide_eq_true hc]; rfl)
theorem e_x_ready {Q : Option Value → sy_S → Prop} {σ : sy_S} {G : sg_G} {H : Nat → Nat} (hg : gx G σ.1) (hH : ar σ.1 40 H) (hB : ∀ j, j < 16 → H j < 2 ^ 31) (kk : Q (some (.int (bts (rdy G H) (List.range 16)))) σ) : sy_E shX mX1_readyBits (0, sy_ent [.ref 39] 4, [], σ) Q := by
  have hP := sg_P_len hg.1
  refine w_x_ready_0 ?_
  refine sx_fold (sg_P G) (fun l i => (4, [some (.ref 39), some (.int (bts (fun c => decide (3 < H c)) l)), some (.int (nI i)), none], [], σ)) ?_ ?_
  · intro i c hc ih
    have hi := (List.getElem?_eq_some_iff.mp hc).1
    obtain ⟨c', p1, p2, p3, p4, p5⟩ := gx_pl hg hi
    rw [hc] at p1; cases p1
    have ei : (nI i).toNatClampNeg = i := nI_clamp (by omega)
    refine w_x_ready_4 (fun _ => vp_in_nI (by omega) (by decide)) (fun _ => by rw [ei, p4]; exact vp_in_nI p3 (by decide)) (fun q => ?_) (fun _ q => ?_) (fun _ q => ?_)
    · rw [gx_n7 hg] at q; exact absurd q (nI_ge hi (by omega))
    · rw [ei, p5, hH c p3, show (3 : Int32) = nI 3 from rfl, nI_leI (hB c p3) (by decide)] at q
      rw [bts_app, decide_eq_false (show ¬ 3 < H c by omega)] at ih
      rw [nI_1]
      exact ih
    · rw [ei, p5, hH c p3, show (3 : Int32) = nI 3 from rfl, nI_leI (hB c p3) (by decide)] at q
      rw [bts_app, decide_eq_true (show 3 < H c by omega)] at ih
      rw [nI_1, ei, p4]
      exact ih
  · refine w_x_ready_4 (fun q => ?_) (fun q => ?_) (fun _ => ?_) (fun q => ?_) (fun q => ?_)
    all_goals try (exact absurd (by rw [gx_n7 hg]; exact nI_le (Nat.le_refl _) (by omega)) q)
    rw [rdb_eq hg.1]; exact kk
theorem e_x_inRounds {Q : Option Value → sy_S → Prop} {σ : sy_S} {G : sg_G} {h c0 : Nat → Nat} (hg : gx G σ.1) (hh : ar σ.1 40 h) (hc : ar σ.1 41 c0) (hB : ∀ j, j < 16 → h j ≤ 10000) (kk : ∀ (σ' : sy_S) (N : Nat) (u : Nat → Nat), sx [40, 41] σ σ' → rdE G h N → sg_rc G h u (rdN G h N) → ar σ'.1 40 (rdN G h N) → ar σ'.1 41 (fun j => c0 j + u j) → Q (some (.int (nI N))) σ') : sy_E shX mX1_inRounds (0, sy_ent [.ref 39] 4, [], σ) Q := by
  have hG := hg.1
  have h16 := sg_n16 hG
  have bH : ∀ {u H : Nat → Nat}, sg_rc G h u H → ∀ j, j < 16 → H j < 2 ^ 31 := fun hr j hj => Nat.lt_of_le_of_lt ((sg_rc_bd hG hr hB).1 j hj) (by decide)
  -- a round
  have inner : ∀ (n : Nat) (u H : Nat → Nat), sg_rc G h u H → n ≤ 480000 → (∀ σ' : sy_S, fx G h c0 (ru1 G H u 16) (rd1 G H 16) σ'.1 → sx [40, 41] σ σ' → sy_E shX mX1_inRounds (69, [some (.ref 39), some (.int (nI (n + 1))), none, none], [.int (bts (rdy G (rd1 G H 16)) (List.range 16))], σ') Q) → ∀ i σ', i ≤ 16 → (fx G h c0 (ru1 G H u i) (rd1 G H i) σ'.1 ∧ sx [40, 41] σ σ') → sy_E shX mX1_inRounds (19, [some (.ref 39), some (.int (nI n)), some (.int (bts (rdy G H) (List.range 16))), some (.int (nI i))], [], σ') Q := by
    intro n u H hr hn next
    refine sy_loop (fun i σ' => (19, [some (.ref 39), some (.int (nI n)), some (.int (bts (rdy G H) (List.range 16))), some (.int (nI i))], [], σ')) (fun i σ' => fx G h c0 (ru1 G H u i) (rd1 G H i) σ'.1 ∧ sx [40, 41] σ σ') 16 ?_ ?_
    · rintro i σ' hi ⟨⟨f1, f2, f3, f4⟩, hs⟩ ih
      have ei : (nI i).toNatClampNeg = i := nI_clamp (by omega)
      refine w_x_inRounds_19 (fun q => absurd q (nI_ge hi (by decide))) (fun _ q => ?_) (fun _ q => ?_)
      · rw [bts_test _ (by decide) hi] at q
        have q : ¬ rdy G H i = true := fun z => q ⟨hi, z⟩
        rw [nI_1]
        refine ih σ' ⟨⟨f1, ?_, ?_, ?_⟩, hs⟩
        · rw [ru1, rd1, if_neg q, if_neg q]; exact f2
        · rw [rd1, if_neg q]; exact f3
        · rw [ru1, if_neg q]; exact f4
      · rw [bts_test _ (by decide) hi] at q
        have q : rdy G H i = true := by
          cases z : rdy G H i
          · exact absurd (fun ⟨_, z2⟩ => by rw [z] at z2; cases z2) q
          · rfl
        obtain ⟨p1, p2⟩ := rdy_iff.mp q
        have hge := rd1_ge G H i i (Nat.le_refl _)
        refine e_x_spill (t := 1) rfl (by decide) f1 f3 p1 (by omega) (fun σ2 g1 g2 => ?_)
        refine w_x_inRounds_46 (vp_in_nI hi (by decide)) ?_
        have e41 : σ2.1 41 i = nI (c0 i + ru1 G H u i i) := by rw [g1.1 41 (by decide)]; exact f4 i hi
        rw [ei, e41, nI_1, nI_1]
        have hs2 : sx [40, 41] σ (sy_up σ2.1 41 i (nI (c0 i + ru1 G H u i i + 1)), σ2.2) := (hs.tr (g1.mono (by simp))).tr (sx.up (by simp))
        refine ih _ ⟨⟨hs2.gx hg (by decide), rd1_rc hG hr (i + 1), fun j hj => ?_, fun j hj => ?_⟩, hs2⟩
        · show sy_up σ2.1 41 i (nI (c0 i + ru1 G H u i i + 1)) 40 j = _
          rw [sy_up2, if_neg (by omega), rd1, if_pos q]
          exact g2 j hj
        · show sy_up σ2.1 41 i (nI (c0 i + ru1 G H u i i + 1)) 41 j = nI (c0 j + ru1 G H u (i + 1) j)
          rw [sy_up2, ru1, if_pos q]
          unfold sg_ad
          by_cases e : j = i
          · subst e
            rw [if_pos ⟨rfl, rfl⟩, if_pos rfl]
            rfl
          · rw [if_neg (fun q => e q.2), if_neg e, g1.1 41 (by decide)]
            exact f4 j hj
    · rintro σ' ⟨hf, hs⟩
      refine w_x_inRounds_19 (fun _ => ?_) (fun q => absurd (nI_le (Nat.le_refl 16) (by decide)) q) (fun q => absurd (nI_le (Nat.le_refl 16) (by decide)) q)
      rw [nI_1]
      exact e_x_ready hf.1 hf.2.2.1 (bH hf.2.1) (next σ' hf hs)
  have outer : ∀ (d n : Nat) (σ' : sy_S) (u : Nat → Nat), fx G h c0 u (rdN G h n) σ'.1 → sx [40, 41] σ σ' → (∀ m, m < n → ∃ k, sg_p G k ∧ 3 < rdN G h m k) → n ≤ ssum 16 u → 480001 ≤ n + d → sy_E shX mX1_inRounds (7, [some (.ref 39), some (.int (nI n)), some (.int (bts (rdy G (rdN G h n)) (List.range 16))), none], [], σ') Q := by
    intro d
    induction d with
    | zero =>
      intro n σ' u hf hs hm hn hd
      have := (sg_rc_bd hG hf.2.1 hB).2
      exact absurd hd (by omega)
    | succ d ih =>
      intro n σ' u hf hs hm hn hd
      have bd := (sg_rc_bd hG hf.2.1 hB).2
      refine w_x_inRounds_7 (fun q => ?_) (fun _ q => ?_) (fun q _ => ?_)
      · rw [bts_zero _ (by decide)] at q
        refine kk σ' n u hs ⟨hm, fun k hk => ?_⟩ hf.2.1 hf.2.2.1 hf.2.2.2
        have := q k (Nat.lt_of_lt_of_le hk.1 h16)
        rcases Nat.lt_or_ge 3 (rdN G h n k) with z | z
        · rw [rdy_iff.mpr ⟨hk, z⟩] at this; cases this
        · exact z
      · rw [show (1000000 : Int32) = nI 1000000 from rfl, nI_leI (by decide) (by omega)] at q
        omega
      · rw [bts_zero _ (by decide)] at q
        have hex : ∃ j, j < 16 ∧ rdy G (rdN G h n) j = true := by
          refine Classical.byContradiction fun z => q (fun i hi => ?_)
          cases y : rdy G (rdN G h n) i
          · rfl
          · exact absurd ⟨i, hi, y⟩ z
        refine inner n u (rdN G h n) hf.2.1 (by omega) (fun σ2 q1 q2 => ?_) 0 σ' (Nat.zero_le _) ⟨hf, hs⟩
        refine w_x_inRounds_69 ?_
        refine ih (n + 1) σ2 (ru1 G (rdN G h n) u 16) q1 q2 (fun m hmn => ?_) ?_ (by omega)
        · by_cases e : m = n
          · subst e
            obtain ⟨j, -, hj⟩ := hex
            exact ⟨j, (rdy_iff.mp hj).1, (rdy_iff.mp hj).2⟩
          · exact hm m (by omega)
        · have := (ru1_sum (u := u) (H := rdN G h n) hG 16).2 hex
          omega
  refine w_x_inRounds_0 ?_
  refine e_x_ready hg hh (bH (sg_rc_0 G h)) ?_
  refine w_x_inRounds_6 ?_
  exact outer 480001 0 σ (fun _ => 0) ⟨hg, sg_rc_0 G h, hh, hc⟩ sx.rf (fun m hm => absurd hm (Nat.not_lt_zero _)) (Nat.zero_le _) (by omega)
