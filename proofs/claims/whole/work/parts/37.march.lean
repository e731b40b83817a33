/-! March: contracts (by program: wip/whole/gen/p37.py) -/
theorem bts_or (p : Nat → Bool) {c : Nat} (hc : c < 16) : bts p (List.range 16) ||| (1 <<< (nI c &&& 31)) = bts (fun x => p x || decide (x = c)) (List.range 16) := by
  apply b_ext
  intro i hi
  rw [b_or, bts_bt _ (by decide) hi, bts_bt _ (by decide) hi, b_shl c (by omega) 1 hi, b_1 _ (by omega)]
  by_cases e : i = c
  · subst e; simp [hc]
  · rw [decide_eq_false e]
    by_cases l : c ≤ i
    · rw [decide_eq_false (show ¬ i - c = 0 by omega)]; simp
    · rw [decide_eq_false l]; simp
theorem bts_and (p : Nat → Bool) {c : Nat} (hc : c < 16) : bts p (List.range 16) &&& ((1 <<< (nI c &&& 31)) ^^^ (-1)) = bts (fun x => p x && !decide (x = c)) (List.range 16) := by
  apply b_ext
  intro i hi
  rw [b_and, bts_bt _ (by decide) hi, bts_bt _ (by decide) hi, b_xor, b_shl c (by omega) 1 hi, b_1 _ (by omega), b_m1 i hi]
  by_cases e : i = c
  · subst e; simp
  · rw [decide_eq_false e]
    by_cases l : c ≤ i
    · rw [decide_eq_false (show ¬ i - c = 0 by omega)]; simp
    · rw [decide_eq_false l]; simp
theorem nodup_len : ∀ (n : Nat) (l : List Nat), l.Nodup → (∀ x, x ∈ l → x < n) → l.length ≤ n := by
  intro n
  induction n with
  | zero =>
    intro l _ h
    cases l with
    | nil => exact Nat.le_refl _
    | cons a r => exact absurd (h a List.mem_cons_self) (Nat.not_lt_zero _)
  | succ n ih =>
    intro l hn h
    by_cases m : n ∈ l
    · have h1 := ih (l.erase n) (hn.erase n) (fun x hx => by
        obtain ⟨h2, h3⟩ := (hn.mem_erase_iff).mp hx
        have := h x h3
        omega)
      have h2 := List.length_erase_of_mem m
      have h3 : 0 < l.length := List.length_pos_of_mem m
      omega
    · have h1 := ih l hn (fun x hx => by
        have := h x hx
        have : x ≠ n := fun e => m (e ▸ hx)
        omega)
      omega
/-- the row of an order in the store: object M, ring M + 2 -/
def mq (M : Nat) (f : Nat → Nat → Int32) (L : List Nat) : Prop := L.Nodup ∧ (∀ c, c ∈ L → c < 16) ∧ ∃ a, a < 16 ∧ f M 4 = nI a ∧ f M 5 = nI L.length ∧ (∀ j o, L[j]? = some o → f (M + 2) ((a + j) % 16) = nI o) ∧ f M 6 = bts (fun c => decide (c ∈ L)) (List.range 16)
def mx (M o : Nat) (H : Nat → Nat) (L : List Nat) (f : Nat → Nat → Int32) : Prop := ar f (M + 1) H ∧ f M 3 = nI o ∧ ((o = 1 ∨ o = 2) → mq M f L)

theorem e_a_lineUp {Q : Option Value → sy_S → Prop} {σ : sy_S} {c : Nat} {H : Nat → Nat} {L : List Nat} (hc : c < 16) (hH : ar σ.1 43 H) (hB : H c < 2 ^ 31) (hq : mq 42 σ.1 L) (kk : ∀ σ' : sy_S, sx [42, 44] σ σ' → σ'.1 42 3 = σ.1 42 3 → mq 42 σ'.1 (mline H L c) → Q none σ') : sy_E shX mX4_lineUp (0, sy_ent [.ref 42, .int (nI c)] 3, [], σ) Q := by
  obtain ⟨q1, q2, a, q3, q4, q5, q6, q7⟩ := id hq
  have ec : (nI c).toNatClampNeg = c := nI_clamp (by omega)
  have hl16 := nodup_len 16 L q1 q2
  have et : (((σ.1 42 6) >>> (nI c &&& 31)) &&& 1) = 0 ↔ c ∉ L := by
    rw [q7, bts_test _ (by decide) hc]
    simp [hc]
  have eix : (σ.1 42 4 + σ.1 42 5) - (σ.1 42 4 + σ.1 42 5) / 16 * 16 = nI ((a + L.length) % 16) := by
    rw [q4, q5, nI_add, show (16 : Int32) = nI 16 from rfl, pk_rem (by omega) (by decide) (by decide)]
  have hm := Nat.mod_lt (a + L.length) (show 0 < 16 by decide)
  refine w_a_lineUp (fun _ => vp_in_nI hc (by decide)) (fun _ _ => by rw [eix]; exact vp_in_nI hm (by decide)) (fun z z2 => ?_) (fun z z2 => ?_) (fun z => ?_)
  · rw [et] at z
    rw [ec, hH c hc, show (3 : Int32) = nI 3 from rfl, nI_leI hB (by decide)] at z2
    refine kk σ sx.rf rfl ?_
    unfold mline
    rw [if_neg (by omega)]
    exact hq
  · rw [et] at z
    rw [ec, hH c hc, show (3 : Int32) = nI 3 from rfl, nI_leI hB (by decide)] at z2
    have hlen : L.length < 16 := by
      have h1 := nodup_len 16 (c :: L) (List.nodup_cons.mpr ⟨z, q1⟩) (fun x hx => (List.mem_cons.mp hx).elim (fun e => e ▸ hc) (q2 x))
      rw [List.length_cons] at h1
      omega
    rw [eix, nI_clamp (show (a + L.length) % 16 < 2 ^ 31 by omega)]
    refine kk _ ⟨fun q hq' => ?_, rfl⟩ ?_ ?_
    · show sy_up (sy_up (sy_up σ.1 44 _ _) 42 5 _) 42 6 _ q = σ.1 q
      simp only [List.mem_cons, List.not_mem_nil, or_false, not_or] at hq'
      rw [sy_up_ne _ _ _ hq'.1, sy_up_ne _ _ _ hq'.1, sy_up_ne _ _ _ hq'.2]
    · rfl
    · unfold mline
      rw [if_pos ⟨z, by omega⟩]
      refine ⟨?_, ?_, a, q3, ?_, ?_, fun j o hj => ?_, ?_⟩
      · rw [List.nodup_append]
        exact ⟨q1, by simp, fun x hx y hy => by rw [List.mem_singleton] at hy; subst hy; exact fun e => z (e ▸ hx)⟩
      · intro x hx
        rcases List.mem_append.mp hx with h | h
        · exact q2 x h
        · rw [List.mem_singleton] at h; subst h; exact hc
      · exact q4
      · show σ.1 42 5 + 1 = _
        rw [q5, nI_1, List.length_append, List.length_singleton]
      · show sy_up σ.1 44 ((a + L.length) % 16) (nI c) 44 ((a + j) % 16) = _
        rw [sy_up2]
        rw [List.getElem?_append] at hj
        split at hj
        · rename_i hlt
          rw [if_neg (by omega)]
          exact q6 j o hj
        · rename_i hge
          have hz : j - L.length = 0 := by
            rcases Nat.eq_zero_or_pos (j - L.length) with q | q
            · exact q
            · rw [List.getElem?_eq_none (by simp only [List.length_singleton]; omega)] at hj; cases hj
          rw [hz] at hj
          cases hj
          rw [if_pos ⟨rfl, by rw [show j = L.length by omega]⟩]
      · show σ.1 42 6 ||| (1 <<< (nI c &&& 31)) = _
        rw [q7, bts_or _ hc]
        apply bts_congr
        intro x _
        simp [List.mem_append]
  · rw [et] at z
    refine kk σ sx.rf rfl ?_
    unfold mline
    rw [if_neg (fun q => z q.1)]
    exact hq
theorem e_a_leave {Q : Option Value → sy_S → Prop} {σ : sy_S} {o : Nat} {L : List Nat} (ho : o = 1 ∨ o = 2) (hq : mq 42 σ.1 L) (k0 : L = [] → Q (some (.int (-1))) σ) (k1 : ∀ (σ' : sy_S) (c : Nat), (if o = 1 then L.head? else L.getLast?) = some c → sx [42] σ σ' → σ'.1 42 3 = σ.1 42 3 → mq 42 σ'.1 (mrest o L) → Q (some (.int (nI c))) σ') : sy_E shX mX4_leave (0, sy_ent [.ref 42, .int (if o = 1 then 1 else 0)] 3, [], σ) Q := by
  obtain ⟨q1, q2, a, q3, q4, q5, q6, q7⟩ := id hq
  have hl16 := nodup_len 16 L q1 q2
  have hz : σ.1 42 5 = 0 ↔ L = [] := by
    rw [q5, nI_lit0, nI_eq (by omega) (by decide)]
    exact List.length_eq_zero_iff
  rcases ho with rfl | rfl
  · rw [if_pos rfl]
    refine w_a_leave1 (fun _ => by rw [q4]; exact vp_in_nI q3 (by decide)) (fun z => ?_) (fun z => k0 (hz.mp (Classical.byContradiction z)))
    rw [hz] at z
    match L, z, q1, q2, q5, q6, q7, k1, hl16 with
    | c :: L', _, q1, q2, q5, q6, q7, k1, hl16 =>
      have hc : c < 16 := q2 c List.mem_cons_self
      have e0 : σ.1 44 ((σ.1 42 4).toNatClampNeg) = nI c := by
        rw [q4, nI_clamp (by omega)]
        have := q6 0 c rfl
        rw [show (a + 0) % 16 = a by omega] at this
        exact this
      have ef : (σ.1 42 4 + 1) - (σ.1 42 4 + 1) / 16 * 16 = nI ((a + 1) % 16) := by
        rw [q4, nI_1, show (16 : Int32) = nI 16 from rfl, pk_rem (by omega) (by decide) (by decide)]
      rw [e0, ef]
      rw [List.nodup_cons] at q1
      refine k1 _ c rfl ⟨fun q hq' => ?_, rfl⟩ ?_ ⟨q1.2, fun x hx => q2 x (List.mem_cons_of_mem _ hx), (a + 1) % 16, Nat.mod_lt _ (by decide), ?_, ?_, fun j o hj => ?_, ?_⟩
      · show sy_up (sy_up (sy_up σ.1 42 4 _) 42 5 _) 42 6 _ q = σ.1 q
        simp only [List.mem_singleton] at hq'
        rw [sy_up_ne _ _ _ hq', sy_up_ne _ _ _ hq', sy_up_ne _ _ _ hq']
      · rfl
      · rfl
      · show σ.1 42 5 - 1 = nI L'.length
        rw [q5, nI_lit1, pk_sub (by simp), List.length_cons, Nat.add_sub_cancel]
      · show σ.1 44 (((a + 1) % 16 + j) % 16) = nI o
        have := q6 (j + 1) o hj
        rw [show (a + (j + 1)) % 16 = ((a + 1) % 16 + j) % 16 by omega] at this
        exact this
      · show σ.1 42 6 &&& ((1 <<< (nI c &&& 31)) ^^^ (-1)) = bts (fun x => decide (x ∈ L')) (List.range 16)
        rw [q7, bts_and _ hc]
        apply bts_congr
        intro x _
        by_cases e : x = c
        · subst e; simp [q1.1]
        · simp [e]
  · rw [if_neg (by decide)]
    have evl : ∀ n, L.length = n + 1 → (σ.1 42 4 + σ.1 42 5 - 1) - (σ.1 42 4 + σ.1 42 5 - 1) / 16 * 16 = nI ((a + n) % 16) := by
      intro n hn
      rw [q4, q5, hn, nI_add, nI_lit1, pk_sub (by omega), show a + (n + 1) - 1 = a + n by omega, show (16 : Int32) = nI 16 from rfl, pk_rem (by omega) (by decide) (by decide)]
    refine w_a_leave0 (fun z => ?_) (fun z => ?_) (fun z => k0 (hz.mp (Classical.byContradiction z)))
    · rw [hz] at z
      obtain ⟨n, hn⟩ : ∃ n, L.length = n + 1 := ⟨L.length - 1, by have := List.length_pos_iff.mpr z; omega⟩
      rw [evl n hn]
      exact vp_in_nI (Nat.mod_lt _ (by decide)) (by decide)
    · rw [hz] at z
      obtain ⟨n, hn⟩ : ∃ n, L.length = n + 1 := ⟨L.length - 1, by have := List.length_pos_iff.mpr z; omega⟩
      have h1 := List.dropLast_concat_getLast z
      obtain ⟨c, hcL⟩ : ∃ c, c = L.getLast z := ⟨_, rfl⟩
      obtain ⟨D, hD⟩ : ∃ D, D = L.dropLast := ⟨_, rfl⟩
      rw [← hcL, ← hD] at h1
      have hmr : mrest 2 L = D := by unfold mrest; rw [if_neg (by decide), hD]
      have hdl : D.length = n := by
        have := congrArg List.length h1
        rw [List.length_append, List.length_singleton, hn] at this
        omega
      have hc : c < 16 := q2 c (by rw [← h1]; simp)
      have hidx : L[n]? = some c := by rw [← h1, List.getElem?_append_right (by omega), hdl, Nat.sub_self]; rfl
      have ern : (nI ((a + n) % 16)).toNatClampNeg = (a + n) % 16 := nI_clamp (by omega)
      rw [evl n hn, ern, q6 n c hidx]
      have hnd := q1
      rw [← h1, List.nodup_append] at hnd
      rw [hmr] at k1
      refine k1 _ c (by rw [if_neg (by decide), List.getLast?_eq_some_getLast z, hcL]) ⟨fun q hq' => ?_, rfl⟩ ?_ ⟨hnd.1, fun x hx => q2 x (by rw [← h1]; exact List.mem_append_left _ hx), a, q3, ?_, ?_, fun j o hj => ?_, ?_⟩
      · show sy_up (sy_up σ.1 42 5 _) 42 6 _ q = σ.1 q
        simp only [List.mem_singleton] at hq'
        rw [sy_up_ne _ _ _ hq', sy_up_ne _ _ _ hq']
      · rfl
      · exact q4
      · show σ.1 42 5 - 1 = nI D.length
        rw [q5, hn, nI_lit1, pk_sub (by omega), hdl]
        rfl
      · show σ.1 44 ((a + j) % 16) = nI o
        refine q6 j o ?_
        rw [← h1, List.getElem?_append_left (List.getElem?_eq_some_iff.mp hj).1]
        exact hj
      · show σ.1 42 6 &&& ((1 <<< (nI c &&& 31)) ^^^ (-1)) = bts (fun x => decide (x ∈ D)) (List.range 16)
        rw [q7, bts_and _ hc]
        apply bts_congr
        intro x _
        have hm : x ∈ L ↔ x ∈ D ∨ x = c := by rw [← h1, List.mem_append, List.mem_singleton]
        by_cases e : x = c
        · subst e
          have : x ∉ D := fun h => hnd.2.2 x h x (List.mem_singleton.mpr rfl) rfl
          simp [this]
        · simp [hm, e]
theorem e_a_least {Q : Option Value → sy_S → Prop} {σ : sy_S} {G : sg_G} {H : Nat → Nat} (hg : gx G σ.1) (hH : ar σ.1 43 H) (hB : ∀ j, j < 16 → H j < 2 ^ 31) (kk : Q (some (.int (((sg_P G).find? fun c => decide (3 < H c)).elim (-1) nI))) σ) : sy_E shX mX4_leastCell (0, sy_ent [.ref 42] 3, [], σ) Q := by
  have hP := sg_P_len hg.1
  refine w_a_least_0 ?_
  have hl := sy_loop (sh := shX) (y := mX4_leastCell) (Q := Q) (fun i σ' => (2, [some (.ref 42), some (.int (nI i)), none], [], σ')) (fun i σ' => σ' = σ ∧ (sg_P G).find? (fun c => decide (3 < H c)) = ((sg_P G).drop i).find? (fun c => decide (3 < H c))) (sg_P G).length ?_ ?_ 0 σ (Nat.zero_le _) ⟨rfl, rfl⟩
  · exact hl
  · rintro i σ' hi ⟨rfl, hI⟩ ih
    obtain ⟨c, p1, p2, p3, p4, p5⟩ := gx_pl hg hi
    have ei : (nI i).toNatClampNeg = i := nI_clamp (by omega)
    have hd : (sg_P G).drop i = c :: (sg_P G).drop (i + 1) := by
      rw [List.drop_eq_getElem_cons hi]
      rw [List.getElem?_eq_getElem hi] at p1
      cases p1
      rfl
    refine w_a_least_2 (fun _ => vp_in_nI (by omega) (by decide)) (fun _ => by rw [ei, p4]; exact vp_in_nI p3 (by decide)) (fun q => ?_) (fun _ q => ?_) (fun _ q => ?_)
    · rw [gx_n7 hg] at q; exact absurd q (nI_ge hi (by omega))
    · rw [ei, p5, hH c p3, show (3 : Int32) = nI 3 from rfl, nI_leI (hB c p3) (by decide)] at q
      rw [nI_1]
      refine ih σ' ⟨rfl, ?_⟩
      rw [hI, hd, List.find?_cons, decide_eq_false (show ¬ 3 < H c by omega)]
    · rw [ei, p5, hH c p3, show (3 : Int32) = nI 3 from rfl, nI_leI (hB c p3) (by decide)] at q
      rw [hI, hd, List.find?_cons, decide_eq_true (show 3 < H c by omega)] at kk
      rw [ei, p4]
      exact kk
  · rintro σ' ⟨rfl, hI⟩
    rw [hI, List.drop_length] at kk
    refine w_a_least_2 (fun q => ?_) (fun q => ?_) (fun _ => kk) (fun q => ?_) (fun q => ?_)
    all_goals exact absurd (by rw [gx_n7 hg]; exact nI_le (Nat.le_refl _) (by omega)) q
theorem e_a_tall {Q : Option Value → sy_S → Prop} {σ : sy_S} {G : sg_G} {H : Nat → Nat} (hg : gx G σ.1) (hH : ar σ.1 43 H) (hB : ∀ j, j < 16 → H j < 2 ^ 31) (kk : Q (some (.int (((sg_P G).foldl (mtall H) none).elim (-1) nI))) σ) : sy_E shX mX4_tallestCell (0, sy_ent [.ref 42] 5, [], σ) Q := by
  have hP := sg_P_len hg.1
  refine w_a_tall_0 ?_
  refine sx_fold (sg_P G) (fun l i => (6, [some (.ref 42), some (.int ((l.foldl (mtall H) none).elim (-1) nI)), some (.int ((l.foldl (mtall H) none).elim 3 (fun d => nI (H d)))), some (.int (nI i)), none], [], σ)) ?_ ?_
  · intro i c hc ih
    have hi := (List.getElem?_eq_some_iff.mp hc).1
    obtain ⟨c', p1, p2, p3, p4, p5⟩ := gx_pl hg hi
    rw [hc] at p1; cases p1
    have ei : (nI i).toNatClampNeg = i := nI_clamp (by omega)
    rw [List.foldl_append] at ih
    have hpl : ∀ d, ((sg_P G).take i).foldl (mtall H) none = some d → d < 16 := by
      intro d hd
      have := (mtall_fold (G := G) (H := H) ((sg_P G).take i) (fun x hx => sg_P_mem.mp (List.mem_of_mem_take hx)) none (fun d hd => by cases hd)).1 d hd
      exact Nat.lt_of_lt_of_le this.1.1 (sg_n16 hg.1)
    generalize hb : ((sg_P G).take i).foldl (mtall H) none = b at ih hpl
    refine w_a_tall_6 (fun _ => vp_in_nI (by omega) (by decide)) (fun _ => by rw [ei, p4]; exact vp_in_nI p3 (by decide)) (fun q => ?_) (fun _ q => ?_) (fun _ q => ?_)
    · rw [gx_n7 hg] at q; exact absurd q (nI_ge hi (by omega))
    · rw [ei, p5, hH c p3] at q
      have e : mtall H b c = b := by
        cases b with
        | none =>
          have q : nI (H c) ≤ nI 3 := q
          rw [nI_leI (hB c p3) (by decide)] at q
          show (if 3 < H c then some c else none) = none
          rw [if_neg (by omega)]
        | some d =>
          have q : nI (H c) ≤ nI (H d) := q
          rw [nI_leI (hB c p3) (hB d (hpl d rfl))] at q
          show (if H d < H c then some c else some d) = some d
          rw [if_neg (by omega)]
      simp only [List.foldl_cons, List.foldl_nil, e] at ih
      rw [nI_1]
      exact ih
    · rw [ei, p5, hH c p3] at q
      have e : mtall H b c = some c := by
        cases b with
        | none =>
          have q : ¬ nI (H c) ≤ nI 3 := q
          rw [nI_leI (hB c p3) (by decide)] at q
          show (if 3 < H c then some c else none) = some c
          rw [if_pos (by omega)]
        | some d =>
          have q : ¬ nI (H c) ≤ nI (H d) := q
          rw [nI_leI (hB c p3) (hB d (hpl d rfl))] at q
          show (if H d < H c then some c else some d) = some c
          rw [if_pos (by omega)]
      simp only [List.foldl_cons, List.foldl_nil, e] at ih
      rw [nI_1, ei, p5, p4, hH c p3]
      exact ih
  · refine w_a_tall_6 (fun q => ?_) (fun q => ?_) (fun _ => kk) (fun q => ?_) (fun q => ?_)
    all_goals exact absurd (by rw [gx_n7 hg]; exact nI_le (Nat.le_refl _) (by omega)) q
theorem e_a_chosen {Q : Option Value → sy_S → Prop} {σ : sy_S} {G : sg_G} {o : Nat} {H : Nat → Nat} {L : List Nat} (ho : o < 4) (hg : gx G σ.1) (hm : mx 42 o H L σ.1) (hB : ∀ j, j < 16 → H j < 2 ^ 31) (k0 : mpick G o H L = none → Q (some (.int (-1))) σ) (k1 : ∀ (σ' : sy_S) (c : Nat), mpick G o H L = some c → sx [42] σ σ' → mx 42 o H (if o = 1 ∨ o = 2 then mrest o L else L) σ'.1 → Q (some (.int (nI c))) σ') : sy_E shX mX4_chosen (0, sy_ent [.ref 42] 1, [], σ) Q := by
  obtain ⟨m1, m2, m3⟩ := id hm
  match o, ho, m2, m3, k0, k1, hm with
  | 0, _, m2, m3, k0, k1, hm =>
    refine w_a_chosen_0 (fun _ => ?_) (fun q => absurd m2 q) (fun q => absurd m2 q) (fun q => absurd m2 q)
    refine e_a_least hg m1 hB (w_a_chosen_36 ?_)
    cases hp : (sg_P G).find? (fun c => decide (3 < H c)) with
    | none => exact k0 hp
    | some c => exact k1 σ c hp sx.rf hm
  | 1, _, m2, m3, k0, k1, hm =>
    refine w_a_chosen_0 (fun q => ?_) (fun _ _ => ?_) (fun _ q => absurd m2 q) (fun _ q => absurd m2 q)
    · rw [m2] at q; exact absurd q (by decide)
    · refine e_a_leave (o := 1) (Or.inl rfl) (m3 (Or.inl rfl)) (fun e => w_a_chosen_42 (k0 ?_)) (fun σ' c hc h1 h2 h3 => w_a_chosen_42 (k1 σ' c hc h1 ⟨fun j hj => ?_, by rw [h2]; exact m2, fun _ => h3⟩))
      · rw [e]; rfl
      · rw [h1.1 43 (by decide)]; exact m1 j hj
  | 2, _, m2, m3, k0, k1, hm =>
    refine w_a_chosen_0 (fun q => ?_) (fun _ q => ?_) (fun _ _ _ => ?_) (fun _ _ q => absurd m2 q)
    · rw [m2] at q; exact absurd q (by decide)
    · rw [m2] at q; exact absurd q (by decide)
    · refine e_a_leave (o := 2) (Or.inr rfl) (m3 (Or.inr rfl)) (fun e => w_a_chosen_48 (k0 ?_)) (fun σ' c hc h1 h2 h3 => w_a_chosen_48 (k1 σ' c hc h1 ⟨fun j hj => ?_, by rw [h2]; exact m2, fun _ => h3⟩))
      · rw [e]; rfl
      · rw [h1.1 43 (by decide)]; exact m1 j hj
  | 3, _, m2, m3, k0, k1, hm =>
    refine w_a_chosen_0 (fun q => ?_) (fun _ q => ?_) (fun _ _ q => ?_) (fun _ _ _ => ?_)
    · rw [m2] at q; exact absurd q (by decide)
    · rw [m2] at q; exact absurd q (by decide)
    · rw [m2] at q; exact absurd q (by decide)
    · refine e_a_tall hg m1 hB (w_a_chosen_53 ?_)
      cases hp : (sg_P G).foldl (mtall H) none with
      | none => exact k0 hp
      | some c => exact k1 σ c hp sx.rf hm
theorem e_a_lines {Q : Option Value → sy_S → Prop} {H : Nat → Nat} (σ : sy_S) (cf : Nat → sy_S → sy_Cf) (cg : Nat → Option Value → sy_S → sy_Cf) (y : sy_M) (l : List Nat) (hl : ∀ c, c ∈ l → c < 16) (hB : ∀ j, j < 16 → H j < 2 ^ 31) (o : Nat) (L0 : List Nat)
    (step : ∀ (i : Nat) (σ' : sy_S) (c : Nat), l[i]? = some c → sx [42, 44] σ σ' → sy_E shX mX4_lineUp (0, sy_ent [.ref 42, .int (nI c)] 3, [], σ') (fun r9 σ9 => sy_E shX y (cg i r9 σ9) Q) → sy_E shX y (cf i σ') Q)
    (step2 : ∀ (i : Nat) (σ' : sy_S), sy_E shX y (cf (i + 1) σ') Q → sy_E shX y (cg i none σ') Q)
    (exit : ∀ σ' : sy_S, sx [42, 44] σ σ' → mx 42 o H (l.foldl (mline H) L0) σ'.1 → sy_E shX y (cf l.length σ') Q) (ho : o = 1 ∨ o = 2) (h0 : mx 42 o H L0 σ.1) : sy_E shX y (cf 0 σ) Q := by
  have key : ∀ (d i : Nat) (σ' : sy_S), i + d = l.length → sx [42, 44] σ σ' → mx 42 o H ((l.take i).foldl (mline H) L0) σ'.1 → sy_E shX y (cf i σ') Q := by
    intro d
    induction d with
    | zero =>
      intro i σ' hi hs hm
      have e : i = l.length := hi
      subst e
      rw [List.take_length] at hm
      exact exit σ' hs hm
    | succ d ih =>
      intro i σ' hi hs hm
      have hil : i < l.length := by omega
      have h1 : l[i]? = some l[i] := List.getElem?_eq_getElem hil
      refine step i σ' _ h1 hs ?_
      have hc := hl _ (List.mem_of_getElem? h1)
      refine e_a_lineUp hc hm.1 (hB _ hc) (hm.2.2 ho) (fun σ2 g1 g2 g3 => step2 i σ2 ?_)
      refine ih (i + 1) σ2 (by omega) (hs.tr g1) ⟨fun j hj => ?_, by rw [g2]; exact hm.2.1, fun _ => ?_⟩
      · rw [g1.1 43 (by decide)]; exact hm.1 j hj
      · rw [List.take_succ, h1]
        show mq 42 σ2.1 ((l.take i ++ [l[i]]).foldl (mline H) L0)
        rw [List.foldl_append]
        exact g3
  exact key l.length 0 σ (by omega) sx.rf (by rw [List.take_zero]; exact h0)
theorem e_a_mbegin {Q : Option Value → sy_S → Prop} {σ : sy_S} {G : sg_G} {o k : Nat} {h : Nat → Nat} (hk : shX[k]? = some (0, 16, [])) (ho : o < 4) (hg : gx G σ.1) (hh : ar σ.1 k h) (hB : ∀ j, j < 16 → h j < 2 ^ 31) (kk : ∀ σ' : sy_S, sx [42, 43, 44] σ σ' → mx 42 o (m0 G o h).1 (m0 G o h).2 σ'.1 → Q none σ') : sy_E shX mX4_begin (0, sy_ent [.ref 42, .ref k, .int (nI o)] 4, [], σ) Q := by
  have hP := sg_P_len hg.1
  obtain ⟨σ1, hσ1⟩ : ∃ s : sy_S, s = (sy_up (sy_up (sy_up (sy_up (sy_cp σ.1 k 43 16) 42 3 (nI o)) 42 4 0) 42 5 0) 42 6 0, σ.2) := ⟨_, rfl⟩
  have hs1 : sx [42, 43, 44] σ σ1 := by
    rw [hσ1]
    refine ⟨fun q hq => ?_, rfl⟩
    simp only [List.mem_cons, List.not_mem_nil, or_false, not_or] at hq
    show sy_up (sy_up (sy_up (sy_up (sy_cp σ.1 k 43 16) 42 3 (nI o)) 42 4 0) 42 5 0) 42 6 0 q = _
    rw [sy_up_ne _ _ _ hq.1, sy_up_ne _ _ _ hq.1, sy_up_ne _ _ _ hq.1, sy_up_ne _ _ _ hq.1, sy_cp_ne _ _ _ hq.2.1]
  have hm1 : mx 42 o h [] σ1.1 := by
    rw [hσ1]
    refine ⟨fun j hj => ?_, ?_, fun _ => ⟨by simp, fun c hc => absurd hc List.not_mem_nil, 0, by decide, ?_, ?_, fun j o hj => by simp at hj, ?_⟩⟩
    · show sy_up (sy_up (sy_up (sy_up (sy_cp σ.1 k 43 16) 42 3 (nI o)) 42 4 0) 42 5 0) 42 6 0 43 j = _
      rw [sy_up_ne _ _ _ (by decide), sy_up_ne _ _ _ (by decide), sy_up_ne _ _ _ (by decide), sy_up_ne _ _ _ (by decide), sy_cp_self, pk_cpy_in (Nat.zero_le _) (by omega), show 0 + (j - 0) = j by omega]
      exact hh j hj
    · show sy_up (sy_up (sy_up (sy_up (sy_cp σ.1 k 43 16) 42 3 (nI o)) 42 4 0) 42 5 0) 42 6 0 42 3 = _
      rw [sy_up2, if_neg (by omega), sy_up2, if_neg (by omega), sy_up2, if_neg (by omega), sy_up2, if_pos ⟨rfl, rfl⟩]
    · show sy_up (sy_up (sy_up (sy_up (sy_cp σ.1 k 43 16) 42 3 (nI o)) 42 4 0) 42 5 0) 42 6 0 42 4 = _
      rw [sy_up2, if_neg (by omega), sy_up2, if_neg (by omega), sy_up2, if_pos ⟨rfl, rfl⟩]; rfl
    · show sy_up (sy_up (sy_up (sy_up (sy_cp σ.1 k 43 16) 42 3 (nI o)) 42 4 0) 42 5 0) 42 6 0 42 5 = _
      rw [sy_up2, if_neg (by omega), sy_up2, if_pos ⟨rfl, rfl⟩]; rfl
    · show sy_up (sy_up (sy_up (sy_up (sy_cp σ.1 k 43 16) 42 3 (nI o)) 42 4 0) 42 5 0) 42 6 0 42 6 = _
      rw [sy_up2, if_pos ⟨rfl, rfl⟩]
      exact ((bts_zero _ (by decide)).mpr (fun i _ => by simp)).symm
  have hg1 : gx G σ1.1 := hs1.gx hg (by decide)
  have loop : (o = 1 ∨ o = 2) → sy_E shX mX4_begin (50, [some (.ref 42), none, none, some (.int 0)], [], σ1) Q := by
    intro ho2
    refine e_a_lines (H := h) σ1 (fun i σ' => (50, [some (.ref 42), none, none, some (.int (nI i))], [], σ')) (fun i r9 σ9 => (73, [some (.ref 42), none, none, some (.int (nI i))], r9.toList ++ [], σ9)) mX4_begin (sg_P G) (fun c hc => Nat.lt_of_lt_of_le (sg_P_mem.mp hc).1 (sg_n16 hg.1)) hB o [] (fun i σ' c hc hs ih => ?_) (fun i σ' hz => w_a_begin_73 (by rw [nI_1]; exact hz)) (fun σ' hs hm => ?_) ho2 hm1
    · have hi := (List.getElem?_eq_some_iff.mp hc).1
      have hg' : gx G σ'.1 := hs.gx hg1 (by decide)
      obtain ⟨c', p1, p2, p3, p4, p5⟩ := gx_pl hg' hi
      rw [hc] at p1; cases p1
      have ei : (nI i).toNatClampNeg = i := nI_clamp (by omega)
      refine w_a_begin_50 (fun _ => vp_in_nI (by omega) (by decide)) (fun q => ?_) (fun _ => ?_)
      · rw [gx_n7 hg'] at q; exact absurd q (nI_ge hi (by omega))
      · rw [ei, p4]
        exact ih
    · have hg' : gx G σ'.1 := hs.gx hg1 (by decide)
      refine w_a_begin_50 (fun q => ?_) (fun _ => ?_) (fun q => ?_)
      · exact absurd (by rw [gx_n7 hg']; exact nI_le (Nat.le_refl _) (by omega)) q
      · refine kk σ' (hs1.tr (hs.mono (by simp))) ?_
        unfold m0
        rw [if_pos ho2]
        exact hm
      · exact absurd (by rw [gx_n7 hg']; exact nI_le (Nat.le_refl _) (by omega)) q
  have none2 : ¬ (o = 1 ∨ o = 2) → Q none σ1 := by
    intro ho2
    refine kk σ1 hs1 ?_
    unfold m0
    rw [if_neg ho2]
    exact hm1
  refine w_a_begin_0 hk (fun q => ?_) (fun q q2 => ?_) (fun q q2 => ?_)
  · rw [nI_lit1, nI_eq (by omega) (by decide)] at q
    rw [← hσ1]
    exact loop (Or.inl q)
  · rw [nI_lit1, nI_eq (by omega) (by decide)] at q
    rw [show (2 : Int32) = nI 2 from rfl, nI_eq (by omega) (by decide)] at q2
    rw [← hσ1]
    exact none2 (by omega)
  · rw [show (2 : Int32) = nI 2 from rfl, nI_eq (by omega) (by decide)] at q2
    rw [← hσ1]
    exact loop (Or.inr (Classical.byContradiction q2))

theorem e_b_lineUp {Q : Option Value → sy_S → Prop} {σ : sy_S} {c : Nat} {H : Nat → Nat} {L : List Nat} (hc : c < 16) (hH : ar σ.1 46 H) (hB : H c < 2 ^ 31) (hq : mq 45 σ.1 L) (kk : ∀ σ' : sy_S, sx [45, 47] σ σ' → σ'.1 45 3 = σ.1 45 3 → mq 45 σ'.1 (mline H L c) → Q none σ') : sy_E shX mX4_lineUp (0, sy_ent [.ref 45, .int (nI c)] 3, [], σ) Q := by
  obtain ⟨q1, q2, a, q3, q4, q5, q6, q7⟩ := id hq
  have ec : (nI c).toNatClampNeg = c := nI_clamp (by omega)
  have hl16 := nodup_len 16 L q1 q2
  have et : (((σ.1 45 6) >>> (nI c &&& 31)) &&& 1) = 0 ↔ c ∉ L := by
    rw [q7, bts_test _ (by decide) hc]
    simp [hc]
  have eix : (σ.1 45 4 + σ.1 45 5) - (σ.1 45 4 + σ.1 45 5) / 16 * 16 = nI ((a + L.length) % 16) := by
    rw [q4, q5, nI_add, show (16 : Int32) = nI 16 from rfl, pk_rem (by omega) (by decide) (by decide)]
  have hm := Nat.mod_lt (a + L.length) (show 0 < 16 by decide)
  refine w_b_lineUp (fun _ => vp_in_nI hc (by decide)) (fun _ _ => by rw [eix]; exact vp_in_nI hm (by decide)) (fun z z2 => ?_) (fun z z2 => ?_) (fun z => ?_)
  · rw [et] at z
    rw [ec, hH c hc, show (3 : Int32) = nI 3 from rfl, nI_leI hB (by decide)] at z2
    refine kk σ sx.rf rfl ?_
    unfold mline
    rw [if_neg (by omega)]
    exact hq
  · rw [et] at z
    rw [ec, hH c hc, show (3 : Int32) = nI 3 from rfl, nI_leI hB (by decide)] at z2
    have hlen : L.length < 16 := by
      have h1 := nodup_len 16 (c :: L) (List.nodup_cons.mpr ⟨z, q1⟩) (fun x hx => (List.mem_cons.mp hx).elim (fun e => e ▸ hc) (q2 x))
      rw [List.length_cons] at h1
      omega
    rw [eix, nI_clamp (show (a + L.length) % 16 < 2 ^ 31 by omega)]
    refine kk _ ⟨fun q hq' => ?_, rfl⟩ ?_ ?_
    · show sy_up (sy_up (sy_up σ.1 47 _ _) 45 5 _) 45 6 _ q = σ.1 q
      simp only [List.mem_cons, List.not_mem_nil, or_false, not_or] at hq'
      rw [sy_up_ne _ _ _ hq'.1, sy_up_ne _ _ _ hq'.1, sy_up_ne _ _ _ hq'.2]
    · rfl
    · unfold mline
      rw [if_pos ⟨z, by omega⟩]
      refine ⟨?_, ?_, a, q3, ?_, ?_, fun j o hj => ?_, ?_⟩
      · rw [List.nodup_append]
        exact ⟨q1, by simp, fun x hx y hy => by rw [List.mem_singleton] at hy; subst hy; exact fun e => z (e ▸ hx)⟩
      · intro x hx
        rcases List.mem_append.mp hx with h | h
        · exact q2 x h
        · rw [List.mem_singleton] at h; subst h; exact hc
      · exact q4
      · show σ.1 45 5 + 1 = _
        rw [q5, nI_1, List.length_append, List.length_singleton]
      · show sy_up σ.1 47 ((a + L.length) % 16) (nI c) 47 ((a + j) % 16) = _
        rw [sy_up2]
        rw [List.getElem?_append] at hj
        split at hj
        · rename_i hlt
          rw [if_neg (by omega)]
          exact q6 j o hj
        · rename_i hge
          have hz : j - L.length = 0 := by
            rcases Nat.eq_zero_or_pos (j - L.length) with q | q
            · exact q
            · rw [List.getElem?_eq_none (by simp only [List.length_singleton]; omega)] at hj; cases hj
          rw [hz] at hj
          cases hj
          rw [if_pos ⟨rfl, by rw [show j = L.length by omega]⟩]
      · show σ.1 45 6 ||| (1 <<< (nI c &&& 31)) = _
        rw [q7, bts_or _ hc]
        apply bts_congr
        intro x _
        simp [List.mem_append]
  · rw [et] at z
    refine kk σ sx.rf rfl ?_
    unfold mline
    rw [if_neg (fun q => z q.1)]
    exact hq
theorem e_b_leave {Q : Option Value → sy_S → Prop} {σ : sy_S} {o : Nat} {L : List Nat} (ho : o = 1 ∨ o = 2) (hq : mq 45 σ.1 L) (k0 : L = [] → Q (some (.int (-1))) σ) (k1 : ∀ (σ' : sy_S) (c : Nat), (if o = 1 then L.head? else L.getLast?) = some c → sx [45] σ σ' → σ'.1 45 3 = σ.1 45 3 → mq 45 σ'.1 (mrest o L) → Q (some (.int (nI c))) σ') : sy_E shX mX4_leave (0, sy_ent [.ref 45, .int (if o = 1 then 1 else 0)] 3, [], σ) Q := by
  obtain ⟨q1, q2, a, q3, q4, q5, q6, q7⟩ := id hq
  have hl16 := nodup_len 16 L q1 q2
  have hz : σ.1 45 5 = 0 ↔ L = [] := by
    rw [q5, nI_lit0, nI_eq (by omega) (by decide)]
    exact List.length_eq_zero_iff
  rcases ho with rfl | rfl
  · rw [if_pos rfl]
    refine w_b_leave1 (fun _ => by rw [q4]; exact vp_in_nI q3 (by decide)) (fun z => ?_) (fun z => k0 (hz.mp (Classical.byContradiction z)))
    rw [hz] at z
    match L, z, q1, q2, q5, q6, q7, k1, hl16 with
    | c :: L', _, q1, q2, q5, q6, q7, k1, hl16 =>
      have hc : c < 16 := q2 c List.mem_cons_self
      have e0 : σ.1 47 ((σ.1 45 4).toNatClampNeg) = nI c := by
        rw [q4, nI_clamp (by omega)]
        have := q6 0 c rfl
        rw [show (a + 0) % 16 = a by omega] at this
        exact this
      have ef : (σ.1 45 4 + 1) - (σ.1 45 4 + 1) / 16 * 16 = nI ((a + 1) % 16) := by
        rw [q4, nI_1, show (16 : Int32) = nI 16 from rfl, pk_rem (by omega) (by decide) (by decide)]
      rw [e0, ef]
      rw [List.nodup_cons] at q1
      refine k1 _ c rfl ⟨fun q hq' => ?_, rfl⟩ ?_ ⟨q1.2, fun x hx => q2 x (List.mem_cons_of_mem _ hx), (a + 1) % 16, Nat.mod_lt _ (by decide), ?_, ?_, fun j o hj => ?_, ?_⟩
      · show sy_up (sy_up (sy_up σ.1 45 4 _) 45 5 _) 45 6 _ q = σ.1 q
        simp only [List.mem_singleton] at hq'
        rw [sy_up_ne _ _ _ hq', sy_up_ne _ _ _ hq', sy_up_ne _ _ _ hq']
      · rfl
      · rfl
      · show σ.1 45 5 - 1 = nI L'.length
        rw [q5, nI_lit1, pk_sub (by simp), List.length_cons, Nat.add_sub_cancel]
      · show σ.1 47 (((a + 1) % 16 + j) % 16) = nI o
        have := q6 (j + 1) o hj
        rw [show (a + (j + 1)) % 16 = ((a + 1) % 16 + j) % 16 by omega] at this
        exact this
      · show σ.1 45 6 &&& ((1 <<< (nI c &&& 31)) ^^^ (-1)) = bts (fun x => decide (x ∈ L')) (List.range 16)
        rw [q7, bts_and _ hc]
        apply bts_congr
        intro x _
        by_cases e : x = c
        · subst e; simp [q1.1]
        · simp [e]
  · rw [if_neg (by decide)]
    have evl : ∀ n, L.length = n + 1 → (σ.1 45 4 + σ.1 45 5 - 1) - (σ.1 45 4 + σ.1 45 5 - 1) / 16 * 16 = nI ((a + n) % 16) := by
      intro n hn
      rw [q4, q5, hn, nI_add, nI_lit1, pk_sub (by omega), show a + (n + 1) - 1 = a + n by omega, show (16 : Int32) = nI 16 from rfl, pk_rem (by omega) (by decide) (by decide)]
    refine w_b_leave0 (fun z => ?_) (fun z => ?_) (fun z => k0 (hz.mp (Classical.byContradiction z)))
    · rw [hz] at z
      obtain ⟨n, hn⟩ : ∃ n, L.length = n + 1 := ⟨L.length - 1, by have := List.length_pos_iff.mpr z; omega⟩
      rw [evl n hn]
      exact vp_in_nI (Nat.mod_lt _ (by decide)) (by decide)
    · rw [hz] at z
      obtain ⟨n, hn⟩ : ∃ n, L.length = n + 1 := ⟨L.length - 1, by have := List.length_pos_iff.mpr z; omega⟩
      have h1 := List.dropLast_concat_getLast z
      obtain ⟨c, hcL⟩ : ∃ c, c = L.getLast z := ⟨_, rfl⟩
      obtain ⟨D, hD⟩ : ∃ D, D = L.dropLast := ⟨_, rfl⟩
      rw [← hcL, ← hD] at h1
      have hmr : mrest 2 L = D := by unfold mrest; rw [if_neg (by decide), hD]
      have hdl : D.length = n := by
        have := congrArg List.length h1
        rw [List.length_append, List.length_singleton, hn] at this
        omega
      have hc : c < 16 := q2 c (by rw [← h1]; simp)
      have hidx : L[n]? = some c := by rw [← h1, List.getElem?_append_right (by omega), hdl, Nat.sub_self]; rfl
      have ern : (nI ((a + n) % 16)).toNatClampNeg = (a + n) % 16 := nI_clamp (by omega)
      rw [evl n hn, ern, q6 n c hidx]
      have hnd := q1
      rw [← h1, List.nodup_append] at hnd
      rw [hmr] at k1
      refine k1 _ c (by rw [if_neg (by decide), List.getLast?_eq_some_getLast z, hcL]) ⟨fun q hq' => ?_, rfl⟩ ?_ ⟨hnd.1, fun x hx => q2 x (by rw [← h1]; exact List.mem_append_left _ hx), a, q3, ?_, ?_, fun j o hj => ?_, ?_⟩
      · show sy_up (sy_up σ.1 45 5 _) 45 6 _ q = σ.1 q
        simp only [List.mem_singleton] at hq'
        rw [sy_up_ne _ _ _ hq', sy_up_ne _ _ _ hq']
      · rfl
      · exact q4
      · show σ.1 45 5 - 1 = nI D.length
        rw [q5, hn, nI_lit1, pk_sub (by omega), hdl]
        rfl
      · show σ.1 47 ((a + j) % 16) = nI o
        refine q6 j o ?_
        rw [← h1, List.getElem?_append_left (List.getElem?_eq_some_iff.mp hj).1]
        exact hj
      · show σ.1 45 6 &&& ((1 <<< (nI c &&& 31)) ^^^ (-1)) = bts (fun x => decide (x ∈ D)) (List.range 16)
        rw [q7, bts_and _ hc]
        apply bts_congr
        intro x _
        have hm : x ∈ L ↔ x ∈ D ∨ x = c := by rw [← h1, List.mem_append, List.mem_singleton]
        by_cases e : x = c
        · subst e
          have : x ∉ D := fun h => hnd.2.2 x h x (List.mem_singleton.mpr rfl) rfl
          simp [this]
        · simp [hm, e]
theorem e_b_least {Q : Option Value → sy_S → Prop} {σ : sy_S} {G : sg_G} {H : Nat → Nat} (hg : gx G σ.1) (hH : ar σ.1 46 H) (hB : ∀ j, j < 16 → H j < 2 ^ 31) (kk : Q (some (.int (((sg_P G).find? fun c => decide (3 < H c)).elim (-1) nI))) σ) : sy_E shX mX4_leastCell (0, sy_ent [.ref 45] 3, [], σ) Q := by
  have hP := sg_P_len hg.1
  refine w_b_least_0 ?_
  have hl := sy_loop (sh := shX) (y := mX4_leastCell) (Q := Q) (fun i σ' => (2, [some (.ref 45), some (.int (nI i)), none], [], σ')) (fun i σ' => σ' = σ ∧ (sg_P G).find? (fun c => decide (3 < H c)) = ((sg_P G).drop i).find? (fun c => decide (3 < H c))) (sg_P G).length ?_ ?_ 0 σ (Nat.zero_le _) ⟨rfl, rfl⟩
  · exact hl
  · rintro i σ' hi ⟨rfl, hI⟩ ih
    obtain ⟨c, p1, p2, p3, p4, p5⟩ := gx_pl hg hi
    have ei : (nI i).toNatClampNeg = i := nI_clamp (by omega)
    have hd : (sg_P G).drop i = c :: (sg_P G).drop (i + 1) := by
      rw [List.drop_eq_getElem_cons hi]
      rw [List.getElem?_eq_getElem hi] at p1
      cases p1
      rfl
    refine w_b_least_2 (fun _ => vp_in_nI (by omega) (by decide)) (fun _ => by rw [ei, p4]; exact vp_in_nI p3 (by decide)) (fun q => ?_) (fun _ q => ?_) (fun _ q => ?_)
    · rw [gx_n7 hg] at q; exact absurd q (nI_ge hi (by omega))
    · rw [ei, p5, hH c p3, show (3 : Int32) = nI 3 from rfl, nI_leI (hB c p3) (by decide)] at q
      rw [nI_1]
      refine ih σ' ⟨rfl, ?_⟩
      rw [hI, hd, List.find?_cons, decide_eq_false (show ¬ 3 < H c by omega)]
    · rw [ei, p5, hH c p3, show (3 : Int32) = nI 3 from rfl, nI_leI (hB c p3) (by decide)] at q
      rw [hI, hd, List.find?_cons, decide_eq_true (show 3 < H c by omega)] at kk
      rw [ei, p4]
      exact kk
  · rintro σ' ⟨rfl, hI⟩
    rw [hI, List.drop_length] at kk
    refine w_b_least_2 (fun q => ?_) (fun q => ?_) (fun _ => kk) (fun q => ?_) (fun q => ?_)
    all_goals exact absurd (by rw [gx_n7 hg]; exact nI_le (Nat.le_refl _) (by omega)) q
theorem e_b_tall {Q : Option Value → sy_S → Prop} {σ : sy_S} {G : sg_G} {H : Nat → Nat} (hg : gx G σ.1) (hH : ar σ.1 46 H) (hB : ∀ j, j < 16 → H j < 2 ^ 31) (kk : Q (some (.int (((sg_P G).foldl (mtall H) none).elim (-1) nI))) σ) : sy_E shX mX4_tallestCell (0, sy_ent [.ref 45] 5, [], σ) Q := by
  have hP := sg_P_len hg.1
  refine w_b_tall_0 ?_
  refine sx_fold (sg_P G) (fun l i => (6, [some (.ref 45), some (.int ((l.foldl (mtall H) none).elim (-1) nI)), some (.int ((l.foldl (mtall H) none).elim 3 (fun d => nI (H d)))), some (.int (nI i)), none], [], σ)) ?_ ?_
  · intro i c hc ih
    have hi := (List.getElem?_eq_some_iff.mp hc).1
    obtain ⟨c', p1, p2, p3, p4, p5⟩ := gx_pl hg hi
    rw [hc] at p1; cases p1
    have ei : (nI i).toNatClampNeg = i := nI_clamp (by omega)
    rw [List.foldl_append] at ih
    have hpl : ∀ d, ((sg_P G).take i).foldl (mtall H) none = some d → d < 16 := by
      intro d hd
      have := (mtall_fold (G := G) (H := H) ((sg_P G).take i) (fun x hx => sg_P_mem.mp (List.mem_of_mem_take hx)) none (fun d hd => by cases hd)).1 d hd
      exact Nat.lt_of_lt_of_le this.1.1 (sg_n16 hg.1)
    generalize hb : ((sg_P G).take i).foldl (mtall H) none = b at ih hpl
    refine w_b_tall_6 (fun _ => vp_in_nI (by omega) (by decide)) (fun _ => by rw [ei, p4]; exact vp_in_nI p3 (by decide)) (fun q => ?_) (fun _ q => ?_) (fun _ q => ?_)
    · rw [gx_n7 hg] at q; exact absurd q (nI_ge hi (by omega))
    · rw [ei, p5, hH c p3] at q
      have e : mtall H b c = b := by
        cases b with
        | none =>
          have q : nI (H c) ≤ nI 3 := q
          rw [nI_leI (hB c p3) (by decide)] at q
          show (if 3 < H c then some c else none) = none
          rw [if_neg (by omega)]
        | some d =>
          have q : nI (H c) ≤ nI (H d) := q
          rw [nI_leI (hB c p3) (hB d (hpl d rfl))] at q
          show (if H d < H c then some c else some d) = some d
          rw [if_neg (by omega)]
      simp only [List.foldl_cons, List.foldl_nil, e] at ih
      rw [nI_1]
      exact ih
    · rw [ei, p5, hH c p3] at q
      have e : mtall H b c = some c := by
        cases b with
        | none =>
          have q : ¬ nI (H c) ≤ nI 3 := q
          rw [nI_leI (hB c p3) (by decide)] at q
          show (if 3 < H c then some c else none) = some c
          rw [if_pos (by omega)]
        | some d =>
          have q : ¬ nI (H c) ≤ nI (H d) := q
          rw [nI_leI (hB c p3) (hB d (hpl d rfl))] at q
          show (if H d < H c then some c else some d) = some c
          rw [if_pos (by omega)]
      simp only [List.foldl_cons, List.foldl_nil, e] at ih
      rw [nI_1, ei, p5, p4, hH c p3]
      exact ih
  · refine w_b_tall_6 (fun q => ?_) (fun q => ?_) (fun _ => kk) (fun q => ?_) (fun q => ?_)
    all_goals exact absurd (by rw [gx_n7 hg]; exact nI_le (Nat.le_refl _) (by omega)) q
theorem e_b_chosen {Q : Option Value → sy_S → Prop} {σ : sy_S} {G : sg_G} {o : Nat} {H : Nat → Nat} {L : List Nat} (ho : o < 4) (hg : gx G σ.1) (hm : mx 45 o H L σ.1) (hB : ∀ j, j < 16 → H j < 2 ^ 31) (k0 : mpick G o H L = none → Q (some (.int (-1))) σ) (k1 : ∀ (σ' : sy_S) (c : Nat), mpick G o H L = some c → sx [45] σ σ' → mx 45 o H (if o = 1 ∨ o = 2 then mrest o L else L) σ'.1 → Q (some (.int (nI c))) σ') : sy_E shX mX4_chosen (0, sy_ent [.ref 45] 1, [], σ) Q := by
  obtain ⟨m1, m2, m3⟩ := id hm
  match o, ho, m2, m3, k0, k1, hm with
  | 0, _, m2, m3, k0, k1, hm =>
    refine w_b_chosen_0 (fun _ => ?_) (fun q => absurd m2 q) (fun q => absurd m2 q) (fun q => absurd m2 q)
    refine e_b_least hg m1 hB (w_b_chosen_36 ?_)
    cases hp : (sg_P G).find? (fun c => decide (3 < H c)) with
    | none => exact k0 hp
    | some c => exact k1 σ c hp sx.rf hm
  | 1, _, m2, m3, k0, k1, hm =>
    refine w_b_chosen_0 (fun q => ?_) (fun _ _ => ?_) (fun _ q => absurd m2 q) (fun _ q => absurd m2 q)
    · rw [m2] at q; exact absurd q (by decide)
    · refine e_b_leave (o := 1) (Or.inl rfl) (m3 (Or.inl rfl)) (fun e => w_b_chosen_42 (k0 ?_)) (fun σ' c hc h1 h2 h3 => w_b_chosen_42 (k1 σ' c hc h1 ⟨fun j hj => ?_, by rw [h2]; exact m2, fun _ => h3⟩))
      · rw [e]; rfl
      · rw [h1.1 46 (by decide)]; exact m1 j hj
  | 2, _, m2, m3, k0, k1, hm =>
    refine w_b_chosen_0 (fun q => ?_) (fun _ q => ?_) (fun _ _ _ => ?_) (fun _ _ q => absurd m2 q)
    · rw [m2] at q; exact absurd q (by decide)
    · rw [m2] at q; exact absurd q (by decide)
    · refine e_b_leave (o := 2) (Or.inr rfl) (m3 (Or.inr rfl)) (fun e => w_b_chosen_48 (k0 ?_)) (fun σ' c hc h1 h2 h3 => w_b_chosen_48 (k1 σ' c hc h1 ⟨fun j hj => ?_, by rw [h2]; exact m2, fun _ => h3⟩))
      · rw [e]; rfl
      · rw [h1.1 46 (by decide)]; exact m1 j hj
  | 3, _, m2, m3, k0, k1, hm =>
    refine w_b_chosen_0 (fun q => ?_) (fun _ q => ?_) (fun _ _ q => ?_) (fun _ _ _ => ?_)
    · rw [m2] at q; exact absurd q (by decide)
    · rw [m2] at q; exact absurd q (by decide)
    · rw [m2] at q; exact absurd q (by decide)
    · refine e_b_tall hg m1 hB (w_b_chosen_53 ?_)
      cases hp : (sg_P G).foldl (mtall H) none with
      | none => exact k0 hp
      | some c => exact k1 σ c hp sx.rf hm
theorem e_b_lines {Q : Option Value → sy_S → Prop} {H : Nat → Nat} (σ : sy_S) (cf : Nat → sy_S → sy_Cf) (cg : Nat → Option Value → sy_S → sy_Cf) (y : sy_M) (l : List Nat) (hl : ∀ c, c ∈ l → c < 16) (hB : ∀ j, j < 16 → H j < 2 ^ 31) (o : Nat) (L0 : List Nat)
    (step : ∀ (i : Nat) (σ' : sy_S) (c : Nat), l[i]? = some c → sx [45, 47] σ σ' → sy_E shX mX4_lineUp (0, sy_ent [.ref 45, .int (nI c)] 3, [], σ') (fun r9 σ9 => sy_E shX y (cg i r9 σ9) Q) → sy_E shX y (cf i σ') Q)
    (step2 : ∀ (i : Nat) (σ' : sy_S), sy_E shX y (cf (i + 1) σ') Q → sy_E shX y (cg i none σ') Q)
    (exit : ∀ σ' : sy_S, sx [45, 47] σ σ' → mx 45 o H (l.foldl (mline H) L0) σ'.1 → sy_E shX y (cf l.length σ') Q) (ho : o = 1 ∨ o = 2) (h0 : mx 45 o H L0 σ.1) : sy_E shX y (cf 0 σ) Q := by
  have key : ∀ (d i : Nat) (σ' : sy_S), i + d = l.length → sx [45, 47] σ σ' → mx 45 o H ((l.take i).foldl (mline H) L0) σ'.1 → sy_E shX y (cf i σ') Q := by
    intro d
    induction d with
    | zero =>
      intro i σ' hi hs hm
      have e : i = l.length := hi
      subst e
      rw [List.take_length] at hm
      exact exit σ' hs hm
    | succ d ih =>
      intro i σ' hi hs hm
      have hil : i < l.length := by omega
      have h1 : l[i]? = some l[i] := List.getElem?_eq_getElem hil
      refine step i σ' _ h1 hs ?_
      have hc := hl _ (List.mem_of_getElem? h1)
      refine e_b_lineUp hc hm.1 (hB _ hc) (hm.2.2 ho) (fun σ2 g1 g2 g3 => step2 i σ2 ?_)
      refine ih (i + 1) σ2 (by omega) (hs.tr g1) ⟨fun j hj => ?_, by rw [g2]; exact hm.2.1, fun _ => ?_⟩
      · rw [g1.1 46 (by decide)]; exact hm.1 j hj
      · rw [List.take_succ, h1]
        show mq 45 σ2.1 ((l.take i ++ [l[i]]).foldl (mline H) L0)
        rw [List.foldl_append]
        exact g3
  exact key l.length 0 σ (by omega) sx.rf (by rw [List.take_zero]; exact h0)
theorem e_b_mbegin {Q : Option Value → sy_S → Prop} {σ : sy_S} {G : sg_G} {o k : Nat} {h : Nat → Nat} (hk : shX[k]? = some (0, 16, [])) (ho : o < 4) (hg : gx G σ.1) (hh : ar σ.1 k h) (hB : ∀ j, j < 16 → h j < 2 ^ 31) (kk : ∀ σ' : sy_S, sx [45, 46, 47] σ σ' → mx 45 o (m0 G o h).1 (m0 G o h).2 σ'.1 → Q none σ') : sy_E shX mX4_begin (0, sy_ent [.ref 45, .ref k, .int (nI o)] 4, [], σ) Q := by
  have hP := sg_P_len hg.1
  obtain ⟨σ1, hσ1⟩ : ∃ s : sy_S, s = (sy_up (sy_up (sy_up (sy_up (sy_cp σ.1 k 46 16) 45 3 (nI o)) 45 4 0) 45 5 0) 45 6 0, σ.2) := ⟨_, rfl⟩
  have hs1 : sx [45, 46, 47] σ σ1 := by
    rw [hσ1]
    refine ⟨fun q hq => ?_, rfl⟩
    simp only [List.mem_cons, List.not_mem_nil, or_false, not_or] at hq
    show sy_up (sy_up (sy_up (sy_up (sy_cp σ.1 k 46 16) 45 3 (nI o)) 45 4 0) 45 5 0) 45 6 0 q = _
    rw [sy_up_ne _ _ _ hq.1, sy_up_ne _ _ _ hq.1, sy_up_ne _ _ _ hq.1, sy_up_ne _ _ _ hq.1, sy_cp_ne _ _ _ hq.2.1]
  have hm1 : mx 45 o h [] σ1.1 := by
    rw [hσ1]
    refine ⟨fun j hj => ?_, ?_, fun _ => ⟨by simp, fun c hc => absurd hc List.not_mem_nil, 0, by decide, ?_, ?_, fun j o hj => by simp at hj, ?_⟩⟩
    · show sy_up (sy_up (sy_up (sy_up (sy_cp σ.1 k 46 16) 45 3 (nI o)) 45 4 0) 45 5 0) 45 6 0 46 j = _
      rw [sy_up_ne _ _ _ (by decide), sy_up_ne _ _ _ (by decide), sy_up_ne _ _ _ (by decide), sy_up_ne _ _ _ (by decide), sy_cp_self, pk_cpy_in (Nat.zero_le _) (by omega), show 0 + (j - 0) = j by omega]
      exact hh j hj
    · show sy_up (sy_up (sy_up (sy_up (sy_cp σ.1 k 46 16) 45 3 (nI o)) 45 4 0) 45 5 0) 45 6 0 45 3 = _
      rw [sy_up2, if_neg (by omega), sy_up2, if_neg (by omega), sy_up2, if_neg (by omega), sy_up2, if_pos ⟨rfl, rfl⟩]
    · show sy_up (sy_up (sy_up (sy_up (sy_cp σ.1 k 46 16) 45 3 (nI o)) 45 4 0) 45 5 0) 45 6 0 45 4 = _
      rw [sy_up2, if_neg (by omega), sy_up2, if_neg (by omega), sy_up2, if_pos ⟨rfl, rfl⟩]; rfl
    · show sy_up (sy_up (sy_up (sy_up (sy_cp σ.1 k 46 16) 45 3 (nI o)) 45 4 0) 45 5 0) 45 6 0 45 5 = _
      rw [sy_up2, if_neg (by omega), sy_up2, if_pos ⟨rfl, rfl⟩]; rfl
    · show sy_up (sy_up (sy_up (sy_up (sy_cp σ.1 k 46 16) 45 3 (nI o)) 45 4 0) 45 5 0) 45 6 0 45 6 = _
      rw [sy_up2, if_pos ⟨rfl, rfl⟩]
      exact ((bts_zero _ (by decide)).mpr (fun i _ => by simp)).symm
  have hg1 : gx G σ1.1 := hs1.gx hg (by decide)
  have loop : (o = 1 ∨ o = 2) → sy_E shX mX4_begin (50, [some (.ref 45), none, none, some (.int 0)], [], σ1) Q := by
    intro ho2
    refine e_b_lines (H := h) σ1 (fun i σ' => (50, [some (.ref 45), none, none, some (.int (nI i))], [], σ')) (fun i r9 σ9 => (73, [some (.ref 45), none, none, some (.int (nI i))], r9.toList ++ [], σ9)) mX4_begin (sg_P G) (fun c hc => Nat.lt_of_lt_of_le (sg_P_mem.mp hc).1 (sg_n16 hg.1)) hB o [] (fun i σ' c hc hs ih => ?_) (fun i σ' hz => w_b_begin_73 (by rw [nI_1]; exact hz)) (fun σ' hs hm => ?_) ho2 hm1
    · have hi := (List.getElem?_eq_some_iff.mp hc).1
      have hg' : gx G σ'.1 := hs.gx hg1 (by decide)
      obtain ⟨c', p1, p2, p3, p4, p5⟩ := gx_pl hg' hi
      rw [hc] at p1; cases p1
      have ei : (nI i).toNatClampNeg = i := nI_clamp (by omega)
      refine w_b_begin_50 (fun _ => vp_in_nI (by omega) (by decide)) (fun q => ?_) (fun _ => ?_)
      · rw [gx_n7 hg'] at q; exact absurd q (nI_ge hi (by omega))
      · rw [ei, p4]
        exact ih
    · have hg' : gx G σ'.1 := hs.gx hg1 (by decide)
      refine w_b_begin_50 (fun q => ?_) (fun _ => ?_) (fun q => ?_)
      · exact absurd (by rw [gx_n7 hg']; exact nI_le (Nat.le_refl _) (by omega)) q
      · refine kk σ' (hs1.tr (hs.mono (by simp))) ?_
        unfold m0
        rw [if_pos ho2]
        exact hm
      · exact absurd (by rw [gx_n7 hg']; exact nI_le (Nat.le_refl _) (by omega)) q
  have none2 : ¬ (o = 1 ∨ o = 2) → Q none σ1 := by
    intro ho2
    refine kk σ1 hs1 ?_
    unfold m0
    rw [if_neg ho2]
    exact hm1
  refine w_b_begin_0 hk (fun q => ?_) (fun q q2 => ?_) (fun q q2 => ?_)
  · rw [nI_lit1, nI_eq (by omega) (by decide)] at q
    rw [← hσ1]
    exact loop (Or.inl q)
  · rw [nI_lit1, nI_eq (by omega) (by decide)] at q
    rw [show (2 : Int32) = nI 2 from rfl, nI_eq (by omega) (by decide)] at q2
    rw [← hσ1]
    exact none2 (by omega)
  · rw [show (2 : Int32) = nI 2 from rfl, nI_eq (by omega) (by decide)] at q2
    rw [← hσ1]
    exact loop (Or.inr (Classical.byContradiction q2))
