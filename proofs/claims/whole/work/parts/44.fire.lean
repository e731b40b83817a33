/-! burning as mathematics; contracts of Fire -/
def pb (G : sg_G) (c : Nat) : Bool := decide (c < sg_n G) && !G.2.2 c
theorem pb_iff {G : sg_G} {c : Nat} : pb G c = true ↔ sg_p G c := by
  unfold pb sg_p
  simp only [Bool.and_eq_true, decide_eq_true_eq, Bool.not_eq_true']
/-- how many next to a cell have not burnt -/
def ubn (G : sg_G) (b : Nat → Nat) (c : Nat) : Nat := lsum (fun o => if b o = 0 then 1 else 0) (sg_nb G c)
def brn (G : sg_G) (p b : Nat → Nat) (c : Nat) : Bool := pb G c && (decide (b c = 0) && decide (ubn G b c ≤ p c))
theorem brn_iff {G : sg_G} {p b : Nat → Nat} {c : Nat} : brn G p b c = true ↔ sg_p G c ∧ b c = 0 ∧ ubn G b c ≤ p c := by
  unfold brn
  rw [Bool.and_eq_true, Bool.and_eq_true, pb_iff, decide_eq_true_eq, decide_eq_true_eq]
def bst (G : sg_G) (p b : Nat → Nat) (r : Nat) : Nat → Nat := fun c => if brn G p b c then r else b c
def bru (G : sg_G) (p : Nat → Nat) : Nat → Nat → Nat
  | 0 => fun _ => 0
  | n + 1 => bst G p (bru G p n) (n + 1)
theorem bru_le (G : sg_G) (p : Nat → Nat) (n c : Nat) : bru G p n c ≤ n := by
  induction n with
  | zero => exact Nat.le_refl _
  | succ n ih =>
    rw [bru]
    unfold bst
    split <;> omega
theorem bru_np {G : sg_G} (p : Nat → Nat) (n : Nat) {c : Nat} (hc : ¬ sg_p G c) : bru G p n c = 0 := by
  induction n with
  | zero => rfl
  | succ n ih =>
    rw [bru]
    unfold bst
    rw [if_neg (fun q => hc (brn_iff.mp q).1)]
    exact ih
/-- the fire goes out at N -/
def bE (G : sg_G) (p : Nat → Nat) (N : Nat) : Prop := (∀ m, m < N → ∃ c, brn G p (bru G p m) c = true) ∧ ∀ c, brn G p (bru G p N) c = false
theorem bE_one {G : sg_G} {p : Nat → Nat} {N M : Nat} (a : bE G p N) (b : bE G p M) : N = M := by
  rcases Nat.lt_trichotomy N M with q | q | q
  · obtain ⟨c, hc⟩ := b.1 N q
    rw [a.2 c] at hc
    cases hc
  · exact q
  · obtain ⟨c, hc⟩ := a.1 M q
    rw [b.2 c] at hc
    cases hc
theorem ubn_congr {G : sg_G} {b b' : Nat → Nat} {c : Nat} (h : ∀ o, o ∈ sg_nb G c → (b o = 0 ↔ b' o = 0)) : ubn G b c = ubn G b' c := by
  unfold ubn lsum
  congr 1
  apply List.map_congr_left
  intro o ho
  have := h o ho
  by_cases q : b o = 0
  · rw [if_pos q, if_pos (this.mp q)]
  · rw [if_neg q, if_neg (fun z => q (this.mpr z))]
theorem brn_congr {G : sg_G} {p p' b : Nat → Nat} (h : ∀ c, sg_p G c → p c = p' c) (c : Nat) : brn G p b c = brn G p' b c := by
  rw [Bool.eq_iff_iff, brn_iff, brn_iff]
  exact ⟨fun ⟨a, b, c⟩ => ⟨a, b, by rw [← h _ a]; exact c⟩, fun ⟨a, b, c⟩ => ⟨a, b, by rw [h _ a]; exact c⟩⟩
theorem bru_congr {G : sg_G} {p p' : Nat → Nat} (h : ∀ c, sg_p G c → p c = p' c) (n : Nat) : bru G p n = bru G p' n := by
  induction n with
  | zero => rfl
  | succ n ih =>
    rw [bru, bru, ih]
    funext c
    unfold bst
    rw [brn_congr h]
/-- after n rounds that each burnt, n have burnt -/
theorem bru_cnt {G : sg_G} (hG : sg_ok G) {p : Nat → Nat} {n : Nat} (h : ∀ m, m < n → ∃ c, brn G p (bru G p m) c = true) : n ≤ ssum 16 fun c => if bru G p n c = 0 then 0 else 1 := by
  induction n with
  | zero => exact Nat.zero_le _
  | succ n ih =>
    have h1 := ih (fun m hm => h m (by omega))
    obtain ⟨c, hc⟩ := h n (by omega)
    obtain ⟨c1, c2, c3⟩ := brn_iff.mp hc
    have h16 := sg_p16 hG c1
    have e : ssum 16 (fun d => if bru G p n d = 0 then 0 else 1) + ssum 16 (fun d => if d = c then 1 else 0) ≤ ssum 16 fun d => if bru G p (n + 1) d = 0 then 0 else 1 := by
      rw [← ssum_add]
      apply ssum_le
      intro d hd
      rw [bru]
      unfold bst
      by_cases q : d = c
      · subst q
        rw [if_pos c2, if_pos hc, if_pos rfl, if_neg (by omega)]
        omega
      · rw [if_neg q]
        by_cases z : brn G p (bru G p n) d = true
        · rw [if_pos z, if_neg (show ¬ n + 1 = 0 by omega)]
          split <;> omega
        · rw [if_neg z]
          omega
    rw [ssum_one, if_pos h16] at e
    omega
theorem bru_full {G : sg_G} (hG : sg_ok G) {p : Nat → Nat} (h : ∀ m, m < 16 → ∃ c, brn G p (bru G p m) c = true) : ∀ c, brn G p (bru G p 16) c = false := by
  intro c
  cases hc : brn G p (bru G p 16) c with
  | false => rfl
  | true =>
    exfalso
    obtain ⟨c1, c2, c3⟩ := brn_iff.mp hc
    have h16 := sg_p16 hG c1
    have h1 := bru_cnt hG h
    have h2 : ssum 16 (fun d => if bru G p 16 d = 0 then 0 else 1) + ssum 16 (fun d => if d = c then 1 else 0) ≤ ssum 16 fun _ => 1 := by
      rw [← ssum_add]
      apply ssum_le
      intro d hd
      by_cases q : d = c
      · subst q; rw [if_pos c2, if_pos rfl]; omega
      · rw [if_neg q]; split <;> omega
    rw [ssum_one, if_pos h16, ssum_const] at h2
    omega
theorem bE_le {G : sg_G} (hG : sg_ok G) {p : Nat → Nat} {N : Nat} (h : bE G p N) : N ≤ 16 := by
  rcases Nat.lt_or_ge 16 N with q | q
  · obtain ⟨c, hc⟩ := h.1 16 q
    rw [bru_full hG (fun m hm => h.1 m (by omega)) c] at hc
    cases hc
  · exact q
theorem e_x_unt {Q : Option Value → sy_S → Prop} {σ : sy_S} {G : sg_G} {b b' : Nat → Nat} {c r : Nat} (hg : gx G σ.1) (hc : sg_p G c) (hb : ar σ.1 54 b') (h9 : ∀ d, d < 16 → b' d < 2 ^ 31) (hr : r < 2 ^ 31) (h : ∀ d, d < 16 → ((b' d = 0 ∨ b' d = r) ↔ b d = 0)) (kk : Q (some (.int (nI (ubn G b c)))) σ) : sy_E shX mX2_unburntNextTo (0, sy_ent [.ref 53, .int (nI c), .int (nI r)] 6, [], σ) Q := by
  have hG := hg.1
  have hc16 := sg_p16 hG hc
  have ec : (nI c).toNatClampNeg = c := nI_clamp (by omega)
  obtain ⟨n1, n2⟩ := gx_nb hg hc.1
  have hlen := sg_nb_len G c
  refine w_x_unt_0 ?_
  refine sx_fold (sg_nb G c) (fun l i => (5, [some (.ref 53), some (.int (nI c)), some (.int (nI r)), some (.int (nI (lsum (fun o => if b o = 0 then 1 else 0) l))), some (.int (nI i)), none], [], σ)) ?_ ?_
  · intro i o ho ih
    have hi := (List.getElem?_eq_some_iff.mp ho).1
    have hop := sg_nb_p hG hc.1 (List.mem_of_getElem? ho)
    have ho16 := sg_p16 hG hop.1
    have ei : nI c * 4 + nI i = nI (4 * c + i) := by rw [nI_lit4, pk_mul, nI_add, Nat.mul_comm]
    have e4 : σ.1 4 (4 * c + i) = nI o := n2 i o ho
    have eo : (nI o).toNatClampNeg = o := nI_clamp (by omega)
    have hbo := hb o ho16
    have hho := h o ho16
    have nle : ¬ σ.1 5 c ≤ nI i := by rw [n1]; exact nI_ge hi (by omega)
    rw [lsum_app] at ih
    refine w_x_unt_5 (vp_in_nI hc16 (by decide)) (fun _ => by rw [ei]; exact vp_in_nI (by omega) (by decide)) (fun _ => by rw [ei, nI_clamp (by omega), e4]; exact vp_in_nI ho16 (by decide)) (fun q => ?_) (fun _ q => ?_) (fun _ q q2 => ?_) (fun _ q q2 => ?_)
    · rw [ec] at q; exact absurd q nle
    · rw [ei, nI_clamp (show 4 * c + i < 2 ^ 31 by omega), e4, eo, hbo, nI_lit0, nI_eq (h9 o ho16) (by decide)] at q
      rw [nI_1, nI_1]
      rw [if_pos (hho.mp (Or.inl q))] at ih
      exact ih
    · rw [ei, nI_clamp (show 4 * c + i < 2 ^ 31 by omega), e4, eo, hbo, nI_lit0, nI_eq (h9 o ho16) (by decide)] at q
      rw [ei, nI_clamp (show 4 * c + i < 2 ^ 31 by omega), e4, eo, hbo, nI_eq (h9 o ho16) hr] at q2
      rw [nI_1]
      rw [if_neg (fun z => (hho.mpr z).elim q q2), Nat.add_zero] at ih
      exact ih
    · rw [ei, nI_clamp (show 4 * c + i < 2 ^ 31 by omega), e4, eo, hbo, nI_eq (h9 o ho16) hr] at q2
      rw [nI_1, nI_1]
      rw [if_pos (hho.mp (Or.inr (Classical.byContradiction q2)))] at ih
      exact ih
  · have le : σ.1 5 ((nI c).toNatClampNeg) ≤ nI (sg_nb G c).length := by rw [ec, n1]; exact nI_le (Nat.le_refl _) (by omega)
    exact w_x_unt_5 (vp_in_nI hc16 (by decide)) (fun q => absurd le q) (fun q => absurd le q) (fun _ => kk) (fun q => absurd le q) (fun q => absurd le q) (fun q => absurd le q)
/-- the places of l done, in a round r -/
def bmx (G : sg_G) (p b : Nat → Nat) (r : Nat) (l : List Nat) (c : Nat) : Nat := if c ∈ l ∧ brn G p b c = true then r else b c
theorem e_x_once {Q : Option Value → sy_S → Prop} {σ : sy_S} {G : sg_G} {p b : Nat → Nat} {k r : Nat} (hk : shX[k]? = some (0, 16, [])) (k54 : k ≠ 54) (hg : gx G σ.1) (hb : ar σ.1 54 b) (hp : ∀ c, sg_p G c → σ.1 k c = nI (p c)) (hpB : ∀ c, sg_p G c → p c < 2 ^ 31) (hr : r < 2 ^ 31) (hbr : ∀ d, b d < r) (k1 : ∀ σ' : sy_S, (∃ c, brn G p b c = true) → sx [54] σ σ' → ar σ'.1 54 (bst G p b r) → Q (some (.int 1)) σ') (k0 : ∀ σ' : sy_S, (∀ c, brn G p b c = false) → sx [54] σ σ' → ar σ'.1 54 (bst G p b r) → Q (some (.int 0)) σ') : sy_E shX mX2_burnOnce (0, sy_ent [.ref 53, .ref k, .int (nI r)] 6, [], σ) Q := by
  have hG := hg.1
  have hP := sg_P_len hG
  refine w_x_once_0 hk ?_
  have hl := sy_loop (sh := shX) (y := mX2_burnOnce) (Q := Q) (fun i σ' => (5, [some (.ref 53), some (.ref k), some (.int (nI r)), some (.int (if ((sg_P G).take i).any (brn G p b) then 1 else 0)), some (.int (nI i)), none], [], σ')) (fun i σ' => sx [54] σ σ' ∧ ar σ'.1 54 (bmx G p b r ((sg_P G).take i))) (sg_P G).length ?_ ?_ 0 σ (Nat.zero_le _) ⟨sx.rf, fun j hj => by rw [List.take_zero, bmx, if_neg (fun q => absurd q.1 List.not_mem_nil)]; exact hb j hj⟩
  · exact hl
  · rintro i σ' hi ⟨i1, i2⟩ ih
    have hg' := i1.gx hg (by decide)
    obtain ⟨c, p1, p2, p3, p4, p5⟩ := gx_pl hg' hi
    have ei : (nI i).toNatClampNeg = i := nI_clamp (by omega)
    have ec : (nI c).toNatClampNeg = c := nI_clamp (by omega)
    have hts : (sg_P G).take (i + 1) = (sg_P G).take i ++ [c] := by rw [List.take_succ, p1]; rfl
    have hno : c ∉ (sg_P G).take i := by
      have h := List.Nodup.sublist (List.take_sublist (i + 1) (sg_P G)) (sg_P_nodup G)
      rw [hts, List.nodup_append] at h
      exact fun q => h.2.2 c q c (List.mem_singleton.mpr rfl) rfl
    have nle : ¬ σ'.1 0 7 ≤ nI i := by rw [gx_n7 hg']; exact nI_ge hi (by omega)
    have e54 : σ'.1 54 c = nI (b c) := by rw [i2 c p3, bmx, if_neg (fun q => hno q.1)]
    have eany : ((sg_P G).take (i + 1)).any (brn G p b) = (((sg_P G).take i).any (brn G p b) || brn G p b c) := by rw [hts, List.any_append]; simp
    have hB : b c < 2 ^ 31 := Nat.lt_trans (hbr c) hr
    -- nothing burns here
    have skip : brn G p b c = false → sy_E shX mX2_burnOnce (5, [some (.ref 53), some (.ref k), some (.int (nI r)), some (.int (if ((sg_P G).take i).any (brn G p b) then 1 else 0)), some (.int (nI i + 1)), none], [], σ') Q := by
      intro hn
      rw [nI_1]
      have h := ih σ' ⟨i1, fun j hj => by
        rw [i2 j hj]
        congr 1
        unfold bmx
        rw [hts]
        by_cases e : j = c
        · subst e
          rw [if_neg (fun q => hno q.1), if_neg (fun q => by rw [hn] at q; cases q.2)]
        · by_cases m : j ∈ (sg_P G).take i ∧ brn G p b j = true
          · rw [if_pos m, if_pos ⟨List.mem_append_left _ m.1, m.2⟩]
          · rw [if_neg m, if_neg (fun q => (List.mem_append.mp q.1).elim (fun z => m ⟨z, q.2⟩) (fun z => e (List.mem_singleton.mp z)))]⟩
      rw [eany, hn, Bool.or_false] at h
      exact h
    refine w_x_once_5 hk (fun q => absurd q nle) (fun _ => vp_in_nI (by omega) (by decide)) (fun _ => by rw [ei, p4]; exact vp_in_nI p3 (by decide)) (fun q => absurd q nle) (fun _ q => ?_) (fun _ q => ?_)
    · rw [ei, p5, e54, nI_lit0, nI_eq hB (by decide)] at q
      refine skip ?_
      cases z : brn G p b c with
      | false => rfl
      | true => exact absurd (brn_iff.mp z).2.1 q
    · rw [ei, p5, e54, nI_lit0, nI_eq hB (by decide)] at q
      have q : b c = 0 := Classical.byContradiction q
      rw [ei, p4]
      have ep : σ'.1 k c = nI (p c) := by rw [i1.1 k (by simp; exact k54)]; exact hp c p2
      rw [ec, ep]
      refine e_x_unt (b := b) hg' p2 i2 (fun d hd => ?_) hr (fun d hd => ?_) ?_
      · unfold bmx
        have := hbr d
        split <;> omega
      · unfold bmx
        have h1 := hbr d
        by_cases m : d ∈ (sg_P G).take i ∧ brn G p b d = true
        · rw [if_pos m]
          exact ⟨fun _ => (brn_iff.mp m.2).2.1, fun _ => Or.inr rfl⟩
        · rw [if_neg m]
          exact ⟨fun z => z.elim id (fun z => by omega), Or.inl⟩
      · have hu : ubn G b c < 2 ^ 31 := by
          have : ubn G b c ≤ 4 := by
            have key : ∀ l : List Nat, lsum (fun o => if b o = 0 then 1 else 0) l ≤ l.length := by
              intro l
              induction l with
              | nil => exact Nat.le_refl _
              | cons a l ih =>
                have e9 : lsum (fun o => if b o = 0 then 1 else 0) (a :: l) = (if b a = 0 then 1 else 0) + lsum (fun o => if b o = 0 then 1 else 0) l := by simp [lsum]
                rw [e9, List.length_cons]
                split <;> omega
            exact Nat.le_trans (key _) (sg_nb_len G c)
          omega
        refine w_x_once_49 hk (fun _ => vp_in_nI p3 (by decide)) (fun z => ?_) (fun z => ?_)
        · rw [nI_ltI (hpB c p2) hu] at z
          refine skip ?_
          cases y : brn G p b c with
          | false => rfl
          | true => have := (brn_iff.mp y).2.2; omega
        · rw [nI_ltI (hpB c p2) hu] at z
          have hy : brn G p b c = true := brn_iff.mpr ⟨p2, q, by omega⟩
          rw [nI_1, ec]
          have h := ih (sy_up σ'.1 54 c (nI r), σ'.2) ⟨i1.tr (sx.up (by simp)), fun j hj => by
            dsimp only
            rw [sy_up2, hts]
            unfold bmx
            by_cases e : j = c
            · subst e
              rw [if_pos ⟨rfl, rfl⟩, if_pos ⟨List.mem_append_right _ (List.mem_singleton.mpr rfl), hy⟩]
            · rw [if_neg (fun q => e q.2), i2 j hj]
              congr 1
              unfold bmx
              by_cases m : j ∈ (sg_P G).take i ∧ brn G p b j = true
              · rw [if_pos m, if_pos ⟨List.mem_append_left _ m.1, m.2⟩]
              · rw [if_neg m, if_neg (fun q => (List.mem_append.mp q.1).elim (fun z => m ⟨z, q.2⟩) (fun z => e (List.mem_singleton.mp z)))]⟩
          rw [eany, hy, Bool.or_true, if_pos rfl] at h
          exact h
  · rintro σ' ⟨i1, i2⟩
    have hg' := i1.gx hg (by decide)
    rw [List.take_length] at i2 ⊢
    have le : σ'.1 0 7 ≤ nI (sg_P G).length := by rw [gx_n7 hg']; exact nI_le (Nat.le_refl _) (by omega)
    have hfin : ar σ'.1 54 (bst G p b r) := fun j hj => by
      rw [i2 j hj]
      congr 1
      unfold bst bmx
      by_cases z : brn G p b j = true
      · rw [if_pos z, if_pos ⟨sg_P_mem.mpr (brn_iff.mp z).1, z⟩]
      · rw [if_neg z, if_neg (fun q => z q.2)]
    refine w_x_once_5 hk (fun _ => ?_) (fun q => absurd le q) (fun q => absurd le q) (fun _ => ?_) (fun q => absurd le q) (fun q => absurd le q)
    · split
      · exact Or.inr rfl
      · exact Or.inl rfl
    · by_cases z : (sg_P G).any (brn G p b) = true
      · rw [if_pos z]
        obtain ⟨c, hc, hc2⟩ := List.any_eq_true.mp z
        exact k1 σ' ⟨c, hc2⟩ i1 hfin
      · rw [if_neg z]
        refine k0 σ' (fun c => ?_) i1 hfin
        cases y : brn G p b c with
        | false => rfl
        | true => exact absurd (List.any_eq_true.mpr ⟨c, sg_P_mem.mpr (brn_iff.mp y).1, y⟩) z
theorem e_x_spread {Q : Option Value → sy_S → Prop} {σ : sy_S} {G : sg_G} {p : Nat → Nat} {k : Nat} (hk : shX[k]? = some (0, 16, [])) (k54 : k ≠ 54) (hg : gx G σ.1) (hp : ∀ c, sg_p G c → σ.1 k c = nI (p c)) (hpB : ∀ c, sg_p G c → p c < 2 ^ 31) (kk : ∀ (σ' : sy_S) (N : Nat), bE G p N → sx [54] σ σ' → ar σ'.1 54 (bru G p N) → Q (some (.int (nI N))) σ') : sy_E shX mX2_spread (0, sy_ent [.ref 53, .ref k] 3, [], σ) Q := by
  refine w_x_spread_0 hk (e_x_fill (n := 16) rfl (by decide) (fun σ1 h1 h2 h3 h4 => w_x_spread_8 hk ?_))
  have hs1 : sx [54] σ σ1 := ⟨fun q hq => h1 q (fun e => hq (by rw [e]; simp)), h4⟩
  have key : ∀ (d n : Nat) (σ' : sy_S), n + d = 16 → sx [54] σ σ' → ar σ'.1 54 (bru G p n) → (∀ m, m < n → ∃ c, brn G p (bru G p m) c = true) → sy_E shX mX2_spread (10, [some (.ref 53), some (.ref k), some (.int (nI (n + 1)))], [], σ') Q := by
    intro d
    induction d with
    | zero =>
      intro n σ' hn hs hb hm
      have e : n = 16 := hn
      subst e
      refine w_x_spread_10 hk (fun _ => ?_) (fun q => absurd (by decide) q)
      exact kk σ' 16 ⟨hm, bru_full hg.1 hm⟩ hs hb
    | succ d ih =>
      intro n σ' hn hs hb hm
      refine w_x_spread_10 hk (fun q => ?_) (fun _ => ?_)
      · rw [show (16 : Int32) = nI 16 from rfl, nI_ltI (by decide) (by omega)] at q; omega
      · refine e_x_once hk k54 (hs.gx hg (by decide)) hb (fun c hc => by rw [hs.1 k (by simp; exact k54)]; exact hp c hc) hpB (by omega) (fun c => by have := bru_le G p n c; omega) (fun σ2 e1 e2 e3 => ?_) (fun σ2 e1 e2 e3 => ?_)
        · refine w_x_spread_22 hk (fun _ => ?_) (fun q => absurd (by decide) q)
          rw [nI_1]
          refine ih (n + 1) σ2 (by omega) (hs.tr e2) e3 (fun m hmn => ?_)
          by_cases z : m = n
          · subst z; exact e1
          · exact hm m (by omega)
        · refine w_x_spread_22 hk (fun q => absurd rfl q) (fun _ => ?_)
          rw [nI_lit1, pk_sub (by omega), show n + 1 - 1 = n by omega]
          refine kk σ2 n ⟨hm, e1⟩ (hs.tr e2) (fun j hj => ?_)
          rw [e3 j hj]
          unfold bst
          rw [if_neg (by rw [e1 j]; decide)]
  exact key 16 0 σ1 rfl hs1 (fun j hj => by rw [h2 j hj]; rfl) (fun m hm => absurd hm (Nat.not_lt_zero _))
theorem e_x_unburnt {Q : Option Value → sy_S → Prop} {σ : sy_S} {G : sg_G} {b : Nat → Nat} (hg : gx G σ.1) (hb : ar σ.1 54 b) (hB : ∀ c, c < 16 → b c < 2 ^ 31) (kk : Q (some (.int (bts (fun c => decide (b c = 0)) (sg_P G)))) σ) : sy_E shX mX2_unburnt (0, sy_ent [.ref 53] 4, [], σ) Q := by
  have hP := sg_P_len hg.1
  refine w_x_unburnt_0 ?_
  refine sx_fold (sg_P G) (fun l i => (4, [some (.ref 53), some (.int (bts (fun c => decide (b c = 0)) l)), some (.int (nI i)), none], [], σ)) ?_ ?_
  · intro i c hc ih
    have hi := (List.getElem?_eq_some_iff.mp hc).1
    obtain ⟨c', p1, p2, p3, p4, p5⟩ := gx_pl hg hi
    rw [hc] at p1; cases p1
    have ei : (nI i).toNatClampNeg = i := nI_clamp (by omega)
    have nle : ¬ σ.1 0 7 ≤ nI i := by rw [gx_n7 hg]; exact nI_ge hi (by omega)
    rw [bts_app] at ih
    refine w_x_unburnt_4 (fun _ => vp_in_nI (by omega) (by decide)) (fun _ => by rw [ei, p4]; exact vp_in_nI p3 (by decide)) (fun q => absurd q nle) (fun _ q => ?_) (fun _ q => ?_)
    · rw [ei, p5, hb c p3, nI_lit0, nI_eq (hB c p3) (by decide)] at q
      rw [nI_1]
      rw [decide_eq_false q] at ih
      exact ih
    · rw [ei, p5, hb c p3, nI_lit0, nI_eq (hB c p3) (by decide)] at q
      rw [nI_1, ei, p4]
      rw [decide_eq_true (Classical.byContradiction q)] at ih
      exact ih
  · have le : σ.1 0 7 ≤ nI (sg_P G).length := by rw [gx_n7 hg]; exact nI_le (Nat.le_refl _) (by omega)
    exact w_x_unburnt_4 (fun q => absurd le q) (fun q => absurd le q) (fun _ => kk) (fun q => absurd le q) (fun q => absurd le q)
