/-! SandGroup's methods: through, grains, scripts, changes (by program: wip/whole/gen/p64.py) -/
theorem e_x_tonce {Q : Option Value → sy_S → Prop} {σ : sy_S} {G : sg_G} {H : Nat → Nat} {cell : Int32} (hg : gx G σ.1) (hH : ar σ.1 40 H) (hB : ∀ j, j < 16 → H j < 2 ^ 31) (k1 : ∀ (σ' : sy_S) (c : Nat), px (sg_p G) cell = some c → 4 ≤ H c → sx [40] σ σ' → ar σ'.1 40 (sg_tp G H c 1) → Q (some (.int 1)) σ') (k0 : (px (sg_p G) cell = none ∨ ∃ c, px (sg_p G) cell = some c ∧ H c < 4) → Q (some (.int 0)) σ) : sy_E shX mX1_toppleOnce (0, sy_ent [.ref 39, .int cell] 2, [], σ) Q := by
  refine w_x_tonce_0 hg (fun m hm => px_in (fun k hk => sg_p16 hg.1 hk) (by decide) hm) (fun m hm q => ?_) (fun m hm q => ?_) (fun q => k0 (Or.inl q))
  · obtain ⟨p1, e1, p3⟩ := px_s hm
    have hm16 := sg_p16 hg.1 p1
    rw [e1, nI_clamp (by omega), hH m hm16, nI_lit4, nI_leI (by decide) (hB m hm16)] at q
    rw [e1]
    refine e_x_spill (t := 1) rfl (by decide) hg hH p1 (by omega) (fun σ1 g1 g2 => w_x_tonce_36 (k1 σ1 m hm q g1 g2))
  · obtain ⟨p1, e1, p3⟩ := px_s hm
    have hm16 := sg_p16 hg.1 p1
    rw [e1, nI_clamp (by omega), hH m hm16, nI_lit4, nI_leI (by decide) (hB m hm16)] at q
    exact k0 (Or.inr ⟨m, hm, by omega⟩)
theorem fst1_none {p : Nat → Bool} : ∀ {d i : Nat}, fst1 p i d = none ↔ ∀ m, i ≤ m → m < i + d → p m = false
  | 0, i => ⟨fun _ m h1 h2 => by omega, fun _ => rfl⟩
  | d + 1, i => by
    rw [fst1]
    constructor
    · intro h m h1 h2
      split at h
      · cases h
      · rename_i q
        by_cases e : m = i
        · subst e
          cases y : p m
          · rfl
          · exact absurd y q
        · exact fst1_none.mp h m (by omega) (by omega)
    · intro h
      rw [if_neg (by rw [h i (Nat.le_refl _) (by omega)]; decide)]
      exact fst1_none.mpr (fun m h1 h2 => h m (by omega) (by omega))
theorem fst1_min {p : Nat → Bool} : ∀ {d i m : Nat}, fst1 p i d = some m → ∀ k, i ≤ k → k < m → p k = false
  | 0, i, m, h => by cases h
  | d + 1, i, m, h => by
    rw [fst1] at h
    intro k h1 h2
    split at h
    · cases h; omega
    · rename_i q
      by_cases e : k = i
      · subst e
        cases y : p k
        · rfl
        · exact absurd y q
      · exact fst1_min h k (by omega) h2
theorem nI_or {a b : Nat} (ha : a < 2 ^ 32) (hb : b < 2 ^ 32) : nI a ||| nI b = nI (a ||| b) := by
  apply Int32.toBitVec_inj.mp
  apply BitVec.eq_of_toNat_eq
  rw [Int32.toBitVec_or, BitVec.toNat_or, pk_tn ha, pk_tn hb, pk_tn (Nat.or_lt_two_pow ha hb)]
theorem nI_eq32 {a b : Nat} (ha : a < 2 ^ 32) (hb : b < 2 ^ 32) : nI a = nI b ↔ a = b := by
  constructor
  · intro h
    have h1 : (nI a).toBitVec.toNat = (nI b).toBitVec.toNat := by rw [h]
    rw [pk_tn ha, pk_tn hb] at h1
    exact h1
  · rintro rfl; rfl
/-- a pile as a number, of the places of a list -/
def pkl (h : Nat → Nat) : List Nat → Nat
  | [] => 0
  | c :: l => h c + 4 * pkl h l
theorem pkl_lt {h : Nat → Nat} (hh : ∀ c, h c ≤ 3) : ∀ l : List Nat, pkl h l < 4 ^ l.length
  | [] => Nat.one_pos
  | c :: l => by
    rw [pkl, List.length_cons, Nat.pow_succ]
    have := pkl_lt hh l
    have := hh c
    omega
theorem pkl_inj {h h' : Nat → Nat} (a : ∀ c, h c ≤ 3) (b : ∀ c, h' c ≤ 3) : ∀ {l : List Nat}, pkl h l = pkl h' l → ∀ c, c ∈ l → h c = h' c
  | [], _, c, hc => absurd hc List.not_mem_nil
  | d :: l, e, c, hc => by
    rw [pkl, pkl] at e
    have h1 := a d
    have h2 := b d
    rcases List.mem_cons.mp hc with rfl | hc
    · omega
    · exact pkl_inj a b (l := l) (by omega) c hc
theorem pkl_feq {G : sg_G} (hG : sg_ok G) {h h' : Nat → Nat} (a : hz G 3 h) (b : hz G 3 h') : pkl h (sg_P G) = pkl h' (sg_P G) ↔ feq h h' = true := by
  constructor
  · intro e
    refine feq_iff.mpr (fun j _ => ?_)
    by_cases q : sg_p G j
    · exact pkl_inj a.2 b.2 e j (sg_P_mem.mpr q)
    · rw [a.1 j q, b.1 j q]
  · intro e
    have e2 := feq_iff.mp e
    have key : ∀ l : List Nat, (∀ c, c ∈ l → h c = h' c) → pkl h l = pkl h' l := by
      intro l
      induction l with
      | nil => intro _; rfl
      | cons c l ih => intro hc; rw [pkl, pkl, hc c List.mem_cons_self, ih (fun d hd => hc d (List.mem_cons_of_mem _ hd))]
    refine key _ (fun c hc => ?_)
    exact e2 c (sg_p16 hG (sg_P_mem.mp hc))
theorem e_x_code {Q : Option Value → sy_S → Prop} {σ : sy_S} {G : sg_G} {h : Nat → Nat} (hg : gx G σ.1) (hh : ar σ.1 40 h) (h3 : ∀ c, h c ≤ 3) (kk : Q (some (.int (nI (pkl h (sg_P G))))) σ) : sy_E shX mX1_code (0, sy_ent [.ref 39] 1, [], σ) Q := by
  have hG := hg.1
  have hP := sg_P_len hG
  refine w_x_code_0 (w_x_pack_0 rfl ?_)
  have key : ∀ (n : Nat), n ≤ (sg_P G).length → sy_E shX mX3_pack (9, [some (.ref 0), some (.ref 40), some (.int (nI (pkl h ((sg_P G).drop n)))), some (.int (nI n - 1))], [], σ) (fun r9 σ9 => sy_E shX mX1_code (11, [none], r9.toList ++ [], σ9) Q) := by
    intro n
    induction n with
    | zero =>
      intro _
      refine w_x_pack_9 rfl (fun q => absurd (by decide) q) (fun q => absurd (by decide) q) (fun _ => ?_) (fun q => absurd (by decide) q)
      rw [List.drop_zero]
      exact w_x_fcode_r kk
    | succ n ih =>
      intro hn
      have en : nI (n + 1) - 1 = nI n := nI_pred n
      obtain ⟨c, p1, p2, p3, p4, p5⟩ := gx_pl hg (show n < (sg_P G).length by omega)
      have en2 : (nI n).toNatClampNeg = n := nI_clamp (by omega)
      rw [en]
      refine w_x_pack_9 rfl (fun _ => vp_in_nI (by omega) (by decide)) (fun _ => by rw [en2, p4]; exact vp_in_nI p3 (by decide)) (fun q => absurd q (nI_pos (by omega))) (fun _ => ?_)
      rw [en2, p5, hh c p3]
      have hd : (sg_P G).drop n = c :: (sg_P G).drop (n + 1) := by
        have h1 := List.drop_eq_getElem_cons (l := sg_P G) (i := n) (by omega)
        rw [h1]
        congr 1
        rw [List.getElem?_eq_getElem (by omega)] at p1
        exact Option.some.inj p1
      have hlt := pkl_lt h3 ((sg_P G).drop (n + 1))
      rw [List.length_drop] at hlt
      have hlt2 : pkl h ((sg_P G).drop (n + 1)) < 4 ^ 15 := Nat.lt_of_lt_of_le hlt (Nat.pow_le_pow_right (by decide) (by omega))
      have hc3 := h3 c
      have e1 : nI (pkl h ((sg_P G).drop (n + 1))) <<< (2 &&& 31) = nI (pkl h ((sg_P G).drop (n + 1)) * 2 ^ 2) := pk_shlN (2 &&& 31) 2 (by decide) (by omega)
      have e2 : nI (pkl h ((sg_P G).drop (n + 1)) * 2 ^ 2) ||| nI (h c) = nI (pkl h ((sg_P G).drop n)) := by
        rw [nI_or (by omega) (by omega), hd, pkl]
        congr 1
        have h9 := Nat.two_pow_add_eq_or_of_lt (i := 2) (b := h c) (by omega) (pkl h ((sg_P G).drop (n + 1)))
        rw [Nat.mul_comm _ (2 ^ 2), ← h9]
        omega
      rw [e1, e2]
      have e3 : nI n + -1 = nI n - 1 := by rw [Int32.sub_eq_add_neg]
      rw [e3]
      exact ih (by omega)
  have h9 := key (sg_P G).length (Nat.le_refl _)
  rw [List.drop_length] at h9
  rw [gx_n7 hg]
  exact h9
theorem e_x_unpack {Q : Option Value → sy_S → Prop} {σ : sy_S} {G : sg_G} {code : Nat} (hg : gx G σ.1) (hc : code < 2 ^ 31) (kk : ∀ σ' : sy_S, sx [64] σ σ' → (∀ c, sg_p G c → σ'.1 64 c = nI (plc G code c)) → Q none σ') : sy_E shX mX3_unpack (0, sy_ent [.ref 0, .int (nI code), .ref 64] 5, [], σ) Q := by
  have hG := hg.1
  have hP := sg_P_len hG
  refine w_x_unpack_0 rfl ?_
  have hl := sy_loop (sh := shX) (y := mX3_unpack) (Q := Q) (fun i σ' => (5, [some (.ref 0), none, some (.ref 64), some (.int (nI (code / 4 ^ i))), some (.int (nI i))], [], σ')) (fun i σ' => sx [64] σ σ' ∧ ∀ j c, j < i → (sg_P G)[j]? = some c → σ'.1 64 c = nI (code / 4 ^ j % 4)) (sg_P G).length ?_ ?_ 0 σ (Nat.zero_le _) ⟨sx.rf, fun j c hj => absurd hj (Nat.not_lt_zero _)⟩
  · rw [Nat.pow_zero, Nat.div_one] at hl
    exact hl
  · rintro i σ' hi ⟨i1, i2⟩ ih
    have hg' := i1.gx hg (by decide)
    obtain ⟨c, p1, p2, p3, p4, p5⟩ := gx_pl hg' hi
    have ei : (nI i).toNatClampNeg = i := nI_clamp (by omega)
    have hle : code / 4 ^ i < 2 ^ 31 := Nat.lt_of_le_of_lt (Nat.div_le_self _ _) hc
    have nle : ¬ σ'.1 0 7 ≤ nI i := by rw [gx_n7 hg']; exact nI_ge hi (by omega)
    refine w_x_unpack_5 rfl (fun _ => vp_in_nI (by omega) (by decide)) (fun _ => by rw [ei, p4]; exact vp_in_nI p3 (by decide)) (fun q => absurd q nle) (fun _ => ?_)
    have e1 : nI (code / 4 ^ i) &&& 3 = nI (code / 4 ^ i % 4) := pk_andN (n := code / 4 ^ i) (by omega) 2 rfl
    have e2 : ((nI (code / 4 ^ i)).toUInt32 >>> (Int32.toUInt32 2 &&& Int32.toUInt32 31)).toInt32 = nI (code / 4 ^ (i + 1)) := by
      have e9 : (4 : Nat) ^ (i + 1) = 4 ^ i * 4 := Nat.pow_succ 4 i
      rw [pk_ushrN (n := code / 4 ^ i) (by omega) 2 2 (by decide), e9, ← Nat.div_div_eq_div_mul]
    rw [ei, p5, e1, e2, nI_1]
    refine ih _ ⟨i1.tr (sx.up (by simp)), fun j d hj hd => ?_⟩
    dsimp only
    rw [sy_up2]
    by_cases e : j = i
    · subst e
      rw [p1] at hd
      cases hd
      rw [if_pos ⟨rfl, rfl⟩]
    · rw [if_neg (fun q => ?_)]
      · exact i2 j d (by omega) hd
      · have q2 := q.2
        subst q2
        exact e ((List.getElem?_inj (List.getElem?_eq_some_iff.mp hd).1 (sg_P_nodup G)).mp (by rw [hd, p1]))
  · rintro σ' ⟨i1, i2⟩
    have hg' := i1.gx hg (by decide)
    have le : σ'.1 0 7 ≤ nI (sg_P G).length := by rw [gx_n7 hg']; exact nI_le (Nat.le_refl _) (by omega)
    refine w_x_unpack_5 rfl (fun q => absurd le q) (fun q => absurd le q) (fun _ => kk σ' i1 (fun c hc => ?_)) (fun q => absurd le q)
    obtain ⟨j, hj⟩ := List.getElem?_of_mem (sg_P_mem.mpr hc)
    have hjn := P_num hj
    unfold plc
    rw [← hjn]
    exact i2 j c (List.getElem?_eq_some_iff.mp hj).1 hj
theorem shl4 : ∀ n, n < 7 → (1 : Int32) <<< ((2 * nI n) &&& 31) = nI (4 ^ n) := by decide +kernel
theorem X_through {Q : Option Value → sy_S → Prop} {σ : sy_S} {B : Nat} {S : st}  (ho : sO B S) (h : RX S σ.1) (kk : ∀ σ' : sy_S, RX S σ'.1 → Q (some (.int (f_through S))) σ') : sy_E shX mX11_through (0, sy_ent [.ref 6] 4, [], σ) Q := by
  obtain ⟨G, H, P, U, R, T, W, L⟩ := S
  obtain ⟨r1, r2, r3, r4, r5, r6, r7⟩ := id h
  have hG := r1.1
  have hH := sO_H ho
  have hP := sg_P_len hG
  have e7 : σ.1 0 7 = nI (sg_P G).length := gx_n7 r1
  refine w_X_through_0 (fun q => ?_) (fun q => ?_)
  · rw [e7, show (6 : Int32) = nI 6 from rfl, nI_leI (by omega) (by decide)] at q
    have e : f_through (G, H, P, U, R, T, W, L) = nI (ssum (4 ^ (sg_P G).length) fun code => if ubt G (plc G code) = 0 then 1 else 0) := if_neg (show ¬ 6 < (sg_P G).length by omega)
    rw [e] at kk
    have hN : 4 ^ (sg_P G).length ≤ 4 ^ 6 := Nat.pow_le_pow_right (by decide) q
    obtain ⟨N, hNe⟩ : ∃ N, N = 4 ^ (sg_P G).length := ⟨_, rfl⟩
    rw [e7, shl4 _ (by omega)]
    rw [← hNe] at hN kk ⊢
    have hl := sy_loop (sh := shX) (y := mX11_through) (Q := Q) (fun i σ' => (31, [some (.ref 6), some (.int (nI N)), some (.int (nI (ssum i fun code => if ubt G (plc G code) = 0 then 1 else 0))), some (.int (nI i))], [], σ')) (fun i σ' => sx [54, 64] σ σ') N ?_ ?_ 0 σ (Nat.zero_le _) sx.rf
    · exact hl
    · rintro i σ1 hi i1 ih
      have hg1 := i1.gx r1 (by decide)
      refine w_X_through_31 (fun q => absurd q (nI_ge hi (by omega))) (fun _ => ?_)
      refine e_x_unpack hg1 (by omega) (fun σ2 g1 g2 => w_X_through_48 ?_)
      have hg2 := g1.gx hg1 (by decide)
      refine e_x_spread (p := plc G i) rfl (by decide) hg2 g2 (fun c _ => by unfold plc; omega) (fun σ3 M f1 f2 f3 => w_X_through_59 ?_)
      have f3 : ar σ3.1 54 (bfn G (plc G i)) := by unfold bfn; rw [← bnd_eq f1]; exact f3
      have hb : ∀ c, c < 16 → bfn G (plc G i) c < 2 ^ 31 := fun c _ => by
        unfold bfn
        rw [← bnd_eq f1]
        have := bru_le G (plc G i) M c
        have := bE_le hG f1
        omega
      refine e_x_unburnt (f2.gx hg2 (by decide)) f3 hb ?_
      have eu : bts (fun c => decide (bfn G (plc G i) c = 0)) (sg_P G) = ubt G (plc G i) := rfl
      rw [eu]
      have h9 := ih σ3 ((i1.tr (g1.mono (by simp))).tr (f2.mono (by simp)))
      rw [ssum] at h9
      refine w_X_through_67 (fun z => ?_) (fun z => ?_)
      · rw [if_neg z, Nat.add_zero] at h9
        rw [nI_1]; exact h9
      · rw [if_pos (Classical.byContradiction z)] at h9
        rw [nI_1, nI_1]; exact h9
    · intro σ1 i1
      exact w_X_through_31 (fun _ => kk σ1 (h.fr ho i1 (by simp))) (fun q => absurd (nI_le (Nat.le_refl N) (by omega)) q)
  · rw [e7, show (6 : Int32) = nI 6 from rfl, nI_leI (by omega) (by decide)] at q
    have e : f_through (G, H, P, U, R, T, W, L) = -3 := if_pos (show 6 < (sg_P G).length by omega)
    rw [e] at kk
    exact kk σ h
theorem X_avalanche {Q : Option Value → sy_S → Prop} {σ : sy_S} {B : Nat} {S : st} (cell : Int32) (w : Int32) (hB : B ≤ 2000) (ho : sO B S) (h : RX S σ.1) (kk : ∀ σ' : sy_S, RX S σ'.1 → Q (some (.int (f_avalanche cell w S))) σ') : sy_E shX mX11_avalanche (0, sy_ent [.ref 6, .int cell, .int w] 4, [], σ) Q := by
  obtain ⟨G, H, P, U, R, T, W, L⟩ := S
  obtain ⟨r1, r2, r3, r4, r5, r6, r7⟩ := id h
  have hG := r1.1
  have hH := sO_H ho
  obtain ⟨z1, z2, z3⟩ := px_rng (a := 0) (b := 3) (x := w) (by decide) (by decide)
  have hB9 := hz9 hH hB
  have bad : ∀ c, px (sg_p G) cell = some c → px (pR 0 3) w = none → Q (some (.int (-1))) σ := by
    intro c hc z
    have e : f_avalanche cell w (G, H, P, U, R, T, W, L) = -1 := by simp only [f_avalanche, hc, z]
    rw [e] at kk
    exact kk σ h
  refine w_X_avalanche_0 r1 (fun c hc q => bad c hc (z1 q)) (fun c hc q q2 => ?_) (fun c hc _ q => bad c hc (z2 q)) (fun q => ?_)
  · obtain ⟨m, hm⟩ := z3 q q2
    obtain ⟨pm, rfl, -⟩ := px_s hm
    have pm2 : m ≤ 3 := pm.2
    obtain ⟨pc, rfl, -⟩ := px_s hc
    have hc16 := sg_p16 hG pc
    refine e_x_isStable rfl r1 r2 (fun j hj => by have := hB9 j hj; omega) (fun hst => ?_) (fun hun => ?_)
    · have hall : (sg_P G).all (fun d => decide (H d ≤ 3)) = true := List.all_eq_true.mpr (fun d hd => decide_eq_true (hst d (sg_P_mem.mp hd)))
      refine w_X_avalanche_33 (fun _ => ?_) (fun q => absurd (by decide) q)
      refine e_x_begin rfl r2 (fun σ1 g1 g2 g3 => w_X_avalanche_50 (e_x_addGrain hc16 g2 (fun σ2 f1 f2 => w_X_avalanche_58 ?_)))
      have hs2 : sx [40, 41] σ σ2 := g1.tr (f1.mono (by simp))
      have hadz := hz_ad (n := 1) hH pc (Nat.le_succ B) (by have := hH.2 c; omega)
      have hB2 : ∀ j, j < 16 → sg_ad H c 1 j ≤ 10000 := fun j _ => by have := hadz.2 j; omega
      have hnp : ∀ u, sg_odo G (sg_ad H c 1) u → ∀ k, ¬ sg_p G k → u k = 0 := fun u hu k hk => hu.2.2 k hk
      refine e_x_inRounds (hs2.gx r1 (by decide)) f2 (ar_sx f1 g3 (by decide)) hB2 (fun σ3 N u i1 i2 i3 i4 i5 => ?_)
      have i5 : ar σ3.1 41 u := fun j hj => by rw [i5 j hj]; exact congrArg nI (Nat.zero_add _)
      have hodo := sg_rc_odo i3 i2.2
      have eu := od_eq hodo
      have hR := h.fr ho (hs2.tr i1) (by simp)
      have h9 := kk σ3 hR
      have hbd : ∀ j, j < 16 → u j < 2 ^ 31 := fun j hj => by
        rw [eu]
        have := (od_bd hG (h := sg_ad H c 1) (B := B + 1) (fun k _ => hadz.2 k)).2 j hj
        omega
      match m, hm, pm2 with
      | 0, hm, _ =>
        have e : f_avalanche (nI c) (nI 0) (G, H, P, U, R, T, W, L) = nI (ssum 16 (od G (sg_ad H c 1))) := by simp only [f_avalanche, hc, hm, hall, if_true]
        rw [e, ← eu, ← sg_sum_np hG (hnp u hodo)] at h9
        exact w_X_avalanche_65 (fun _ => e_x_ftoppled hR.1 i5 (w_X_avalanche_99 h9)) (fun q => absurd rfl q) (fun q => absurd rfl q) (fun q => absurd rfl q)
      | 1, hm, _ =>
        have e : f_avalanche (nI c) (nI 1) (G, H, P, U, R, T, W, L) = bts (fun d => decide (0 < od G (sg_ad H c 1) d)) (List.range 16) := by simp only [f_avalanche, hc, hm, hall, if_true]
        rw [e, ← eu] at h9
        exact w_X_avalanche_65 (fun q => absurd q (by decide)) (fun _ _ => e_x_area i5 hbd (w_X_avalanche_107 h9)) (fun _ q => absurd rfl q) (fun _ q => absurd rfl q)
      | 2, hm, _ =>
        have e : f_avalanche (nI c) (nI 2) (G, H, P, U, R, T, W, L) = nI (sg_lost G (od G (sg_ad H c 1))) := by simp only [f_avalanche, hc, hm, hall, if_true]
        rw [e, ← eu] at h9
        exact w_X_avalanche_65 (fun q => absurd q (by decide)) (fun _ q => absurd q (by decide)) (fun _ _ _ => e_x_lost hR.1 i5 (w_X_avalanche_115 h9)) (fun _ _ q => absurd rfl q)
      | 3, hm, _ =>
        have e : f_avalanche (nI c) (nI 3) (G, H, P, U, R, T, W, L) = nI (rdn G (sg_ad H c 1)) := by simp only [f_avalanche, hc, hm, hall, if_true]
        rw [e, ← rdn_eq i2] at h9
        exact w_X_avalanche_65 (fun q => absurd q (by decide)) (fun _ q => absurd q (by decide)) (fun _ _ q => absurd q (by decide)) (fun _ _ _ => h9)
    · have hall : ¬ (sg_P G).all (fun d => decide (H d ≤ 3)) = true := fun z => by
        obtain ⟨d, d1, d2⟩ := hun
        have := of_decide_eq_true (List.all_eq_true.mp z d (sg_P_mem.mpr d1))
        omega
      have e : f_avalanche (nI c) (nI m) (G, H, P, U, R, T, W, L) = -3 := by simp only [f_avalanche, hc, hm, if_neg hall]
      rw [e] at kk
      exact w_X_avalanche_33 (fun q => absurd rfl q) (fun _ => kk σ h)
  · have e : f_avalanche cell w (G, H, P, U, R, T, W, L) = -1 := by simp only [f_avalanche, q]
    rw [e] at kk
    exact kk σ h
theorem agn_hz {G : sg_G} (hG : sg_ok G) {B : Nat} {H : Nat → Nat} (hH : hz G B H) {c : Nat} (hc : sg_p G c) : ∀ n, hz G 3 (agn G H c n)
  | 0 => stt_hz hG hH.1
  | n + 1 => stt_hz hG (hz_ad (n := 1) (agn_hz hG hH hc n) hc (show 3 ≤ 4 by decide) (by have := (agn_hz hG hH hc n).2 c; omega)).1
theorem X_again {Q : Option Value → sy_S → Prop} {σ : sy_S} {B : Nat} {S : st} (cell : Int32) (w : Int32) (hB : B ≤ 2000) (ho : sO B S) (h : RX S σ.1) (kk : ∀ σ' : sy_S, RX S σ'.1 → Q (some (.int (f_again cell w S))) σ') : sy_E shX mX11_again (0, sy_ent [.ref 6, .int cell, .int w] 6, [], σ) Q := by
  obtain ⟨G, H, P, U, R, T, W, L⟩ := S
  obtain ⟨r1, r2, r3, r4, r5, r6, r7⟩ := id h
  have hG := r1.1
  have hH := sO_H ho
  obtain ⟨z1, z2, z3⟩ := px_rng (a := 0) (b := 1) (x := w) (by decide) (by decide)
  have hB9 := hz9 hH hB
  have hP := sg_P_len hG
  have bad : ∀ c, px (sg_p G) cell = some c → px (pR 0 1) w = none → Q (some (.int (-1))) σ := by
    intro c hc z
    have e : f_again cell w (G, H, P, U, R, T, W, L) = -1 := by simp only [f_again, hc, z]
    rw [e] at kk
    exact kk σ h
  refine w_X_again_0 r1 (fun c hc q => bad c hc (z1 q)) (fun c hc q q2 => ?_) (fun c hc _ q => bad c hc (z2 q)) (fun q => ?_)
  · obtain ⟨m, hm⟩ := z3 q q2
    obtain ⟨pm, rfl, -⟩ := px_s hm
    have pm2 : m ≤ 1 := pm.2
    obtain ⟨pc, rfl, -⟩ := px_s hc
    have hc16 := sg_p16 hG pc
    have az := agn_hz hG hH pc
    have hcd : ∀ n, pkl (agn G H c n) (sg_P G) < 2 ^ 32 := fun n => Nat.lt_of_lt_of_le (pkl_lt (az n).2 _) (Nat.le_trans (Nat.pow_le_pow_right (by decide) hP) (by decide))
    have ceq : ∀ i j, nI (pkl (agn G H c i) (sg_P G)) = nI (pkl (agn G H c j) (sg_P G)) ↔ feq (agn G H c i) (agn G H c j) = true := fun i j => by
      rw [nI_eq32 (hcd i) (hcd j), pkl_feq hG (az i) (az j)]
    obtain ⟨Cs, hCs⟩ : ∃ Cs : Nat → List Int32, Cs = fun n => (List.range n).map fun k => nI (pkl (agn G H c k) (sg_P G)) := ⟨_, rfl⟩
    have Cl : ∀ n, (Cs n).length = n := fun n => by rw [hCs]; simp
    have Cat : ∀ n j x, (Cs n)[j]? = some x ↔ j < n ∧ x = nI (pkl (agn G H c j) (sg_P G)) := by
      intro n j x
      rw [hCs]
      dsimp only
      rw [List.getElem?_map]
      by_cases y : j < n
      · rw [List.getElem?_range y]
        simp only [Option.map_some, Option.some.injEq]
        exact ⟨fun e => ⟨y, e.symm⟩, fun e => e.2.symm⟩
      · rw [List.getElem?_eq_none (by rw [List.length_range]; omega)]
        exact ⟨(fun e => by cases e), fun e => absurd e.1 y⟩
    have Cs1 : ∀ n, Cs (n + 1) = Cs n ++ [nI (pkl (agn G H c n) (sg_P G))] := fun n => by rw [hCs]; simp [List.range_succ]
    have ef : f_again (nI c) (nI m) (G, H, P, U, R, T, W, L) = match fst1 (fun n => (aga G H c n).isSome) 1 2000 with
      | none => -5
      | some n => if m = 0 then nI (n - (aga G H c n).getD 0) else nI ((aga G H c n).getD 0) := by
        simp only [f_again, hc, hm]
        rfl
    rw [ef] at kk
    refine e_x_begin rfl r2 (fun σ1 g1 g2 g3 => w_X_again_33 (e_x_bl (g1.gx r1 (by decide)) g2 g3 hB9 (fun σ2 f1 f2 f3 => w_X_again_40 (e_x_sclear (fun σ3 i1 i2 => w_X_again_48 ?_)))))
    have lS : ∀ {q}, q ∈ ([40, 41, 57, 58, 59, 60] : List Nat) → 39 ≤ q := by simp
    have hs3 : sx [40, 41, 57, 58, 59, 60] σ σ3 := ((g1.mono (by simp)).tr (f1.mono (by simp))).tr (i1.mono (by simp))
    refine e_x_code (hs3.gx r1 (by decide)) (ar_sx i1 f2 (by decide)) (az 0).2 (w_X_again_59 (e_x_sadd i2 (by simp) (fun σ4 j1 j2 => w_X_again_62 ?_)))
    have hs4 : sx [40, 41, 57, 58, 59, 60] σ σ4 := hs3.tr (j1.mono (by simp))
    have key : ∀ (d n : Nat) (σ' : sy_S), n + d = 2000 → sx [40, 41, 57, 58, 59, 60] σ σ' → ar σ'.1 40 (agn G H c n) → sX (Cs (n + 1)) σ'.1 → (∀ k, 1 ≤ k → k ≤ n → aga G H c k = none) → fst1 (fun n => (aga G H c n).isSome) (n + 1) d = fst1 (fun n => (aga G H c n).isSome) 1 2000 → sy_E shX mX11_again (64, [some (.ref 6), some (.int (nI c)), some (.int (nI m)), some (.int (nI (n + 1))), none, none], [], σ') Q := by
      intro d
      induction d with
      | zero =>
        intro n σ' hn hs ha hx hno et
        have e : n = 2000 := hn
        subst e
        have h9 := kk σ' (h.fr ho hs (by simp))
        rw [← et] at h9
        exact w_X_again_64 (fun _ => h9) (fun q => absurd (by decide) q)
      | succ d ih =>
        intro n σ' hn hs ha hx hno et
        rw [fst1] at et
        have hg' := hs.gx r1 (by decide)
        have hadz := hz_ad (n := 1) (az n) pc (show 3 ≤ 4 by decide) (by have := (az n).2 c; omega)
        refine w_X_again_64 (fun q => ?_) (fun _ => ?_)
        · rw [show (2000 : Int32) = nI 2000 from rfl, nI_ltI (by decide) (by omega)] at q; omega
        · refine e_x_addGrain hc16 ha (fun σ5 m1 m2 => w_X_again_79 ?_)
          obtain ⟨c0, hc0⟩ := ar_any σ5.1 41
          refine e_x_level (m1.gx hg' (by decide)) m2 hc0 (fun j _ => by have := hadz.2 j; omega) (fun σ6 u Hn o1 o2 o3 o4 o5 => w_X_again_86 ?_)
          have o4 : ar σ6.1 40 (agn G H c (n + 1)) := by
            rw [(stt_eq o2 o3).2] at o4
            exact o4
          have hs6 : sx [40, 41, 57, 58, 59, 60] σ σ6 := (hs.tr (m1.mono (by simp))).tr (o1.mono (by simp))
          have hx6 : sX (Cs (n + 1)) σ6.1 := by
            obtain ⟨x1, x2, x3, x4⟩ := hx
            have eq5 : ∀ q, 57 ≤ q → σ6.1 q = σ'.1 q := fun q hq => (o1.1 q (by simp; omega)).trans (m1.1 q (by simp; omega))
            exact ⟨by rw [eq5 57 (by decide)]; exact x1, fun j x hj => by rw [eq5 58 (by decide)]; exact x2 j x hj, fun b hb => by rw [eq5 60 (by decide)]; exact x3 b hb, fun j x hj => by rw [eq5 59 (by decide)]; exact x4 j x hj⟩
          refine e_x_code (hs6.gx r1 (by decide)) o4 (az (n + 1)).2 (w_X_again_94 ?_)
          have hR6 := h.fr ho hs6 (by simp)
          refine e_x_sfind hx6 (by rw [Cl]; omega) (fun j hj hjl => ?_) (fun hnf => ?_)
          · obtain ⟨j1, j2⟩ := (Cat _ _ _).mp hj
            have hfj := (ceq (n + 1) j).mp j2
            -- it is the first
            have hag : aga G H c (n + 1) = some j := by
              cases hag : aga G H c (n + 1) with
              | none =>
                have := fst1_none.mp hag j (Nat.zero_le _) (by omega)
                have h8 : feq (agn G H c j) (agn G H c (n + 1)) = true := feq_iff.mpr (fun i hi => (feq_iff.mp hfj i hi).symm)
                rw [h8] at this
                cases this
              | some j' =>
                obtain ⟨a1, -, a3⟩ := fst1_some hag
                have a2 := fst1_min hag
                rcases Nat.lt_trichotomy j' j with y | y | y
                · exfalso
                  have h8 : feq (agn G H c j') (agn G H c j) = true := feq_iff.mpr (fun i hi => (feq_iff.mp a1 i hi).trans (feq_iff.mp hfj i hi))
                  have h7 := fst1_none.mp (hno j (by omega) (by omega)) j' (Nat.zero_le _) (by omega)
                  rw [h8] at h7
                  cases h7
                · rw [y]
                · exfalso
                  have h8 : feq (agn G H c j) (agn G H c (n + 1)) = true := feq_iff.mpr (fun i hi => (feq_iff.mp hfj i hi).symm)
                  rw [a2 j (Nat.zero_le _) y] at h8
                  cases h8
            rw [hag] at et
            have h9 := kk σ6 hR6
            rw [← et, if_pos (show (some j).isSome = true from rfl)] at h9
            dsimp only at h9
            rw [hag] at h9
            refine w_X_again_105 (fun q => absurd q (nI_pos (by omega))) (fun _ q => ?_) (fun _ q => ?_)
            · rw [nI_lit0, nI_eq (by omega) (by decide)] at q
              rw [if_neg q] at h9
              exact h9
            · rw [nI_lit0, nI_eq (by omega) (by decide)] at q
              rw [if_pos (Classical.byContradiction q)] at h9
              rw [pk_sub (by omega)]
              exact h9
          · have hag : aga G H c (n + 1) = none := by
              refine fst1_none.mpr (fun k _ hk => ?_)
              cases y : feq (agn G H c k) (agn G H c (n + 1)) with
              | false => rfl
              | true =>
                exfalso
                exact hnf k ((Cat _ _ _).mpr ⟨by omega, ((ceq k (n + 1)).mpr y).symm⟩)
            rw [hag, if_neg (by decide)] at et
            refine w_X_again_105 (fun _ => ?_) (fun q => absurd (by decide) q) (fun q => absurd (by decide) q)
            refine e_x_sadd hx6 (by rw [Cl]; omega) (fun σ7 s1 s2 => w_X_again_135 ?_)
            rw [nI_1]
            refine ih (n + 1) σ7 (by omega) (hs6.tr (s1.mono (by simp))) (ar_sx s1 o4 (by decide)) ?_ (fun k h1 h2 => ?_) et
            · rw [Cs1 (n + 1)]; exact s2
            · by_cases y : k = n + 1
              · rw [y]; exact hag
              · exact hno k h1 (by omega)
    exact key 2000 0 σ4 rfl hs4 (ar_sx j1 (ar_sx i1 f2 (by decide)) (by decide)) (by rw [Cs1 0, show Cs 0 = [] by rw [hCs]; rfl]; exact j2) (fun k h1 h2 => by omega) rfl
  · have e : f_again cell w (G, H, P, U, R, T, W, L) = -1 := by simp only [f_again, q]
    rw [e] at kk
    exact kk σ h
