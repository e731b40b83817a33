/-! SandGroup's methods: lots, scripts, changes (by program: wip/whole/gen/p65.py) -/
theorem sg_lost_add (G : sg_G) (u v : Nat → Nat) : sg_lost G (fun j => u j + v j) = sg_lost G u + sg_lost G v := by
  unfold sg_lost sg_sum
  rw [← ssum_add]
  apply ssum_congr
  intro j _
  by_cases q : G.2.2 j = true
  · rw [if_pos q, if_pos q, if_pos q]
  · rw [if_neg q, if_neg q, if_neg q]
    exact Nat.add_mul _ _ _
/-- the place of a lot -/
def lpl (G : sg_G) (z : Int32) : Nat := (sg_P G).getD (lnum z (sg_P G).length) 0
theorem lpl_at {G : sg_G} (h0 : 0 < (sg_P G).length) (z : Int32) : lnum z (sg_P G).length < (sg_P G).length ∧ (sg_P G)[lnum z (sg_P G).length]? = some (lpl G z) ∧ sg_p G (lpl G z) := by
  have hlt : lnum z (sg_P G).length < (sg_P G).length := Nat.mod_lt _ h0
  have h9 : (sg_P G)[lnum z (sg_P G).length]? = some (lpl G z) := by
    unfold lpl
    rw [List.getD_eq_getElem?_getD, List.getElem?_eq_getElem hlt]; rfl
  exact ⟨hlt, h9, sg_P_at h9⟩
theorem lrn_ok {G : sg_G} (hG : sg_ok G) {B : Nat} {H : Nat → Nat} (hH : hz G B H) (h0 : 0 < (sg_P G).length) (seed : Int32) : ∀ n, hz G 3 (lrn G H seed n).2.1 ∧ (lrn G H seed n).2.2.1.length ≤ n ∧ (∀ a c, (a, c) ∈ (lrn G H seed n).2.2.1 → a ≤ 500) ∧ (lrn G H seed n).2.2.2.2.2 ≤ 500
  | 0 => ⟨stt_hz hG hH.1, Nat.le_refl _, fun a c q => absurd q List.not_mem_nil, Nat.zero_le _⟩
  | n + 1 => by
    obtain ⟨h1, h2, h3, h4⟩ := lrn_ok hG hH h0 seed n
    rw [lrn]
    unfold lnx
    dsimp only
    obtain ⟨-, -, hcp⟩ := lpl_at h0 (lz (lrn G H seed n).1)
    have hb := hz_ad (n := 1) h1 hcp (show 3 ≤ 4 by decide) (by have := h1.2 (lpl G (lz (lrn G H seed n).1)); omega)
    have hs : ssum 16 (od G (sg_ad (lrn G H seed n).2.1 (lpl G (lz (lrn G H seed n).1)) 1)) ≤ 500 := Nat.le_trans (od_bd hG (B := 4) (fun k _ => hb.2 k)).1 (by decide)
    refine ⟨stt_hz hG hb.1, ?_, fun a d q => ?_, Nat.max_le.mpr ⟨h4, hs⟩⟩
    · exact Nat.le_trans (tadd_len _ _) (by omega)
    · rcases tadd_mem q with q | ⟨d', q⟩
      · rw [q]; exact hs
      · exact h3 a d' q
theorem lnum_eq {z : Int32} {many : Nat} (h0 : 0 < many) (hm : many < 2 ^ 31) : ((z &&& 2147483647) / 65536) - ((z &&& 2147483647) / 65536) / nI many * nI many = nI (lnum z many) := by
  obtain ⟨a, ha, e⟩ := pk_andE z (m := 2147483647) 31 rfl
  unfold lnum
  rw [e, pk_tn (by omega), show (65536 : Int32) = nI 65536 from rfl, pk_div (by omega) (by decide) (by decide), pk_rem (Nat.lt_of_le_of_lt (Nat.div_le_self _ _) (by omega)) h0 hm]
def lst (G : sg_G) (q : lq) (f : Nat → Nat → Int32) : Prop := ar f 40 q.2.1 ∧ (∃ u, ar f 41 u ∧ sg_lost G u = q.2.2.2.1) ∧ f 61 2 = nI q.2.2.1.length ∧ f 61 3 = nI q.2.2.2.2.1 ∧ f 61 4 = nI q.2.2.2.2.2 ∧ yX 62 63 q.2.2.1 f
theorem e_X_scatter {Q : Option Value → sy_S → Prop} {σ : sy_S} {G : sg_G} {B n : Nat} {H : Nat → Nat} {seed : Int32} (hB : B ≤ 2000) (hH : hz G B H) (hg : gx G σ.1) (h7 : ar σ.1 7 H) (h0 : 0 < (sg_P G).length) (hn : n ≤ 200) (kk : ∀ σ' : sy_S, sx [40, 41, 61, 62, 63] σ σ' → lst G (lrn G H seed n) σ'.1 → Q none σ') : sy_E shX mX11_scatter (0, sy_ent [.ref 6, .int seed, .int (nI n)] 7, [], σ) Q := by
  have hG := hg.1
  have hP := sg_P_len hG
  have hB9 := hz9 hH hB
  refine w_X_scatter_0 (e_x_begin rfl h7 (fun σ1 g1 g2 g3 => w_X_scatter_19 (e_x_bl (g1.gx hg (by decide)) g2 g3 hB9 (fun σ2 f1 f2 f3 => w_X_scatter_26 (e_x_forget (fun σ3 i1 i2 => w_X_scatter_34 ?_))))))
  rw [gx_n7 hg]
  have hs3 : sx [40, 41, 61, 62, 63] σ σ3 := ((g1.mono (by simp)).tr (f1.mono (by simp))).tr (i1.mono (by simp))
  have hl := sy_loop (sh := shX) (y := mX11_scatter) (Q := Q) (fun k σ' => (47, [some (.ref 6), none, some (.int (nI n)), some (.int (nI (sg_P G).length)), some (.int (lrn G H seed k).1), some (.int (nI k)), none], [], σ')) (fun k σ' => sx [40, 41, 61, 62, 63] σ σ' ∧ lst G (lrn G H seed k) σ'.1) n ?_ ?_ 0 (sy_up (sy_up (sy_up σ3.1 61 2 0) 61 3 0) 61 4 0, σ3.2) (Nat.zero_le _) ⟨hs3.tr (((sx.up (k := 61) (i := 2) (x := 0) (by simp)).tr (sx.up (k := 61) (i := 3) (x := 0) (by simp))).tr (sx.up (by simp))), ?_⟩
  · exact hl
  · rintro k σ4 hk ⟨j1, j2, ⟨u, j3, j4⟩, j5, j6, j7, j8⟩ ih
    have hg4 := j1.gx hg (by decide)
    obtain ⟨b1, b2, b3, b4⟩ := lrn_ok hG hH h0 seed k
    obtain ⟨z, hz'⟩ : ∃ z, z = (lrn G H seed k).1 := ⟨_, rfl⟩
    obtain ⟨n1, n2, n3⟩ := lpl_at h0 (lz z)
    have hc16 := sg_p16 hG n3
    have hp0 : ¬ nI (sg_P G).length ≤ 0 := nI_nle h0 (by omega)
    have en : ((((z * 1103515245) + 12345) &&& 2147483647) / 65536) - ((((z * 1103515245) + 12345) &&& 2147483647) / 65536) / nI (sg_P G).length * nI (sg_P G).length = nI (lnum (lz z) (sg_P G).length) := lnum_eq h0 (by omega)
    have e2 : σ4.1 2 (lnum (lz z) (sg_P G).length) = nI (lpl G (lz z)) := hg4.2.2.2.1 _ _ n2
    rw [← hz']
    refine w_X_scatter_47 (fun _ _ => nI_ne0 h0 (by omega)) (fun _ _ => by rw [en]; exact vp_in_nI (by omega) (by decide)) (fun q => absurd q (nI_ge hk (by omega))) (fun _ q => absurd q hp0) (fun _ _ => ?_)
    rw [en, nI_clamp (by omega), e2]
    refine e_x_addGrain hc16 j2 (fun σ5 m1 m2 => w_X_scatter_99 ?_)
    have hb := hz_ad (n := 1) b1 n3 (show 3 ≤ 4 by decide) (by have := b1.2 (lpl G (lz z)); omega)
    have hss : ssum 16 (od G (sg_ad (lrn G H seed k).2.1 (lpl G (lz z)) 1)) ≤ 500 := Nat.le_trans (od_bd hG (B := 4) (fun k _ => hb.2 k)).1 (by decide)
    refine e_x_level (m1.gx hg4 (by decide)) m2 (ar_sx m1 j3 (by decide)) (fun j _ => by have := hb.2 j; omega) (fun σ6 u' Hn o1 o2 o3 o4 o5 => w_X_scatter_110 ?_)
    obtain ⟨eu, eH⟩ := stt_eq o2 o3
    rw [eu]
    have hs6 : sx [40, 41, 61, 62, 63] σ σ6 := (j1.tr (m1.mono (by simp))).tr (o1.mono (by simp))
    have e6 : ∀ q, q ≠ 40 → q ≠ 41 → σ6.1 q = σ4.1 q := fun q a b => (o1.1 q (by simp; omega)).trans (m1.1 q (by simp; omega))
    refine e_x_yadd (Y := (lrn G H seed k).2.2.1) (tg := (lrn G H seed k).2.2.2.2.1) (gr := (lrn G H seed k).2.2.2.2.2) (by rw [e6 61 (by decide) (by decide)]; exact j5) (by rw [e6 61 (by decide) (by decide)]; exact j6) (by rw [e6 61 (by decide) (by decide)]; exact j7) (fun j s c hj => by rw [e6 62 (by decide) (by decide), e6 63 (by decide) (by decide)]; exact j8 j s c hj) (fun a c hac => by have := b3 a c hac; omega) (by omega) (by omega) (by omega) (fun σ7 s1 s2 s3 s4 s5 => w_X_scatter_113 ?_)
    rw [nI_1]
    have ez : lz z = (lrn G H seed (k + 1)).1 := by rw [hz']; rfl
    have ei : (z * 1103515245) + 12345 = (lrn G H seed (k + 1)).1 := ez
    rw [ei]
    refine ih σ7 ⟨hs6.tr (s1.mono (by simp)), ?_, ⟨fun j => u j + u' j, ?_, ?_⟩, ?_, ?_, ?_, ?_⟩
    · show ar σ7.1 40 (stt G (sg_ad (lrn G H seed k).2.1 (lpl G (lz (lrn G H seed k).1)) 1))
      rw [← hz', ← eH]
      exact ar_sx s1 o4 (by decide)
    · exact ar_sx s1 o5 (by decide)
    · rw [sg_lost_add, j4, eu]
      show _ = (lrn G H seed k).2.2.2.1 + sg_lost G (od G (sg_ad (lrn G H seed k).2.1 (lpl G (lz (lrn G H seed k).1)) 1))
      rw [← hz']
    · show σ7.1 61 2 = nI (tadd (ssum 16 (od G (sg_ad (lrn G H seed k).2.1 (lpl G (lz (lrn G H seed k).1)) 1))) (lrn G H seed k).2.2.1).length
      rw [← hz']; exact s2
    · show σ7.1 61 3 = nI ((lrn G H seed k).2.2.2.2.1 + ssum 16 (od G (sg_ad (lrn G H seed k).2.1 (lpl G (lz (lrn G H seed k).1)) 1)))
      rw [← hz']; exact s3
    · show σ7.1 61 4 = nI (max (lrn G H seed k).2.2.2.2.2 (ssum 16 (od G (sg_ad (lrn G H seed k).2.1 (lpl G (lz (lrn G H seed k).1)) 1))))
      rw [← hz']; exact s4
    · show yX 62 63 (tadd (ssum 16 (od G (sg_ad (lrn G H seed k).2.1 (lpl G (lz (lrn G H seed k).1)) 1))) (lrn G H seed k).2.2.1) σ7.1
      rw [← hz']; exact s5
  · rintro σ4 ⟨j1, j2⟩
    exact w_X_scatter_47 (fun q => absurd (nI_le (Nat.le_refl n) (by omega)) q) (fun q => absurd (nI_le (Nat.le_refl n) (by omega)) q) (fun _ => kk σ4 j1 j2) (fun q => absurd (nI_le (Nat.le_refl n) (by omega)) q) (fun q => absurd (nI_le (Nat.le_refl n) (by omega)) q)
  · refine ⟨fun j hj => ?_, ⟨fun _ => 0, fun j hj => ?_, ?_⟩, ?_, ?_, ?_, fun j s c hj => absurd hj (by simp [lrn])⟩
    · dsimp only
      rw [sy_up_ne _ _ _ (by decide), sy_up_ne _ _ _ (by decide), sy_up_ne _ _ _ (by decide)]
      exact ar_sx i1 f2 (by decide) j hj
    · dsimp only
      rw [sy_up_ne _ _ _ (by decide), sy_up_ne _ _ _ (by decide), sy_up_ne _ _ _ (by decide)]
      exact i2 j hj
    · unfold sg_lost sg_sum
      rw [ssum_congr (g := fun _ => 0) (fun j _ => by simp), ssum_zero]
      rfl
    · simp [sy_up2, lrn, nI_0]
    · simp [sy_up2, lrn, nI_0]
    · simp [sy_up2, lrn, nI_0]
theorem X_lots {Q : Option Value → sy_S → Prop} {σ : sy_S} {B : Nat} {S : st} (seed : Int32) (n : Int32) (w : Int32) (hB : B ≤ 2000) (ho : sO B S) (h : RX S σ.1) (kk : ∀ σ' : sy_S, RX S σ'.1 → Q (some (.int (f_lots seed n w S))) σ') : sy_E shX mX11_lots (0, sy_ent [.ref 6, .int seed, .int n, .int w] 4, [], σ) Q := by
  obtain ⟨G, H, P, U, R, T, W, L⟩ := S
  obtain ⟨r1, r2, r3, r4, r5, r6, r7⟩ := id h
  have hG := r1.1
  have hH := sO_H ho
  have hP := sg_P_len hG
  have e7 : σ.1 0 7 = nI (sg_P G).length := gx_n7 r1
  obtain ⟨z1, z2, z3⟩ := px_rng (a := 1) (b := 200) (x := n) (by decide) (by decide)
  have wok : ∀ k : Nat, k < 2 ^ 31 → (k ≤ 3 ∨ 100 ≤ k) → px (fun m => m ≤ 3 ∨ 100 ≤ m) (nI k) = some k := fun k h1 h2 => px_i h1 h2
  have badw : px (fun m => m ≤ 3 ∨ 100 ≤ m) w = none → Q (some (.int (-1))) σ := by
    intro z
    have e : f_lots seed n w (G, H, P, U, R, T, W, L) = -1 := by simp only [f_lots, z]
    rw [e] at kk
    exact kk σ h
  have badn : ∀ k, px (fun m => m ≤ 3 ∨ 100 ≤ m) w = some k → px (pR 1 200) n = none → Q (some (.int (-2))) σ := by
    intro k hk z
    have e : f_lots seed n w (G, H, P, U, R, T, W, L) = -2 := by simp only [f_lots, hk, z]
    rw [e] at kk
    exact kk σ h
  have getw : ¬ w < 0 → (w ≤ 3 ∨ 100 ≤ w) → ∃ k, px (fun m => m ≤ 3 ∨ 100 ≤ m) w = some k := by
    intro a b
    obtain ⟨k, hk, rfl⟩ := nI_of a
    refine ⟨k, wok k hk ?_⟩
    rcases b with b | b
    · rw [show (3 : Int32) = nI 3 from rfl, nI_leI hk (by decide)] at b; exact Or.inl b
    · rw [show (100 : Int32) = nI 100 from rfl, nI_leI (by decide) hk] at b; exact Or.inr b
  have nop : ∀ k m, px (fun m => m ≤ 3 ∨ 100 ≤ m) w = some k → px (pR 1 200) n = some m → ¬ ¬ σ.1 0 7 = 0 → Q (some (.int (-3))) σ := by
    intro k m hk hm q
    rw [e7, nI_lit0, nI_eq (by omega) (by decide)] at q
    have e : f_lots seed n w (G, H, P, U, R, T, W, L) = -3 := by simp only [f_lots, hk, hm, if_pos (Classical.byContradiction q)]
    rw [e] at kk
    exact kk σ h
  have go : ∀ k m, px (fun m => m ≤ 3 ∨ 100 ≤ m) w = some k → px (pR 1 200) n = some m → ¬ σ.1 0 7 = 0 → sy_E shX mX11_scatter (0, sy_ent [.ref 6, .int seed, .int n] 7, [], σ) (fun r9 σ9 => sy_E shX mX11_lots (51, [some (.ref 6), none, none, some (.int w)], r9.toList ++ [], σ9) Q) := by
    intro k m hk hm q
    rw [e7, nI_lit0, nI_eq (by omega) (by decide)] at q
    obtain ⟨pk, rfl, pk3⟩ := px_s hk
    obtain ⟨pm, rfl, -⟩ := px_s hm
    have hP0 : 0 < (sg_P G).length := by omega
    have e : f_lots seed (nI m) (nI k) (G, H, P, U, R, T, W, L) = if 400 ≤ k then ((lrn G H seed m).2.2.1[k - 400]?).elim (-5) (fun q => nI q.2) else if 100 ≤ k then ((lrn G H seed m).2.2.1[k - 100]?).elim (-5) (fun q => nI q.1) else if k = 0 then nI (lrn G H seed m).2.2.2.1 else if k = 1 then nI (lrn G H seed m).2.2.2.2.1 else if k = 2 then nI (lrn G H seed m).2.2.2.2.2 else nI (lrn G H seed m).2.2.1.length := by simp only [f_lots, hk, hm, if_neg q]
    rw [e] at kk
    have pm2 : m ≤ 200 := pm.2
    refine e_X_scatter hB hH r1 r2 hP0 pm2 (fun σ1 g1 g2 => ?_)
    obtain ⟨c1, ⟨u, c2, c3⟩, c4, c5, c6, c7⟩ := g2
    obtain ⟨b1, b2, b3, b4⟩ := lrn_ok hG hH hP0 seed m
    have hR := h.fr ho g1 (by simp)
    have h9 := kk σ1 hR
    obtain ⟨Y, hY⟩ : ∃ Y, Y = (lrn G H seed m).2.2.1 := ⟨_, rfl⟩
    rw [← hY] at c4 c7 b2 h9
    have k0 : nI k = 0 ↔ k = 0 := by rw [nI_lit0, nI_eq pk3 (by decide)]
    have k1 : nI k = 1 ↔ k = 1 := by rw [nI_lit1, nI_eq pk3 (by decide)]
    have k2 : nI k = 2 ↔ k = 2 := nI_eq pk3 (by decide)
    have k3 : nI k = 3 ↔ k = 3 := nI_eq pk3 (by decide)
    have k400 : (400 : Int32) ≤ nI k ↔ 400 ≤ k := nI_leI (by decide) pk3
    have s400 : 400 ≤ k → nI k - 400 = nI (k - 400) := fun q => pk_sub (b := 400) q
    have s100 : 100 ≤ k → nI k - 100 = nI (k - 100) := fun q => pk_sub (b := 100) q
    have k100 : k ≠ 0 → k ≠ 1 → k ≠ 2 → k ≠ 3 → 100 ≤ k := by omega
    refine w_X_lots_51 ?_ ?_ ?_ ?_ ?_ ?_ ?_ ?_ ?_ ?_ ?_ ?_
    all_goals simp only [k0, k1, k2, k3, k400]
    · intro q0 q1 q2 q3 q4 q5 q6
      rw [s400 q4, c4, nI_leI (by omega) (by omega)] at q6
      rw [s400 q4]; exact vp_in_nI (by omega) (by decide)
    · intro q0 q1 q2 q3 q4 q5 q6
      rw [s100 (k100 q0 q1 q2 q3), c4, nI_leI (by omega) (by omega)] at q6
      rw [s100 (k100 q0 q1 q2 q3)]; exact vp_in_nI (by omega) (by decide)
    · intro q0
      rw [if_neg (by omega), if_neg (by omega), if_pos q0] at h9
      refine e_x_lost hR.1 c2 (w_X_lots_91 ?_)
      rw [c3]; exact h9
    · intro q0 q1
      rw [if_neg (by omega), if_neg (by omega), if_neg q0, if_pos q1] at h9
      rw [c5]; exact h9
    · intro q0 q1 q2
      rw [if_neg (by omega), if_neg (by omega), if_neg q0, if_neg q1, if_pos q2] at h9
      rw [c6]; exact h9
    · intro q0 q1 q2 q3
      rw [if_neg (by omega), if_neg (by omega), if_neg q0, if_neg q1, if_neg q2] at h9
      rw [c4]; exact h9
    · intro q0 q1 q2 q3 q4 q5
      rw [s400 q4] at q5; exact absurd q5 (nI_pos (by omega))
    · intro q0 q1 q2 q3 q4 q5 q6
      rw [s400 q4, c4, nI_leI (by omega) (by omega)] at q6
      rw [if_pos q4, List.getElem?_eq_none q6] at h9
      exact h9
    · intro q0 q1 q2 q3 q4 q5 q6
      rw [s400 q4, c4, nI_leI (by omega) (by omega)] at q6
      obtain ⟨⟨a, c⟩, hac⟩ : ∃ p, Y[k - 400]? = some p := ⟨_, List.getElem?_eq_getElem (by omega)⟩
      rw [if_pos q4, hac] at h9
      rw [s400 q4, nI_clamp (by omega), (c7 _ a c hac).2]
      exact h9
    · intro q0 q1 q2 q3 q4 q5
      rw [s100 (k100 q0 q1 q2 q3)] at q5; exact absurd q5 (nI_pos (by omega))
    · intro q0 q1 q2 q3 q4 q5 q6
      have q7 := k100 q0 q1 q2 q3
      rw [s100 q7, c4, nI_leI (by omega) (by omega)] at q6
      rw [if_neg q4, if_pos q7, List.getElem?_eq_none q6] at h9
      exact h9
    · intro q0 q1 q2 q3 q4 q5 q6
      have q7 := k100 q0 q1 q2 q3
      rw [s100 q7, c4, nI_leI (by omega) (by omega)] at q6
      obtain ⟨⟨a, c⟩, hac⟩ : ∃ p, Y[k - 100]? = some p := ⟨_, List.getElem?_eq_getElem (by omega)⟩
      rw [if_neg q4, if_pos q7, hac] at h9
      rw [s100 q7, nI_clamp (by omega), (c7 _ a c hac).1]
      exact h9
  refine w_X_lots_0 (fun q => badw ?_) (fun q q2 q3 => ?_) (fun q q2 q3 q4 q5 => ?_) (fun q q2 q3 q4 q5 => ?_) (fun q q2 _ q3 => ?_) (fun q _ q2 q3 => ?_) (fun q _ q2 q3 q4 q5 => ?_) (fun q _ q2 q3 q4 q5 => ?_) (fun q _ q2 _ q3 => ?_) (fun q q2 q3 => badw ?_)
  · exact px_no (fun k hk _ e => by subst e; exact absurd q (nI_pos hk))
  · obtain ⟨k, hk⟩ := getw q (Or.inl q2)
    exact badn k hk (z1 q3)
  · obtain ⟨k, hk⟩ := getw q (Or.inl q2)
    obtain ⟨m, hm⟩ := z3 q3 q4
    exact go k m hk hm q5
  · obtain ⟨k, hk⟩ := getw q (Or.inl q2)
    obtain ⟨m, hm⟩ := z3 q3 q4
    exact nop k m hk hm q5
  · obtain ⟨k, hk⟩ := getw q (Or.inl q2)
    exact badn k hk (z2 q3)
  · obtain ⟨k, hk⟩ := getw q (Or.inr q2)
    exact badn k hk (z1 q3)
  · obtain ⟨k, hk⟩ := getw q (Or.inr q2)
    obtain ⟨m, hm⟩ := z3 q3 q4
    exact go k m hk hm q5
  · obtain ⟨k, hk⟩ := getw q (Or.inr q2)
    obtain ⟨m, hm⟩ := z3 q3 q4
    exact nop k m hk hm q5
  · obtain ⟨k, hk⟩ := getw q (Or.inr q2)
    exact badn k hk (z2 q3)
  · refine px_no (fun k hk hp e => ?_)
    subst e
    rw [show (3 : Int32) = nI 3 from rfl, nI_leI hk (by decide)] at q2
    rw [show (100 : Int32) = nI 100 from rfl, nI_leI (by decide) hk] at q3
    rcases hp with hp | hp <;> omega
theorem lX_i {L : Nat → Option (List Int32)} {f : Nat → Nat → Int32} (h : lX L f) (hlen : ∀ i l, L i = some l → l.length ≤ 40) {q : Nat} (hq : q < 4) : (f 38 q < 0 → L q = none) ∧ (¬ f 38 q < 0 → ∃ l, L q = some l ∧ l.length ≤ 40 ∧ f 38 q = nI l.length ∧ ∀ j x, l[j]? = some x → f (34 + q) j = x) := by
  have h1 := h q hq
  cases hL : L q with
  | none =>
    rw [hL] at h1
    exact ⟨fun _ => rfl, fun z => absurd (by rw [h1]; decide) z⟩
  | some l =>
    rw [hL] at h1
    have hl := hlen q l hL
    exact ⟨fun z => absurd z (by rw [h1.1]; exact nI_pos (by omega)), fun _ => ⟨l, rfl, hl, h1.1, h1.2⟩⟩
theorem px4 {p : Int32} {m : Nat} (h : px p4 p = some m) : vp_in p 4 := px_in (fun k hk => hk) (by decide) h
theorem px4R {p : Int32} {m : Nat} (h : px p4 p = some m) : sy_okR shX 33 p := by
  obtain ⟨h1, rfl, -⟩ := px_s h
  exact okR33 h1
theorem px4f {p : Int32} {m : Nat} (h : px p4 p = some m) : m < 4 ∧ p.toNatClampNeg = m ∧ sy_rf shX 33 p.toNatClampNeg = 34 + m := by
  obtain ⟨h1, rfl, h3⟩ := px_s h
  rw [nI_clamp h3]
  exact ⟨h1, rfl, rf33 m h1⟩
/-- a list becomes a row -/
theorem RX_list {B : Nat} {G : sg_G} {H : Nat → Nat} {P : Nat → Option (Nat → Nat)} {U R : List (Nat → Nat)} {T : List Nat} {W : Option (Nat × Nat)} {L : Nat → Option (List Int32)} {σ σ' : sy_S} {l : List Nat} {p : Nat} {x : List Int32} (ho : sO B (G, H, P, U, R, T, W, L)) (h : RX (G, H, P, U, R, T, W, L) σ.1) (hp : p < 4) (hl : ∀ q, q ∈ l → q = 38 ∨ q = 34 + p ∨ 39 ≤ q) (hs : ∀ q, q ∉ l → σ'.1 q = σ.1 q) (h38 : ∀ i, i < 4 → σ'.1 38 i = if i = p then nI x.length else σ.1 38 i) (hx : ∀ j y, x[j]? = some y → σ'.1 (34 + p) j = y) : RX (G, H, P, U, R, T, W, pset L p x) σ'.1 := by
  obtain ⟨r1, r2, r3, r4, r5, r6, r7⟩ := h
  have e : ∀ q, q < 39 → q ≠ 38 → q ≠ 34 + p → σ'.1 q = σ.1 q := fun q a b c => hs q (fun z => by have := hl q z; omega)
  refine ⟨r1.frame (fun q hq => e q (by omega) (by omega) (by omega)), fun j hj => ?_, r3.fe ho.2.1 (fun q a b => e q (by omega) (by omega) (by omega)), r4.fe ?_ ?_, r5.fe ?_ ?_, r6.fe (fun q a b => e q (by omega) (by omega) (by omega)), fun i hi => ?_⟩
  · rw [e 7 (by decide) (by decide) (by omega)]; exact r2 j hj
  · rw [e 19 (by decide) (by decide) (by omega)]
  · exact e 20 (by decide) (by decide) (by omega)
  · rw [e 19 (by decide) (by decide) (by omega)]
  · exact e 22 (by decide) (by decide) (by omega)
  · have h3 := h38 i hi
    by_cases z : i = p
    · subst z
      rw [if_pos rfl] at h3
      have ep : pset L i x i = some x := by unfold pset; rw [if_pos rfl]
      rw [ep]
      exact ⟨h3, hx⟩
    · rw [if_neg z] at h3
      have ep : pset L p x i = L i := by unfold pset; rw [if_neg z]
      rw [ep, h3]
      have h6 := r7 i hi
      cases hL : L i with
      | none => rw [hL] at h6; exact h6
      | some g =>
        rw [hL] at h6
        exact ⟨h6.1, fun j y hj => by rw [e (34 + i) (by omega) (by omega) (by omega)]; exact h6.2 j y hj⟩
theorem X_judge {Q : Option Value → sy_S → Prop} {σ : sy_S} {B : Nat} {S : st} (q : Int32) (hB : B ≤ 2000) (ho : sO B S) (h : RX S σ.1) (kk : ∀ σ' : sy_S, RX S σ'.1 → Q (some (.int (f_judge q S))) σ') : sy_E shX mX11_judge (0, sy_ent [.ref 6, .int q] 4, [], σ) Q := by
  obtain ⟨G, H, P, U, R, T, W, L⟩ := S
  obtain ⟨r1, r2, r3, r4, r5, r6, r7⟩ := id h
  have hG := r1.1
  have hH := sO_H ho
  have hlen := ho.2.2.2.2.2.2
  refine w_X_judge_0 (fun m hm => ?_) (fun z => ?_)
  · obtain ⟨m4, e1, e2⟩ := px4f hm
    obtain ⟨y1, y2⟩ := lX_i r7 hlen m4
    refine w_X_judge_13 (px4 hm) (fun _ => px4R hm) (fun z => ?_) (fun z => ?_)
    · rw [e1] at z
      have e : f_judge q (G, H, P, U, R, T, W, L) = -11 := by simp only [f_judge, hm, y1 z]
      rw [e] at kk
      exact kk σ h
    · rw [e1] at z
      obtain ⟨l, hl, hl40, h38, hrow⟩ := y2 z
      have e : f_judge q (G, H, P, U, R, T, W, L) = (jgo G l 0 H).elim (-5) nI := by simp only [f_judge, hm, hl]
      rw [e] at kk
      rw [e2]
      refine e_x_begin rfl r2 (fun σ1 g1 g2 g3 => ?_)
      rw [← e2]
      refine w_X_judge_47 ?_
      have key : ∀ (s : List Int32) (i : Nat) (Hi : Nat → Nat) (σ' : sy_S), l.drop i = s → i ≤ l.length → sx [40, 41] σ σ' → ar σ'.1 40 Hi → hz G (B + i) Hi → jgo G s i Hi = jgo G l 0 H → sy_E shX mX11_judge (49, [some (.ref 6), some (.int q), some (.ref (sy_rf shX 33 q.toNatClampNeg)), some (.int (nI i))], [], σ') Q := by
        intro s
        induction s with
        | nil =>
          intro i Hi σ' hd hi hs ha hz' ej
          have hi2 : i = l.length := by
            have := congrArg List.length hd
            rw [List.length_drop, List.length_nil] at this
            omega
          have le : σ'.1 38 q.toNatClampNeg ≤ nI i := by
            rw [e1, hs.1 38 (by decide), h38, hi2]; exact nI_le (Nat.le_refl _) (by omega)
          have h9 := kk σ' (h.fr ho hs (by simp))
          rw [← ej] at h9
          exact w_X_judge_49 (by rw [e2]; exact row33 m m4) (px4 hm) (fun z => absurd le z) (fun _ => h9) (fun z => absurd le z)
        | cons x s ih =>
          intro i Hi σ' hd hi hs ha hz' ej
          have hx : l[i]? = some x := by
            have h1 := congrArg (fun m => m[0]?) hd
            simp only [List.getElem?_drop, Nat.add_zero] at h1
            simpa using h1
          have hlt := (List.getElem?_eq_some_iff.mp hx).1
          have hd2 : l.drop (i + 1) = s := by rw [← List.drop_drop, hd]; rfl
          have nle : ¬ σ'.1 38 q.toNatClampNeg ≤ nI i := by rw [e1, hs.1 38 (by decide), h38]; exact nI_ge hlt (by omega)
          have erow : σ'.1 (sy_rf shX 33 q.toNatClampNeg) i = x := by
            rw [e2, hs.1 (34 + m) (by simp; omega)]; exact hrow i x hx
          have hg' := hs.gx r1 (by decide)
          refine w_X_judge_49 (by rw [e2]; exact row33 m m4) (px4 hm) (fun _ => vp_in_nI (by omega) (by decide)) (fun z => absurd z nle) (fun _ => ?_)
          rw [nI_clamp (by omega), erow]
          rw [jgo] at ej
          refine e_x_tonce hg' ha (fun j _ => by have := hz'.2 j; omega) (fun σ2 c hc h4 f1 f2 => ?_) (fun hno => ?_)
          · refine w_X_judge_71 (fun _ => ?_) (fun z => absurd (by decide) z)
            rw [nI_1]
            rw [hc] at ej
            dsimp only at ej
            rw [if_neg (by omega)] at ej
            exact ih (i + 1) _ σ2 hd2 hlt (hs.tr (f1.mono (by simp))) f2 (hz_tp hG hz' (px_s hc).1) ej
          · refine w_X_judge_71 (fun z => absurd rfl z) (fun _ => ?_)
            have h9 := kk σ' (h.fr ho hs (by simp))
            rw [← ej] at h9
            rcases hno with hno | ⟨c, hc, h4⟩
            · rw [hno] at h9; exact h9
            · rw [hc] at h9
              dsimp only at h9
              rw [if_pos h4] at h9
              exact h9
      exact key l 0 H σ1 rfl (Nat.zero_le _) g1 g2 hH rfl
  · have e : f_judge q (G, H, P, U, R, T, W, L) = -1 := by simp only [f_judge, z]
    rw [e] at kk
    exact kk σ h
theorem tld_some {l : List Int32} {j t : Nat} (h : tld l j = some t) : l[j]? = some (nI t) ∧ t ≤ 1000000 := by
  unfold tld at h
  split at h
  · cases h
  · rename_i x hx
    obtain ⟨p1, p2, -⟩ := px_s h
    rw [hx, p2]
    exact ⟨rfl, p1.2⟩
theorem e_X_untold {Q : Option Value → sy_S → Prop} {σ : sy_S} {G : sg_G} {k : Nat} {l : List Int32} (hk : shX[k]? = some (0, 40, [])) (hg : gx G σ.1) (hl : l.length ≤ 40) (hr : ∀ j x, l[j]? = some x → σ.1 k j = x) (kk : Q (some (.int ((stu G l).elim (-1) nI))) σ) : sy_E shX mX11_firstUntold (0, sy_ent [.ref 6, .ref k, .int (nI l.length)] 4, [], σ) Q := by
  have hP := sg_P_len hg.1
  have e7 : σ.1 0 7 = nI (sg_P G).length := gx_n7 hg
  refine w_X_untold_0 ?_
  have key : ∀ (d j : Nat), j + d = (sg_P G).length → fst1 (fun j => (tld l j).isNone) j d = stu G l → sy_E shX mX11_firstUntold (2, [some (.ref 6), some (.ref k), some (.int (nI l.length)), some (.int (nI j))], [], σ) Q := by
    intro d
    induction d with
    | zero =>
      intro j hj et
      have le : σ.1 0 7 ≤ nI j := by rw [e7, ← show j = (sg_P G).length from hj]; exact nI_le (Nat.le_refl _) (by omega)
      rw [← et] at kk
      exact w_X_untold_2 hk (fun q => absurd le q) (fun _ => kk) (fun q => absurd le q) (fun q => absurd le q) (fun q => absurd le q) (fun q => absurd le q)
    | succ d ih =>
      intro j hj et
      have nle : ¬ σ.1 0 7 ≤ nI j := by rw [e7]; exact nI_ge (by omega) (by omega)
      have ej : (nI j).toNatClampNeg = j := nI_clamp (by omega)
      rw [fst1] at et
      have stop : (tld l j).isNone = true → Q (some (.int (nI j))) σ := by
        intro q
        rw [if_pos q] at et
        rw [← et] at kk
        exact kk
      refine w_X_untold_2 hk (fun _ q => ?_) (fun q => absurd q nle) (fun _ q => stop ?_) (fun _ q q2 => stop ?_) (fun _ q q2 q3 => ?_) (fun _ q q2 q3 => stop ?_)
      · rw [nI_leI (by omega) (by omega)] at q
        exact vp_in_nI (by omega) (by decide)
      · rw [nI_leI (by omega) (by omega)] at q
        unfold tld
        rw [List.getElem?_eq_none q]; rfl
      all_goals
        rw [nI_leI (by omega) (by omega)] at q
        obtain ⟨x, hx⟩ : ∃ x, l[j]? = some x := ⟨_, List.getElem?_eq_getElem (by omega)⟩
        rw [ej, hr j x hx] at q2
        obtain ⟨v1, v2, v3⟩ := px_rng (a := 0) (b := 1000000) (x := x) (by decide) (by decide)
      · unfold tld
        rw [hx]
        dsimp only
        rw [v1 q2]; rfl
      · rw [ej, hr j x hx] at q3
        obtain ⟨t, ht⟩ := v3 q2 q3
        have et2 : tld l j = some t := by unfold tld; rw [hx]; exact ht
        rw [et2, if_neg (by simp)] at et
        rw [nI_1]
        exact ih (j + 1) (by omega) et
      · rw [ej, hr j x hx] at q3
        unfold tld
        rw [hx]
        dsimp only
        rw [v2 q3]; rfl
  exact key (sg_P G).length 0 (by omega) rfl
theorem e_X_unsteady {Q : Option Value → sy_S → Prop} {σ : sy_S} {G : sg_G} {B k : Nat} {H : Nat → Nat} {l : List Int32} (hB : B ≤ 2000) (hH : hz G B H) (hk : shX[k]? = some (0, 40, [])) (hg : gx G σ.1) (h7 : ar σ.1 7 H) (hr : ∀ j x, l[j]? = some x → σ.1 k j = x) (hall : stu G l = none) (kk : Q (some (.int ((sts G H l).elim (-5) nI))) σ) : sy_E shX mX11_firstUnsteady (0, sy_ent [.ref 6, .ref k] 6, [], σ) Q := by
  have hG := hg.1
  have hP := sg_P_len hG
  have e7 : σ.1 0 7 = nI (sg_P G).length := gx_n7 hg
  have told : ∀ j, j < (sg_P G).length → σ.1 k j = nI (tnv l j) ∧ tnv l j ≤ 1000000 := by
    intro j hj
    have h1 := fst1_none.mp hall j (Nat.zero_le _) (by omega)
    unfold tnv
    cases ht : tld l j with
    | none => rw [ht] at h1; cases h1
    | some t =>
      obtain ⟨p1, p2⟩ := tld_some ht
      exact ⟨hr j _ p1, p2⟩
  refine w_X_unsteady_0 ?_
  have key : ∀ (d j : Nat), j + d = (sg_P G).length → fst1 (fun j => decide (3 + 4 * tnv l j < H ((sg_P G).getD j 0) + lsum (fun o => tnv l (sg_pm G o).length) (sg_nb G ((sg_P G).getD j 0)))) j d = sts G H l → sy_E shX mX11_firstUnsteady (2, [some (.ref 6), some (.ref k), some (.int (nI j)), none, none, none], [], σ) Q := by
    intro d
    induction d with
    | zero =>
      intro j hj et
      have le : σ.1 0 7 ≤ nI j := by rw [e7, ← show j = (sg_P G).length from hj]; exact nI_le (Nat.le_refl _) (by omega)
      rw [← et] at kk
      exact w_X_unsteady_2 hk (fun q => absurd le q) (fun q => absurd le q) (fun q => absurd le q) (fun _ => kk) (fun q => absurd le q)
    | succ d ih =>
      intro j hj et
      have nle : ¬ σ.1 0 7 ≤ nI j := by rw [e7]; exact nI_ge (by omega) (by omega)
      have ej : (nI j).toNatClampNeg = j := nI_clamp (by omega)
      obtain ⟨c, p1, p2, p3, p4, p5⟩ := gx_pl hg (i := j) (by omega)
      obtain ⟨t1, t2⟩ := told j (by omega)
      have ec : (nI c).toNatClampNeg = c := nI_clamp (by omega)
      have egd : (sg_P G).getD j 0 = c := by rw [List.getD_eq_getElem?_getD, p1]; rfl
      obtain ⟨n1, n2⟩ := gx_nb hg p2.1
      have hlen := sg_nb_len G c
      have hHc := hH.2 c
      rw [fst1, egd] at et
      refine w_X_unsteady_2 hk (fun _ => vp_in_nI (by omega) (by decide)) (fun _ => by rw [ej, p4]; exact vp_in_nI p3 (by decide)) (fun _ => vp_in_nI (by omega) (by decide)) (fun q => absurd q nle) (fun _ => ?_)
      rw [ej, p4, ec, h7 c p3, t1, nI_lit4, pk_mul]
      have hT : ∀ s : List Nat, (∀ o, o ∈ s → o ∈ sg_nb G c) → lsum (fun o => tnv l (sg_pm G o).length) s ≤ 1000000 * s.length := by
        intro s
        induction s with
        | nil => intro _; exact Nat.le_refl _
        | cons o s ih =>
          intro ho
          have hop := (sg_nb_p hG p2.1 (ho o List.mem_cons_self)).1
          obtain ⟨i, hi⟩ := List.getElem?_of_mem (sg_P_mem.mpr hop)
          have hin := P_num hi
          have h1 := (told i (List.getElem?_eq_some_iff.mp hi).1).2
          rw [hin] at h1
          have h2 := ih (fun o' h' => ho o' (List.mem_cons_of_mem _ h'))
          have e : lsum (fun o => tnv l (sg_pm G o).length) (o :: s) = tnv l (sg_pm G o).length + lsum (fun o => tnv l (sg_pm G o).length) s := by simp [lsum]
          rw [e, List.length_cons]
          omega
      have hfin := hT _ (fun o h => h)
      have hfold := sx_fold (sh := shX) (y := mX11_firstUnsteady) (Q := Q) (sg_nb G c) (fun s i => (39, [some (.ref 6), some (.ref k), some (.int (nI j)), some (.int (nI c)), some (.int (nI (H c + lsum (fun o => tnv l (sg_pm G o).length) s) - nI (4 * tnv l j))), some (.int (nI i))], [], σ)) ?_ ?_
      · exact hfold
      · intro i o hio ih2
        have hi := (List.getElem?_eq_some_iff.mp hio).1
        have hop := (sg_nb_p hG p2.1 (List.mem_of_getElem? hio)).1
        have ho16 := sg_p16 hG hop
        obtain ⟨r, hr'⟩ := List.getElem?_of_mem (sg_P_mem.mpr hop)
        have hrn := P_num hr'
        have hrl := (List.getElem?_eq_some_iff.mp hr').1
        have e4 : σ.1 4 (4 * c + i) = nI o := n2 i o hio
        have ei4 : nI c * 4 + nI i = nI (4 * c + i) := by rw [nI_lit4, pk_mul, nI_add, Nat.mul_comm]
        have ec4 : (nI (4 * c + i)).toNatClampNeg = 4 * c + i := nI_clamp (by omega)
        have e3 : σ.1 3 o = nI r := by rw [hg.2.2.2.2.1 o hop.1, hrn]
        have eo : (nI o).toNatClampNeg = o := nI_clamp (by omega)
        have er : (nI r).toNatClampNeg = r := nI_clamp (by omega)
        have nle2 : ¬ σ.1 5 ((nI c).toNatClampNeg) ≤ nI i := by rw [ec, n1]; exact nI_ge hi (by omega)
        refine w_X_unsteady_39 hk (vp_in_nI p3 (by decide)) (fun _ => by rw [ei4]; exact vp_in_nI (by omega) (by decide)) (fun _ => by rw [ei4, ec4, e4]; exact vp_in_nI ho16 (by decide)) (fun _ => by rw [ei4, ec4, e4, eo, e3]; exact vp_in_nI (by omega) (by decide)) (fun q => absurd q nle2) (fun q => absurd q nle2) (fun _ => ?_)
        rw [ei4, ec4, e4, eo, e3, er, (told r hrl).1, nI_1]
        rw [lsum_app] at ih2
        have e9 : nI (H c + lsum (fun o => tnv l (sg_pm G o).length) ((sg_nb G c).take i)) - nI (4 * tnv l j) + nI (tnv l r) = nI (H c + (lsum (fun o => tnv l (sg_pm G o).length) ((sg_nb G c).take i) + tnv l (sg_pm G o).length)) - nI (4 * tnv l j) := by
          rw [← hrn, Int32.sub_eq_add_neg, Int32.sub_eq_add_neg, Int32.add_assoc, Int32.add_comm (-nI (4 * tnv l j)), ← Int32.add_assoc, nI_add, Nat.add_assoc]
        rw [e9]
        exact ih2
      · have le2 : σ.1 5 ((nI c).toNatClampNeg) ≤ nI (sg_nb G c).length := by rw [ec, n1]; exact nI_le (Nat.le_refl _) (by omega)
        have hv : (nI (H c + lsum (fun o => tnv l (sg_pm G o).length) (sg_nb G c)) - nI (4 * tnv l j)).toInt = ((H c + lsum (fun o => tnv l (sg_pm G o).length) (sg_nb G c) : Nat) : Int) - ((4 * tnv l j : Nat) : Int) := pk_sub_toInt (by omega) (by omega)
        have c3 : nI (H c + lsum (fun o => tnv l (sg_pm G o).length) (sg_nb G c)) - nI (4 * tnv l j) ≤ 3 ↔ H c + lsum (fun o => tnv l (sg_pm G o).length) (sg_nb G c) ≤ 3 + 4 * tnv l j := by
          rw [Int32.le_iff_toInt_le, hv, show (3 : Int32).toInt = 3 from rfl]
          omega
        refine w_X_unsteady_39 hk (vp_in_nI p3 (by decide)) (fun q => absurd le2 q) (fun q => absurd le2 q) (fun q => absurd le2 q) (fun _ q => ?_) (fun _ q => ?_) (fun q => absurd le2 q)
        · rw [c3] at q
          rw [if_neg (by rw [decide_eq_true_eq]; omega)] at et
          rw [nI_1]
          exact ih (j + 1) (by omega) et
        · rw [c3] at q
          rw [if_pos (by rw [decide_eq_true_eq]; omega)] at et
          rw [← et] at kk
          exact kk
  exact key (sg_P G).length 0 (by omega) rfl
theorem X_steadies {Q : Option Value → sy_S → Prop} {σ : sy_S} {B : Nat} {S : st} (q : Int32) (hB : B ≤ 2000) (ho : sO B S) (h : RX S σ.1) (kk : ∀ σ' : sy_S, RX S σ'.1 → Q (some (.int (f_steadies q S))) σ') : sy_E shX mX11_steadies (0, sy_ent [.ref 6, .int q] 4, [], σ) Q := by
  obtain ⟨G, H, P, U, R, T, W, L⟩ := S
  obtain ⟨r1, r2, r3, r4, r5, r6, r7⟩ := id h
  have hG := r1.1
  have hH := sO_H ho
  have hlen := ho.2.2.2.2.2.2
  refine w_X_steadies_0 (fun _ h1 => px4 h1) (fun _ h1 _ => px4R h1) (fun m hm z => ?_) (fun m hm z => ?_) (fun z => ?_)
  · obtain ⟨m4, e1, e2⟩ := px4f hm
    obtain ⟨y1, y2⟩ := lX_i r7 hlen m4
    rw [e1] at z
    have e : f_steadies q (G, H, P, U, R, T, W, L) = -11 := by simp only [f_steadies, hm, y1 z]
    rw [e] at kk
    exact kk σ h
  · obtain ⟨m4, e1, e2⟩ := px4f hm
    obtain ⟨y1, y2⟩ := lX_i r7 hlen m4
    rw [e1] at z
    obtain ⟨l, hl, hl40, h38, hrow⟩ := y2 z
    have e : f_steadies q (G, H, P, U, R, T, W, L) = match stu G l with
        | some j => nI j
        | none => (sts G H l).elim (-5) nI := by
      simp only [f_steadies, hm, hl]
      rfl
    rw [e] at kk
    have hP := sg_P_len hG
    have go := e_X_untold (Q := fun r9 σ9 => sy_E shX mX11_steadies (49, [some (.ref 6), none, some (.ref (34 + m)), none], r9.toList ++ [], σ9) Q) (row33 m m4) r1 hl40 hrow (by
      cases hs : stu G l with
      | none =>
        rw [hs] at kk
        have fin := w_X_steadies_49 (Q := Q) (σ := σ) (q := q) (v := -1) (fun _ => by
          rw [e2]
          exact e_X_unsteady hB hH (row33 m m4) r1 r2 hrow hs (w_X_steadies_63 (kk σ h))) (fun y => absurd (by decide) y)
        rw [e2] at fin
        exact fin
      | some j =>
        rw [hs] at kk
        obtain ⟨-, -, j3⟩ := fst1_some hs
        have fin := w_X_steadies_49 (Q := Q) (σ := σ) (q := q) (v := nI j) (fun y => absurd y (nI_pos (by omega))) (fun _ => kk σ h)
        rw [e2] at fin
        exact fin)
    rw [e2, e1, h38]
    exact go
  · have e : f_steadies q (G, H, P, U, R, T, W, L) = -1 := by simp only [f_steadies, z]
    rw [e] at kk
    exact kk σ h
theorem X_film {Q : Option Value → sy_S → Prop} {σ : sy_S} {B : Nat} {S : st} (q : Int32) (hB : B ≤ 2000) (ho : sO B S) (h : RX S σ.1) (kk : ∀ σ' : sy_S, RX (f_film q S).2 σ'.1 → Q (some (.int (f_film q S).1)) σ') : sy_E shX mX11_film (0, sy_ent [.ref 6, .int q] 5, [], σ) Q := by
  obtain ⟨G, H, P, U, R, T, W, L⟩ := S
  obtain ⟨r1, r2, r3, r4, r5, r6, r7⟩ := id h
  have hG := r1.1
  have hH := sO_H ho
  have hB9 := hz9 hH hB
  have hP := sg_P_len hG
  refine w_X_film_0 (fun m hm => ?_) (fun z => ?_)
  · obtain ⟨m4, e1, e2⟩ := px4f hm
    have e : f_film q (G, H, P, U, R, T, W, L) = (nI (sg_P G).length, (G, H, P, U, R, T, W, pset L m ((sg_P G).map fun c => nI (od G H c)))) := by simp only [f_film, hm]
    rw [e] at kk
    refine w_X_film_13 (e_x_begin rfl r2 (fun σ1 g1 g2 g3 => w_X_film_32 (e_x_bl (g1.gx r1 (by decide)) g2 g3 hB9 (fun σ2 f1 f2 f3 => w_X_film_39 (px4 hm) (px4R hm) ?_))))
    have hst : sy_up σ2.1 38 q.toNatClampNeg (nI (sg_P G).length) = sy_up σ2.1 38 m (nI (sg_P G).length) := by rw [e1]
    rw [gx_n7 r1, hst]
    have hs2 : sx [40, 41] σ σ2 := g1.tr f1
    have hl := sy_loop (sh := shX) (y := mX11_film) (Q := Q) (fun i σ' => (53, [some (.ref 6), none, some (.int (nI (sg_P G).length)), some (.ref (sy_rf shX 33 q.toNatClampNeg)), some (.int (nI i))], [], σ')) (fun i σ' => sx [40, 41, 38, 34 + m] σ σ' ∧ ar σ'.1 41 (od G H) ∧ (∀ j, j < 4 → σ'.1 38 j = if j = m then nI (sg_P G).length else σ.1 38 j) ∧ ∀ j c, j < i → (sg_P G)[j]? = some c → σ'.1 (34 + m) j = nI (od G H c)) (sg_P G).length ?_ ?_ 0 (sy_up σ2.1 38 m (nI (sg_P G).length), σ2.2) (Nat.zero_le _) ⟨(hs2.mono (by simp)).tr (sx.up (by simp)), fun j hj => ?_, fun j hj => ?_, fun j c hj => absurd hj (Nat.not_lt_zero _)⟩
    · exact hl
    · rintro i σ3 hi ⟨i1, i2, i3, i4⟩ ih
      have hg3 : gx G σ3.1 := i1.gx r1 (by intro q hq; simp at hq; omega)
      obtain ⟨c, p1, p2, p3, p4, p5⟩ := gx_pl hg3 hi
      have ei : (nI i).toNatClampNeg = i := nI_clamp (by omega)
      refine w_X_film_53 (fun _ => vp_in_nI (by omega) (by decide)) (fun z => absurd z (nI_ge hi (by omega))) (fun _ => ?_)
      rw [ei, p4]
      refine e_x_countAt p3 i2 ?_
      refine w_X_film_78 (by rw [e2]; exact row33 m m4) (vp_in_nI (by omega) (by decide)) ?_
      rw [ei, nI_1]
      refine ih _ ⟨i1.tr ⟨fun q hq => ?_, rfl⟩, fun j hj => ?_, fun j hj => ?_, fun j d hj hd => ?_⟩
      · exact sy_up_ne _ _ _ (fun z => hq (by rw [z, e2]; simp))
      · dsimp only
        rw [sy_up_ne _ _ _ (by rw [e2]; omega)]; exact i2 j hj
      · dsimp only
        rw [sy_up_ne _ _ _ (by rw [e2]; omega)]; exact i3 j hj
      · dsimp only
        rw [e2, sy_up2]
        by_cases y : j = i
        · subst y
          rw [p1] at hd
          cases hd
          rw [if_pos ⟨rfl, rfl⟩]
        · rw [if_neg (fun z => y z.2)]; exact i4 j d (by omega) hd
    · rintro σ3 ⟨i1, i2, i3, i4⟩
      refine w_X_film_53 (fun z => absurd (nI_le (Nat.le_refl _) (by omega)) z) (fun _ => kk σ3 ?_) (fun z => absurd (nI_le (Nat.le_refl _) (by omega)) z)
      refine RX_list ho h m4 (l := [40, 41, 38, 34 + m]) (by simp) i1.1 (fun i hi => ?_) (fun j y hj => ?_)
      · rw [List.length_map]; exact i3 i hi
      · rw [List.getElem?_map] at hj
        cases hc : (sg_P G)[j]? with
        | none => rw [hc] at hj; cases hj
        | some c =>
          rw [hc] at hj
          cases hj
          exact i4 j c (List.getElem?_eq_some_iff.mp hc).1 hc
    · dsimp only
      rw [sy_up_ne _ _ _ (by decide)]; exact f3 j hj
    · dsimp only
      rw [sy_up2]
      by_cases y : j = m
      · rw [if_pos ⟨rfl, y⟩, if_pos y]
      · rw [if_neg (fun z => y z.2), if_neg y, hs2.1 38 (by decide)]
  · have e : f_film q (G, H, P, U, R, T, W, L) = (-1, (G, H, P, U, R, T, W, L)) := by simp only [f_film, z]
    rw [e] at kk
    exact kk σ h
theorem X_list {Q : Option Value → sy_S → Prop} {σ : sy_S} {B : Nat} {S : st} (q : Int32) (n : Int32) (ho : sO B S) (h : RX S σ.1) (kk : ∀ σ' : sy_S, RX (f_list q n S).2 σ'.1 → Q (some (.int (f_list q n S).1)) σ') : sy_E shX mX11_list (0, sy_ent [.ref 6, .int q, .int n] 3, [], σ) Q := by
  obtain ⟨G, H, P, U, R, T, W, L⟩ := S
  obtain ⟨r1, r2, r3, r4, r5, r6, r7⟩ := id h
  have hG := r1.1
  have hH := sO_H ho
  obtain ⟨z1, z2, z3⟩ := px_rng (a := 0) (b := 40) (x := n) (by decide) (by decide)
  refine w_X_list_0 (fun _ h1 _ _ => px4 h1) (fun _ h1 _ _ => px4R h1) (fun m hm y1 y2 => ?_) (fun m hm y1 y2 => ?_) (fun m hm y1 => ?_) (fun z => ?_)
  · obtain ⟨m4, e1, e2⟩ := px4f hm
    obtain ⟨k, hk⟩ := z3 (fun y => i_nle y y2) y1
    obtain ⟨pk, rfl, -⟩ := px_s hk
    have pk2 : k ≤ 40 := pk.2
    have e : f_list q (nI k) (G, H, P, U, R, T, W, L) = (1, (G, H, P, U, R, T, W, pset L m (List.replicate k 0))) := by simp only [f_list, hm, hk]
    rw [e] at kk
    rw [e2, e1]
    refine e_x_fill (n := 40) (row33 m m4) (by decide) (fun σ1 g1 g2 g3 g4 => w_X_list_42 (kk σ1 ?_))
    refine RX_list ho h m4 (l := [38, 34 + m]) (by simp) (fun p hp => ?_) (fun i hi => ?_) (fun j y hj => ?_)
    · rw [g1 p (fun z => hp (by rw [z]; simp))]
      exact sy_up_ne _ _ _ (fun z => hp (by rw [z]; simp))
    · rw [g1 38 (by omega)]
      dsimp only
      rw [sy_up2, List.length_replicate]
      by_cases y : i = m
      · rw [if_pos ⟨rfl, y⟩, if_pos y]
      · rw [if_neg (fun z => y z.2), if_neg y]
    · have hjk := (List.getElem?_eq_some_iff.mp hj).1
      rw [List.length_replicate] at hjk
      rw [List.getElem?_replicate, if_pos hjk] at hj
      cases hj
      exact g2 j (by omega)
  · have hn : px (pR 0 40) n = none := z1 (Classical.byContradiction (fun y => y2 (i_le y)))
    have hlt : n < 0 := Classical.byContradiction (fun y => y2 (i_le y))
    have e : f_list q n (G, H, P, U, R, T, W, L) = (-14, (G, H, P, U, R, T, W, L)) := by simp only [f_list, hm, hn, if_pos hlt]
    rw [e] at kk
    exact kk σ h
  · have hn : px (pR 0 40) n = none := z2 y1
    have hge : ¬ n < 0 := fun y => y1 (by
      rw [Int32.lt_iff_toInt_lt] at y
      rw [Int32.le_iff_toInt_le]
      rw [show (0 : Int32).toInt = 0 from rfl] at y
      rw [show (40 : Int32).toInt = 40 from rfl]
      omega)
    have e : f_list q n (G, H, P, U, R, T, W, L) = (-2, (G, H, P, U, R, T, W, L)) := by simp only [f_list, hm, hn, if_neg hge]
    rw [e] at kk
    exact kk σ h
  · have e : f_list q n (G, H, P, U, R, T, W, L) = (-1, (G, H, P, U, R, T, W, L)) := by simp only [f_list, z]
    rw [e] at kk
    exact kk σ h
theorem X_put {Q : Option Value → sy_S → Prop} {σ : sy_S} {B : Nat} {S : st} (q : Int32) (i : Int32) (v : Int32) (ho : sO B S) (h : RX S σ.1) (kk : ∀ σ' : sy_S, RX (f_put q i v S).2 σ'.1 → Q (some (.int (f_put q i v S).1)) σ') : sy_E shX mX11_put (0, sy_ent [.ref 6, .int q, .int i, .int v] 4, [], σ) Q := by
  obtain ⟨G, H, P, U, R, T, W, L⟩ := S
  obtain ⟨r1, r2, r3, r4, r5, r6, r7⟩ := id h
  have hG := r1.1
  have hH := sO_H ho
  have hlen := ho.2.2.2.2.2.2
  refine w_X_put_0 (fun m hm => ?_) (fun z => ?_)
  · obtain ⟨m4, e1, e2⟩ := px4f hm
    obtain ⟨y1, y2⟩ := lX_i r7 hlen m4
    have rest : ∀ l, L m = some l → l.length ≤ 40 → σ.1 38 m = nI l.length → (px (fun k => k < l.length) i = none → Q (some (.int (-13))) σ) := by
      intro l hl _ _ hi
      have e : f_put q i v (G, H, P, U, R, T, W, L) = (-13, (G, H, P, U, R, T, W, L)) := by simp only [f_put, hm, hl, hi]
      rw [e] at kk
      exact kk σ h
    refine w_X_put_13 (by rw [e2]; exact row33 m m4) (px4 hm) (fun _ _ _ => px4R hm) (fun z q1 q2 => ?_) (fun z => ?_) (fun z q1 => ?_) (fun z q1 q2 => ?_) (fun z q1 q2 => ?_)
    · rw [e1] at z q2
      obtain ⟨l, hl, hl40, h38, hrow⟩ := y2 z
      obtain ⟨j, hj, rfl⟩ := nI_of q1
      rw [h38, nI_ltI hj (by omega)] at q2
      exact vp_in_nI (by omega) (by decide)
    · rw [e1] at z
      have e : f_put q i v (G, H, P, U, R, T, W, L) = (-11, (G, H, P, U, R, T, W, L)) := by simp only [f_put, hm, y1 z]
      rw [e] at kk
      exact kk σ h
    · rw [e1] at z
      obtain ⟨l, hl, hl40, h38, hrow⟩ := y2 z
      exact rest l hl hl40 h38 (px_no (fun k hk _ e => by subst e; exact absurd q1 (nI_pos hk)))
    · rw [e1] at z q2
      obtain ⟨l, hl, hl40, h38, hrow⟩ := y2 z
      obtain ⟨j, hj, rfl⟩ := nI_of q1
      rw [h38, nI_ltI hj (by omega)] at q2
      have hi : px (fun k => k < l.length) (nI j) = some j := px_i hj q2
      have e : f_put q (nI j) v (G, H, P, U, R, T, W, L) = (1, (G, H, P, U, R, T, W, pset L m (l.set j v))) := by simp only [f_put, hm, hl, hi]
      rw [e] at kk
      rw [e2, nI_clamp hj]
      refine kk _ (RX_list ho h m4 (l := [34 + m]) (by simp) (fun p hp => sy_up_ne _ _ _ (fun z => hp (by rw [z]; simp))) (fun k hk => ?_) (fun k y hk => ?_))
      · dsimp only
        rw [sy_up_ne _ _ _ (by omega), List.length_set]
        by_cases y : k = m
        · rw [if_pos y, y]; exact h38
        · rw [if_neg y]
      · dsimp only
        rw [sy_up2]
        by_cases y' : k = j
        · subst y'
          rw [List.getElem?_set_self q2] at hk
          cases hk
          rw [if_pos ⟨rfl, rfl⟩]
        · rw [List.getElem?_set_ne (fun z => y' z.symm)] at hk
          rw [if_neg (fun z => y' z.2)]
          exact hrow k y hk
    · rw [e1] at z q2
      obtain ⟨l, hl, hl40, h38, hrow⟩ := y2 z
      refine rest l hl hl40 h38 (px_no (fun k hk hp e => ?_))
      subst e
      rw [h38, nI_ltI hk (by omega)] at q2
      exact q2 hp
  · have e : f_put q i v (G, H, P, U, R, T, W, L) = (-1, (G, H, P, U, R, T, W, L)) := by simp only [f_put, z]
    rw [e] at kk
    exact kk σ h
theorem X_get {Q : Option Value → sy_S → Prop} {σ : sy_S} {B : Nat} {S : st} (q : Int32) (i : Int32) (ho : sO B S) (h : RX S σ.1) (kk : ∀ σ' : sy_S, RX S σ'.1 → Q (some (.long (f_get q i S))) σ') : sy_E shX mX11_get (0, sy_ent [.ref 6, .int q, .int i] 3, [], σ) Q := by
  obtain ⟨G, H, P, U, R, T, W, L⟩ := S
  obtain ⟨r1, r2, r3, r4, r5, r6, r7⟩ := id h
  have hG := r1.1
  have hH := sO_H ho
  have hlen := ho.2.2.2.2.2.2
  refine w_X_get_0 (fun m hm => ?_) (fun z => ?_)
  · obtain ⟨m4, e1, e2⟩ := px4f hm
    obtain ⟨y1, y2⟩ := lX_i r7 hlen m4
    have bad : (∀ l, L m = some l → px (fun k => k < l.length) i = none) → Q (some (.long (-9223372036854775808))) σ := by
      intro hb
      have e : f_get q i (G, H, P, U, R, T, W, L) = -9223372036854775808 := by
        cases hL : L m with
        | none => simp only [f_get, hm, hL]
        | some l => simp only [f_get, hm, hL, hb l hL]
      rw [e] at kk
      exact kk σ h
    have h38' : ∀ l, L m = some l → σ.1 38 m = nI l.length ∧ l.length ≤ 40 ∧ ∀ j x, l[j]? = some x → σ.1 (34 + m) j = x := by
      intro l hl
      have h9 := r7 m m4
      rw [hl] at h9
      exact ⟨h9.1, hlen m l hl, h9.2⟩
    refine w_X_get_11 (by rw [e2]; exact row33 m m4) (fun _ => px4 hm) (fun _ _ => px4R hm) (fun q1 q2 => ?_) (fun q1 => bad (fun l hl => px_no (fun k hk _ e => by subst e; exact absurd q1 (nI_pos hk)))) (fun q1 q2 => ?_) (fun q1 q2 => bad (fun l hl => px_no (fun k hk hp e => ?_)))
    · rw [e1] at q2
      obtain ⟨j, hj, rfl⟩ := nI_of q1
      cases hL : L m with
      | none =>
        have h9 := r7 m m4
        rw [hL] at h9
        have h9 : σ.1 38 m = -1 := h9
        rw [h9] at q2
        exact absurd (Int32.lt_iff_toInt_lt.mp q2) (by rw [nI_toInt hj, show (-1 : Int32).toInt = -1 from rfl]; omega)
      | some l =>
        obtain ⟨a, b, c⟩ := h38' l hL
        rw [a, nI_ltI hj (by omega)] at q2
        exact vp_in_nI (by omega) (by decide)
    · rw [e1] at q2
      obtain ⟨j, hj, rfl⟩ := nI_of q1
      cases hL : L m with
      | none =>
        have h9 := r7 m m4
        rw [hL] at h9
        have h9 : σ.1 38 m = -1 := h9
        rw [h9] at q2
        exact absurd (Int32.lt_iff_toInt_lt.mp q2) (by rw [nI_toInt hj, show (-1 : Int32).toInt = -1 from rfl]; omega)
      | some l =>
        obtain ⟨a, b, c⟩ := h38' l hL
        rw [a, nI_ltI hj (by omega)] at q2
        have hi : px (fun k => k < l.length) (nI j) = some j := px_i hj q2
        have e : f_get q (nI j) (G, H, P, U, R, T, W, L) = (l.getD j 0).toInt64 := by simp only [f_get, hm, hL, hi]
        rw [e] at kk
        have hx : l[j]? = some (l.getD j 0) := by rw [List.getD_eq_getElem?_getD, List.getElem?_eq_getElem q2]; rfl
        rw [e2, nI_clamp hj, c j _ hx]
        exact kk σ h
    · subst e
      obtain ⟨a, b, c⟩ := h38' l hl
      rw [e1, a, nI_ltI hk (by omega)] at q2
      exact q2 hp
  · have e : f_get q i (G, H, P, U, R, T, W, L) = -9223372036854775808 := by simp only [f_get, z]
    rw [e] at kk
    exact kk σ h
theorem X_undo {Q : Option Value → sy_S → Prop} {σ : sy_S} {B : Nat} {S : st}  (ho : sO B S) (h : RX S σ.1) (kk : ∀ σ' : sy_S, RX (f_undo S).2 σ'.1 → Q (some (.int (f_undo S).1)) σ') : sy_E shX mX11_undo (0, sy_ent [.ref 6] 1, [], σ) Q := by
  obtain ⟨G, H, P, U, R, T, W, L⟩ := S
  obtain ⟨r1, r2, r3, r4, r5, r6, r7⟩ := id h
  have hG := r1.1
  have hH := sO_H ho
  match U, ho, h, kk, r3 with
  | [], ho, h, kk, r3 =>
    refine w_X_undo_0 (fun _ => kk σ h) (fun q => absurd ?_ q)
    rw [r3.1]; decide
  | u :: U, ho, h, kk, r3 =>
    have hl8 := ho.2.1
    rw [List.length_cons] at hl8
    refine w_X_undo_0 (fun q => ?_) (fun _ => e_x_back ho.2.1 r3 (fun σ1 g1 g2 g3 => w_X_undo_21 (kk σ1 ?_)))
    · rw [r3.1, nI_lit0, List.length_cons, nI_leI (by omega) (by decide)] at q; omega
    · have e : ∀ q, q ≠ 7 → q ≠ 8 → σ1.1 q = σ.1 q := fun q a b => g1.1 q (by simp; omega)
      refine ⟨r1.frame (fun q hq => e q (by omega) (by omega)), g2, g3, r4.fe ?_ ?_, r5.fe ?_ ?_, r6.fe (fun q a b => e q (by omega) (by omega)), r7.fe (fun q a b => e q (by omega) (by omega))⟩
      · rw [e 19 (by decide) (by decide)]
      · exact e 20 (by decide) (by decide)
      · rw [e 19 (by decide) (by decide)]
      · exact e 22 (by decide) (by decide)
theorem X_redo {Q : Option Value → sy_S → Prop} {σ : sy_S} {B : Nat} {S : st}  (ho : sO B S) (h : RX S σ.1) (kk : ∀ σ' : sy_S, RX (f_redo S).2 σ'.1 → Q (some (.int (f_redo S).1)) σ') : sy_E shX mX11_redo (0, sy_ent [.ref 6] 1, [], σ) Q := by
  obtain ⟨G, H, P, U, R, T, W, L⟩ := S
  obtain ⟨r1, r2, r3, r4, r5, r6, r7⟩ := id h
  have hG := r1.1
  have hH := sO_H ho
  have erd : σ.1 8 2 - σ.1 8 1 = nI R.length := by rw [r3.1, r3.2.1, pk_sub (by omega)]; congr 1; omega
  match R, ho, h, kk, r3, erd with
  | [], ho, h, kk, r3, erd =>
    refine w_X_redo_0 (fun _ => kk σ h) (fun q => absurd ?_ q)
    rw [erd]; decide
  | u :: R, ho, h, kk, r3, erd =>
    have hl8 := ho.2.1
    rw [List.length_cons] at hl8
    refine w_X_redo_0 (fun q => ?_) (fun _ => e_x_forth ho.2.1 r3 (fun σ1 g1 g2 g3 => w_X_redo_21 (kk σ1 ?_)))
    · rw [erd, nI_lit0, List.length_cons, nI_leI (by omega) (by decide)] at q; omega
    · have e : ∀ q, q ≠ 7 → q ≠ 8 → σ1.1 q = σ.1 q := fun q a b => g1.1 q (by simp; omega)
      refine ⟨r1.frame (fun q hq => e q (by omega) (by omega)), g2, g3, r4.fe ?_ ?_, r5.fe ?_ ?_, r6.fe (fun q a b => e q (by omega) (by omega)), r7.fe (fun q a b => e q (by omega) (by omega))⟩
      · rw [e 19 (by decide) (by decide)]
      · exact e 20 (by decide) (by decide)
      · rw [e 19 (by decide) (by decide)]
      · exact e 22 (by decide) (by decide)
theorem X_count {Q : Option Value → sy_S → Prop} {σ : sy_S} {B : Nat} {S : st} (w : Int32) (ho : sO B S) (h : RX S σ.1) (kk : ∀ σ' : sy_S, RX S σ'.1 → Q (some (.int (f_count w S))) σ') : sy_E shX mX11_count (0, sy_ent [.ref 6, .int w] 2, [], σ) Q := by
  obtain ⟨G, H, P, U, R, T, W, L⟩ := S
  obtain ⟨r1, r2, r3, r4, r5, r6, r7⟩ := id h
  have hG := r1.1
  have hH := sO_H ho
  have pk : ∀ k : Nat, k < 9 → w = nI k → px (fun m => m < 9) w = some k := fun k hk e => by subst e; exact px_i (by omega) hk
  have ev : ∀ k : Nat, k < 9 → w = nI k → ∀ v : Int32, (px (fun m => m < 9) w = some k → f_count w (G, H, P, U, R, T, W, L) = v) → Q (some (.int v)) σ := by
    intro k hk e v hv
    have h9 := kk σ h
    rw [hv (pk k hk e)] at h9
    exact h9
  have erd : σ.1 8 2 - σ.1 8 1 = nI R.length := by rw [r3.1, r3.2.1, pk_sub (by omega)]; congr 1; omega
  refine w_X_count_0 (fun q => ?_) (fun _ q => ?_) (fun _ _ q => ?_) (fun _ _ _ q => ?_) (fun _ _ _ _ q => ?_) (fun _ _ _ _ _ q => ?_) (fun _ _ _ _ _ _ q => ?_) (fun _ _ _ _ _ _ _ q => ?_) (fun _ _ _ _ _ _ _ _ q => ?_) (fun q0 q1 q2 q3 q4 q5 q6 q7 q8 => ?_)
  · rw [gx_n r1]
    exact ev 0 (by decide) q _ (fun z => by simp only [f_count, z])
  · rw [r1.2.1.2.1]
    exact ev 1 (by decide) q _ (fun z => by simp only [f_count, z])
  · rw [gx_n7 r1]
    exact ev 2 (by decide) q _ (fun z => by simp only [f_count, z])
  · exact e_x_grainsOf rfl r1 r2 (w_X_count_87 (ev 3 (by decide) q _ (fun z => by simp only [f_count, z])))
  · exact e_x_held r6 (w_X_count_95 (ev 4 (by decide) q _ (fun z => by simp only [f_count, z])))
  · rw [r4.1]
    exact ev 5 (by decide) q _ (fun z => by simp only [f_count, z])
  · cases W with
    | none =>
      have r5 : σ.1 19 4 = nI 0 := r5
      rw [r5]
      exact ev 6 (by decide) q _ (fun z => by simp only [f_count, z])
    | some sc =>
      obtain ⟨s, c⟩ := sc
      have r5 : σ.1 19 4 = nI 3 := r5.1
      rw [r5]
      exact ev 6 (by decide) q _ (fun z => by simp only [f_count, z])
  · rw [r3.1]
    exact ev 7 (by decide) q _ (fun z => by simp only [f_count, z])
  · rw [erd]
    exact ev 8 (by decide) q _ (fun z => by simp only [f_count, z])
  · have hn : px (fun m => m < 9) w = none := px_no (fun k hk hp e => by
      subst e
      have hp : k < 9 := hp
      match k, hp with
      | 0, _ => exact q0 rfl
      | 1, _ => exact q1 rfl
      | 2, _ => exact q2 rfl
      | 3, _ => exact q3 rfl
      | 4, _ => exact q4 rfl
      | 5, _ => exact q5 rfl
      | 6, _ => exact q6 rfl
      | 7, _ => exact q7 rfl
      | 8, _ => exact q8 rfl)
    have h9 := kk σ h
    have e : f_count w (G, H, P, U, R, T, W, L) = -2 := by simp only [f_count, hn]
    rw [e] at h9
    exact h9
