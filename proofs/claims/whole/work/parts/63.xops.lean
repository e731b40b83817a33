/-! SandGroup's methods: toppling in thought, piles, burning (by program: wip/whole/gen/p63.py) -/
theorem sg_sum_np {G : sg_G} (hG : sg_ok G) {u : Nat → Nat} (h : ∀ c, ¬ sg_p G c → u c = 0) : sg_sum G u = ssum 16 u := by
  have h16 := sg_n16 hG
  unfold sg_sum
  have key : ∀ d, ssum (sg_n G + d) u = ssum (sg_n G) u := by
    intro d
    induction d with
    | zero => rfl
    | succ d ih =>
      rw [← Nat.add_assoc, ssum, ih, h (sg_n G + d) (fun q => by have := q.1; omega)]
      rfl
  obtain ⟨d, hd⟩ : ∃ d, 16 = sg_n G + d := ⟨16 - sg_n G, by omega⟩
  rw [hd, key]
  apply ssum_congr
  intro c hc
  cases q : G.2.2 c with
  | false => rfl
  | true =>
    rw [if_pos rfl, h c (fun z => by rw [z.2] at q; cases q)]
theorem hz9 {G : sg_G} {B : Nat} {H : Nat → Nat} (h : hz G B H) (hB : B ≤ 2000) : ∀ j, j < 16 → H j ≤ 10000 := fun j _ => by have := h.2 j; omega
theorem od_b {G : sg_G} (hG : sg_ok G) {B : Nat} {H : Nat → Nat} (h : hz G B H) (hB : B ≤ 2000) : ∀ j, j < 16 → od G H j < 2 ^ 31 := fun j hj => by
  have := (od_bd hG (h := H) (B := B) (fun k _ => h.2 k)).2 j hj
  omega
theorem pX_i {P : Nat → Option (Nat → Nat)} {f : Nat → Nat → Int32} (h : pX P f) {p : Nat} (hp : p < 6) : (f 31 p < 0 → P p = none) ∧ (¬ f 31 p < 0 → ∃ x, P p = some x ∧ ar f (25 + p) x) := by
  have h1 := h p hp
  cases hP : P p with
  | none =>
    rw [hP] at h1
    exact ⟨fun _ => rfl, fun q => absurd (by rw [h1]; decide) q⟩
  | some x =>
    rw [hP] at h1
    exact ⟨fun q => absurd q (by rw [h1.1]; decide), fun _ => ⟨x, rfl, h1.2⟩⟩
theorem px6 {p : Int32} {m : Nat} (h : px p6 p = some m) : vp_in p 6 := px_in (fun k hk => hk) (by decide) h
theorem px6R {p : Int32} {m : Nat} (h : px p6 p = some m) : sy_okR shX 24 p := by
  obtain ⟨h1, rfl, -⟩ := px_s h
  exact okR24 h1
theorem px6f {p : Int32} {m : Nat} (h : px p6 p = some m) : m < 6 ∧ p.toNatClampNeg = m ∧ sy_rf shX 24 p.toNatClampNeg = 25 + m := by
  obtain ⟨h1, rfl, h3⟩ := px_s h
  rw [nI_clamp h3]
  exact ⟨h1, rfl, rf24 m h1⟩
/-- a pile comes to hold a row -/
theorem RX_pile {B : Nat} {S : st} {σ σ' : sy_S} {l : List Nat} {p : Nat} {x : Nat → Nat} (ho : sO B S) (h : RX S σ.1) (hp : p < 6) (hl : ∀ q, q ∈ l → q = 31 ∨ q = 25 + p ∨ 39 ≤ q) (hs : sx l σ σ') (h31 : ∀ i, i < 6 → σ'.1 31 i = if i = p then nI 16 else σ.1 31 i) (hx : ar σ'.1 (25 + p) x) : RX (S.1, S.2.1, pset S.2.2.1 p x, S.2.2.2) σ'.1 := by
  obtain ⟨G, H, P, U, R, T, W, L⟩ := S
  obtain ⟨r1, r2, r3, r4, r5, r6, r7⟩ := h
  have e : ∀ q, q < 39 → q ≠ 31 → q ≠ 25 + p → σ'.1 q = σ.1 q := fun q a b c => hs.1 q (fun z => by have := hl q z; omega)
  refine ⟨r1.frame (fun q hq => e q (by omega) (by omega) (by omega)), fun j hj => ?_, r3.fe ho.2.1 (fun q a b => e q (by omega) (by omega) (by omega)), r4.fe ?_ ?_, r5.fe ?_ ?_, fun i hi => ?_, r7.fe (fun q a b => e q (by omega) (by omega) (by omega))⟩
  · rw [e 7 (by decide) (by decide) (by omega)]; exact r2 j hj
  · rw [e 19 (by decide) (by decide) (by omega)]
  · exact e 20 (by decide) (by decide) (by omega)
  · rw [e 19 (by decide) (by decide) (by omega)]
  · exact e 22 (by decide) (by decide) (by omega)
  · have h3 := h31 i hi
    by_cases z : i = p
    · subst z
      rw [if_pos rfl] at h3
      have ep : pset P i x i = some x := by unfold pset; rw [if_pos rfl]
      show match pset P i x i with | none => σ'.1 31 i = -1 | some h => σ'.1 31 i = nI 16 ∧ ar σ'.1 (25 + i) h
      rw [ep]
      exact ⟨h3, hx⟩
    · rw [if_neg z] at h3
      have ep : pset P p x i = P i := by unfold pset; rw [if_neg z]
      show match pset P p x i with | none => σ'.1 31 i = -1 | some h => σ'.1 31 i = nI 16 ∧ ar σ'.1 (25 + i) h
      rw [ep, h3]
      have h6 := r6 i hi
      cases hP : P i with
      | none => rw [hP] at h6; exact h6
      | some g =>
        rw [hP] at h6
        exact ⟨h6.1, fun j hj => by rw [e (25 + i) (by omega) (by omega) (by omega)]; exact h6.2 j hj⟩
theorem e_X_holdRes {Q : Option Value → sy_S → Prop} {σ σ1 : sy_S} {B : Nat} {S : st} {p : Int32} {m : Nat} {x : Nat → Nat} {l : List Nat} (ho : sO B S) (h : RX S σ.1) (hp : px p6 p = some m) (hs : sx l σ σ1) (hl : ∀ q, q ∈ l → 39 ≤ q) (hx : ar σ1.1 50 x) (kk : ∀ σ' : sy_S, RX (S.1, S.2.1, pset S.2.2.1 m x, S.2.2.2) σ'.1 → Q (some (.int (nI (sg_sum S.1 x)))) σ') : sy_E shX mX11_holdResult (0, sy_ent [.ref 6, .int p] 3, [], σ1) Q := by
  obtain ⟨m6, e1, e2⟩ := px6f hp
  refine w_X_holdRes_0 (px6 hp) (px6R hp) ?_
  rw [e2, e1]
  refine w_x_cpRes_0 (row24 m m6) ?_
  have hs2 : sx (31 :: (25 + m) :: l) σ (sy_cp (sy_up σ1.1 31 m 16) 50 (25 + m) 16, σ1.2) := by
    refine (hs.mono (fun q hq => List.mem_cons_of_mem _ (List.mem_cons_of_mem _ hq))).tr ⟨fun q hq => ?_, rfl⟩
    dsimp only
    rw [sy_cp_ne _ _ _ (fun z => hq (by rw [z]; simp)), sy_up_ne _ _ _ (fun z => hq (by rw [z]; simp))]
  have hx2 : ar (sy_cp (sy_up σ1.1 31 m 16) 50 (25 + m) 16) (25 + m) x := fun j hj => by
    rw [sy_cp2, if_pos ⟨rfl, hj⟩, sy_up_ne _ _ _ (by decide)]; exact hx j hj
  have hR := RX_pile (x := x) (l := 31 :: (25 + m) :: l) ho h m6 (fun q hq => by
    rcases List.mem_cons.mp hq with z | hq
    · exact Or.inl z
    · rcases List.mem_cons.mp hq with z | hq
      · exact Or.inr (Or.inl z)
      · exact Or.inr (Or.inr (hl q hq))) hs2 (fun i hi => by
    dsimp only
    rw [sy_cp2, if_neg (by omega), sy_up2]
    by_cases z : i = m
    · rw [if_pos ⟨rfl, z⟩, if_pos z]; rfl
    · rw [if_neg (fun q => z q.2), if_neg z, hs.1 31 (fun q => by have := hl 31 q; omega)]) hx2
  obtain ⟨G, H, P, U, R, T, W, L⟩ := S
  have go := e_x_grainsOf (Q := fun r9 σ9 => sy_E shX mX11_holdResult (27, [none, none, none], r9.toList ++ [], σ9) Q) (row24 m m6) hR.1 hx2 (w_X_holdRes_27 (kk _ hR))
  rw [← e2] at go
  have fin := w_X_holdRes_19 (Q := Q) go
  rw [e2] at fin
  exact fin
theorem X_settled {Q : Option Value → sy_S → Prop} {σ : sy_S} {B : Nat} {S : st} (w : Int32) (hB : B ≤ 2000) (ho : sO B S) (h : RX S σ.1) (kk : ∀ σ' : sy_S, RX S σ'.1 → Q (some (.int (f_settled w S))) σ') : sy_E shX mX11_settled (0, sy_ent [.ref 6, .int w] 5, [], σ) Q := by
  obtain ⟨G, H, P, U, R, T, W, L⟩ := S
  obtain ⟨r1, r2, r3, r4, r5, r6, r7⟩ := id h
  have hG := r1.1
  have hH := sO_H ho
  obtain ⟨z1, z2, z3⟩ := px_rng (a := 0) (b := 4) (x := w) (by decide) (by decide)
  have hB9 := hz9 hH hB
  have hbd := od_b hG hH hB
  have small : ∀ m, m < 16 → ∀ k, (k = 100 ∨ k = 200) → ∀ x : Int32, x - k = nI m → px (pR 0 4) x = none := by
    intro m hm k hk x e
    have e2 : x = nI m + k := by rw [← e]; exact (Int32.sub_add_cancel x k).symm
    have hk2 : ∃ kn : Nat, k = nI kn ∧ 100 ≤ kn ∧ kn ≤ 200 := by
      rcases hk with rfl | rfl
      · exact ⟨100, rfl, by decide, by decide⟩
      · exact ⟨200, rfl, by decide, by decide⟩
    obtain ⟨kn, rfl, a, b⟩ := hk2
    rw [nI_add] at e2
    subst e2
    refine px_no (fun j hj hp ej => ?_)
    rw [nI_eq (by omega) hj] at ej
    have := hp.2
    omega
  refine w_X_settled_0 (G := G) (fun _ => r1) (fun hw m hm m' hm' => ?_) (fun hw m hm hm' => ?_) (fun hw hm m' hm' => ?_) (fun _ q1 q2 q3 => ?_) (fun hw q1 q2 q3 q4 => ?_) (fun _ q1 q2 q3 q4 => ?_) (fun q => ?_)
  · exfalso
    obtain ⟨p1, e1, -⟩ := px_s hm
    obtain ⟨p2, e2, -⟩ := px_s hm'
    have b1 := sg_p16 hG p1
    have b2 := sg_p16 hG p2
    have e3 : w = nI m + 100 := by rw [← e1]; exact (Int32.sub_add_cancel w 100).symm
    have e4 : w = nI m' + 200 := by rw [← e2]; exact (Int32.sub_add_cancel w 200).symm
    rw [e4] at e3
    have e5 : nI (m' + 200) = nI (m + 100) := by rw [← nI_add, ← nI_add]; exact e3
    rw [nI_eq (by omega) (by omega)] at e5
    omega
  · obtain ⟨p1, e1, -⟩ := px_s hm
    have b1 := sg_p16 hG p1
    have e : f_settled w (G, H, P, U, R, T, W, L) = nI (od G H m) := by simp only [f_settled, small m b1 100 (Or.inl rfl) w e1, hm]
    rw [e] at kk
    refine e_x_begin rfl r2 (fun σ0 y1 y2 y3 => w_X_settled_79 (e_x_bl (y1.gx r1 (by decide)) y2 y3 hB9 (fun σ1 y4 g2 g3 => ?_)))
    have g1 := y1.tr y4
    refine w_X_settled_86 (fun q => absurd q (by decide)) (fun q => absurd q (by decide)) (fun q => absurd q (by decide)) (fun q => absurd q (by decide)) (fun q => absurd q (by decide)) (fun q => absurd q (by decide)) (fun _ => ?_)
    rw [e1]
    exact e_x_countAt b1 g3 (w_X_settled_103 (kk σ1 (h.fr ho g1 (by simp))))
  · obtain ⟨p1, e1, -⟩ := px_s hm'
    have b1 := sg_p16 hG p1
    have e : f_settled w (G, H, P, U, R, T, W, L) = nI (stt G H m') := by simp only [f_settled, small m' b1 200 (Or.inr rfl) w e1, hm, hm']
    rw [e] at kk
    refine e_x_begin rfl r2 (fun σ0 y1 y2 y3 => w_X_settled_79 (e_x_bl (y1.gx r1 (by decide)) y2 y3 hB9 (fun σ1 y4 g2 g3 => ?_)))
    have g1 := y1.tr y4
    refine w_X_settled_86 (fun _ q => absurd q (by decide)) (fun _ q => absurd q (by decide)) (fun _ q => absurd q (by decide)) (fun _ q => absurd q (by decide)) (fun _ q => absurd q (by decide)) (fun _ _ => ?_) (fun q => absurd rfl q)
    rw [e1]
    exact e_x_heightAt b1 g2 (w_X_settled_120 (kk σ1 (h.fr ho g1 (by simp))))
  · have e : f_settled w (G, H, P, U, R, T, W, L) = -1 := by simp only [f_settled, z1 q3, q1, q2]
    rw [e] at kk
    exact kk σ h
  · obtain ⟨m, hm⟩ := z3 q3 q4
    obtain ⟨pm, rfl, -⟩ := px_s hm
    have pm : m ≤ 4 := pm.2
    refine e_x_begin rfl r2 (fun σ0 y1 y2 y3 => w_X_settled_79 (e_x_bl (y1.gx r1 (by decide)) y2 y3 hB9 (fun σ1 y4 g2 g3 => ?_)))
    have g1 := y1.tr y4
    have hR := h.fr ho g1 (by simp)
    have hg' := g1.gx r1 (by decide)
    have h9 := kk σ1 hR
    match m, hm, pm, hw with
    | 0, hm, _, _ =>
      have e : f_settled (nI 0) (G, H, P, U, R, T, W, L) = nI (ssum 16 (od G H)) := by simp only [f_settled, hm]
      rw [e] at h9
      exact w_X_settled_86 (fun _ _ _ => h9) (fun _ _ q => absurd rfl q) (fun _ _ q => absurd rfl q) (fun _ _ q => absurd rfl q) (fun _ _ q => absurd rfl q) (fun _ q => absurd rfl q) (fun q => absurd rfl q)
    | 1, hm, _, _ =>
      have e : f_settled (nI 1) (G, H, P, U, R, T, W, L) = nI (sg_lost G (od G H)) := by simp only [f_settled, hm]
      rw [e] at h9
      refine w_X_settled_86 (fun _ _ q => absurd q (by decide)) (fun _ _ _ _ => ?_) (fun _ _ _ q => absurd rfl q) (fun _ _ _ q => absurd rfl q) (fun _ _ _ q => absurd rfl q) (fun _ q => absurd rfl q) (fun q => absurd rfl q)
      exact e_x_lost hg' g3 (w_X_settled_162 h9)
    | 2, hm, _, hw => exact absurd rfl hw
    | 3, hm, _, _ =>
      have e : f_settled (nI 3) (G, H, P, U, R, T, W, L) = bts (fun c => decide (0 < od G H c)) (List.range 16) := by simp only [f_settled, hm]
      rw [e] at h9
      refine w_X_settled_86 (fun _ _ q => absurd q (by decide)) (fun _ _ _ q => absurd q (by decide)) (fun _ _ _ _ q => absurd q (by decide)) (fun _ _ _ _ _ _ => ?_) (fun _ _ _ _ _ q => absurd rfl q) (fun _ q => absurd rfl q) (fun q => absurd rfl q)
      exact e_x_area g3 hbd (w_X_settled_170 h9)
    | 4, hm, _, _ =>
      have e : f_settled (nI 4) (G, H, P, U, R, T, W, L) = nI (sg_sum G (stt G H)) := by simp only [f_settled, hm]
      rw [e] at h9
      refine w_X_settled_86 (fun _ _ q => absurd q (by decide)) (fun _ _ _ q => absurd q (by decide)) (fun _ _ _ _ q => absurd q (by decide)) (fun _ _ _ _ _ q => absurd q (by decide)) (fun _ _ _ _ _ _ => ?_) (fun _ q => absurd rfl q) (fun q => absurd rfl q)
      exact e_x_fgrains hg' g2 (w_X_settled_178 h9)
  · have e : f_settled w (G, H, P, U, R, T, W, L) = -1 := by simp only [f_settled, z2 q4, q1, q2]
    rw [e] at kk
    exact kk σ h
  · have q : w = nI 2 := Classical.byContradiction q
    subst q
    have hm : px (pR 0 4) (nI 2) = some 2 := px_i (by decide) ⟨by decide, by decide⟩
    have e : f_settled (nI 2) (G, H, P, U, R, T, W, L) = nI (rdn G H) := by simp only [f_settled, hm]
    rw [e] at kk
    refine e_x_begin rfl r2 (fun σ1 g1 g2 g3 => w_X_settled_16 (e_x_inRounds (g1.gx r1 (by decide)) g2 g3 hB9 (fun σ2 N u f1 f2 f3 f4 f5 => w_X_settled_23 ?_)))
    rw [rdn_eq f2]
    exact kk σ2 (h.fr ho (g1.tr f1) (by simp))
theorem X_trace {Q : Option Value → sy_S → Prop} {σ : sy_S} {B : Nat} {S : st} (o : Int32) (i : Int32) (hB : B ≤ 2000) (ho : sO B S) (h : RX S σ.1) (kk : ∀ σ' : sy_S, RX S σ'.1 → Q (some (.int (f_trace o i S))) σ') : sy_E shX mX11_trace (0, sy_ent [.ref 6, .int o, .int i] 5, [], σ) Q := by
  obtain ⟨G, H, P, U, R, T, W, L⟩ := S
  obtain ⟨r1, r2, r3, r4, r5, r6, r7⟩ := id h
  have hG := r1.1
  have hH := sO_H ho
  have hB9 := hz9 hH hB
  have hsum := (od_bd hG (h := H) (B := B) (fun k _ => hH.2 k)).1
  have hB1 : ∀ j, j < 16 → H j < 2 ^ 31 := fun j hj => by have := hB9 j hj; omega
  refine w_X_trace_0 (fun m hm => ?_) (fun q => ?_)
  · obtain ⟨pm, rfl, -⟩ := px_s hm
    have neg : px (fun _ => True) i = none → f_trace (nI m) i (G, H, P, U, R, T, W, L) = -5 := fun q => by simp only [f_trace, hm, q]
    refine e_x_begin rfl r2 (fun σ1 g1 g2 g3 => w_X_trace_20 (fun q => ?_) (fun q => ?_))
    · have hn : px (fun _ => True) i = none := px_no (fun k hk _ e => by subst e; exact absurd q (nI_pos hk))
      rw [neg hn] at kk
      exact kk σ1 (h.fr ho g1 (by simp))
    · obtain ⟨n, hn, rfl⟩ := nI_of q
      have hpn : px (fun _ => True) (nI n) = some n := px_i hn trivial
      have ef : f_trace (nI m) (nI n) (G, H, P, U, R, T, W, L) = (mcell G m H n).elim (-5) nI := by simp only [f_trace, hm, hpn]
      rw [ef] at kk
      refine e_x_bl (g1.gx r1 (by decide)) g2 g3 hB9 (fun σ2 f1 f2 f3 => ?_)
      have hs2 : sx [40, 41] σ σ2 := g1.tr f1
      have hR2 := h.fr ho hs2 (by simp)
      refine w_X_trace_32 (fun q => ?_) (fun q q2 => ?_) (fun q q2 => ?_)
      · rw [nI_leI (by omega) hn] at q
        have h9 := kk σ2 hR2
        rw [(mcell_iff hG m (od_ex hG H) n).mpr q] at h9
        exact h9
      · rw [nI_leI (by omega) hn] at q
        refine e_a_mbegin (h := H) rfl pm hR2.1 hR2.2.1 hB1 (fun σ3 i1 i2 => w_X_trace_56 ?_)
        have hs3 : sx [40, 41, 42, 43, 44] σ σ3 := (hs2.mono (by simp)).tr (i1.mono (by simp))
        -- k steps are done; c is the last cell
        have hl := sy_loop (sh := shX) (y := mX11_trace) (Q := Q) (fun k σ' => (62, [some (.ref 6), none, some (.int (nI n)), some (.int (if k = 0 then -5 else (mcell G m H (k - 1)).elim (-5) nI)), some (.int (nI k))], [], σ')) (fun k σ' => sx [40, 41, 42, 43, 44] σ σ' ∧ mx 42 m (mrun G m H k).1 (mrun G m H k).2 σ'.1) (n + 1) ?_ ?_ 0 σ3 (Nat.zero_le _) ⟨hs3, i2⟩
        · exact hl
        · rintro k σ4 hk ⟨j1, j2⟩ ih
          refine w_X_trace_62 (fun z => ?_) (fun _ => ?_)
          · rw [nI_ltI hn (by omega)] at z; omega
          · obtain ⟨v1, u, v2, v3⟩ := mrun_ok hG m H k
            have bd := (sg_rc_bd hG v2 (B := B) (fun j _ => hH.2 j)).1
            refine e_a_step (H := (mrun G m H k).1) (L := (mrun G m H k).2) pm (j1.gx r1 (by decide)) j2 v1 (fun j hj => by have := bd j hj; omega) (fun hno => ?_) (fun σ5 c H' L' hns g1' g2' => ?_)
            · exfalso
              have hc : mcell G m H k = none := by
                unfold mcell
                unfold mnext at hno
                cases hp : mpick G m (mrun G m H k).1 (mrun G m H k).2 with
                | none => rfl
                | some c => rw [hp] at hno; cases hno
              rw [mcell_iff hG m (od_ex hG H) k] at hc
              omega
            · have hrun : mrun G m H (k + 1) = (H', L') := by
                rw [mrun]
                have : mnext G m (mrun G m H k) = some (c, H', L') := hns
                rw [this]
              have hcell : mcell G m H k = some c := (mnext_inv hG v1 hns).1
              refine w_X_trace_75 ?_
              rw [nI_1]
              have h9 := ih σ5 ⟨j1.tr (g1'.mono (by simp)), by rw [hrun]; exact g2'⟩
              rw [if_neg (Nat.succ_ne_zero k), Nat.add_sub_cancel, hcell] at h9
              exact h9
        · rintro σ4 ⟨j1, j2⟩
          refine w_X_trace_62 (fun _ => ?_) (fun z => absurd (nI_lt (show n < n + 1 by omega) (by omega)) z)
          rw [if_neg (Nat.succ_ne_zero n), Nat.add_sub_cancel]
          exact kk σ4 (h.fr ho j1 (by simp))
      · rw [nI_leI (by omega) hn] at q
        exact absurd (show nI n < 1000000 from nI_lt (b := 1000000) (by omega) (by decide)) q2
  · have e : f_trace o i (G, H, P, U, R, T, W, L) = -1 := by simp only [f_trace, q]
    rw [e] at kk
    exact kk σ h
theorem X_common {Q : Option Value → sy_S → Prop} {σ : sy_S} {B : Nat} {S : st} (o : Int32) (u : Int32) (hB : B ≤ 2000) (ho : sO B S) (h : RX S σ.1) (kk : ∀ σ' : sy_S, RX S σ'.1 → Q (some (.int (f_common o u S))) σ') : sy_E shX mX11_common (0, sy_ent [.ref 6, .int o, .int u] 7, [], σ) Q := by
  obtain ⟨G, H, P, U, R, T, W, L⟩ := S
  obtain ⟨r1, r2, r3, r4, r5, r6, r7⟩ := id h
  have hG := r1.1
  have hH := sO_H ho
  have hB9 := hz9 hH hB
  have hB1 : ∀ j, j < 16 → H j < 2 ^ 31 := fun j hj => by have := hB9 j hj; omega
  refine w_X_common_0 (fun m hm m' hm' => ?_) (fun m hm q => ?_) (fun q => ?_)
  · obtain ⟨pm, rfl, -⟩ := px_s hm
    obtain ⟨pm', rfl, -⟩ := px_s hm'
    have ef : f_common (nI m) (nI m') (G, H, P, U, R, T, W, L) = nI (cmn G H m m' 60) := by simp only [f_common, hm, hm']
    rw [ef] at kk
    refine e_a_mbegin (h := H) rfl pm r1 r2 hB1 (fun σ1 g1 g2 => w_X_common_28 ?_)
    refine e_b_mbegin (h := H) rfl pm' (g1.gx r1 (by decide)) (ar_sx g1 r2 (by decide)) hB1 (fun σ2 f1 f2 => w_X_common_40 ?_)
    have hs2 : sx [42, 43, 44, 45, 46, 47] σ σ2 := (g1.mono (by simp)).tr (f1.mono (by simp))
    have fra : ∀ {σ3 σ4 : sy_S} {Ha : Nat → Nat} {La : List Nat}, sx [45, 46, 47] σ3 σ4 → mx 42 m Ha La σ3.1 → mx 42 m Ha La σ4.1 := by
      intro σ3 σ4 Ha La a b
      obtain ⟨b1, b2, b3⟩ := b
      refine ⟨ar_sx a b1 (by decide), by rw [a.1 42 (by decide)]; exact b2, fun z => ?_⟩
      obtain ⟨c1, c2, x, c3, c4, c5, c6, c7⟩ := b3 z
      refine ⟨c1, c2, x, c3, ?_, ?_, ?_, ?_⟩
      · rw [a.1 42 (by decide)]; exact c4
      · rw [a.1 42 (by decide)]; exact c5
      · rw [a.1 44 (by decide)]; exact c6
      · rw [a.1 42 (by decide)]; exact c7
    have frb : ∀ {σ3 σ4 : sy_S} {Ha : Nat → Nat} {La : List Nat}, sx [42, 43, 44] σ3 σ4 → mx 45 m' Ha La σ3.1 → mx 45 m' Ha La σ4.1 := by
      intro σ3 σ4 Ha La a b
      obtain ⟨b1, b2, b3⟩ := b
      refine ⟨ar_sx a b1 (by decide), by rw [a.1 45 (by decide)]; exact b2, fun z => ?_⟩
      obtain ⟨c1, c2, x, c3, c4, c5, c6, c7⟩ := b3 z
      refine ⟨c1, c2, x, c3, ?_, ?_, ?_, ?_⟩
      · rw [a.1 45 (by decide)]; exact c4
      · rw [a.1 45 (by decide)]; exact c5
      · rw [a.1 47 (by decide)]; exact c6
      · rw [a.1 45 (by decide)]; exact c7
    have run : ∀ (o k : Nat), (mnext G o (mrun G o H k) = none → mcell G o H k = none ∧ mrun G o H (k + 1) = mrun G o H k) ∧ ∀ c H' L', mnext G o (mrun G o H k) = some (c, H', L') → mcell G o H k = some c ∧ mrun G o H (k + 1) = (H', L') ∧ c < 16 := by
      intro o k
      obtain ⟨v1, -⟩ := mrun_ok hG o H k
      refine ⟨fun hno => ⟨?_, by rw [mrun, hno]⟩, fun c H' L' hns => ?_⟩
      · unfold mcell
        unfold mnext at hno
        cases hp : mpick G o (mrun G o H k).1 (mrun G o H k).2 with
        | none => rfl
        | some c => rw [hp] at hno; cases hno
      · have hpk := (mnext_inv hG v1 hns).1
        exact ⟨hpk, by rw [mrun, hns], sg_p16 hG ((mpick_ok v1).1 c hpk).1⟩
    have bds : ∀ (o k : Nat), ∀ j, j < 16 → (mrun G o H k).1 j < 2 ^ 30 := by
      intro o k j hj
      obtain ⟨v1, u, v2, v3⟩ := mrun_ok hG o H k
      have := (sg_rc_bd hG v2 (B := B) (fun j _ => hH.2 j)).1 j hj
      omega
    have hl := sy_loop (sh := shX) (y := mX11_common) (Q := Q) (fun k σ' => (45, [some (.ref 6), none, none, some (.int (nI (cmn G H m m' k))), some (.int (nI k)), none, none], [], σ')) (fun k σ' => sx [42, 43, 44, 45, 46, 47] σ σ' ∧ mx 42 m (mrun G m H k).1 (mrun G m H k).2 σ'.1 ∧ mx 45 m' (mrun G m' H k).1 (mrun G m' H k).2 σ'.1) 60 ?_ ?_ 0 σ2 (by decide) ⟨hs2, fra f1 g2, f2⟩
    · exact hl
    · rintro k σ3 hk ⟨j1, j2, j3⟩ ih
      have hg3 := j1.gx r1 (by decide)
      refine w_X_common_45 (fun q => absurd q (nI_ge hk (by decide))) (fun _ => ?_)
      -- behind both steps
      have fin : ∀ (σ5 : sy_S) (v1 v2 : Int32), v1 = (mcell G m H k).elim (-1) nI → v2 = (mcell G m' H k).elim (-1) nI → (∀ c, mcell G m H k = some c → c < 16) → (∀ c, mcell G m' H k = some c → c < 16) → sx [42, 43, 44, 45, 46, 47] σ σ5 → mx 42 m (mrun G m H (k + 1)).1 (mrun G m H (k + 1)).2 σ5.1 → mx 45 m' (mrun G m' H (k + 1)).1 (mrun G m' H (k + 1)).2 σ5.1 → sy_E shX mX11_common (68, [some (.ref 6), none, none, some (.int (nI (cmn G H m m' k))), some (.int (nI k)), some (.int v1), none], [.int v2], σ5) Q := by
        intro σ5 v1 v2 e1 e2 b1 b2 hs5 m1 m2
        have h9 := ih σ5 ⟨hs5, m1, m2⟩
        have ec : cmn G H m m' (k + 1) = cmn G H m m' k + if (mcell G m H k).isSome = true ∧ mcell G m H k = mcell G m' H k then 1 else 0 := rfl
        cases hc1 : mcell G m H k with
        | none =>
          rw [hc1] at e1 ec
          rw [ec, if_neg (fun z => by cases z.1), Nat.add_zero] at h9
          rw [e1]
          exact w_X_common_68 (fun _ => by rw [nI_1]; exact h9) (fun q => absurd (by decide) q) (fun q => absurd (by decide) q)
        | some c1 =>
          have hc16 := b1 c1 hc1
          rw [hc1] at e1 ec
          have e1 : v1 = nI c1 := e1
          rw [e1]
          by_cases y : mcell G m' H k = some c1
          · rw [y] at e2 ec
            have e2 : v2 = nI c1 := e2
            rw [ec, if_pos ⟨rfl, rfl⟩] at h9
            rw [e2]
            exact w_X_common_68 (fun q => absurd q (nI_pos (by omega))) (fun _ q => absurd rfl q) (fun _ _ => by rw [nI_1, nI_1]; exact h9)
          · rw [ec, if_neg (fun z => y z.2.symm), Nat.add_zero] at h9
            refine w_X_common_68 (fun q => absurd q (nI_pos (by omega))) (fun _ _ => by rw [nI_1]; exact h9) (fun _ q => absurd ?_ q)
            rw [e2]
            cases hc2 : mcell G m' H k with
            | none =>
              intro z
              have z : nI c1 = -1 := z
              have h9 := nI_pos (n := c1) (by omega)
              rw [z] at h9
              exact h9 (by decide)
            | some c2 =>
              have hc216 := b2 c2 hc2
              intro z
              have z : nI c1 = nI c2 := z
              rw [nI_eq (by omega) (by omega)] at z
              rw [hc2, z] at y
              exact y rfl
      -- the second step
      have second : ∀ (σ4 : sy_S) (v1 : Int32), v1 = (mcell G m H k).elim (-1) nI → (∀ c, mcell G m H k = some c → c < 16) → sx [42, 43, 44, 45, 46, 47] σ σ4 → mx 42 m (mrun G m H (k + 1)).1 (mrun G m H (k + 1)).2 σ4.1 → mx 45 m' (mrun G m' H k).1 (mrun G m' H k).2 σ4.1 → sy_E shX mX11_common (59, [some (.ref 6), none, none, some (.int (nI (cmn G H m m' k))), some (.int (nI k)), none, none], [.int v1], σ4) Q := by
        intro σ4 v1 e1 b1 hs4 m1 m2
        refine w_X_common_59 ?_
        refine e_b_step (H := (mrun G m' H k).1) (L := (mrun G m' H k).2) pm' (hs4.gx r1 (by decide)) m2 (mrun_ok hG m' H k).1 (bds m' k) (fun hno => ?_) (fun σ5 c H' L' hns g1' g2' => ?_)
        · obtain ⟨n1, n2⟩ := (run m' k).1 hno
          exact fin σ4 v1 (-1) e1 (by rw [n1]; rfl) b1 (fun c hc => by rw [n1] at hc; cases hc) hs4 m1 (by rw [n2]; exact m2)
        · obtain ⟨n1, n2, n3⟩ := (run m' k).2 c H' L' hns
          exact fin σ5 v1 (nI c) e1 (by rw [n1]; rfl) b1 (fun c' hc => by rw [n1] at hc; cases hc; exact n3) (hs4.tr (g1'.mono (by simp))) (fra g1' m1) (by rw [n2]; exact g2')
      refine e_a_step (H := (mrun G m H k).1) (L := (mrun G m H k).2) pm hg3 j2 (mrun_ok hG m H k).1 (bds m k) (fun hno => ?_) (fun σ5 c H' L' hns g1' g2' => ?_)
      · obtain ⟨n1, n2⟩ := (run m k).1 hno
        exact second σ3 (-1) (by rw [n1]; rfl) (fun c hc => by rw [n1] at hc; cases hc) j1 (by rw [n2]; exact j2) j3
      · obtain ⟨n1, n2, n3⟩ := (run m k).2 c H' L' hns
        exact second σ5 (nI c) (by rw [n1]; rfl) (fun c' hc => by rw [n1] at hc; cases hc; exact n3) (j1.tr (g1'.mono (by simp))) (by rw [n2]; exact g2') (frb g1' j3)
    · rintro σ3 ⟨j1, j2, j3⟩
      exact w_X_common_45 (fun _ => kk σ3 (h.fr ho j1 (by simp))) (fun q => absurd (nI_le (Nat.le_refl 60) (by decide)) q)
  · have e : f_common o u (G, H, P, U, R, T, W, L) = -1 := by simp only [f_common, hm, q]
    rw [e] at kk
    exact kk σ h
  · have e : f_common o u (G, H, P, U, R, T, W, L) = -1 := by simp only [f_common, q]
    rw [e] at kk
    exact kk σ h
theorem X_keep {Q : Option Value → sy_S → Prop} {σ : sy_S} {B : Nat} {S : st} (p : Int32) (hB : B ≤ 2000) (ho : sO B S) (h : RX S σ.1) (kk : ∀ σ' : sy_S, RX (f_keep p S).2 σ'.1 → Q (some (.int (f_keep p S).1)) σ') : sy_E shX mX11_keep (0, sy_ent [.ref 6, .int p] 3, [], σ) Q := by
  obtain ⟨G, H, P, U, R, T, W, L⟩ := S
  obtain ⟨r1, r2, r3, r4, r5, r6, r7⟩ := id h
  have hG := r1.1
  have hH := sO_H ho
  have hB9 := hz9 hH hB
  refine w_X_keep_0 (fun m hm => ?_) (fun q => ?_)
  · obtain ⟨m6, e1, e2⟩ := px6f hm
    have e : f_keep p (G, H, P, U, R, T, W, L) = (nI (ssum 16 (od G H)), (G, H, pset P m (stt G H), U, R, T, W, L)) := by simp only [f_keep, hm]
    rw [e] at kk
    refine e_x_begin rfl r2 (fun σ0 y1 y2 y3 => w_X_keep_24 (e_x_bl (y1.gx r1 (by decide)) y2 y3 hB9 (fun σ1 y4 g2 g3 => w_X_keep_31 (px6 hm) (px6R hm) ?_)))
    have g1 := y1.tr y4
    rw [e2, e1]
    refine e_x_copyTo (row24 m m6) (H := stt G H) (fun j hj => ?_) (fun σ2 f1 f2 => w_X_keep_49 (kk σ2 ?_))
    · dsimp only
      rw [sy_up_ne _ _ _ (by decide)]; exact g2 j hj
    · refine RX_pile (l := [31, 25 + m, 40, 41]) ho h m6 (by simp) (((g1.mono (by simp)).tr (sx.up (by simp))).tr (f1.mono (by simp))) (fun i hi => ?_) f2
      rw [f1.1 31 (by simp; omega)]
      dsimp only
      rw [sy_up2]
      by_cases z : i = m
      · rw [if_pos ⟨rfl, z⟩, if_pos z]; rfl
      · rw [if_neg (fun q => z q.2), if_neg z, g1.1 31 (by decide)]
  · have e : f_keep p (G, H, P, U, R, T, W, L) = (-1, (G, H, P, U, R, T, W, L)) := by simp only [f_keep, q]
    rw [e] at kk
    exact kk σ h
theorem X_load {Q : Option Value → sy_S → Prop} {σ : sy_S} {B : Nat} {S : st} (p : Int32) (ho : sO B S) (h : RX S σ.1) (kk : ∀ σ' : sy_S, RX (f_load p S).2 σ'.1 → Q (some (.int (f_load p S).1)) σ') : sy_E shX mX11_load (0, sy_ent [.ref 6, .int p] 2, [], σ) Q := by
  obtain ⟨G, H, P, U, R, T, W, L⟩ := S
  obtain ⟨r1, r2, r3, r4, r5, r6, r7⟩ := id h
  have hG := r1.1
  have hH := sO_H ho
  refine w_X_load_0 (fun m hm => ?_) (fun q => ?_)
  · obtain ⟨m6, e1, e2⟩ := px6f hm
    obtain ⟨y1, y2⟩ := pX_i r6 m6
    refine w_X_load_13 (by rw [e2]; exact row24 m m6) (px6 hm) (fun _ => px6R hm) (fun q => ?_) (fun q => ?_)
    · rw [e1] at q
      have e : f_load p (G, H, P, U, R, T, W, L) = (-6, (G, H, P, U, R, T, W, L)) := by simp only [f_load, hm, y1 q]
      rw [e] at kk
      exact kk σ h
    · rw [e1] at q
      obtain ⟨x, hx, hxr⟩ := y2 q
      have e : f_load p (G, H, P, U, R, T, W, L) = (nI (sg_sum G x), (G, x, P, (H :: U).take 8, [], T, W, L)) := by simp only [f_load, hm, hx]
      rw [e] at kk
      rw [e2]
      refine X_note (H' := x) (l := [7]) ho h ⟨fun q hq => sy_cp_ne _ _ _ (fun z => hq (by rw [z]; simp)), rfl⟩ (by simp) (fun j hj => ?_) (fun σ2 f _ => w_X_load_57 (e_x_grainsOf rfl f.1 f.2.1 (w_X_load_68 (kk σ2 f))))
      dsimp only
      rw [sy_cp2, if_pos ⟨rfl, hj⟩]; exact hxr j hj
  · have e : f_load p (G, H, P, U, R, T, W, L) = (-1, (G, H, P, U, R, T, W, L)) := by simp only [f_load, q]
    rw [e] at kk
    exact kk σ h
theorem X_pile {Q : Option Value → sy_S → Prop} {σ : sy_S} {B : Nat} {S : st} (p : Int32) (cell : Int32) (ho : sO B S) (h : RX S σ.1) (kk : ∀ σ' : sy_S, RX S σ'.1 → Q (some (.int (f_pile p cell S))) σ') : sy_E shX mX11_pile (0, sy_ent [.ref 6, .int p, .int cell] 3, [], σ) Q := by
  obtain ⟨G, H, P, U, R, T, W, L⟩ := S
  obtain ⟨r1, r2, r3, r4, r5, r6, r7⟩ := id h
  have hG := r1.1
  have hH := sO_H ho
  refine w_X_pile_0 (fun _ _ => r1) (fun m hm c hc => ?_) (fun m hm q => ?_) (fun q => ?_)
  · obtain ⟨m6, e1, e2⟩ := px6f hm
    obtain ⟨y1, y2⟩ := pX_i r6 m6
    obtain ⟨pc, rfl, -⟩ := px_s hc
    have hc16 := sg_p16 hG pc
    refine w_X_pile_24 (by rw [e2]; exact row24 m m6) (px6 hm) (fun _ => px6R hm) (fun _ => vp_in_nI hc16 (by decide)) (fun q => ?_) (fun q => ?_)
    · rw [e1] at q
      have e : f_pile p (nI c) (G, H, P, U, R, T, W, L) = -6 := by simp only [f_pile, hm, hc, y1 q]
      rw [e] at kk
      exact kk σ h
    · rw [e1] at q
      obtain ⟨x, hx, hxr⟩ := y2 q
      have e : f_pile p (nI c) (G, H, P, U, R, T, W, L) = nI (x c) := by simp only [f_pile, hm, hc, hx]
      rw [e] at kk
      rw [e2, nI_clamp (by omega), hxr c hc16]
      exact kk σ h
  · have e : f_pile p cell (G, H, P, U, R, T, W, L) = -1 := by simp only [f_pile, hm, q]
    rw [e] at kk
    exact kk σ h
  · have e : f_pile p cell (G, H, P, U, R, T, W, L) = -1 := by simp only [f_pile, q]
    rw [e] at kk
    exact kk σ h
theorem X_sum {Q : Option Value → sy_S → Prop} {σ : sy_S} {B : Nat} {S : st} (p : Int32) (a : Int32) (b : Int32) (ho : sO B S) (h : RX S σ.1) (kk : ∀ σ' : sy_S, RX (f_sum p a b S).2 σ'.1 → Q (some (.int (f_sum p a b S).1)) σ') : sy_E shX mX11_sum (0, sy_ent [.ref 6, .int p, .int a, .int b] 5, [], σ) Q := by
  obtain ⟨G, H, P, U, R, T, W, L⟩ := S
  obtain ⟨r1, r2, r3, r4, r5, r6, r7⟩ := id h
  have hG := r1.1
  have hH := sO_H ho
  refine w_X_sum_0 (fun _ _ _ h2 _ _ => px6 h2) (fun _ _ _ _ _ h3 _ => px6 h3) (fun _ _ _ h2 _ _ _ _ => px6R h2) (fun _ _ _ _ _ h3 _ _ => px6R h3) (fun m hm ma ha mb hb q => ?_) (fun m hm ma ha mb hb q q2 => ?_) (fun m hm ma ha mb hb q q2 => ?_) (fun m hm ma ha q => ?_) (fun m hm q => ?_) (fun q => ?_)
  · obtain ⟨a6, a1, a2⟩ := px6f ha
    rw [a1] at q
    have e : f_sum p a b (G, H, P, U, R, T, W, L) = (-6, (G, H, P, U, R, T, W, L)) := by simp only [f_sum, hm, ha, hb, (pX_i r6 a6).1 q]
    rw [e] at kk
    exact kk σ h
  · obtain ⟨a6, a1, a2⟩ := px6f ha
    obtain ⟨b6, b1, b2⟩ := px6f hb
    rw [a1] at q
    rw [b1] at q2
    obtain ⟨x, hx, hxr⟩ := (pX_i r6 a6).2 q
    have e : f_sum p a b (G, H, P, U, R, T, W, L) = (-6, (G, H, P, U, R, T, W, L)) := by simp only [f_sum, hm, ha, hb, hx, (pX_i r6 b6).1 q2]
    rw [e] at kk
    exact kk σ h
  · obtain ⟨m6, e1, e2⟩ := px6f hm
    obtain ⟨a6, a1, a2⟩ := px6f ha
    obtain ⟨b6, b1, b2⟩ := px6f hb
    rw [a1] at q
    rw [b1] at q2
    obtain ⟨x, hx, hxr⟩ := (pX_i r6 a6).2 q
    obtain ⟨y, hy, hyr⟩ := (pX_i r6 b6).2 q2
    have hxz := ho.2.2.2.1 _ x hx
    have hyz := ho.2.2.2.1 _ y hy
    have e : f_sum p a b (G, H, P, U, R, T, W, L) = (nI (ssum 16 (od G (vad x y))), (G, H, pset P m (stt G (vad x y)), U, R, T, W, L)) := by simp only [f_sum, hm, ha, hb, hx, hy]
    rw [e] at kk
    rw [a2, b2]
    refine e_x_add (row24 ma a6) (row24 mb b6) (by omega) (by omega) r1 hxr hyr (fun j _ => Nat.le_trans ((vad_hz hxz hyz).2 j) (by decide)) (fun σ1 g1 g2 => w_X_sum_83 (px6 hm) (px6R hm) ?_)
    rw [e2, e1]
    refine e_x_copyTo (row24 m m6) (H := stt G (vad x y)) (fun j hj => ?_) (fun σ2 f1 f2 => w_X_sum_102 (kk σ2 ?_))
    · dsimp only
      rw [sy_up_ne _ _ _ (by decide)]; exact g2 j hj
    · refine RX_pile (l := [31, 25 + m, 40, 41, 52]) ho h m6 (by simp) (((g1.mono (by simp)).tr (sx.up (by simp))).tr (f1.mono (by simp))) (fun i hi => ?_) f2
      rw [f1.1 31 (by simp; omega)]
      dsimp only
      rw [sy_up2]
      by_cases z : i = m
      · rw [if_pos ⟨rfl, z⟩, if_pos z]; rfl
      · rw [if_neg (fun q => z q.2), if_neg z, g1.1 31 (by decide)]
  · have e : f_sum p a b (G, H, P, U, R, T, W, L) = (-1, (G, H, P, U, R, T, W, L)) := by simp only [f_sum, hm, ha, q]
    rw [e] at kk
    exact kk σ h
  · have e : f_sum p a b (G, H, P, U, R, T, W, L) = (-1, (G, H, P, U, R, T, W, L)) := by simp only [f_sum, hm, q]
    rw [e] at kk
    exact kk σ h
  · have e : f_sum p a b (G, H, P, U, R, T, W, L) = (-1, (G, H, P, U, R, T, W, L)) := by simp only [f_sum, q]
    rw [e] at kk
    exact kk σ h
theorem X_nought {Q : Option Value → sy_S → Prop} {σ : sy_S} {B : Nat} {S : st} (p : Int32) (ho : sO B S) (h : RX S σ.1) (kk : ∀ σ' : sy_S, RX (f_nought p S).2 σ'.1 → Q (some (.int (f_nought p S).1)) σ') : sy_E shX mX11_nought (0, sy_ent [.ref 6, .int p] 2, [], σ) Q := by
  obtain ⟨G, H, P, U, R, T, W, L⟩ := S
  obtain ⟨r1, r2, r3, r4, r5, r6, r7⟩ := id h
  have hG := r1.1
  have hH := sO_H ho
  refine w_X_nought_0 (fun m hm => ?_) (fun q => ?_)
  · have e : f_nought p (G, H, P, U, R, T, W, L) = (nI (sg_sum G (nt G)), (G, H, pset P m (nt G), U, R, T, W, L)) := by simp only [f_nought, hm]
    rw [e] at kk
    refine e_x_start r1 (fun σ1 g1 g2 g3 => w_X_nought_20 (e_X_holdRes ho h hm g1 (by simp) g2 (fun σ2 f => w_X_nought_25 (kk σ2 f))))
  · have e : f_nought p (G, H, P, U, R, T, W, L) = (-1, (G, H, P, U, R, T, W, L)) := by simp only [f_nought, q]
    rw [e] at kk
    exact kk σ h
theorem X_times {Q : Option Value → sy_S → Prop} {σ : sy_S} {B : Nat} {S : st} (p : Int32) (a : Int32) (k : Int32) (ho : sO B S) (h : RX S σ.1) (kk : ∀ σ' : sy_S, RX (f_times p a k S).2 σ'.1 → Q (some (.int (f_times p a k S).1)) σ') : sy_E shX mX11_times (0, sy_ent [.ref 6, .int p, .int a, .int k] 4, [], σ) Q := by
  obtain ⟨G, H, P, U, R, T, W, L⟩ := S
  obtain ⟨r1, r2, r3, r4, r5, r6, r7⟩ := id h
  have hG := r1.1
  have hH := sO_H ho
  obtain ⟨z1, z2, z3⟩ := px_rng (a := 0) (b := 1000000000) (x := k) (by decide) (by decide)
  have bad : ∀ m ma, px p6 p = some m → px p6 a = some ma → px (pR 0 1000000000) k = none → Q (some (.int (-2))) σ := by
    intro m ma hm ha z
    have e : f_times p a k (G, H, P, U, R, T, W, L) = (-2, (G, H, P, U, R, T, W, L)) := by simp only [f_times, hm, ha, z]
    rw [e] at kk
    exact kk σ h
  refine w_X_times_0 (fun _ _ _ h2 _ _ => px6 h2) (fun _ _ _ h2 _ _ _ => px6R h2) (fun m hm ma ha q => bad m ma hm ha (z1 q)) (fun m hm ma ha q q2 q3 => ?_) (fun m hm ma ha q q2 q3 => ?_) (fun m hm ma ha _ q => bad m ma hm ha (z2 q)) (fun m hm q => ?_) (fun q => ?_)
  · obtain ⟨n, hn⟩ := z3 q q2
    obtain ⟨a6, a1, a2⟩ := px6f ha
    rw [a1] at q3
    have e : f_times p a k (G, H, P, U, R, T, W, L) = (-6, (G, H, P, U, R, T, W, L)) := by simp only [f_times, hm, ha, hn, (pX_i r6 a6).1 q3]
    rw [e] at kk
    exact kk σ h
  · obtain ⟨n, hn⟩ := z3 q q2
    obtain ⟨a6, a1, a2⟩ := px6f ha
    rw [a1] at q3
    obtain ⟨x, hx, hxr⟩ := (pX_i r6 a6).2 q3
    have hxz := ho.2.2.2.1 _ x hx
    obtain ⟨pn, rfl, pn3⟩ := px_s hn
    have e : f_times p a (nI n) (G, H, P, U, R, T, W, L) = (nI (sg_sum G (tms G x n)), (G, H, pset P m (tms G x n), U, R, T, W, L)) := by simp only [f_times, hm, ha, hn, hx]
    rw [e] at kk
    rw [a2]
    exact e_x_mult (row24 ma a6) (by simp; omega) r1 hxr hxz pn3 (fun σ1 g1 g2 => w_X_times_67 (e_X_holdRes ho h hm g1 (by simp) g2 (fun σ2 f => w_X_times_72 (kk σ2 f))))
  · have e : f_times p a k (G, H, P, U, R, T, W, L) = (-1, (G, H, P, U, R, T, W, L)) := by simp only [f_times, hm, q]
    rw [e] at kk
    exact kk σ h
  · have e : f_times p a k (G, H, P, U, R, T, W, L) = (-1, (G, H, P, U, R, T, W, L)) := by simp only [f_times, q]
    rw [e] at kk
    exact kk σ h
theorem X_opposite {Q : Option Value → sy_S → Prop} {σ : sy_S} {B : Nat} {S : st} (p : Int32) (a : Int32) (ho : sO B S) (h : RX S σ.1) (kk : ∀ σ' : sy_S, RX (f_opposite p a S).2 σ'.1 → Q (some (.int (f_opposite p a S).1)) σ') : sy_E shX mX11_opposite (0, sy_ent [.ref 6, .int p, .int a] 3, [], σ) Q := by
  obtain ⟨G, H, P, U, R, T, W, L⟩ := S
  obtain ⟨r1, r2, r3, r4, r5, r6, r7⟩ := id h
  have hG := r1.1
  have hH := sO_H ho
  refine w_X_opposite_0 (fun _ _ _ h2 => px6 h2) (fun _ _ _ h2 _ => px6R h2) (fun m hm ma ha q => ?_) (fun m hm ma ha q => ?_) (fun m hm q => ?_) (fun q => ?_)
  · obtain ⟨a6, a1, a2⟩ := px6f ha
    rw [a1] at q
    have e : f_opposite p a (G, H, P, U, R, T, W, L) = (-6, (G, H, P, U, R, T, W, L)) := by simp only [f_opposite, hm, ha, (pX_i r6 a6).1 q]
    rw [e] at kk
    exact kk σ h
  · obtain ⟨a6, a1, a2⟩ := px6f ha
    rw [a1] at q
    obtain ⟨x, hx, hxr⟩ := (pX_i r6 a6).2 q
    have hxz := ho.2.2.2.1 _ x hx
    have e : f_opposite p a (G, H, P, U, R, T, W, L) = (nI (sg_sum G (opp G x)), (G, H, pset P m (opp G x), U, R, T, W, L)) := by simp only [f_opposite, hm, ha, hx]
    rw [e] at kk
    rw [a2]
    exact e_x_neg (row24 ma a6) (by simp; omega) r1 hxr hxz (fun σ1 g1 g2 => w_X_opposite_53 (e_X_holdRes ho h hm g1 (by simp) g2 (fun σ2 f => w_X_opposite_58 (kk σ2 f))))
  · have e : f_opposite p a (G, H, P, U, R, T, W, L) = (-1, (G, H, P, U, R, T, W, L)) := by simp only [f_opposite, hm, q]
    rw [e] at kk
    exact kk σ h
  · have e : f_opposite p a (G, H, P, U, R, T, W, L) = (-1, (G, H, P, U, R, T, W, L)) := by simp only [f_opposite, q]
    rw [e] at kk
    exact kk σ h
theorem X_order {Q : Option Value → sy_S → Prop} {σ : sy_S} {B : Nat} {S : st} (p : Int32) (ho : sO B S) (h : RX S σ.1) (kk : ∀ σ' : sy_S, RX S σ'.1 → Q (some (.int (f_order p S))) σ') : sy_E shX mX11_order (0, sy_ent [.ref 6, .int p] 3, [], σ) Q := by
  obtain ⟨G, H, P, U, R, T, W, L⟩ := S
  obtain ⟨r1, r2, r3, r4, r5, r6, r7⟩ := id h
  have hG := r1.1
  have hH := sO_H ho
  refine w_X_order_0 (fun _ h2 => px6 h2) (fun _ h2 _ => px6R h2) (fun m hm q => ?_) (fun m hm q => ?_) (fun q => ?_)
  · obtain ⟨a6, a1, a2⟩ := px6f hm
    rw [a1] at q
    have e : f_order p (G, H, P, U, R, T, W, L) = -6 := by simp only [f_order, hm, (pX_i r6 a6).1 q]
    rw [e] at kk
    exact kk σ h
  · obtain ⟨a6, a1, a2⟩ := px6f hm
    rw [a1] at q
    obtain ⟨x, hx, hxr⟩ := (pX_i r6 a6).2 q
    have hxz := ho.2.2.2.1 _ x hx
    have e : f_order p (G, H, P, U, R, T, W, L) = (fst1 (fun n => feq (orn G x n) (nt G)) 1 2000).elim (-5) nI := by simp only [f_order, hm, hx]
    rw [e] at kk
    rw [a2]
    refine e_x_least (row24 m a6) (by simp; omega) r1 hxr hxz (fun σ1 g1 => ?_)
    have hR := h.fr ho g1 (by simp)
    have h9 := kk σ1 hR
    cases hf : fst1 (fun n => feq (orn G x n) (nt G)) 1 2000 with
    | none =>
      rw [hf] at h9
      exact w_X_order_45 (fun _ => h9) (fun q => absurd (by decide) q)
    | some n =>
      rw [hf] at h9
      obtain ⟨-, n1, n2⟩ := fst1_some hf
      refine w_X_order_45 (fun q => ?_) (fun _ => h9)
      have q : nI n ≤ nI 0 := q
      rw [nI_leI (by omega) (by decide)] at q
      omega
  · have e : f_order p (G, H, P, U, R, T, W, L) = -1 := by simp only [f_order, q]
    rw [e] at kk
    exact kk σ h
theorem X_one {Q : Option Value → sy_S → Prop} {σ : sy_S} {B : Nat} {S : st} (a : Int32) (b : Int32) (ho : sO B S) (h : RX S σ.1) (kk : ∀ σ' : sy_S, RX S σ'.1 → Q (some (.int (f_one a b S))) σ') : sy_E shX mX11_one (0, sy_ent [.ref 6, .int a, .int b] 3, [], σ) Q := by
  obtain ⟨G, H, P, U, R, T, W, L⟩ := S
  obtain ⟨r1, r2, r3, r4, r5, r6, r7⟩ := id h
  have hG := r1.1
  have hH := sO_H ho
  refine w_X_one_0 (fun _ h1 _ _ => px6 h1) (fun _ _ _ h2 _ => px6 h2) (fun _ h1 _ _ _ _ => px6R h1) (fun _ _ _ h2 _ _ => px6R h2) (fun ma ha mb hb q => ?_) (fun ma ha mb hb q q2 => ?_) (fun ma ha mb hb q q2 => ?_) (fun ma ha q => ?_) (fun q => ?_)
  · obtain ⟨a6, a1, a2⟩ := px6f ha
    rw [a1] at q
    have e : f_one a b (G, H, P, U, R, T, W, L) = -6 := by simp only [f_one, ha, hb, (pX_i r6 a6).1 q]
    rw [e] at kk
    exact kk σ h
  · obtain ⟨a6, a1, a2⟩ := px6f ha
    obtain ⟨b6, b1, b2⟩ := px6f hb
    rw [a1] at q
    rw [b1] at q2
    obtain ⟨x, hx, hxr⟩ := (pX_i r6 a6).2 q
    have e : f_one a b (G, H, P, U, R, T, W, L) = -6 := by simp only [f_one, ha, hb, hx, (pX_i r6 b6).1 q2]
    rw [e] at kk
    exact kk σ h
  · obtain ⟨a6, a1, a2⟩ := px6f ha
    obtain ⟨b6, b1, b2⟩ := px6f hb
    rw [a1] at q
    rw [b1] at q2
    obtain ⟨x, hx, hxr⟩ := (pX_i r6 a6).2 q
    obtain ⟨y, hy, hyr⟩ := (pX_i r6 b6).2 q2
    have hxz := ho.2.2.2.1 _ x hx
    have hyz := ho.2.2.2.1 _ y hy
    have e : f_one a b (G, H, P, U, R, T, W, L) = if feq x y = true then 2 else if feq (stt G (vad (nt G) x)) (stt G (vad (nt G) y)) = true then 1 else 0 := by simp only [f_one, ha, hb, hx, hy]
    rw [e] at kk
    rw [a2, b2]
    refine e_x_alike (row24 ma a6) (row24 mb b6) hxr hyr (fun j hj => ⟨hz_b hxz (by decide) j hj, hz_b hyz (by decide) j hj⟩) ?_
    by_cases z : feq x y = true
    · rw [if_pos z]
      rw [if_pos z] at kk
      exact w_X_one_68 (fun q => absurd q (by decide)) (fun q => absurd q (by decide)) (fun q => absurd q (by decide)) (fun _ => kk σ h)
    · rw [if_neg z]
      rw [if_neg z] at kk
      refine w_X_one_68 (fun _ => px6R ha) (fun _ => px6R hb) (fun _ => ?_) (fun q => absurd rfl q)
      rw [a2, b2]
      refine e_x_areOne (row24 ma a6) (by simp; omega) (row24 mb b6) (by simp; omega) r1 hxr hyr hxz hyz (fun σ1 g1 => ?_)
      have h9 := kk σ1 (h.fr ho g1 (by simp))
      by_cases z2 : feq (stt G (vad (nt G) x)) (stt G (vad (nt G) y)) = true
      · rw [if_pos z2] at h9 ⊢
        exact w_X_one_96 (fun q => absurd q (by decide)) (fun _ => h9)
      · rw [if_neg z2] at h9 ⊢
        exact w_X_one_96 (fun _ => h9) (fun q => absurd rfl q)
  · have e : f_one a b (G, H, P, U, R, T, W, L) = -1 := by simp only [f_one, ha, q]
    rw [e] at kk
    exact kk σ h
  · have e : f_one a b (G, H, P, U, R, T, W, L) = -1 := by simp only [f_one, q]
    rw [e] at kk
    exact kk σ h
theorem X_group {Q : Option Value → sy_S → Prop} {σ : sy_S} {B : Nat} {S : st}  (ho : sO B S) (h : RX S σ.1) (kk : ∀ σ' : sy_S, RX S σ'.1 → Q (some (.long (f_group S))) σ') : sy_E shX mX11_group (0, sy_ent [.ref 6] 1, [], σ) Q := by
  obtain ⟨G, H, P, U, R, T, W, L⟩ := S
  obtain ⟨r1, r2, r3, r4, r5, r6, r7⟩ := id h
  have hG := r1.1
  have hH := sO_H ho
  exact w_X_group_0 (e_x_det r1 (fun σ1 g1 => w_X_group_11 (kk σ1 (h.fe ho (fun q _ => by rw [g1])))))
theorem X_burn {Q : Option Value → sy_S → Prop} {σ : sy_S} {B : Nat} {S : st} (p : Int32) (w : Int32) (ho : sO B S) (h : RX S σ.1) (kk : ∀ σ' : sy_S, RX S σ'.1 → Q (some (.int (f_burn p w S))) σ') : sy_E shX mX11_burn (0, sy_ent [.ref 6, .int p, .int w] 6, [], σ) Q := by
  obtain ⟨G, H, P, U, R, T, W, L⟩ := S
  obtain ⟨r1, r2, r3, r4, r5, r6, r7⟩ := id h
  have hG := r1.1
  have hH := sO_H ho
  obtain ⟨z1, z2, z3⟩ := px_rng (a := 0) (b := 2) (x := w) (by decide) (by decide)
  have small : ∀ c, px (sg_p G) (w - 100) = some c → px (pR 0 2) w = none := by
    intro c hc
    obtain ⟨pc, e1, -⟩ := px_s hc
    have hc16 := sg_p16 hG pc
    have e2 : w = nI c + 100 := by rw [← e1]; exact (Int32.sub_add_cancel w 100).symm
    have e3 : w = nI (c + 100) := by rw [← nI_add]; exact e2
    subst e3
    refine px_no (fun j hj hp ej => ?_)
    rw [nI_eq (by omega) hj] at ej
    have := hp.2
    omega
  -- the fire of a pile
  have fire : ∀ (m : Nat) (x : Nat → Nat) (cf : Option Value → sy_S → sy_Cf), m < 6 → P m = some x → ar σ.1 (25 + m) x → (∀ σ' : sy_S, RX (G, H, P, U, R, T, W, L) σ'.1 → ar σ'.1 54 (bfn G x) → sy_E shX mX11_burn (cf (some (.int (nI (bnd G x)))) σ') Q) → sy_E shX mX2_spread (0, sy_ent [.ref 53, .ref (25 + m)] 3, [], σ) (fun r9 σ9 => sy_E shX mX11_burn (cf r9 σ9) Q) := by
    intro m x cf m6 hx hxr go
    have hxz := ho.2.2.2.1 _ x hx
    refine e_x_spread (row24 m m6) (by omega) r1 (fun c hc => hxr c (sg_p16 hG hc)) (fun c _ => by have := hxz.2 c; omega) (fun σ1 N g1 g2 g3 => ?_)
    rw [bnd_eq g1] at g3 ⊢
    exact go σ1 (h.fr ho g2 (by simp)) g3
  have ble : ∀ (x : Nat → Nat) (N : Nat), bE G x N → ∀ c, bfn G x c ≤ 16 := fun x N hN c => by
    unfold bfn
    rw [← bnd_eq hN]
    exact Nat.le_trans (bru_le G x N c) (bE_le hG hN)
  refine w_X_burn_0 (G := G) r1 (fun _ _ _ h2 => px6 h2) (fun _ _ _ h2 _ => px6R h2) (fun _ _ h2 _ _ => px6 h2) (fun _ _ h2 _ _ _ => px6R h2) (fun c hc m hm q => ?_) (fun c hc m hm q => ?_) (fun c hc q => ?_) (fun q m hm q2 => ?_) (fun q m hm q2 q3 q4 => ?_) (fun q m hm q2 q3 q4 => ?_) (fun q m hm q2 q3 => ?_) (fun q q2 => ?_)
  · obtain ⟨a6, a1, a2⟩ := px6f hm
    rw [a1] at q
    have e : f_burn p w (G, H, P, U, R, T, W, L) = -6 := by simp only [f_burn, hm, small c hc, hc, (pX_i r6 a6).1 q]
    rw [e] at kk
    exact kk σ h
  · obtain ⟨a6, a1, a2⟩ := px6f hm
    rw [a1] at q
    obtain ⟨x, hx, hxr⟩ := (pX_i r6 a6).2 q
    obtain ⟨pc, ec, -⟩ := px_s hc
    have hc16 := sg_p16 hG pc
    have e : f_burn p w (G, H, P, U, R, T, W, L) = if bfn G x c = 0 then -5 else nI (bfn G x c) := by simp only [f_burn, hm, small c hc, hc, hx]
    rw [e] at kk
    rw [a2]
    have hxz := ho.2.2.2.1 _ x hx
    refine e_x_spread (row24 m a6) (by omega) r1 (fun c hc => hxr c (sg_p16 hG hc)) (fun c _ => by have := hxz.2 c; omega) (fun σ1 N g1 g2 g3 => ?_)
    have hb := ble x N g1 c
    have g3 : ar σ1.1 54 (bfn G x) := by unfold bfn; rw [← bnd_eq g1]; exact g3
    have h9 := kk σ1 (h.fr ho g2 (by simp))
    refine w_X_burn_67 (fun _ => by rw [ec]; exact vp_in_nI hc16 (by decide)) (fun q => absurd q (by decide)) (fun q => absurd q (by decide)) (fun _ q => ?_) (fun _ q => ?_)
    · rw [ec, nI_clamp (by omega), g3 c hc16, nI_lit0, nI_leI (by omega) (by decide)] at q
      rw [if_pos (by omega)] at h9
      exact h9
    · rw [ec, nI_clamp (by omega), g3 c hc16, nI_lit0, nI_leI (by omega) (by decide)] at q
      rw [if_neg (by omega)] at h9
      rw [ec, nI_clamp (by omega), g3 c hc16]
      exact h9
  · have e : f_burn p w (G, H, P, U, R, T, W, L) = -1 := by simp only [f_burn, q]
    rw [e] at kk
    exact kk σ h
  · have e : f_burn p w (G, H, P, U, R, T, W, L) = -1 := by simp only [f_burn, hm, z1 q2, q]
    rw [e] at kk
    exact kk σ h
  · obtain ⟨n, hn⟩ := z3 q2 q3
    obtain ⟨a6, a1, a2⟩ := px6f hm
    rw [a1] at q4
    have e : f_burn p w (G, H, P, U, R, T, W, L) = -6 := by simp only [f_burn, hm, hn, (pX_i r6 a6).1 q4]
    rw [e] at kk
    exact kk σ h
  · obtain ⟨n, hn⟩ := z3 q2 q3
    obtain ⟨a6, a1, a2⟩ := px6f hm
    rw [a1] at q4
    obtain ⟨x, hx, hxr⟩ := (pX_i r6 a6).2 q4
    have hxz := ho.2.2.2.1 _ x hx
    have e : f_burn p w (G, H, P, U, R, T, W, L) = if n = 0 then (if ubt G x = 0 then 1 else 0) else if n = 1 then nI (bnd G x) else ubt G x := by simp only [f_burn, hm, hn, hx]
    rw [e] at kk
    obtain ⟨pn, rfl, -⟩ := px_s hn
    have pn2 : n ≤ 2 := pn.2
    rw [a2]
    refine e_x_spread (row24 m a6) (by omega) r1 (fun c hc => hxr c (sg_p16 hG hc)) (fun c _ => by have := hxz.2 c; omega) (fun σ1 N g1 g2 g3 => ?_)
    have g3 : ar σ1.1 54 (bfn G x) := by unfold bfn; rw [← bnd_eq g1]; exact g3
    have hR := h.fr ho g2 (by simp)
    have h9 := kk σ1 hR
    refine w_X_burn_67 (fun q => absurd rfl q) (fun _ q => ?_) (fun _ q => ?_) (fun q => absurd rfl q) (fun q => absurd rfl q)
    · rw [nI_lit1, nI_eq (by omega) (by decide)] at q
      rw [if_neg q] at h9
      refine e_x_unburnt hR.1 g3 (fun c _ => by have := ble x N g1 c; omega) ?_
      have eu : bts (fun c => decide (bfn G x c = 0)) (sg_P G) = ubt G x := rfl
      rw [eu]
      refine w_X_burn_114 (fun z y => ?_) (fun z y => ?_) (fun z => ?_)
      · rw [show (2 : Int32) = nI 2 from rfl, nI_eq (by omega) (by decide)] at z
        rw [if_pos (by omega), if_neg y] at h9
        exact h9
      · rw [show (2 : Int32) = nI 2 from rfl, nI_eq (by omega) (by decide)] at z
        rw [if_pos (by omega), if_pos (Classical.byContradiction y)] at h9
        exact h9
      · rw [show (2 : Int32) = nI 2 from rfl, nI_eq (by omega) (by decide)] at z
        rw [if_neg (by omega)] at h9
        exact h9
    · rw [nI_lit1, nI_eq (by omega) (by decide)] at q
      rw [if_neg (by omega), if_pos (Classical.byContradiction q)] at h9
      rw [bnd_eq g1]
      exact h9
  · have e : f_burn p w (G, H, P, U, R, T, W, L) = -1 := by simp only [f_burn, hm, z2 q3, q]
    rw [e] at kk
    exact kk σ h
  · have e : f_burn p w (G, H, P, U, R, T, W, L) = -1 := by simp only [f_burn, q2]
    rw [e] at kk
    exact kk σ h
