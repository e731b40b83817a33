/-! SandGroup's methods: the grid (by program: wip/whole/gen/p62.py) -/
theorem px_rng {a b : Nat} {x : Int32} (ha : a < 2 ^ 31) (hb : b < 2 ^ 31) : (x < nI a → px (pR a b) x = none) ∧ (¬ x ≤ nI b → px (pR a b) x = none) ∧ (¬ x < nI a → x ≤ nI b → ∃ m, px (pR a b) x = some m) := by
  refine ⟨fun h => px_no (fun m hm hp e => ?_), fun h => px_no (fun m hm hp e => ?_), fun h1 h2 => ?_⟩
  · subst e
    rw [nI_ltI hm ha] at h
    have := hp.1
    omega
  · subst e
    rw [nI_leI hm hb] at h
    exact h hp.2
  · obtain ⟨m, hm, rfl⟩ := nI_of (x := x) (fun q => h1 (by
      rw [Int32.lt_iff_toInt_lt] at q ⊢
      rw [nI_toInt ha]
      rw [show (0 : Int32).toInt = 0 from rfl] at q
      omega))
    rw [nI_ltI hm ha] at h1
    rw [nI_leI hm hb] at h2
    exact ⟨m, px_i hm ⟨by omega, h2⟩⟩
theorem i_nle {x y : Int32} (h : y < x) : ¬ x ≤ y := fun q => by
  rw [Int32.lt_iff_toInt_lt] at h
  rw [Int32.le_iff_toInt_le] at q
  omega
theorem i_le {x y : Int32} (h : ¬ y < x) : x ≤ y := by
  rw [Int32.lt_iff_toInt_lt] at h
  rw [Int32.le_iff_toInt_le]
  omega
theorem ar_sx {l : List Nat} {σ σ' : sy_S} {k : Nat} {H : Nat → Nat} (hs : sx l σ σ') (h : ar σ.1 k H) (hk : k ∉ l) : ar σ'.1 k H := fun j hj => by rw [hs.1 k hk]; exact h j hj
theorem gx_n {G : sg_G} {f : Nat → Nat → Int32} (h : gx G f) : f 0 5 * f 0 6 = nI (sg_n G) := by rw [h.2.1.1, h.2.1.2.1, pk_mul]; rfl
theorem X_note {Q : Option Value → sy_S → Prop} {σ σ1 : sy_S} {B : Nat} {G : sg_G} {H H' : Nat → Nat} {P : Nat → Option (Nat → Nat)} {U R : List (Nat → Nat)} {T : List Nat} {W : Option (Nat × Nat)} {L : Nat → Option (List Int32)} {l : List Nat} (ho : sO B (G, H, P, U, R, T, W, L)) (h : RX (G, H, P, U, R, T, W, L) σ.1) (hs : sx l σ σ1) (hl : ∀ q, q ∈ l → q = 7 ∨ 39 ≤ q) (h7 : ar σ1.1 7 H') (kk : ∀ σ' : sy_S, RX (G, H', P, (H :: U).take 8, [], T, W, L) σ'.1 → sx lC σ1 σ' → Q none σ') : sy_E shX mX0_note (0, sy_ent [.ref 8, .ref 7] 3, [], σ1) Q := by
  obtain ⟨r1, r2, r3, r4, r5, r6, r7⟩ := h
  have e : ∀ q, q < 39 → q ≠ 7 → σ1.1 q = σ.1 q := fun q h1 h2 => hs.1 q (fun z => by have := hl q z; omega)
  refine e_x_note ho.2.1 (r3.fe ho.2.1 (fun q a b => e q (by omega) (by omega))) h7 (fun σ2 g1 g2 => ?_)
  have e2 : ∀ q, q < 39 → q ≠ 7 → q ≠ 8 → (q < 10 ∨ 19 ≤ q) → σ2.1 q = σ.1 q := fun q a b c d => by
    rw [g1.1 q (fun z => by unfold lC at z; simp at z; omega)]
    exact e q a b
  refine kk σ2 ⟨r1.frame (fun q hq => e2 q (by omega) (by omega) (by omega) (by omega)), fun j hj => ?_, g2, r4.fe ?_ ?_, r5.fe ?_ ?_, r6.fe (fun q a b => e2 q (by omega) (by omega) (by omega) (by omega)), r7.fe (fun q a b => e2 q (by omega) (by omega) (by omega) (by omega))⟩ g1
  · rw [g1.1 7 (by decide)]; exact h7 j hj
  · rw [e2 19 (by decide) (by decide) (by decide) (by decide)]
  · exact e2 20 (by decide) (by decide) (by decide) (by decide)
  · rw [e2 19 (by decide) (by decide) (by decide) (by decide)]
  · exact e2 22 (by decide) (by decide) (by decide) (by decide)
theorem X_forget {Q : Option Value → sy_S → Prop} {σ1 : sy_S} {G : sg_G} {H : Nat → Nat} {T : List Nat} {W : Option (Nat × Nat)} {L : Nat → Option (List Int32)} (hg : gx G σ1.1) (h7 : ar σ1.1 7 H) (ht : tX T σ1.1) (hw : wX W σ1.1) (hl : lX L σ1.1) (kk : ∀ σ' : sy_S, RX (G, H, pno, [], [], T, W, L) σ'.1 → Q none σ') : sy_E shX mX11_forgetPilesAndChanges (0, sy_ent [.ref 6] 1, [], σ1) Q := by
  refine w_X_forget_0 (e_x_clear (fun σ2 g1 g2 => w_X_forget_7 (e_x_restart (H := H) (ar_sx g1 h7 (by decide)) (fun σ3 f1 f2 => w_X_forget_18 (kk σ3 ?_)))))
  have e : ∀ q, q ≠ 31 → q ≠ 8 → q ≠ 10 → σ3.1 q = σ1.1 q := fun q a b c => by rw [f1.1 q (by simp; omega), g1.1 q (by simp; omega)]
  refine ⟨hg.frame (fun q hq => e q (by omega) (by omega) (by omega)), fun j hj => ?_, f2, ht.fe ?_ ?_, hw.fe ?_ ?_, ?_, hl.fe (fun q a b => e q (by omega) (by omega) (by omega))⟩
  · rw [e 7 (by decide) (by decide) (by decide)]; exact h7 j hj
  · rw [e 19 (by decide) (by decide) (by decide)]
  · exact e 20 (by decide) (by decide) (by decide)
  · rw [e 19 (by decide) (by decide) (by decide)]
  · exact e 22 (by decide) (by decide) (by decide)
  · exact pX.fe (P := pno) g2 (fun q a b => f1.1 q (by simp; omega))
theorem X_size {Q : Option Value → sy_S → Prop} {σ : sy_S} {B : Nat} {S : st} (r : Int32) (c : Int32) (ho : sO B S) (h : RX S σ.1) (kk : ∀ σ' : sy_S, RX (f_size r c S).2 σ'.1 → Q (some (.int (f_size r c S).1)) σ') : sy_E shX mX11_size (0, sy_ent [.ref 6, .int r, .int c] 4, [], σ) Q := by
  obtain ⟨G, H, P, U, R, T, W, L⟩ := S
  obtain ⟨r1, r2, r3, r4, r5, r6, r7⟩ := id h
  have hG := r1.1
  have hH := sO_H ho
  have en := gx_n r1
  obtain ⟨a1, a2, a3⟩ := px_rng (a := 1) (b := 4) (x := r) (by decide) (by decide)
  obtain ⟨b1, b2, b3⟩ := px_rng (a := 1) (b := 4) (x := c) (by decide) (by decide)
  have bad : (px (pR 1 4) r = none ∨ px (pR 1 4) c = none) → Q (some (.int (-2))) σ := by
    intro z
    have e : f_size r c (G, H, P, U, R, T, W, L) = (-2, (G, H, P, U, R, T, W, L)) := by
      rcases z with z | z
      · simp only [f_size, z]
      · cases hr : px (pR 1 4) r <;> simp only [f_size, hr, z]
    rw [e] at kk
    exact kk σ h
  refine w_X_size_0 (fun q => bad (Or.inl (a1 q))) (fun _ q => bad (Or.inl (a2 (i_nle q)))) (fun _ _ q => bad (Or.inr (b1 q))) (fun q1 q2 q3 q4 => ?_) (fun _ _ _ q => bad (Or.inr (b2 q)))
  obtain ⟨m, hm⟩ := a3 q1 (i_le q2)
  obtain ⟨n, hn⟩ := b3 q3 q4
  obtain ⟨pm, rfl, -⟩ := px_s hm
  obtain ⟨pn, rfl, -⟩ := px_s hn
  have e : f_size (nI m) (nI n) (G, H, P, U, R, T, W, L) = (nI (sg_n G), ((m, n, fun _ => false), (fun _ => 0), pno, [], [], T, W, L)) := by simp only [f_size, hm, hn]
  rw [e] at kk
  rw [en]
  refine e_x_shape ⟨pm.1, pm.2, pn.1, pn.2⟩ (fun σ1 g1 g2 g3 => w_X_size_40 (e_x_fill (n := 16) rfl (by decide) (fun σ2 z1 z2 z3 z4 => w_X_size_48 ?_)))
  have e2 : ∀ q, 6 ≤ q → q ≠ 7 → σ2.1 q = σ.1 q := fun q a b => (z1 q b).trans (g2 q a)
  refine X_forget (H := fun _ => 0) (g1.frame (fun q hq => z1 q (by omega))) (fun j hj => z2 j hj) (r4.fe ?_ ?_) (r5.fe ?_ ?_) (r7.fe (fun q a b => e2 q (by omega) (by omega))) (fun σ3 f => w_X_size_52 (kk σ3 f))
  · rw [e2 19 (by decide) (by decide)]
  · exact e2 20 (by decide) (by decide)
  · rw [e2 19 (by decide) (by decide)]
  · exact e2 22 (by decide) (by decide)
theorem X_wall {Q : Option Value → sy_S → Prop} {σ : sy_S} {B : Nat} {S : st} (cell : Int32) (b : Bool) (ho : sO B S) (h : RX S σ.1) (kk : ∀ σ' : sy_S, RX (f_wall cell b S).2 σ'.1 → Q (some (.int (f_wall cell b S).1)) σ') : sy_E shX mX11_wall (0, sy_ent [.ref 6, .int cell, .int (if b = true then 1 else 0)] 4, [], σ) Q := by
  obtain ⟨G, H, P, U, R, T, W, L⟩ := S
  obtain ⟨r1, r2, r3, r4, r5, r6, r7⟩ := id h
  have hG := r1.1
  have hH := sO_H ho
  have en := gx_n r1
  have h16 := sg_n16 hG
  obtain ⟨z1, z2, z3⟩ := px_cut (n := sg_n G) (x := cell) (by omega)
  have none' : px (fun m => m < sg_n G) cell = none → Q (some (.int (-1))) σ := by
    intro z
    have e : f_wall cell b (G, H, P, U, R, T, W, L) = (-1, (G, H, P, U, R, T, W, L)) := by simp only [f_wall, z]
    rw [e] at kk
    exact kk σ h
  have pl : ∀ {m}, px (sg_p G) cell = some m → px (fun m => m < sg_n G) cell = some m ∧ G.2.2 m = false := by
    intro m hm
    obtain ⟨p1, rfl, p3⟩ := px_s hm
    exact ⟨px_i p3 p1.1, p1.2⟩
  have wl : ¬ cell < 0 → ¬ nI (sg_n G) ≤ cell → px (sg_p G) cell = none → ∃ m, px (fun m => m < sg_n G) cell = some m ∧ G.2.2 m = true := by
    intro a b hn
    obtain ⟨m, hm⟩ := z3 a b
    obtain ⟨p1, rfl, p3⟩ := px_s hm
    refine ⟨m, hm, ?_⟩
    cases y : G.2.2 m with
    | true => rfl
    | false => exact absurd rfl (px_n hn p3 ⟨p1, y⟩)
  have same : ∀ c, px (fun m => m < sg_n G) cell = some c → G.2.2 c = b → Q (some (.int (if b = true then 1 else 0))) σ := by
    intro c hc hb
    have e : f_wall cell b (G, H, P, U, R, T, W, L) = ((if b = true then 1 else 0), (G, H, P, U, R, T, W, L)) := by simp only [f_wall, hc, hb, if_true]
    rw [e] at kk
    exact kk σ h
  have chg : ∀ c, px (fun m => m < sg_n G) cell = some c → G.2.2 c ≠ b → ∀ l3 : Int32, l3 = (if b = true then 0 else 1) → sy_E shX mX3_build (0, sy_ent [.ref 0, .int cell, .int (if b = true then 1 else 0)] 3, [], σ) (fun r9 σ9 => sy_E shX mX11_wall (44, [some (.ref 6), some (.int cell), none, some (.int l3)], r9.toList ++ [], σ9) Q) := by
    intro c hc hb l3 hl3
    have e : f_wall cell b (G, H, P, U, R, T, W, L) = ((if b = true then 0 else 1), (gwal G c b, hset H c 0, pno, [], [], T, W, L)) := by simp only [f_wall, hc, if_neg hb]
    rw [e] at kk
    obtain ⟨p1, rfl, p3⟩ := px_s hc
    refine e_x_build b rfl r1 p1 (fun σ1 g1 g2 g3 => ?_)
    refine w_X_wall_44 (vp_in_nI (by omega) (by decide)) ?_
    rw [nI_clamp (by omega)]
    have e2 : ∀ q, 6 ≤ q → q ≠ 7 → sy_up σ1.1 7 c 0 q = σ.1 q := fun q a b => (sy_up_ne _ _ _ b).trans (g2 q a)
    refine X_forget (G := gwal G c b) (H := hset H c 0) (g1.frame (fun q hq => sy_up_ne _ _ _ (by omega))) (fun j hj => ?_) (r4.fe ?_ ?_) (r5.fe ?_ ?_) (r7.fe (fun q a b => e2 q (by omega) (by omega))) (fun σ3 f => ?_)
    · dsimp only
      rw [sy_up2]
      unfold hset
      by_cases y : j = c
      · rw [if_pos ⟨rfl, y⟩, if_pos y]; rfl
      · rw [if_neg (fun q => y q.2), if_neg y, g2 7 (by decide)]; exact r2 j hj
    · dsimp only; rw [e2 19 (by decide) (by decide)]
    · exact e2 20 (by decide) (by decide)
    · dsimp only; rw [e2 19 (by decide) (by decide)]
    · exact e2 22 (by decide) (by decide)
    · have h9 := kk σ3 f
      rw [hl3]
      cases b
      · exact w_X_wall_55 (fun q => absurd q (by decide)) (fun _ => h9)
      · exact w_X_wall_55 (fun _ => h9) (fun q => absurd rfl q)
  refine w_X_wall_0 (G := G) (fun _ _ => r1) (fun q => none' (z1 q)) (fun _ q => none' (z2 (by rw [← en]; exact q))) (fun q1 q2 m hm q => ?_) (fun q1 q2 m hm q => ?_) (fun q1 q2 hm q => ?_) (fun q1 q2 hm q => ?_)
  · obtain ⟨p1, p2⟩ := pl hm
    have hb : b = false := by
      cases b
      · rfl
      · exact absurd q (by decide)
    subst hb
    exact same m p1 p2
  · obtain ⟨p1, p2⟩ := pl hm
    have hb : b = true := by
      cases b
      · exact absurd rfl q
      · rfl
    subst hb
    exact chg m p1 (by rw [p2]; decide) 0 rfl
  · obtain ⟨m, p1, p2⟩ := wl q1 (by rw [← en]; exact q2) hm
    have hb : b = true := by
      cases b
      · exact absurd q (by decide)
      · rfl
    subst hb
    exact same m p1 p2
  · obtain ⟨m, p1, p2⟩ := wl q1 (by rw [← en]; exact q2) hm
    have hb : b = false := by
      cases b
      · rfl
      · exact absurd rfl q
    subst hb
    exact chg m p1 (by rw [p2]; decide) 1 rfl
theorem X_set {Q : Option Value → sy_S → Prop} {σ : sy_S} {B : Nat} {S : st} (cell : Int32) (v : Int32) (ho : sO B S) (h : RX S σ.1) (kk : ∀ σ' : sy_S, RX (f_set cell v S).2 σ'.1 → Q (some (.int (f_set cell v S).1)) σ') : sy_E shX mX11_set (0, sy_ent [.ref 6, .int cell, .int v] 4, [], σ) Q := by
  obtain ⟨G, H, P, U, R, T, W, L⟩ := S
  obtain ⟨r1, r2, r3, r4, r5, r6, r7⟩ := id h
  have hG := r1.1
  have hH := sO_H ho
  obtain ⟨z1, z2, z3⟩ := px_rng (a := 0) (b := 999) (x := v) (by decide) (by decide)
  have bad : ∀ m, px (sg_p G) cell = some m → px (pR 0 999) v = none → Q (some (.int (-2))) σ := by
    intro m hm z
    have e : f_set cell v (G, H, P, U, R, T, W, L) = (-2, (G, H, P, U, R, T, W, L)) := by simp only [f_set, hm, z]
    rw [e] at kk
    exact kk σ h
  refine w_X_set_0 r1 (fun m hm _ _ => px_in (fun k hk => sg_p16 hG hk) (by decide) hm) (fun m hm q => bad m hm (z1 q)) (fun m hm q q2 => ?_) (fun m hm q q2 => bad m hm (z2 q2)) (fun q => ?_)
  · obtain ⟨w, hw⟩ := z3 q q2
    have e : f_set cell v (G, H, P, U, R, T, W, L) = (nI (H m), (G, hset H m w, P, (H :: U).take 8, [], T, W, L)) := by simp only [f_set, hm, hw]
    rw [e] at kk
    obtain ⟨p1, rfl, p3⟩ := px_s hm
    obtain ⟨-, rfl, -⟩ := px_s hw
    have hm16 := sg_p16 hG p1
    rw [nI_clamp (by omega), r2 m hm16]
    refine X_note ho h (sx.up (l := [7]) (by simp)) (by simp) (fun j hj => ?_) (fun σ2 f _ => w_X_set_52 (kk σ2 f))
    dsimp only
    rw [sy_up2]
    unfold hset
    by_cases y : j = m
    · rw [if_pos ⟨rfl, y⟩, if_pos y]
    · rw [if_neg (fun q => y q.2), if_neg y]; exact r2 j hj
  · have e : f_set cell v (G, H, P, U, R, T, W, L) = (-1, (G, H, P, U, R, T, W, L)) := by simp only [f_set, q]
    rw [e] at kk
    exact kk σ h
theorem X_height {Q : Option Value → sy_S → Prop} {σ : sy_S} {B : Nat} {S : st} (cell : Int32) (ho : sO B S) (h : RX S σ.1) (kk : ∀ σ' : sy_S, RX S σ'.1 → Q (some (.int (f_height cell S))) σ') : sy_E shX mX11_height (0, sy_ent [.ref 6, .int cell] 2, [], σ) Q := by
  obtain ⟨G, H, P, U, R, T, W, L⟩ := S
  obtain ⟨r1, r2, r3, r4, r5, r6, r7⟩ := id h
  have hG := r1.1
  have hH := sO_H ho
  refine w_X_height_0 r1 (fun m hm => px_in (fun k hk => sg_p16 hG hk) (by decide) hm) (fun m hm => ?_) (fun q => ?_)
  · have e : f_height cell (G, H, P, U, R, T, W, L) = nI (H m) := by simp only [f_height, hm]
    rw [e] at kk
    obtain ⟨p1, rfl, p3⟩ := px_s hm
    rw [nI_clamp p3, r2 m (sg_p16 hG p1)]
    exact kk σ h
  · have e : f_height cell (G, H, P, U, R, T, W, L) = -1 := by simp only [f_height, q]
    rw [e] at kk
    exact kk σ h
theorem X_drop {Q : Option Value → sy_S → Prop} {σ : sy_S} {B : Nat} {S : st} (cell : Int32) (n : Int32) (hB : B ≤ 2000) (ho : sO B S) (h : RX S σ.1) (kk : ∀ σ' : sy_S, RX (f_drop cell n S).2 σ'.1 → Q (some (.int (f_drop cell n S).1)) σ') : sy_E shX mX11_drop (0, sy_ent [.ref 6, .int cell, .int n] 3, [], σ) Q := by
  obtain ⟨G, H, P, U, R, T, W, L⟩ := S
  obtain ⟨r1, r2, r3, r4, r5, r6, r7⟩ := id h
  have hG := r1.1
  have hH := sO_H ho
  obtain ⟨z1, z2, z3⟩ := px_rng (a := 1) (b := 99) (x := n) (by decide) (by decide)
  have bad : ∀ m, px (sg_p G) cell = some m → px (pR 1 99) n = none → Q (some (.int (-2))) σ := by
    intro m hm z
    have e : f_drop cell n (G, H, P, U, R, T, W, L) = (-2, (G, H, P, U, R, T, W, L)) := by simp only [f_drop, hm, z]
    rw [e] at kk
    exact kk σ h
  refine w_X_drop_0 r1 (fun m hm _ _ => px_in (fun k hk => sg_p16 hG hk) (by decide) hm) (fun m hm q => bad m hm (z1 q)) (fun m hm q q2 q3 => ?_) (fun m hm q q2 q3 => ?_) (fun m hm q q2 => bad m hm (z2 q2)) (fun q => ?_)
  · obtain ⟨w, hw⟩ := z3 q q2
    obtain ⟨p1, rfl, p3⟩ := px_s hm
    obtain ⟨pw, rfl, -⟩ := px_s hw
    have hm16 := sg_p16 hG p1
    have hHm := hH.2 m
    have pw2 : w ≤ 99 := pw.2
    rw [nI_clamp (by omega), r2 m hm16, nI_add, show (999 : Int32) = nI 999 from rfl, nI_leI (by omega) (by decide)] at q3
    have e : f_drop (nI m) (nI w) (G, H, P, U, R, T, W, L) = (nI (H m + w), (G, sg_ad H m w, P, (H :: U).take 8, [], T, W, L)) := by simp only [f_drop, hm, hw, if_neg (show ¬ 999 < H m + w by omega)]
    rw [e] at kk
    rw [nI_clamp (by omega), r2 m hm16, nI_add]
    refine X_note (H' := sg_ad H m w) ho h (sx.up (l := [7]) (by simp)) (by simp) (fun j hj => ?_) (fun σ2 f _ => w_X_drop_65 (vp_in_nI hm16 (by decide)) ?_)
    · dsimp only
      rw [sy_up2]
      unfold sg_ad
      by_cases y : j = m
      · rw [if_pos ⟨rfl, y⟩, if_pos y, y]
      · rw [if_neg (fun q => y q.2), if_neg y]; exact r2 j hj
    · rw [nI_clamp (by omega), f.2.1 m hm16]
      have h9 := kk σ2 f
      unfold sg_ad
      rw [if_pos rfl]
      exact h9
  · obtain ⟨w, hw⟩ := z3 q q2
    obtain ⟨p1, rfl, p3⟩ := px_s hm
    obtain ⟨pw, rfl, -⟩ := px_s hw
    have hm16 := sg_p16 hG p1
    have hHm := hH.2 m
    have pw2 : w ≤ 99 := pw.2
    rw [nI_clamp (by omega), r2 m hm16, nI_add, show (999 : Int32) = nI 999 from rfl, nI_leI (by omega) (by decide)] at q3
    have e : f_drop (nI m) (nI w) (G, H, P, U, R, T, W, L) = (-4, (G, H, P, U, R, T, W, L)) := by simp only [f_drop, hm, hw, if_pos (show 999 < H m + w by omega)]
    rw [e] at kk
    exact kk σ h
  · have e : f_drop cell n (G, H, P, U, R, T, W, L) = (-1, (G, H, P, U, R, T, W, L)) := by simp only [f_drop, q]
    rw [e] at kk
    exact kk σ h
theorem X_topple {Q : Option Value → sy_S → Prop} {σ : sy_S} {B : Nat} {S : st} (cell : Int32) (hB : B ≤ 2000) (ho : sO B S) (h : RX S σ.1) (kk : ∀ σ' : sy_S, RX (f_topple cell S).2 σ'.1 → Q (some (.int (f_topple cell S).1)) σ') : sy_E shX mX11_topple (0, sy_ent [.ref 6, .int cell] 2, [], σ) Q := by
  obtain ⟨G, H, P, U, R, T, W, L⟩ := S
  obtain ⟨r1, r2, r3, r4, r5, r6, r7⟩ := id h
  have hG := r1.1
  have hH := sO_H ho
  refine w_X_topple_0 r1 (fun m hm => px_in (fun k hk => sg_p16 hG hk) (by decide) hm) (fun m hm q => ?_) (fun m hm q => ?_) (fun q => ?_)
  · obtain ⟨p1, rfl, p3⟩ := px_s hm
    have hm16 := sg_p16 hG p1
    have hHm := hH.2 m
    rw [nI_clamp (by omega), r2 m hm16, nI_lit4, nI_leI (by decide) (by omega)] at q
    have e : f_topple (nI m) (G, H, P, U, R, T, W, L) = (nI (4 - (sg_nb G m).length), (G, sg_tp G H m 1, P, (H :: U).take 8, [], T, W, L)) := by simp only [f_topple, hm, if_neg (show ¬ H m < 4 by omega)]
    rw [e] at kk
    refine e_x_spill (t := 1) rfl (by decide) r1 r2 p1 (by omega) (fun σ1 g1 g2 => w_X_topple_39 (X_note ho h g1 (by simp) g2 (fun σ2 f _ => w_X_topple_50 (vp_in_nI hm16 (by decide)) ?_)))
    rw [nI_clamp (by omega), (gx_nb f.1 p1.1).1, nI_lit4, pk_sub (sg_nb_len G m)]
    exact kk σ2 f
  · obtain ⟨p1, rfl, p3⟩ := px_s hm
    have hm16 := sg_p16 hG p1
    have hHm := hH.2 m
    rw [nI_clamp (by omega), r2 m hm16, nI_lit4, nI_leI (by decide) (by omega)] at q
    have e : f_topple (nI m) (G, H, P, U, R, T, W, L) = (-5, (G, H, P, U, R, T, W, L)) := by simp only [f_topple, hm, if_pos (show H m < 4 by omega)]
    rw [e] at kk
    exact kk σ h
  · have e : f_topple cell (G, H, P, U, R, T, W, L) = (-1, (G, H, P, U, R, T, W, L)) := by simp only [f_topple, q]
    rw [e] at kk
    exact kk σ h
theorem X_settle {Q : Option Value → sy_S → Prop} {σ : sy_S} {B : Nat} {S : st}  (hB : B ≤ 2000) (ho : sO B S) (h : RX S σ.1) (kk : ∀ σ' : sy_S, RX (f_settle S).2 σ'.1 → Q (some (.int (f_settle S).1)) σ') : sy_E shX mX11_settle (0, sy_ent [.ref 6] 2, [], σ) Q := by
  obtain ⟨G, H, P, U, R, T, W, L⟩ := S
  obtain ⟨r1, r2, r3, r4, r5, r6, r7⟩ := id h
  have hG := r1.1
  have hH := sO_H ho
  have hB9 : ∀ j, j < 16 → H j ≤ 10000 := fun j _ => by have := hH.2 j; omega
  refine w_X_settle_0 (e_x_begin rfl r2 (fun σ1 g1 g2 g3 => w_X_settle_11 (e_x_bl (g1.gx r1 (by decide)) g2 g3 hB9 (fun σ2 f1 f2 f3 => w_X_settle_18 (e_x_copyTo rfl f2 (fun σ3 i1 i2 => w_X_settle_30 ?_))))))
  have hs : sx [40, 41, 7] σ σ3 := ((g1.mono (by simp)).tr (f1.mono (by simp))).tr (i1.mono (by simp))
  exact X_note ho h hs (by simp) i2 (fun σ4 j1 _ => w_X_settle_41 (kk σ4 j1))
theorem X_feed {Q : Option Value → sy_S → Prop} {σ : sy_S} {B : Nat} {S : st} (b : Int32) (ho : sO B S) (h : RX S σ.1) (kk : ∀ σ' : sy_S, RX (f_feed b S).2 σ'.1 → Q (some (.int (f_feed b S).1)) σ') : sy_E shX mX11_feed (0, sy_ent [.ref 6, .int b] 2, [], σ) Q := by
  obtain ⟨G, H, P, U, R, T, W, L⟩ := S
  obtain ⟨r1, r2, r3, r4, r5, r6, r7⟩ := id h
  have hG := r1.1
  have hH := sO_H ho
  obtain ⟨z1, z2, z3⟩ := px_rng (a := 1) (b := 127) (x := b) (by decide) (by decide)
  have hT := ho.2.2.2.2.1.1
  have bad : px (pR 1 127) b = none → Q (some (.int (-2))) σ := by
    intro z
    have e : f_feed b (G, H, P, U, R, T, W, L) = (-2, (G, H, P, U, R, T, W, L)) := by simp only [f_feed, z]
    rw [e] at kk
    exact kk σ h
  have c40 : σ.1 19 3 < 40 ↔ T.length < 40 := by rw [r4.1]; exact nI_ltI (by omega) (by decide)
  have d40 : 40 ≤ σ.1 19 3 ↔ 40 ≤ T.length := by rw [r4.1]; exact nI_leI (by decide) (by omega)
  refine w_X_feed_0 (fun _ _ q _ => ?_) (fun q => bad (z1 q)) (fun _ _ q q2 => ?_) (fun q1 q2 q3 q4 => ?_) (fun q1 q2 q3 => ?_) (fun _ q => bad (z2 q))
  · rw [c40] at q
    rw [r4.1]; exact vp_in_nI q (by decide)
  · rw [c40] at q
    rw [d40] at q2
    omega
  · rw [c40] at q3
    obtain ⟨m, hm⟩ := z3 q1 q2
    obtain ⟨pm, rfl, -⟩ := px_s hm
    have e : f_feed (nI m) (G, H, P, U, R, T, W, L) = (nI (T.length + 1), (G, H, P, U, R, T ++ [m], W, L)) := by simp only [f_feed, hm, if_neg (show ¬ T.length = 40 by omega)]
    rw [e] at kk
    rw [r4.1, nI_clamp (by omega), nI_1]
    have e2 : ∀ q, q ≠ 19 → q ≠ 20 → sy_up (sy_up σ.1 20 T.length (nI m)) 19 3 (nI (T.length + 1)) q = σ.1 q := fun q a b => (sy_up_ne _ _ _ a).trans (sy_up_ne _ _ _ b)
    refine kk _ ⟨r1.frame (fun q hq => e2 q (by omega) (by omega)), fun j hj => ?_, r3.fe ho.2.1 (fun q a b => e2 q (by omega) (by omega)), ⟨?_, fun j x hj => ?_⟩, r5.fe ?_ ?_, r6.fe (fun q a b => e2 q (by omega) (by omega)), r7.fe (fun q a b => e2 q (by omega) (by omega))⟩
    · dsimp only; rw [e2 7 (by decide) (by decide)]; exact r2 j hj
    · dsimp only; rw [sy_up2, if_pos ⟨rfl, rfl⟩, List.length_append, List.length_singleton]
    · dsimp only
      rw [sy_up_ne _ _ _ (by decide), sy_up2]
      rw [List.getElem?_append] at hj
      split at hj
      · rename_i hlt
        rw [if_neg (by omega)]
        exact r4.2 j x hj
      · rename_i hge
        have hz : j - T.length = 0 := by
          rcases Nat.eq_zero_or_pos (j - T.length) with q | q
          · exact q
          · rw [List.getElem?_eq_none (by simp only [List.length_singleton]; omega)] at hj; cases hj
        rw [hz] at hj
        cases hj
        rw [if_pos ⟨rfl, by omega⟩]
    · dsimp only; rw [sy_up2, if_neg (by decide), sy_up_ne _ _ _ (by decide)]
    · dsimp only; rw [e2 22 (by decide) (by decide)]
  · rw [c40] at q3
    obtain ⟨m, hm⟩ := z3 q1 q2
    have e : f_feed b (G, H, P, U, R, T, W, L) = (-4, (G, H, P, U, R, T, W, L)) := by simp only [f_feed, hm, if_pos (show T.length = 40 by omega)]
    rw [e] at kk
    exact kk σ h
theorem X_read {Q : Option Value → sy_S → Prop} {σ : sy_S} {B : Nat} {S : st}  (ho : sO B S) (h : RX S σ.1) (kk : ∀ σ' : sy_S, RX (f_read S).2 σ'.1 → Q (some (.int (f_read S).1)) σ') : sy_E shX mX11_read (0, sy_ent [.ref 6] 3, [], σ) Q := by
  obtain ⟨G, H, P, U, R, T, W, L⟩ := S
  obtain ⟨r1, r2, r3, r4, r5, r6, r7⟩ := id h
  have hG := r1.1
  have hH := sO_H ho
  obtain ⟨hT, hTb⟩ := ho.2.2.2.2.1
  obtain ⟨t1, t2⟩ := trun_ok T 0 (0, 0, 0, []) tok_0
  refine w_X_read_0 (e_x_tparse r4 hT hTb (fun σ1 fa s c e g1 g2 g3 => ?_) (fun σ1 q e g1 g2 g3 g5 g6 gv => ?_))
  · have hfa := (t1 fa s c e).1
    rw [Nat.zero_add] at hfa
    refine w_X_read_7 (fun q => absurd q (nI_pos (by omega))) (fun _ => ?_)
    have ef : f_read (G, H, P, U, R, T, W, L) = (-100 - nI fa, (G, H, P, U, R, [], some (s, c), L)) := by simp only [f_read, e]
    rw [ef] at kk
    have e2 : ∀ q, q ≠ 19 → q ≠ 21 → q ≠ 22 → sy_up σ1.1 19 3 0 q = σ.1 q := fun q a b d => (sy_up_ne _ _ _ a).trans (g1.1 q (by simp; omega))
    refine kk _ ⟨r1.frame (fun q hq => e2 q (by omega) (by omega) (by omega)), fun j hj => ?_, r3.fe ho.2.1 (fun q a b => e2 q (by omega) (by omega) (by omega)), ⟨?_, fun j x hj => by simp at hj⟩, g3.fe ?_ ?_, r6.fe (fun q a b => e2 q (by omega) (by omega) (by omega)), r7.fe (fun q a b => e2 q (by omega) (by omega) (by omega))⟩
    · dsimp only; rw [e2 7 (by decide) (by decide) (by decide)]; exact r2 j hj
    · dsimp only; rw [sy_up2, if_pos ⟨rfl, rfl⟩]; rfl
    · dsimp only; rw [sy_up2, if_neg (by decide)]
    · dsimp only; rw [sy_up_ne _ _ _ (by decide)]
  · obtain ⟨⟨k1, k2, k3, k4, k5, k6, k7⟩, hw⟩ := t2 q e
    obtain ⟨s, w, r, v⟩ := q
    dsimp only at k1 k2 k3 k4 k5 k6 k7 hw g5 g6 gv
    have hr4 : r ≤ 4 := by unfold tmost at k3; split at k3 <;> omega
    have hr1 : 1 ≤ r := by
      unfold twh at hw
      by_cases z : s = 0
      · rw [if_pos z, decide_eq_true_eq] at hw; exact hw
      · rw [if_neg z, decide_eq_true_eq] at hw
        rw [hw]; exact k5 (by omega)
    have hlen : v.length = (s + 1) * r := by
      rw [k6]
      unfold twh at hw
      by_cases z : s = 0
      · rw [z]; omega
      · rw [if_neg z, decide_eq_true_eq] at hw
        rw [hw, Nat.add_mul]; omega
    have h16 : (s + 1) * r ≤ 16 := Nat.le_trans (Nat.mul_le_mul (show s + 1 ≤ 4 by omega) hr4) (by decide)
    have ef : f_read (G, H, P, U, R, T, W, L) = (nI ((s + 1) * r), ((s + 1, r, tgw v), tgh v, pno, [], [], [], none, L)) := by simp only [f_read, e]
    rw [ef] at kk
    refine w_X_read_7 (fun _ => ?_) (fun q => absurd (by decide) q)
    dsimp only
    rw [sy_up2, if_neg (by decide), sy_up2, if_neg (by decide), g5, g6, nI_1]
    refine e_x_shape ⟨by dsimp only; omega, by dsimp only; omega, hr1, hr4⟩ (fun σ2 f1 f2 f3 => w_X_read_45 ?_)
    have e3 : ∀ q, 6 ≤ q → q ≠ 19 → q ≠ 21 → q ≠ 22 → σ2.1 q = σ.1 q := fun q a b c d => (f2 q a).trans ((sy_up_ne _ _ _ b).trans (g1.1 q (by simp; omega)))
    have e21 : ∀ j x, v[j]? = some x → σ2.1 21 j = x.elim (-1) nI := fun j x hj => by
      rw [f2 21 (by decide)]
      dsimp only
      rw [sy_up_ne _ _ _ (by decide)]; exact gv j x hj
    have fno : ∀ i, v.length ≤ i → tgw v i = false := fun i hi => by
      unfold tgw
      rw [List.getElem?_eq_none hi]
    have hno : ∀ i, v.length ≤ i → tgh v i = 0 := fun i hi => by
      unfold tgh
      rw [List.getElem?_eq_none hi]
    have wadd : ∀ i, tgw v i = false → (fun k => decide (k < i + 1) && tgw v k) = (fun k => decide (k < i) && tgw v k) := by
      intro i hi
      funext k
      by_cases y : k = i
      · subst y; rw [hi]; simp
      · by_cases y2 : k < i
        · rw [decide_eq_true y2, decide_eq_true (show k < i + 1 by omega)]
        · rw [decide_eq_false y2, decide_eq_false (show ¬ k < i + 1 by omega)]
    have hl := sy_loop (sh := shX) (y := mX11_read) (Q := Q) (fun i σ' => (47, [some (.ref 6), none, some (.int (nI i))], [], σ')) (fun i σ' => gx (s + 1, r, fun k => decide (k < i) && tgw v k) σ'.1 ∧ (∀ j, j < i → σ'.1 7 j = nI (tgh v j)) ∧ ∀ q, 6 ≤ q → q ≠ 7 → σ'.1 q = σ2.1 q) 16 ?_ ?_ 0 σ2 (by decide) ⟨f1, fun j hj => absurd hj (Nat.not_lt_zero _), fun _ _ _ => rfl⟩
    · exact hl
    · rintro i σ3 hi ⟨i1, i2, i3⟩ ih
      have ei : (nI i).toNatClampNeg = i := nI_clamp (by omega)
      have g0 : gx (s + 1, r, fun k => decide (k < i) && tgw v k) (sy_up σ3.1 7 i 0) := i1.frame (fun q hq => sy_up_ne _ _ _ (by omega))
      have en : sy_up σ3.1 7 i 0 0 5 * sy_up σ3.1 7 i 0 0 6 = nI ((s + 1) * r) := gx_n g0
      have beyond : nI ((s + 1) * r) ≤ nI i → sy_E shX mX11_read (47, [some (.ref 6), none, some (.int (nI i + 1))], [], (sy_up σ3.1 7 i 0, σ3.2)) Q := by
        intro q
        rw [nI_leI (by omega) (by omega)] at q
        rw [nI_1]
        refine ih _ ⟨?_, fun j hj => ?_, fun q h6 h7 => (sy_up_ne _ _ _ h7).trans (i3 q h6 h7)⟩
        · rw [wadd i (fno i (by omega))]; exact g0
        · dsimp only
          rw [sy_up2]
          by_cases y : j = i
          · subst y; rw [if_pos ⟨rfl, rfl⟩, hno j (by omega)]; rfl
          · rw [if_neg (fun q => y q.2)]; exact i2 j (by omega)
      refine w_X_read_47 (fun _ => vp_in_nI hi (by decide)) (fun q => absurd q (nI_ge hi (by decide))) (fun _ q => absurd q (nI_pos (by omega))) (fun _ _ q => ?_) (fun _ _ q => ?_)
      · rw [ei] at q ⊢
        dsimp only at q
        rw [en] at q
        exact beyond q
      · rw [ei] at q ⊢
        dsimp only at q ⊢
        rw [en, nI_leI (by omega) (by omega)] at q
        obtain ⟨x, hx⟩ : ∃ x, v[i]? = some x := ⟨_, List.getElem?_eq_getElem (by omega)⟩
        have ex : sy_up σ3.1 7 i 0 21 i = x.elim (-1) nI := by
          rw [sy_up_ne _ _ _ (by decide), i3 21 (by decide) (by decide)]; exact e21 i x hx
        rw [ex]
        cases x with
        | none =>
          have hwi : tgw v i = true := by unfold tgw; rw [hx]
          have hhi : tgh v i = 0 := by unfold tgh; rw [hx]
          refine w_X_lay_0 (fun q => absurd rfl q) (fun q => absurd rfl q) (fun _ => ?_)
          refine e_x_build true rfl g0 (by show i < (s + 1) * r; omega) (fun σ4 m1 m2 m3 => w_X_lay_14 (w_X_read_84 ?_))
          rw [nI_1]
          refine ih σ4 ⟨?_, fun j hj => ?_, fun q h6 h7 => (m2 q h6).trans ((sy_up_ne _ _ _ h7).trans (i3 q h6 h7))⟩
          · have ew : (fun k => decide (k < i + 1) && tgw v k) = (fun k => if k = i then true else decide (k < i) && tgw v k) := by
              funext k
              by_cases y : k = i
              · subst y; rw [if_pos rfl, hwi]; simp
              · rw [if_neg y]
                by_cases y2 : k < i
                · rw [decide_eq_true y2, decide_eq_true (show k < i + 1 by omega)]
                · rw [decide_eq_false y2, decide_eq_false (show ¬ k < i + 1 by omega)]
            rw [ew]
            exact m1
          · rw [m2 7 (by decide)]
            dsimp only
            rw [sy_up2]
            by_cases y : j = i
            · subst y; rw [if_pos ⟨rfl, rfl⟩, hhi]; rfl
            · rw [if_neg (fun q => y q.2)]; exact i2 j (by omega)
        | some d =>
          have hd := k7 d (List.mem_of_getElem? hx)
          have hwi : tgw v i = false := by unfold tgw; rw [hx]
          have hhi : tgh v i = d := by unfold tgh; rw [hx]
          have hne : ¬ (some d).elim (-1) nI = (-1 : Int32) := fun z => by
            have z : nI d = -1 := z
            have h9 := nI_pos (n := d) (by omega)
            rw [z] at h9
            exact h9 (by decide)
          refine w_X_lay_0 (fun _ => vp_in_nI hi (by decide)) (fun _ => w_X_read_84 ?_) (fun q => absurd hne q)
          rw [nI_1, ei]
          refine ih _ ⟨?_, fun j hj => ?_, fun q h6 h7 => (sy_up_ne _ _ _ h7).trans ((sy_up_ne _ _ _ h7).trans (i3 q h6 h7))⟩
          · rw [wadd i hwi]
            exact g0.frame (fun q hq => sy_up_ne _ _ _ (by omega))
          · dsimp only
            rw [sy_up2]
            by_cases y : j = i
            · subst y; rw [if_pos ⟨rfl, rfl⟩, hhi]; rfl
            · rw [if_neg (fun q => y q.2), sy_up2, if_neg (fun q => y q.2)]; exact i2 j (by omega)
    · rintro σ3 ⟨i1, i2, i3⟩
      have eg : (fun k => decide (k < 16) && tgw v k) = tgw v := by
        funext k
        by_cases y : k < 16
        · rw [decide_eq_true y]; rfl
        · rw [decide_eq_false y, fno k (by omega)]; rfl
      rw [eg] at i1
      refine w_X_read_47 (fun q => absurd (nI_le (Nat.le_refl 16) (by decide)) q) (fun _ => ?_) (fun q => absurd (nI_le (Nat.le_refl 16) (by decide)) q) (fun q => absurd (nI_le (Nat.le_refl 16) (by decide)) q) (fun q => absurd (nI_le (Nat.le_refl 16) (by decide)) q)
      have e19 : σ3.1 19 3 = nI 0 := by
        rw [i3 19 (by decide) (by decide), f2 19 (by decide)]
        dsimp only
        rw [sy_up2, if_pos ⟨rfl, rfl⟩]; rfl
      have e194 : σ3.1 19 4 = σ1.1 19 4 := by
        rw [i3 19 (by decide) (by decide), f2 19 (by decide)]
        dsimp only
        rw [sy_up2, if_neg (by decide)]
      have e22 : σ3.1 22 = σ1.1 22 := by
        rw [i3 22 (by decide) (by decide), f2 22 (by decide)]
        dsimp only
        rw [sy_up_ne _ _ _ (by decide)]
      refine X_forget (T := []) (W := none) i1 (fun j hj => i2 j hj) ⟨e19, fun j x hj => by simp at hj⟩ (g3.fe e194 e22) (r7.fe (fun q a b => (i3 q (by omega) (by omega)).trans (e3 q (by omega) (by omega) (by omega) (by omega)))) (fun σ4 f => w_X_read_94 ?_)
      rw [gx_n f.1]
      exact kk σ4 f
theorem X_why {Q : Option Value → sy_S → Prop} {σ : sy_S} {B : Nat} {S : st} (i : Int32) (ho : sO B S) (h : RX S σ.1) (kk : ∀ σ' : sy_S, RX S σ'.1 → Q (some (.int (f_why i S))) σ') : sy_E shX mX11_why (0, sy_ent [.ref 6, .int i] 2, [], σ) Q := by
  obtain ⟨G, H, P, U, R, T, W, L⟩ := S
  obtain ⟨r1, r2, r3, r4, r5, r6, r7⟩ := id h
  have hG := r1.1
  have hH := sO_H ho
  obtain ⟨z1, z2, z3⟩ := px_cut (n := 3) (x := i) (by decide)
  cases W with
  | none =>
    have r5 : σ.1 19 4 = nI 0 := r5
    have e : f_why i (G, H, P, U, R, T, none, L) = -1 := rfl
    rw [e] at kk
    refine w_X_why_0 (fun q q2 => absurd ?_ q2) (fun _ => kk σ h) (fun _ _ => kk σ h) (fun q q2 => absurd ?_ q2)
    all_goals
      rw [r5]
      obtain ⟨j, hj, rfl⟩ := nI_of q
      exact nI_le (Nat.zero_le _) hj
  | some sc =>
    obtain ⟨s, c⟩ := sc
    obtain ⟨w1, w2, w3, w4⟩ : σ.1 19 4 = nI 3 ∧ σ.1 22 0 = nI 1 ∧ σ.1 22 1 = nI (10 + s) ∧ σ.1 22 2 = nI c := r5
    have bad : px p3 i = none → Q (some (.int (-1))) σ := by
      intro z
      have e : f_why i (G, H, P, U, R, T, some (s, c), L) = -1 := by simp only [f_why, z]
      rw [e] at kk
      exact kk σ h
    refine w_X_why_0 (fun q q2 => ?_) (fun q => bad (z1 q)) (fun _ q => bad (z2 (by rw [← w1]; exact q))) (fun q q2 => ?_)
    · obtain ⟨m, hm⟩ := z3 q (by rw [← w1]; exact q2)
      exact px_in (fun k hk => hk) (by decide) hm
    · obtain ⟨m, hm⟩ := z3 q (by rw [← w1]; exact q2)
      obtain ⟨pm, rfl, p3⟩ := px_s hm
      rw [nI_clamp p3]
      have h9 := kk σ h
      have pm : m < 3 := pm
      match m, hm, pm with
      | 0, hm, _ =>
        have e : f_why (nI 0) (G, H, P, U, R, T, some (s, c), L) = nI 1 := by simp only [f_why, hm]
        rw [e] at h9
        rw [w2]; exact h9
      | 1, hm, _ =>
        have e : f_why (nI 1) (G, H, P, U, R, T, some (s, c), L) = nI (10 + s) := by simp only [f_why, hm]
        rw [e] at h9
        rw [w3]; exact h9
      | 2, hm, _ =>
        have e : f_why (nI 2) (G, H, P, U, R, T, some (s, c), L) = nI c := by simp only [f_why, hm]
        rw [e] at h9
        rw [w4]; exact h9
