/-! sums of piles as mathematics; contracts of Sums and alike -/
def vad (a b : Nat → Nat) : Nat → Nat := fun j => a j + b j
def six (G : sg_G) : Nat → Nat := fun c => if pb G c then 6 else 0
noncomputable def fz (G : sg_G) : Nat → Nat := fun c => six G c - stt G (six G) c
noncomputable def nt (G : sg_G) : Nat → Nat := stt G (fz G)
theorem six_np {G : sg_G} {c : Nat} (h : ¬ sg_p G c) : six G c = 0 := by
  unfold six
  rw [if_neg (fun q => h (pb_iff.mp q))]
theorem six_p {G : sg_G} {c : Nat} (h : sg_p G c) : six G c = 6 := by
  unfold six
  rw [if_pos (pb_iff.mpr h)]
theorem six_le (G : sg_G) (c : Nat) : six G c ≤ 6 := by
  unfold six
  split <;> omega
theorem six_st {G : sg_G} (hG : sg_ok G) (c : Nat) : stt G (six G) c ≤ six G c := by
  by_cases h : sg_p G c
  · rw [six_p h]
    have := (stt_ok hG (six G)).2 c h
    omega
  · rw [((stt_ok hG (six G)).1.2.2.1 c h).2]; exact Nat.le_refl _
theorem fz_le (G : sg_G) (c : Nat) : fz G c ≤ 6 := by
  unfold fz
  have := six_le G c
  omega
theorem fz_np {G : sg_G} {c : Nat} (h : ¬ sg_p G c) : fz G c = 0 := by
  unfold fz
  rw [six_np h]
  omega
theorem fz_ge {G : sg_G} (hG : sg_ok G) {c : Nat} (h : sg_p G c) : 3 ≤ fz G c := by
  unfold fz
  rw [six_p h]
  have := (stt_ok hG (six G)).2 c h
  omega
theorem nt_hz {G : sg_G} (hG : sg_ok G) : hz G 3 (nt G) := stt_hz hG (fun _ h => fz_np h)
theorem vad_hz {G : sg_G} {a b : Nat → Nat} (ha : hz G 3 a) (hb : hz G 3 b) : (∀ c, ¬ sg_p G c → vad a b c = 0) ∧ ∀ c, vad a b c ≤ 6 := by
  unfold vad
  exact ⟨fun c h => by rw [ha.1 c h, hb.1 c h], fun c => by have := ha.2 c; have := hb.2 c; omega⟩
theorem svad_hz {G : sg_G} (hG : sg_ok G) {a b : Nat → Nat} (ha : hz G 3 a) (hb : hz G 3 b) : hz G 3 (stt G (vad a b)) := stt_hz hG (vad_hz ha hb).1
def feq (a b : Nat → Nat) : Bool := (List.range 16).all fun j => decide (a j = b j)
theorem feq_iff {a b : Nat → Nat} : feq a b = true ↔ ∀ j, j < 16 → a j = b j := by
  unfold feq
  rw [List.all_eq_true]
  exact ⟨fun h j hj => of_decide_eq_true (h j (List.mem_range.mpr hj)), fun h j hj => decide_eq_true (h j (List.mem_range.mp hj))⟩
/-- k of them, by doublings -/
noncomputable def tml (G : sg_G) : Nat → Nat → (Nat → Nat) → (Nat → Nat) → (Nat → Nat)
  | 0, _, a, _ => a
  | f + 1, n, a, b => if n = 0 then a else tml G f (n / 2) (if n % 2 = 1 then stt G (vad a b) else a) (stt G (vad b b))
noncomputable def tms (G : sg_G) (p : Nat → Nat) (k : Nat) : Nat → Nat := tml G 31 k (nt G) p
theorem tml_0 (G : sg_G) (f : Nat) (a b : Nat → Nat) : tml G f 0 a b = a := by
  cases f with
  | zero => rfl
  | succ f => rw [tml, if_pos rfl]
theorem tml_hz {G : sg_G} (hG : sg_ok G) : ∀ (f n : Nat) {a b : Nat → Nat}, hz G 3 a → hz G 3 b → hz G 3 (tml G f n a b)
  | 0, _, _, _, ha, _ => ha
  | f + 1, n, a, b, ha, hb => by
    rw [tml]
    split
    · exact ha
    · refine tml_hz hG f _ ?_ (svad_hz hG hb hb)
      split
      · exact svad_hz hG ha hb
      · exact ha
noncomputable def opp (G : sg_G) (p : Nat → Nat) : Nat → Nat := stt G fun c => fz G c + nt G c - p c
theorem opp_hz {G : sg_G} (hG : sg_ok G) (p : Nat → Nat) : hz G 3 (opp G p) := stt_hz hG (fun c h => by rw [fz_np h, (nt_hz hG).1 c h]; omega)
noncomputable def orn (G : sg_G) (p : Nat → Nat) : Nat → Nat → Nat
  | 0 => nt G
  | n + 1 => stt G (vad (orn G p n) p)
theorem orn_hz {G : sg_G} (hG : sg_ok G) {p : Nat → Nat} (hp : hz G 3 p) (n : Nat) : hz G 3 (orn G p n) := by
  cases n with
  | zero => exact nt_hz hG
  | succ n => exact svad_hz hG (orn_hz hG hp n) hp
/-- the first of those from i on that holds, of so many -/
def fst1 (p : Nat → Bool) : Nat → Nat → Option Nat
  | _, 0 => none
  | i, d + 1 => if p i then some i else fst1 p (i + 1) d
theorem fst1_some {p : Nat → Bool} : ∀ {d i m : Nat}, fst1 p i d = some m → p m = true ∧ i ≤ m ∧ m < i + d
  | 0, i, m, h => by cases h
  | d + 1, i, m, h => by
    rw [fst1] at h
    split at h
    · rename_i q
      cases h
      exact ⟨q, Nat.le_refl _, by omega⟩
    · obtain ⟨h1, h2, h3⟩ := fst1_some h
      exact ⟨h1, by omega, by omega⟩
/-! contracts -/
theorem e_x_alike {Q : Option Value → sy_S → Prop} {σ : sy_S} {k1 k2 : Nat} {a b : Nat → Nat} (h1 : shX[k1]? = some (0, 16, [])) (h2 : shX[k2]? = some (0, 16, [])) (ha : ar σ.1 k1 a) (hb : ar σ.1 k2 b) (hB : ∀ j, j < 16 → a j < 2 ^ 31 ∧ b j < 2 ^ 31) (kk : Q (some (.int (if feq a b then 1 else 0))) σ) : sy_E shX mX11_alike (0, sy_ent [.ref k1, .ref k2] 3, [], σ) Q := by
  refine w_x_alike_0 ?_
  have hl := sy_loop (sh := shX) (y := mX11_alike) (Q := Q) (fun i σ' => (2, [some (.ref k1), some (.ref k2), some (.int (nI i))], [], σ')) (fun i σ' => σ' = σ ∧ ∀ j, j < i → a j = b j) 16 ?_ ?_ 0 σ (by decide) ⟨rfl, fun j hj => absurd hj (Nat.not_lt_zero _)⟩
  · exact hl
  · rintro i σ' hi ⟨rfl, hI⟩ ih
    have ei : (nI i).toNatClampNeg = i := nI_clamp (by omega)
    refine w_x_alike_2 h1 h2 (fun _ => vp_in_nI hi (by decide)) (fun q => absurd q (nI_ge hi (by decide))) (fun _ q => ?_) (fun _ q => ?_)
    · rw [ei, ha i hi, hb i hi, nI_eq (hB i hi).1 (hB i hi).2] at q
      rw [nI_1]
      refine ih σ' ⟨rfl, fun j hj => ?_⟩
      by_cases e : j = i
      · subst e; exact q
      · exact hI j (by omega)
    · rw [ei, ha i hi, hb i hi, nI_eq (hB i hi).1 (hB i hi).2] at q
      rw [if_neg (fun z => q (feq_iff.mp z i hi))] at kk
      exact kk
  · rintro σ' ⟨rfl, hI⟩
    rw [if_pos (feq_iff.mpr hI)] at kk
    exact w_x_alike_2 h1 h2 (fun q => absurd (nI_le (Nat.le_refl 16) (by decide)) q) (fun _ => kk) (fun q => absurd (nI_le (Nat.le_refl 16) (by decide)) q) (fun q => absurd (nI_le (Nat.le_refl 16) (by decide)) q)
/-- the fall from a row, settled -/
theorem e_x_bl {Q : Option Value → sy_S → Prop} {σ : sy_S} {G : sg_G} {h : Nat → Nat} (hg : gx G σ.1) (hh : ar σ.1 40 h) (hc : ar σ.1 41 (fun _ => 0)) (hB : ∀ j, j < 16 → h j ≤ 10000) (kk : ∀ σ' : sy_S, sx [40, 41] σ σ' → ar σ'.1 40 (stt G h) → ar σ'.1 41 (od G h) → Q (some (.int (nI (ssum 16 (od G h))))) σ') : sy_E shX mX1_level (0, sy_ent [.ref 39] 9, [], σ) Q := by
  refine e_x_level hg hh hc hB (fun σ' u H h1 h2 h3 h4 h5 => ?_)
  obtain ⟨e1, e2⟩ := stt_eq h2 h3
  rw [e1]
  refine kk σ' h1 (by rw [← e2]; exact h4) (fun j hj => ?_)
  rw [h5 j hj, ← e1]
  exact congrArg nI (Nat.zero_add _)
theorem e_x_add {Q : Option Value → sy_S → Prop} {σ : sy_S} {G : sg_G} {k1 k2 : Nat} {a b : Nat → Nat} (h1 : shX[k1]? = some (0, 16, [])) (h2 : shX[k2]? = some (0, 16, [])) (n1 : k1 ≠ 52) (n2 : k2 ≠ 52) (hg : gx G σ.1) (ha : ar σ.1 k1 a) (hb : ar σ.1 k2 b) (hB : ∀ j, j < 16 → vad a b j ≤ 10000) (kk : ∀ σ' : sy_S, sx [40, 41, 52] σ σ' → ar σ'.1 40 (stt G (vad a b)) → Q (some (.int (nI (ssum 16 (od G (vad a b)))))) σ') : sy_E shX mX8_add (0, sy_ent [.ref 48, .ref k1, .ref k2] 4, [], σ) Q := by
  refine w_x_add_0 ?_
  have hl := sy_loop (sh := shX) (y := mX8_add) (Q := Q) (fun i σ' => (2, [some (.ref 48), some (.ref k1), some (.ref k2), some (.int (nI i))], [], σ')) (fun i σ' => sx [52] σ σ' ∧ ∀ j, j < i → σ'.1 52 j = nI (vad a b j)) 16 ?_ ?_ 0 σ (by decide) ⟨sx.rf, fun j hj => absurd hj (Nat.not_lt_zero _)⟩
  · exact hl
  · rintro i σ' hi ⟨i1, i2⟩ ih
    have ei : (nI i).toNatClampNeg = i := nI_clamp (by omega)
    refine w_x_add_2 h1 h2 (fun _ => vp_in_nI hi (by decide)) (fun q => absurd q (nI_ge hi (by decide))) (fun _ => ?_)
    have ea : σ'.1 k1 i = nI (a i) := by rw [i1.1 k1 (by simp; exact n1)]; exact ha i hi
    have eb : σ'.1 k2 i = nI (b i) := by rw [i1.1 k2 (by simp; exact n2)]; exact hb i hi
    rw [ei, ea, eb, nI_add, nI_1]
    refine ih _ ⟨i1.tr (sx.up (by simp)), fun j hj => ?_⟩
    dsimp only
    rw [sy_up2]
    by_cases e : j = i
    · subst e; rw [if_pos ⟨rfl, rfl⟩]; rfl
    · rw [if_neg (fun q => e q.2)]; exact i2 j (by omega)
  · rintro σ' ⟨i1, i2⟩
    refine w_x_add_2 h1 h2 (fun q => absurd (nI_le (Nat.le_refl 16) (by decide)) q) (fun _ => ?_) (fun q => absurd (nI_le (Nat.le_refl 16) (by decide)) q)
    refine e_x_begin (h := vad a b) rfl (fun j hj => i2 j hj) (fun σ2 g1 g2 g3 => w_x_add_38 ?_)
    refine e_x_bl (g1.gx (i1.gx hg (by decide)) (by decide)) g2 g3 hB (fun σ3 f1 f2 f3 => w_x_add_45 ?_)
    exact kk σ3 (((i1.mono (by simp)).tr (g1.mono (by simp))).tr (f1.mono (by simp))) f2
theorem e_x_addInto {Q : Option Value → sy_S → Prop} {σ : sy_S} {G : sg_G} {t k1 k2 : Nat} {a b : Nat → Nat} (ht : shX[t]? = some (0, 16, [])) (h1 : shX[k1]? = some (0, 16, [])) (h2 : shX[k2]? = some (0, 16, [])) (n1 : k1 ≠ 52) (n2 : k2 ≠ 52) (hg : gx G σ.1) (ha : ar σ.1 k1 a) (hb : ar σ.1 k2 b) (hB : ∀ j, j < 16 → vad a b j ≤ 10000) (kk : ∀ σ' : sy_S, sx [40, 41, 52, t] σ σ' → ar σ'.1 t (stt G (vad a b)) → Q none σ') : sy_E shX mX8_addInto (0, sy_ent [.ref 48, .ref t, .ref k1, .ref k2] 4, [], σ) Q := by
  refine w_x_addInto_0 (e_x_add h1 h2 n1 n2 hg ha hb hB (fun σ1 g1 g2 => w_x_addInto_6 (e_x_copyTo ht g2 (fun σ2 f1 f2 => w_x_addInto_15 (kk σ2 ((g1.mono ?_).tr (f1.mono ?_)) f2)))))
  · intro q hq; simp at hq ⊢; omega
  · intro q hq; simp at hq ⊢; omega
theorem e_x_layZ {Q : Option Value → sy_S → Prop} {σ : sy_S} {G : sg_G} (hg : gx G σ.1) (kk : ∀ σ' : sy_S, sx [40, 41, 50] σ σ' → ar σ'.1 50 (fz G) → Q none σ') : sy_E shX mX8_layFullZero (0, sy_ent [.ref 48] 2, [], σ) Q := by
  have hG := hg.1
  have hP := sg_P_len hG
  refine w_x_layZ_0 (e_x_fill (n := 16) rfl (by decide) (fun σ1 z1 z2 z3 z4 => w_x_layZ_8 ?_))
  have hs1 : sx [50] σ σ1 := ⟨fun q hq => z1 q (fun e => hq (by rw [e]; simp)), z4⟩
  have hl := sy_loop (sh := shX) (y := mX8_layFullZero) (Q := Q) (fun i σ' => (10, [some (.ref 48), some (.int (nI i))], [], σ')) (fun i σ' => sx [50] σ σ' ∧ ar σ'.1 50 (fun c => if c ∈ (sg_P G).take i then 6 else 0)) (sg_P G).length ?_ ?_ 0 σ1 (Nat.zero_le _) ⟨hs1, fun j hj => by rw [List.take_zero]; exact z2 j hj⟩
  · exact hl
  · rintro i σ' hi ⟨i1, i2⟩ ih
    have hg' := i1.gx hg (by decide)
    obtain ⟨c, p1, p2, p3, p4, p5⟩ := gx_pl hg' hi
    have ei : (nI i).toNatClampNeg = i := nI_clamp (by omega)
    have nle : ¬ σ'.1 0 7 ≤ nI i := by rw [gx_n7 hg']; exact nI_ge hi (by omega)
    have hts : (sg_P G).take (i + 1) = (sg_P G).take i ++ [c] := by rw [List.take_succ, p1]; rfl
    refine w_x_layZ_10 (fun _ => vp_in_nI (by omega) (by decide)) (fun _ => by rw [ei, p4]; exact vp_in_nI p3 (by decide)) (fun q => absurd q nle) (fun _ => ?_)
    rw [ei, p5, nI_1]
    refine ih _ ⟨i1.tr (sx.up (by simp)), fun j hj => ?_⟩
    dsimp only
    rw [sy_up2, hts]
    by_cases e : j = c
    · subst e
      rw [if_pos ⟨rfl, rfl⟩, if_pos (List.mem_append_right _ (List.mem_singleton.mpr rfl))]; rfl
    · rw [if_neg (fun q => e q.2), i2 j hj]
      congr 1
      by_cases m : j ∈ (sg_P G).take i
      · rw [if_pos (List.mem_append_left _ m)]; exact if_pos m
      · rw [if_neg (fun q => (List.mem_append.mp q).elim m (fun q => e (List.mem_singleton.mp q)))]; exact if_neg m
  · rintro σ' ⟨i1, i2⟩
    have hg' := i1.gx hg (by decide)
    have le : σ'.1 0 7 ≤ nI (sg_P G).length := by rw [gx_n7 hg']; exact nI_le (Nat.le_refl _) (by omega)
    have h6 : ar σ'.1 50 (six G) := fun j hj => by
      rw [i2 j hj, List.take_length]
      congr 1
      unfold six
      by_cases m : sg_p G j
      · rw [if_pos (pb_iff.mpr m)]; exact if_pos (sg_P_mem.mpr m)
      · rw [if_neg (fun q => m (pb_iff.mp q))]; exact if_neg (fun q => m (sg_P_mem.mp q))
    refine w_x_layZ_10 (fun q => absurd le q) (fun q => absurd le q) (fun _ => ?_) (fun q => absurd le q)
    refine e_x_begin rfl h6 (fun σ2 g1 g2 g3 => w_x_layZ_53 ?_)
    refine e_x_bl (g1.gx hg' (by decide)) g2 g3 (fun j _ => Nat.le_trans (six_le G j) (by decide)) (fun σ3 f1 f2 f3 => w_x_layZ_60 ?_)
    have hs3 : sx [40, 41, 50] σ σ3 := ((i1.mono (by simp)).tr (g1.mono (by simp))).tr (f1.mono (by simp))
    have h63 : ar σ3.1 50 (six G) := fun j hj => by rw [f1.1 50 (by decide), g1.1 50 (by decide)]; exact h6 j hj
    have hl2 := sy_loop (sh := shX) (y := mX8_layFullZero) (Q := Q) (fun i σ' => (63, [some (.ref 48), some (.int (nI i))], [], σ')) (fun i σ' => sx [40, 41, 50] σ σ' ∧ ar σ'.1 40 (stt G (six G)) ∧ (∀ j, j < i → σ'.1 50 j = nI (fz G j)) ∧ ∀ j, i ≤ j → j < 16 → σ'.1 50 j = nI (six G j)) 16 ?_ ?_ 0 σ3 (by decide) ⟨hs3, f2, fun j hj => absurd hj (Nat.not_lt_zero _), fun j _ hj => h63 j hj⟩
    · exact hl2
    · rintro i σ4 hi ⟨j1, j2, j3, j4⟩ ih
      have ei : (nI i).toNatClampNeg = i := nI_clamp (by omega)
      refine w_x_layZ_63 (fun _ => vp_in_nI hi (by decide)) (fun q => absurd q (nI_ge hi (by decide))) (fun _ => ?_)
      refine e_x_heightAt hi j2 (w_x_layZ_84 (vp_in_nI hi (by decide)) ?_)
      rw [ei, j4 i (Nat.le_refl _) hi, pk_sub (six_st hG i), nI_1]
      refine ih _ ⟨j1.tr (sx.up (by simp)), fun j hj => ?_, fun j hj => ?_, fun j hj hj2 => ?_⟩
      · dsimp only
        rw [sy_up_ne _ _ _ (by decide)]; exact j2 j hj
      · dsimp only
        rw [sy_up2]
        by_cases e : j = i
        · subst e; rw [if_pos ⟨rfl, rfl⟩]; rfl
        · rw [if_neg (fun q => e q.2)]; exact j3 j (by omega)
      · dsimp only
        rw [sy_up2, if_neg (by omega)]; exact j4 j (by omega) hj2
    · rintro σ4 ⟨j1, j2, j3, j4⟩
      exact w_x_layZ_63 (fun q => absurd (nI_le (Nat.le_refl 16) (by decide)) q) (fun _ => kk σ4 j1 (fun j hj => j3 j hj)) (fun q => absurd (nI_le (Nat.le_refl 16) (by decide)) q)
theorem e_x_setR {Q : Option Value → sy_S → Prop} {σ : sy_S} {G : sg_G} {h : Nat → Nat} (hg : gx G σ.1) (hh : ar σ.1 50 h) (hB : ∀ j, j < 16 → h j ≤ 10000) (kk : ∀ σ' : sy_S, sx [40, 41, 50] σ σ' → ar σ'.1 50 (stt G h) → Q none σ') : sy_E shX mX8_settleResult (0, sy_ent [.ref 48] 1, [], σ) Q := by
  refine w_x_setR_0 (e_x_begin rfl hh (fun σ2 g1 g2 g3 => w_x_setR_11 (e_x_bl (g1.gx hg (by decide)) g2 g3 hB (fun σ3 f1 f2 f3 => w_x_setR_18 (e_x_copyTo rfl f2 (fun σ4 i1 i2 => w_x_setR_30 (kk σ4 (((g1.mono ?_).tr (f1.mono ?_)).tr (i1.mono ?_)) i2)))))))
  all_goals simp
theorem e_x_start {Q : Option Value → sy_S → Prop} {σ : sy_S} {G : sg_G} (hg : gx G σ.1) (kk : ∀ σ' : sy_S, sx [40, 41, 49, 50] σ σ' → ar σ'.1 50 (nt G) → ar σ'.1 49 (nt G) → Q none σ') : sy_E shX mX8_startAtNought (0, sy_ent [.ref 48] 1, [], σ) Q := by
  refine w_x_start_0 (e_x_layZ hg (fun σ1 g1 g2 => w_x_start_4 (e_x_setR (g1.gx hg (by decide)) g2 (fun j _ => Nat.le_trans (fz_le G j) (by decide)) (fun σ2 f1 f2 => w_x_start_8 (w_x_cpRes_0 rfl (w_x_start_16 (kk _ (((g1.mono ?_).tr (f1.mono ?_)).tr ⟨fun q hq => ?_, rfl⟩) (fun j hj => ?_) (fun j hj => ?_))))))))
  · simp
  · simp
  · exact sy_cp_ne _ _ _ (fun e => hq (by rw [e]; simp))
  · dsimp only
    rw [sy_cp2, if_neg (by omega)]; exact f2 j hj
  · dsimp only
    rw [sy_cp2, if_pos ⟨rfl, hj⟩]; exact f2 j hj
theorem hz_b {G : sg_G} {B : Nat} {h : Nat → Nat} (a : hz G B h) (hb : B < 2 ^ 31) : ∀ j, j < 16 → h j < 2 ^ 31 := fun j _ => Nat.lt_of_le_of_lt (a.2 j) hb
theorem e_x_mult {Q : Option Value → sy_S → Prop} {σ : sy_S} {G : sg_G} {k n : Nat} {p : Nat → Nat} (hk : shX[k]? = some (0, 16, [])) (hkn : k ∉ [40, 41, 49, 50, 51, 52]) (hg : gx G σ.1) (hp : ar σ.1 k p) (hpz : hz G 3 p) (hn : n < 2 ^ 31) (kk : ∀ σ' : sy_S, sx [40, 41, 49, 50, 51, 52] σ σ' → ar σ'.1 50 (tms G p n) → Q none σ') : sy_E shX mX8_multiply (0, sy_ent [.ref 48, .ref k, .int (nI n)] 5, [], σ) Q := by
  have hG := hg.1
  refine w_x_mult_0 (e_x_start hg (fun σ1 g1 g2 g3 => w_x_mult_4 hk ?_))
  have key : ∀ (d i m : Nat) (a b : Nat → Nat) (σ' : sy_S), i + d = 31 → m < 2 ^ d → hz G 3 a → hz G 3 b → sx [40, 41, 49, 50, 51, 52] σ σ' → ar σ'.1 50 a → ar σ'.1 51 b → tml G d m a b = tms G p n → sy_E shX mX8_multiply (21, [some (.ref 48), none, none, some (.int (nI m)), some (.int (nI i))], [], σ') Q := by
    intro d
    induction d with
    | zero =>
      intro i m a b σ' hi hm ha hb hs e1 e2 et
      have e : i = 31 := hi
      subst e
      have e : ar σ'.1 50 (tms G p n) := by rw [← et]; exact e1
      exact w_x_mult_21 (fun _ => kk σ' hs e) (fun _ _ => kk σ' hs e) (fun q => absurd (nI_le (Nat.le_refl 31) (by decide)) q) (fun q => absurd (nI_le (Nat.le_refl 31) (by decide)) q)
    | succ d ih =>
      intro i m a b σ' hi hm ha hb hs e1 e2 et
      have hm31 : m < 2 ^ 31 := Nat.lt_of_lt_of_le hm (Nat.pow_le_pow_right (by decide) (by omega))
      have hg' := hs.gx hg (by decide)
      have hm2 : m / 2 < 2 ^ d := by rw [Nat.pow_succ] at hm; omega
      have eand : nI m &&& 1 = nI (m % 2) := pk_andN (n := m) (by omega) 1 rfl
      have eshr : nI m >>> (1 &&& 31) = nI (m / 2) := pk_shrN (n := m) hm31 _ 1 (by decide)
      have b6 : ∀ {x y : Nat → Nat}, hz G 3 x → hz G 3 y → ∀ j, j < 16 → vad x y j ≤ 10000 := fun hx hy j _ => Nat.le_trans ((vad_hz hx hy).2 j) (by decide)
      rw [tml] at et
      refine w_x_mult_21 (fun q => ?_) (fun _ q => ?_) (fun _ q q2 => ?_) (fun _ q q2 => ?_)
      · rw [show (31 : Int32) = nI 31 from rfl, nI_leI (by decide) (by omega)] at q; omega
      · rw [nI_lit0, nI_leI hm31 (by decide)] at q
        rw [if_pos (by omega)] at et
        exact kk σ' hs (by rw [← et]; exact e1)
      · rw [nI_lit0, nI_leI hm31 (by decide)] at q
        rw [eand, nI_lit0, nI_eq (by omega) (by decide)] at q2
        rw [if_neg (by omega), if_neg (by omega)] at et
        refine e_x_addInto rfl rfl rfl (by decide) (by decide) hg' e2 e2 (b6 hb hb) (fun σ2 f1 f2 => w_x_mult_70 ?_)
        rw [eshr, nI_1]
        exact ih (i + 1) (m / 2) a _ σ2 (by omega) hm2 ha (svad_hz hG hb hb) (hs.tr (f1.mono (by simp))) (fun j hj => by rw [f1.1 50 (by decide)]; exact e1 j hj) f2 et
      · rw [nI_lit0, nI_leI hm31 (by decide)] at q
        rw [eand, nI_lit0, nI_eq (by omega) (by decide)] at q2
        rw [if_neg (by omega), if_pos (by omega)] at et
        refine e_x_addInto rfl rfl rfl (by decide) (by decide) hg' e1 e2 (b6 ha hb) (fun σ2 f1 f2 => w_x_mult_54 ?_)
        refine e_x_addInto (a := b) (b := b) rfl rfl rfl (by decide) (by decide) (f1.gx hg' (by decide)) (fun j hj => by rw [f1.1 51 (by decide)]; exact e2 j hj) (fun j hj => by rw [f1.1 51 (by decide)]; exact e2 j hj) (b6 hb hb) (fun σ3 j1 j2 => w_x_mult_70 ?_)
        rw [eshr, nI_1]
        exact ih (i + 1) (m / 2) _ _ σ3 (by omega) hm2 (svad_hz hG ha hb) (svad_hz hG hb hb) ((hs.tr (f1.mono (by simp))).tr (j1.mono (by simp))) (fun j hj => by rw [j1.1 50 (by decide)]; exact f2 j hj) j2 et
  refine key 31 0 n (nt G) p _ rfl hn (nt_hz hG) hpz ((g1.mono (by simp)).tr ⟨fun q hq => sy_cp_ne _ _ _ (fun e => hq (by rw [e]; simp)), rfl⟩) (fun j hj => ?_) (fun j hj => ?_) rfl
  · dsimp only
    rw [sy_cp2, if_neg (by omega)]; exact g2 j hj
  · dsimp only
    rw [sy_cp2, if_pos ⟨rfl, hj⟩, g1.1 k (fun q => hkn (by simp at q ⊢; omega))]; exact hp j hj
theorem nI_asub {a b c : Nat} (h : c ≤ a + b) : nI a + (nI b - nI c) = nI (a + b - c) := by
  rw [Int32.sub_eq_add_neg, ← Int32.add_assoc, ← Int32.sub_eq_add_neg, nI_add, pk_sub h]
theorem e_x_neg {Q : Option Value → sy_S → Prop} {σ : sy_S} {G : sg_G} {k : Nat} {p : Nat → Nat} (hk : shX[k]? = some (0, 16, [])) (hkn : k ∉ [40, 41, 49, 50, 51, 52]) (hg : gx G σ.1) (hp : ar σ.1 k p) (hpz : hz G 3 p) (kk : ∀ σ' : sy_S, sx [40, 41, 49, 50, 51, 52] σ σ' → ar σ'.1 50 (opp G p) → Q none σ') : sy_E shX mX8_negate (0, sy_ent [.ref 48, .ref k] 3, [], σ) Q := by
  have hG := hg.1
  have hle : ∀ c, p c ≤ fz G c + nt G c := fun c => by
    by_cases q : sg_p G c
    · have := fz_ge hG q; have := hpz.2 c; omega
    · rw [hpz.1 c q]; exact Nat.zero_le _
  refine w_x_neg_0 (e_x_start hg (fun σ1 g1 g2 g3 => w_x_neg_4 (e_x_layZ (g1.gx hg (by decide)) (fun σ2 f1 f2 => w_x_neg_8 ?_))))
  have hs2 : sx [40, 41, 49, 50, 51, 52] σ σ2 := (g1.mono (by simp)).tr (f1.mono (by simp))
  have hl := sy_loop (sh := shX) (y := mX8_negate) (Q := Q) (fun i σ' => (10, [some (.ref 48), some (.ref k), some (.int (nI i))], [], σ')) (fun i σ' => sx [50] σ2 σ' ∧ (∀ j, j < i → σ'.1 50 j = nI (fz G j + nt G j - p j)) ∧ ∀ j, i ≤ j → j < 16 → σ'.1 50 j = nI (fz G j)) 16 ?_ ?_ 0 σ2 (by decide) ⟨sx.rf, fun j hj => absurd hj (Nat.not_lt_zero _), fun j _ hj => f2 j hj⟩
  · exact hl
  · rintro i σ' hi ⟨i1, i2, i3⟩ ih
    have ei : (nI i).toNatClampNeg = i := nI_clamp (by omega)
    have e49 : σ'.1 49 i = nI (nt G i) := by rw [i1.1 49 (by decide), f1.1 49 (by decide)]; exact g3 i hi
    have ek : σ'.1 k i = nI (p i) := by
      rw [i1.1 k (fun q => hkn (by simp at q ⊢; omega)), hs2.1 k hkn]; exact hp i hi
    refine w_x_neg_10 hk (fun _ => vp_in_nI hi (by decide)) (fun q => absurd q (nI_ge hi (by decide))) (fun _ => ?_)
    rw [ei, e49, ek, i3 i (Nat.le_refl _) hi, nI_asub (hle i), nI_1]
    refine ih _ ⟨i1.tr (sx.up (by simp)), fun j hj => ?_, fun j hj hj2 => ?_⟩
    · dsimp only
      rw [sy_up2]
      by_cases e : j = i
      · subst e; rw [if_pos ⟨rfl, rfl⟩]
      · rw [if_neg (fun q => e q.2)]; exact i2 j (by omega)
    · dsimp only
      rw [sy_up2, if_neg (by omega)]; exact i3 j (by omega) hj2
  · rintro σ' ⟨i1, i2, i3⟩
    refine w_x_neg_10 hk (fun q => absurd (nI_le (Nat.le_refl 16) (by decide)) q) (fun _ => ?_) (fun q => absurd (nI_le (Nat.le_refl 16) (by decide)) q)
    have hs' : sx [40, 41, 49, 50, 51, 52] σ σ' := hs2.tr (i1.mono (by simp))
    refine e_x_setR (h := fun c => fz G c + nt G c - p c) (hs'.gx hg (by decide)) (fun j hj => i2 j hj) (fun j _ => ?_) (fun σ3 j1 j2 => w_x_neg_45 (kk σ3 (hs'.tr (j1.mono (by simp))) j2))
    have := fz_le G j
    have := (nt_hz hG).2 j
    omega
theorem e_x_least {Q : Option Value → sy_S → Prop} {σ : sy_S} {G : sg_G} {k : Nat} {p : Nat → Nat} (hk : shX[k]? = some (0, 16, [])) (hkn : k ∉ [40, 41, 49, 50, 51, 52]) (hg : gx G σ.1) (hp : ar σ.1 k p) (hpz : hz G 3 p) (kk : ∀ σ' : sy_S, sx [40, 41, 49, 50, 51, 52] σ σ' → Q (some (.int (nI ((fst1 (fun n => feq (orn G p n) (nt G)) 1 2000).getD 0)))) σ') : sy_E shX mX8_leastToNought (0, sy_ent [.ref 48, .ref k, .int 2000] 4, [], σ) Q := by
  have hG := hg.1
  refine w_x_least_0 (e_x_start hg (fun σ1 g1 g2 g3 => w_x_least_4 ?_))
  have key : ∀ (d n : Nat) (σ' : sy_S), n + d = 2000 → sx [40, 41, 49, 50, 51, 52] σ σ' → ar σ'.1 50 (orn G p n) → ar σ'.1 49 (nt G) → fst1 (fun n => feq (orn G p n) (nt G)) (n + 1) d = fst1 (fun n => feq (orn G p n) (nt G)) 1 2000 → sy_E shX mX8_leastToNought (6, [some (.ref 48), some (.ref k), some (.int 2000), some (.int (nI (n + 1)))], [], σ') Q := by
    intro d
    induction d with
    | zero =>
      intro n σ' hn hs e1 e2 et
      have e : n = 2000 := hn
      subst e
      have h := kk σ' hs
      rw [← et] at h
      exact w_x_least_6 (fun _ => h) (fun q => absurd (by decide) q)
    | succ d ih =>
      intro n σ' hn hs e1 e2 et
      rw [fst1] at et
      have hg' := hs.gx hg (by decide)
      have hpk : ar σ'.1 k p := fun j hj => by rw [hs.1 k hkn]; exact hp j hj
      have hoz := orn_hz hG hpz n
      have hk52 : k ≠ 52 := fun e => hkn (by rw [e]; simp)
      refine w_x_least_6 (fun q => ?_) (fun _ => ?_)
      · rw [show (2000 : Int32) = nI 2000 from rfl, nI_ltI (by decide) (by omega)] at q; omega
      · refine e_x_addInto rfl rfl hk (by decide) hk52 hg' e1 hpk (fun j _ => Nat.le_trans ((vad_hz hoz hpz).2 j) (by decide)) (fun σ2 f1 f2 => w_x_least_24 ?_)
        have f2 : ar σ2.1 50 (orn G p (n + 1)) := f2
        have e49 : ar σ2.1 49 (nt G) := fun j hj => by rw [f1.1 49 (by decide)]; exact e2 j hj
        refine e_x_alike rfl rfl f2 e49 (fun j hj => ⟨hz_b (orn_hz hG hpz (n + 1)) (by decide) j hj, hz_b (nt_hz hG) (by decide) j hj⟩) ?_
        by_cases z : feq (orn G p (n + 1)) (nt G) = true
        · rw [if_pos z]
          rw [if_pos z] at et
          refine w_x_least_35 (fun q => absurd q (by decide)) (fun _ => ?_)
          have h := kk σ2 (hs.tr (f1.mono (by simp)))
          rw [← et] at h
          exact h
        · rw [if_neg z]
          rw [if_neg z] at et
          refine w_x_least_35 (fun _ => ?_) (fun q => absurd rfl q)
          rw [nI_1]
          exact ih (n + 1) σ2 (by omega) (hs.tr (f1.mono (by simp))) f2 e49 et
  exact key 2000 0 σ1 rfl (g1.mono (by simp)) g2 g3 rfl
theorem e_x_areOne {Q : Option Value → sy_S → Prop} {σ : sy_S} {G : sg_G} {k1 k2 : Nat} {a b : Nat → Nat} (h1 : shX[k1]? = some (0, 16, [])) (n1 : k1 ∉ [40, 41, 49, 50, 51, 52]) (h2 : shX[k2]? = some (0, 16, [])) (n2 : k2 ∉ [40, 41, 49, 50, 51, 52]) (hg : gx G σ.1) (ha : ar σ.1 k1 a) (hb : ar σ.1 k2 b) (haz : hz G 3 a) (hbz : hz G 3 b) (kk : ∀ σ' : sy_S, sx [40, 41, 49, 50, 51, 52] σ σ' → Q (some (.int (if feq (stt G (vad (nt G) a)) (stt G (vad (nt G) b)) then 1 else 0))) σ') : sy_E shX mX8_areOne (0, sy_ent [.ref 48, .ref k1, .ref k2] 3, [], σ) Q := by
  have hG := hg.1
  have nz := nt_hz hG
  refine w_x_areOne_0 (e_x_start hg (fun σ1 g1 g2 g3 => w_x_areOne_4 ?_))
  have hs1 : sx [40, 41, 49, 50, 51, 52] σ σ1 := g1.mono (by simp)
  have ha1 : ar σ1.1 k1 a := fun j hj => by rw [hs1.1 k1 n1]; exact ha j hj
  have hb1 : ar σ1.1 k2 b := fun j hj => by rw [hs1.1 k2 n2]; exact hb j hj
  refine e_x_addInto rfl rfl h1 (by decide) (fun e => n1 (by rw [e]; simp)) (hs1.gx hg (by decide)) g3 ha1 (fun j _ => Nat.le_trans ((vad_hz nz haz).2 j) (by decide)) (fun σ2 f1 f2 => w_x_areOne_17 ?_)
  have hs2 : sx [40, 41, 49, 50, 51, 52] σ σ2 := hs1.tr (f1.mono (by simp))
  have hb2 : ar σ2.1 k2 b := fun j hj => by rw [hs2.1 k2 n2]; exact hb j hj
  refine e_x_addInto rfl rfl h2 (by decide) (fun e => n2 (by rw [e]; simp)) (hs2.gx hg (by decide)) (fun j hj => by rw [f1.1 49 (by decide)]; exact g3 j hj) hb2 (fun j _ => Nat.le_trans ((vad_hz nz hbz).2 j) (by decide)) (fun σ3 i1 i2 => w_x_areOne_30 ?_)
  refine e_x_alike rfl rfl (a := stt G (vad (nt G) a)) (fun j hj => by rw [i1.1 50 (by decide)]; exact f2 j hj) i2 (fun j hj => ⟨hz_b (svad_hz hG nz haz) (by decide) j hj, hz_b (svad_hz hG nz hbz) (by decide) j hj⟩) ?_
  refine w_x_areOne_41 ?_ (kk σ3 (hs2.tr (i1.mono (by simp))))
  split
  · exact Or.inr rfl
  · exact Or.inl rfl
