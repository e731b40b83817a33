/-! the model's judge, steadies, film, count -/
theorem pm_wall {G : sg_G} {i : Nat} (h : G.2.2 i = true) : sg_pm G (i + 1) = sg_pm G i := by rw [sg_pm_s, h]; simp
theorem pm_pl {G : sg_G} {i : Nat} (h : sg_p G i) : sg_pm G (i + 1) = sg_pm G i ++ [i] := by rw [sg_pm_s, h.2]; rfl
theorem pm_pre {G : sg_G} {i : Nat} : ∀ d, ∃ s, sg_pm G (i + d) = sg_pm G i ++ s
  | 0 => ⟨[], by rw [List.append_nil]; rfl⟩
  | d + 1 => by
    obtain ⟨s, hs⟩ := pm_pre (G := G) (i := i) d
    exact ⟨s ++ if G.2.2 (i + d) then [] else [i + d], by rw [← Nat.add_assoc, sg_pm_s, hs, List.append_assoc]⟩
theorem P_ix {G : sg_G} {i : Nat} (h : sg_p G i) : (sg_P G)[(sg_pm G i).length]? = some i := by
  have h1 := h.1
  obtain ⟨s, hs⟩ := pm_pre (G := G) (i := i + 1) (sg_n G - (i + 1))
  rw [show i + 1 + (sg_n G - (i + 1)) = sg_n G by omega, pm_pl h] at hs
  show (sg_pm G (sg_n G))[(sg_pm G i).length]? = some i
  rw [hs, List.append_assoc, List.getElem?_append_right (Nat.le_refl _), Nat.sub_self]
  rfl
theorem pm_le {G : sg_G} {i : Nat} (h : i ≤ sg_n G) : (sg_pm G i).length ≤ (sg_P G).length := by
  obtain ⟨s, hs⟩ := pm_pre (G := G) (i := i) (sg_n G - i)
  rw [show i + (sg_n G - i) = sg_n G by omega] at hs
  show _ ≤ (sg_pm G (sg_n G)).length
  rw [hs, List.length_append]; omega
theorem fst1_at {p : Nat → Bool} {j d : Nat} (hj : j < d) (h0 : ∀ k, k < j → p k = false) (h1 : p j = true) : fst1 p 0 d = some j := by
  cases h : fst1 p 0 d with
  | none =>
    rw [fst1_none.mp h j (Nat.zero_le _) (by omega)] at h1
    cases h1
  | some m =>
    obtain ⟨a1, -, -⟩ := fst1_some h
    have a2 := fst1_min h
    rcases Nat.lt_trichotomy m j with y | y | y
    · rw [h0 m y] at a1; cases a1
    · rw [y]
    · rw [a2 j (Nat.zero_le _) y] at h1; cases h1
theorem gm_isw {G : sg_G} {i : Nat} (hi : i < sg_n G) (h : ¬ sg_p G i) : G.2.2 i = true := by
  cases hw : G.2.2 i with
  | true => rfl
  | false => exact absurd ⟨hi, hw⟩ h
theorem M_judge {Q : Option Value → sy_S → Prop} {σ : sy_S} {B : Nat} {S : st} (q : Int32) (hB : B ≤ 2000) (ho : sO B S) (h : RM S σ.1) (kk : ∀ σ' : sy_S, RM S σ'.1 → Q (some (.int (f_judge q S))) σ') : sy_E shM mX12_judge (0, sy_ent [.ref 0, .int q] 4, [], σ) Q := by
  obtain ⟨G, H, P, U, R, T, W, L⟩ := S
  obtain ⟨r1, r2, r3, r4, r5, r6, r7⟩ := id h
  have hG := r1.1
  have hH := sO_H ho
  have ho40 := ho.2.2.2.2.2.2
  refine w_M_judge_0 (fun m hm => ?_) (fun m hm z => ?_) (fun m hm z => ?_) (fun z => ?_)
  · obtain ⟨m4, rfl, -⟩ := px_s hm
    exact vp_in_nI m4 (by decide)
  · obtain ⟨m4, rfl, -⟩ := px_s hm
    have m4 : m < 4 := m4
    rw [nI_clamp (by omega)] at z
    cases hL : L m with
    | none => rw [lM_n r7 m4 hL] at z; exact absurd z (by decide)
    | some l =>
      have h40 := ho40 m l hL
      obtain ⟨l1, l2⟩ := lM_s r7 m4 hL
      have e : f_judge (nI m) (G, H, P, U, R, T, W, L) = (jgo G l 0 H).elim (-5) nI := by simp only [f_judge, hm, hL]
      rw [e] at kk
      refine e_m_copies rfl rfl (by decide) (by decide) r2 (fun σ1 g1 g2 => w_M_judge_32 ?_)
      have key : ∀ (s : List Int32) (i : Nat) (Hi : Nat → Nat) (σ' : sy_S), l.drop i = s → i ≤ l.length → sm [12, 5] [7] σ σ' → ar σ'.1 12 Hi → hz G (B + i) Hi → jgo G s i Hi = jgo G l 0 H → sy_E shM mX12_judge (34, [some (.ref 0), some (.int (nI m)), some (.int (nI i)), none], [], σ') Q := by
        intro s
        induction s with
        | nil =>
          intro i Hi σ' hd hi hs ha hz' ej
          have hi2 : i = l.length := by
            have := congrArg List.length hd
            rw [List.length_drop, List.length_nil] at this
            omega
          have le : σ'.1 25 (nI m).toNatClampNeg ≤ nI i := by
            rw [nI_clamp (by omega), hs.1 25 (by decide) (by simp), l1, hi2]; exact nI_le (Nat.le_refl _) (by omega)
          have h9 := kk σ' (h.fr hs (by decide) (by decide))
          rw [← ej] at h9
          exact w_M_judge_34 (G := G) (vp_in_nI m4 (by decide)) (fun z => absurd le z) (fun z => absurd le z) (fun _ => h9) (fun z => absurd le z) (fun z => absurd le z)
        | cons x s ih =>
          intro i Hi σ' hd hi hs ha hz' ej
          have hx : l[i]? = some x := by
            have h1 := congrArg (fun m => m[0]?) hd
            simp only [List.getElem?_drop, Nat.add_zero] at h1
            simpa using h1
          have hlt := (List.getElem?_eq_some_iff.mp hx).1
          have hd2 : l.drop (i + 1) = s := by rw [← List.drop_drop, hd]; rfl
          have nle : ¬ σ'.1 25 (nI m).toNatClampNeg ≤ nI i := by rw [nI_clamp (by omega), hs.1 25 (by decide) (by simp), l1]; exact nI_ge hlt (by omega)
          have hit : σ'.1 26 ((40 * nI m + nI i).toNatClampNeg) = x := by
            rw [ix40, nI_clamp (by omega), hs.1 26 (by decide) (by simp)]; exact l2 i x hx
          have hg' := hs.gm r1 (by simp) (by simp)
          rw [jgo] at ej
          refine w_M_judge_34 (G := G) (vp_in_nI m4 (by decide)) (fun _ => by rw [ix40]; exact vp_in_nI (by omega) (by decide)) (fun _ => hg') (fun z => absurd z nle) (fun _ c hc => ?_) (fun _ hc => ?_)
          · rw [hit] at hc ⊢
            obtain ⟨pc, rfl, -⟩ := px_s hc
            have hb : Hi c < 2 ^ 31 := by have := hz'.2 c; omega
            rw [hc] at ej
            dsimp only at ej
            refine e_m_may rfl hg' ha pc.1 hb (fun hr => ?_) (fun hr => ?_)
            · have h4 := (rdy_iff.mp hr).2
              rw [if_neg (by omega)] at ej
              refine w_M_judge_73 (fun _ => ?_) (fun z => absurd (by decide) z)
              obtain ⟨u, hu⟩ := ar_any σ'.1 5
              obtain ⟨lo, hlo⟩ := nI_any (σ'.1 0 7)
              refine e_m_topples (t := 1) row12 hg' ha hu hlo pc (by omega) (fun σ2 f1 f2 f3 f4 => w_M_judge_88 ?_)
              rw [nI_1]
              exact ih (i + 1) _ σ2 hd2 hlt (hs.tr f1) f2 (hz_tp hG hz' pc) ej
            · refine w_M_judge_73 (fun z => absurd rfl z) (fun _ => ?_)
              have h9 := kk σ' (h.fr hs (by decide) (by decide))
              have h4 : Hi c < 4 := by
                rcases Nat.lt_or_ge (Hi c) 4 with y | y
                · exact y
                · rw [rdy_iff.mpr ⟨pc, y⟩] at hr; cases hr
              rw [if_pos h4] at ej
              rw [← ej] at h9
              exact h9
          · rw [hit] at hc
            have h9 := kk σ' (h.fr hs (by decide) (by decide))
            rw [hc] at ej
            rw [← ej] at h9
            exact h9
      exact key l 0 H σ1 rfl (Nat.zero_le _) (g1.mono (by simp) (by simp)) g2 hH rfl
  · obtain ⟨m4, rfl, -⟩ := px_s hm
    have m4 : m < 4 := m4
    rw [nI_clamp (by omega)] at z
    cases hL : L m with
    | none =>
      have e : f_judge (nI m) (G, H, P, U, R, T, W, L) = -11 := by simp only [f_judge, hm, hL]
      rw [e] at kk
      exact kk σ h
    | some l =>
      refine absurd ?_ z
      have h40 := ho40 m l hL
      rw [(lM_s r7 m4 hL).1]; exact nI_le (a := 0) (Nat.zero_le _) (by omega)
  · have e : f_judge q (G, H, P, U, R, T, W, L) = -1 := by simp only [f_judge, z]
    rw [e] at kk
    exact kk σ h
theorem e_m_untold {Q : Option Value → sy_S → Prop} {σ : sy_S} {G : sg_G} {l : List Int32} {m : Nat} (m4 : m < 4) (hg : gm G σ.1) (h40 : l.length ≤ 40) (l1 : σ.1 25 m = nI l.length) (l2 : ∀ j y, l[j]? = some y → σ.1 26 (40 * m + j) = y) (k1 : ∀ (σ' : sy_S) (j : Nat), stu G l = some j → σ'.1 = σ.1 → Q (some (.int (nI j))) σ') (k0 : ∀ σ' : sy_S, stu G l = none → σ'.1 = σ.1 → (∀ c, sg_p G c → (σ'.2 27 c).toInt = (tnv l (sg_pm G c).length : Int)) → Q (some (.int (-5))) σ') : sy_E shM mX12_firstUntold (0, sy_ent [.ref 0, .int (nI m)] 4, [], σ) Q := by
  have hG := hg.1
  have h16 := sg_n16 hG
  have hP := sg_P_len hG
  refine w_M_firstUntold_0 ?_
  have key : ∀ (d i : Nat) (σ' : sy_S), i + d = sg_n G → σ'.1 = σ.1 → (∀ c, c < i → sg_p G c → (σ'.2 27 c).toInt = (tnv l (sg_pm G c).length : Int)) → (∀ k, k < (sg_pm G i).length → (tld l k).isNone = false) → sy_E shM mX12_firstUntold (4, [some (.ref 0), some (.int (nI m)), some (.int (nI (sg_pm G i).length)), some (.int (nI i))], [], σ') Q := by
    intro d
    induction d with
    | zero =>
      intro i σ' hi hs hv hno
      have hi : i = sg_n G := hi
      subst hi
      have le : σ'.1 0 0 * σ'.1 0 1 ≤ nI (sg_n G) := by rw [hs, gm_n hg]; exact nI_le (Nat.le_refl _) (by omega)
      refine w_M_firstUntold_4 (fun q => absurd le q) (fun q => absurd le q) (fun q => absurd le q) (fun _ => k0 σ' ?_ hs (fun c hc => hv c hc.1 hc)) (fun q => absurd le q) (fun q => absurd le q) (fun q => absurd le q) (fun q => absurd le q)
      exact fst1_none.mpr (fun k _ hk => hno k (by rw [Nat.zero_add] at hk; exact hk))
    | succ d ih =>
      intro i σ' hi hs hv hno
      have hin : i < sg_n G := by omega
      obtain ⟨p1, p2, p3, p4⟩ := gm_pl (by rw [hs]; exact hg : gm G σ'.1) (show i < 16 by omega)
      have ei : (nI i).toNatClampNeg = i := nI_clamp (by omega)
      have em : (nI m).toNatClampNeg = m := nI_clamp (by omega)
      have nle : ¬ (σ'.1 0 0 * σ'.1 0 1 ≤ nI i) := by rw [hs, gm_n hg]; exact nI_ge hin (by omega)
      obtain ⟨j, hj⟩ : ∃ j, j = (sg_pm G i).length := ⟨_, rfl⟩
      have hjl : j ≤ (sg_P G).length := by rw [hj]; exact pm_le (by omega)
      have ejle : σ'.1 25 m ≤ nI j ↔ l.length ≤ j := by rw [hs, l1, nI_leI (by omega) (by omega)]
      rw [← hj] at hno ⊢
      -- the first that is not told
      have first : sg_p G i → (tld l j).isNone = true → stu G l = some j := fun hp hn => by
        have h1 := (List.getElem?_eq_some_iff.mp (P_ix hp)).1
        exact fst1_at (by rw [hj]; exact h1) hno hn
      refine w_M_firstUntold_4 (fun _ => vp_in_nI (by omega) (by decide)) (fun _ _ => vp_in_nI m4 (by decide)) (fun _ _ z => ?_) (fun q => absurd q nle) (fun _ z => ?_) (fun _ z w => ?_) (fun _ z w y => ?_) (fun _ z w y => ?_)
      · rw [em, ejle] at z
        rw [ix40]; exact vp_in_nI (by omega) (by decide)
      · rw [ei] at z
        have hw := gm_isw hin (p3 hin z)
        rw [ei, nI_1]
        have h9 := ih (i + 1) (σ'.1, sy_upL σ'.2 27 i 0) (by omega) hs (fun c hc hp => ?_) (fun k hk => hno k (by rw [pm_wall hw] at hk; rw [hj]; exact hk))
        · rw [pm_wall hw, ← hj] at h9
          exact h9
        · dsimp only
          have hne : c ≠ i := fun e => by subst e; exact p3 hin z hp
          rw [sy_upL2, if_neg (fun q => hne q.2)]
          exact hv c (by omega) hp
      · rw [ei] at z
        rw [em, ejle] at w
        refine k1 _ j (first (p4 hin z) ?_) hs
        unfold tld
        rw [List.getElem?_eq_none w]; rfl
      · rw [ei] at z
        have hpl := p4 hin z
        rw [em, ejle] at w
        have hx : l[j]? = some (l[j]'(by omega)) := List.getElem?_eq_getElem (by omega)
        have hit : σ'.1 26 ((40 * nI m + nI j).toNatClampNeg) = l[j]'(by omega) := by
          rw [ix40, nI_clamp (by omega), hs]; exact l2 j _ hx
        rw [hit] at y ⊢
        obtain ⟨t, ht⟩ := (m_rng (lo := 0) (hi := 1000000) (a := 0) (b := 1000000) rfl rfl (by decide)).1 y
        have htl : tld l j = some t := by
          unfold tld
          rw [hx]; exact ht
        obtain ⟨pt, et, -⟩ := px_s ht
        have pt : t ≤ 1000000 := pt.2
        rw [ei, nI_1, nI_1]
        have h9 := ih (i + 1) (σ'.1, sy_upL (sy_upL σ'.2 27 i 0) 27 i (l[j]'(by omega)).toInt64) (by omega) hs (fun c hc hp => ?_) (fun k hk => ?_)
        · rw [pm_pl hpl, List.length_append, List.length_singleton, ← hj] at h9
          exact h9
        · dsimp only
          rw [sy_upL2, sy_upL2]
          by_cases e : c = i
          · subst e
            rw [if_pos ⟨rfl, rfl⟩, ← hj, et, Int32.toInt_toInt64, nI_toInt (by omega)]
            unfold tnv
            rw [htl]; rfl
          · rw [if_neg (fun q => e q.2), if_neg (fun q => e q.2)]
            exact hv c (by omega) hp
        · rw [pm_pl hpl, List.length_append, List.length_singleton, ← hj] at hk
          by_cases e : k = j
          · subst e; rw [htl]; rfl
          · exact hno k (by omega)
      · rw [ei] at z
        have hpl := p4 hin z
        rw [em, ejle] at w
        have hx : l[j]? = some (l[j]'(by omega)) := List.getElem?_eq_getElem (by omega)
        have hit : σ'.1 26 ((40 * nI m + nI j).toNatClampNeg) = l[j]'(by omega) := by
          rw [ix40, nI_clamp (by omega), hs]; exact l2 j _ hx
        rw [hit] at y
        refine k1 _ j (first hpl ?_) hs
        unfold tld
        rw [hx]
        dsimp only
        rw [(m_rng (lo := 0) (hi := 1000000) (a := 0) (b := 1000000) rfl rfl (by decide)).2 y]; rfl
  have h9 := key (sg_n G) 0 σ (Nat.zero_add _) rfl (fun c hc => absurd hc (Nat.not_lt_zero _)) (fun k hk => absurd hk (Nat.not_lt_zero _))
  exact h9
theorem e_m_then {Q : Option Value → sy_S → Prop} {σ : sy_S} {G : sg_G} {H tn : Nat → Nat} {c : Nat} (hg : gm G σ.1) (h2 : ar σ.1 2 H) (hB : ∀ j, j < 16 → H j ≤ 10000) (hc : sg_p G c) (ht : ∀ o, sg_p G o → (σ.2 27 o).toInt = (tn o : Int)) (hb : ∀ o, tn o ≤ 1000000) (kk : ∀ v : Int64, v.toInt = (H c : Int) - 4 * (tn c : Int) + (lsum tn (sg_nb G c) : Nat) → Q (some (.long v)) σ) : sy_E shM mX12_then (0, sy_ent [.ref 0, .int (nI c)] 5, [], σ) Q := by
  have hG := hg.1
  have hc16 := sg_p16 hG hc
  have hl4 := sg_nb_len G c
  obtain ⟨n1, n2⟩ := gm_nb hg hc.1
  have ec : (nI c).toNatClampNeg = c := nI_clamp (by omega)
  have hcb := hB c hc16
  have htc := hb c
  refine w_M_then_0 (vp_in_nI hc16 (by decide)) ?_
  rw [ec, h2 c hc16]
  have e1 : ((nI (H c)).toInt64).toInt = (H c : Int) := by rw [Int32.toInt_toInt64, nI_toInt (by omega)]
  have e2 : (4 * σ.2 27 c).toInt = 4 * (tn c : Int) := by
    have e4 : (4 : Int64).toInt = 4 := rfl
    rw [Jvm.Kit.i64_mul (by rw [e4, ht c hc]; omega) (by rw [e4, ht c hc]; omega), e4, ht c hc]
  have e3 : ((nI (H c)).toInt64 - 4 * σ.2 27 c).toInt = (H c : Int) - 4 * (tn c : Int) := by
    rw [Jvm.Kit.i64_sub (by rw [e1, e2]; omega) (by rw [e1, e2]; omega), e1, e2]
  have sb : ∀ t, lsum tn ((sg_nb G c).take t) ≤ 1000000 * t := by
    intro t
    induction t with
    | zero => exact Nat.zero_le _
    | succ t ih =>
      rw [List.take_succ]
      cases h : (sg_nb G c)[t]? with
      | none => rw [show (none : Option Nat).toList = [] from rfl, List.append_nil]; omega
      | some o => rw [show (some o).toList = [o] from rfl, lsum_app]; have := hb o; omega
  have key : ∀ (d t : Nat) (v : Int64), t + d = (sg_nb G c).length → v.toInt = (H c : Int) - 4 * (tn c : Int) + (lsum tn ((sg_nb G c).take t) : Nat) → sy_E shM mX12_then (22, [some (.ref 0), some (.int (nI c)), some (.long v), none, some (.int (nI t))], [], σ) Q := by
    intro d
    induction d with
    | zero =>
      intro t v hd hv
      have hd : t = (sg_nb G c).length := hd
      subst hd
      rw [List.take_length] at hv
      have le : σ.1 4 (nI c).toNatClampNeg ≤ nI (sg_nb G c).length := by rw [ec, n1]; exact nI_le (Nat.le_refl _) (by omega)
      exact w_M_then_22 (vp_in_nI hc16 (by decide)) (fun q => absurd le q) (fun q => absurd le q) (fun _ => kk v hv) (fun q => absurd le q)
    | succ d ih =>
      intro t v hd hv
      obtain ⟨o, ho⟩ : ∃ o, (sg_nb G c)[t]? = some o := ⟨_, List.getElem?_eq_getElem (by omega)⟩
      have hop := (sg_nb_p hG hc.1 (List.mem_of_getElem? ho)).1
      have ho16 := sg_p16 hG hop
      have e4t : (4 : Int32) * nI c + nI t = nI (4 * c + t) := by rw [show (4 : Int32) = nI 4 from rfl, pk_mul, nI_add]
      have nle : ¬ σ.1 4 (nI c).toNatClampNeg ≤ nI t := by rw [ec, n1]; exact nI_ge (show t < _ by omega) (by omega)
      refine w_M_then_22 (vp_in_nI hc16 (by decide)) (fun _ => by rw [e4t]; exact vp_in_nI (by omega) (by decide)) (fun _ => by rw [e4t, nI_clamp (by omega), n2 t o ho]; exact vp_in_nI ho16 (by decide)) (fun q => absurd q nle) (fun _ => ?_)
      rw [e4t, nI_clamp (show 4 * c + t < 2 ^ 31 by omega), n2 t o ho, nI_clamp (show o < 2 ^ 31 by omega), nI_1]
      refine ih (t + 1) _ (by omega) ?_
      have h1 := sb t
      have h2 := hb o
      have h3 := ht o hop
      rw [Jvm.Kit.i64_add (by rw [hv, h3]; omega) (by rw [hv, h3]; omega), hv, h3, List.take_succ, ho, show (some o).toList = [o] from rfl, lsum_app]
      omega
  exact key (sg_nb G c).length 0 _ (Nat.zero_add _) (by rw [e3]; simp [lsum])
theorem M_steadies {Q : Option Value → sy_S → Prop} {σ : sy_S} {B : Nat} {S : st} (q : Int32) (hB : B ≤ 2000) (ho : sO B S) (h : RM S σ.1) (kk : ∀ σ' : sy_S, RM S σ'.1 → Q (some (.int (f_steadies q S))) σ') : sy_E shM mX12_steadies (0, sy_ent [.ref 0, .int q] 5, [], σ) Q := by
  obtain ⟨G, H, P, U, R, T, W, L⟩ := S
  obtain ⟨r1, r2, r3, r4, r5, r6, r7⟩ := id h
  have hG := r1.1
  have hH := sO_H ho
  have ho40 := ho.2.2.2.2.2.2
  have hB9 := hz9 hH hB
  have h16 := sg_n16 hG
  have hP := sg_P_len hG
  refine w_M_steadies_0 (fun m hm => ?_) (fun m hm z => ?_) (fun m hm z => ?_) (fun z => ?_)
  · obtain ⟨m4, rfl, -⟩ := px_s hm
    exact vp_in_nI m4 (by decide)
  · obtain ⟨m4, rfl, -⟩ := px_s hm
    have m4 : m < 4 := m4
    rw [nI_clamp (by omega)] at z
    cases hL : L m with
    | none => rw [lM_n r7 m4 hL] at z; exact absurd z (by decide)
    | some l =>
      have h40 := ho40 m l hL
      obtain ⟨l1, l2⟩ := lM_s r7 m4 hL
      have e : f_steadies (nI m) (G, H, P, U, R, T, W, L) = match stu G l with
          | some j => nI j
          | none => (sts G H l).elim (-5) nI := by
        simp only [f_steadies, hm, hL]
        rfl
      rw [e] at kk
      refine e_m_untold m4 r1 h40 l1 l2 (fun σ1 j hj hs => ?_) (fun σ1 hn hs ht => ?_)
      · obtain ⟨-, -, j3⟩ := fst1_some hj
        have h9 := kk σ1 (by rw [hs]; exact h)
        rw [hj] at h9
        exact w_M_steadies_26 (fun q => absurd q (nI_pos (by omega))) (fun _ => h9)
      · have h9 := kk σ1 (by rw [hs]; exact h)
        rw [hn] at h9
        dsimp only at h9
        refine w_M_steadies_26 (fun _ => ?_) (fun q => absurd (by decide) q)
        have hb : ∀ o, tnv l o ≤ 1000000 := fun o => by
          unfold tnv
          cases ht : tld l o with
          | none => exact Nat.zero_le _
          | some t => exact (tld_some ht).2
        have hg1 : gm G σ1.1 := by rw [hs]; exact r1
        have key : ∀ (d i : Nat), i + d = sg_n G → (∀ k, k < (sg_pm G i).length → decide (3 + 4 * tnv l k < H ((sg_P G).getD k 0) + lsum (fun o => tnv l (sg_pm G o).length) (sg_nb G ((sg_P G).getD k 0))) = false) → sy_E shM mX12_steadies (38, [some (.ref 0), none, none, some (.int (nI (sg_pm G i).length)), some (.int (nI i))], [], σ1) Q := by
          intro d
          induction d with
          | zero =>
            intro i hi hno
            have hi : i = sg_n G := hi
            subst hi
            have le : σ1.1 0 0 * σ1.1 0 1 ≤ nI (sg_n G) := by rw [gm_n hg1]; exact nI_le (Nat.le_refl _) (by omega)
            have hst : sts G H l = none := fst1_none.mpr (fun k _ hk => hno k (by rw [Nat.zero_add] at hk; exact hk))
            rw [hst] at h9
            exact w_M_steadies_38 (fun q => absurd le q) (fun _ => h9) (fun q => absurd le q) (fun q => absurd le q)
          | succ d ih =>
            intro i hi hno
            have hin : i < sg_n G := by omega
            obtain ⟨p1, p2, p3, p4⟩ := gm_pl hg1 (show i < 16 by omega)
            have ei : (nI i).toNatClampNeg = i := nI_clamp (by omega)
            have nle : ¬ (σ1.1 0 0 * σ1.1 0 1 ≤ nI i) := by rw [gm_n hg1]; exact nI_ge hin (by omega)
            refine w_M_steadies_38 (fun _ => vp_in_nI (by omega) (by decide)) (fun q => absurd q nle) (fun _ z => ?_) (fun _ z => ?_)
            · rw [ei] at z
              have hw := gm_isw hin (p3 hin z)
              have h8 := ih (i + 1) (by omega) (fun k hk => hno k (by rw [pm_wall hw] at hk; exact hk))
              rw [pm_wall hw] at h8
              rw [nI_1]; exact h8
            · rw [ei] at z
              have hpl := p4 hin z
              have hix := P_ix hpl
              have hget : (sg_P G).getD (sg_pm G i).length 0 = i := by rw [List.getD_eq_getElem?_getD, hix]; rfl
              have hjl := (List.getElem?_eq_some_iff.mp hix).1
              refine e_m_then (H := H) (tn := fun o => tnv l (sg_pm G o).length) hg1 (by rw [hs]; exact r2) hB9 hpl ht (fun o => hb _) (fun v hv => ?_)
              have e3 : (3 : Int64).toInt = 3 := rfl
              refine w_M_steadies_63 (fun q => ?_) (fun q => ?_)
              · rw [Int64.le_iff_toInt_le, hv, e3] at q
                have h8 := ih (i + 1) (by omega) (fun k hk => ?_)
                · rw [pm_pl hpl, List.length_append, List.length_singleton] at h8
                  rw [nI_1, nI_1]; exact h8
                · rw [pm_pl hpl, List.length_append, List.length_singleton] at hk
                  by_cases ek : k = (sg_pm G i).length
                  · subst ek
                    rw [hget]
                    refine decide_eq_false (fun y => ?_)
                    omega
                  · exact hno k (by omega)
              · rw [Int64.le_iff_toInt_le, hv, e3] at q
                have hst : sts G H l = some (sg_pm G i).length := fst1_at hjl hno (by
                  rw [hget]
                  refine decide_eq_true ?_
                  omega)
                rw [hst] at h9
                exact h9
        exact key (sg_n G) 0 (Nat.zero_add _) (fun k hk => absurd hk (Nat.not_lt_zero _))
  · obtain ⟨m4, rfl, -⟩ := px_s hm
    have m4 : m < 4 := m4
    rw [nI_clamp (by omega)] at z
    cases hL : L m with
    | none =>
      have e : f_steadies (nI m) (G, H, P, U, R, T, W, L) = -11 := by simp only [f_steadies, hm, hL]
      rw [e] at kk
      exact kk σ h
    | some l =>
      refine absurd ?_ z
      have h40 := ho40 m l hL
      rw [(lM_s r7 m4 hL).1]; exact nI_le (a := 0) (Nat.zero_le _) (by omega)
  · have e : f_steadies q (G, H, P, U, R, T, W, L) = -1 := by simp only [f_steadies, z]
    rw [e] at kk
    exact kk σ h
theorem M_film {Q : Option Value → sy_S → Prop} {σ : sy_S} {B : Nat} {S : st} (q : Int32) (hB : B ≤ 2000) (ho : sO B S) (h : RM S σ.1) (kk : ∀ σ' : sy_S, RM (f_film q S).2 σ'.1 → Q (some (.int (f_film q S).1)) σ') : sy_E shM mX12_film (0, sy_ent [.ref 0, .int q] 5, [], σ) Q := by
  obtain ⟨G, H, P, U, R, T, W, L⟩ := S
  obtain ⟨r1, r2, r3, r4, r5, r6, r7⟩ := id h
  have hG := r1.1
  have hH := sO_H ho
  have ho40 := ho.2.2.2.2.2.2
  have hB9 := hz9 hH hB
  have h16 := sg_n16 hG
  have hP := sg_P_len hG
  refine w_M_film_0 (fun m hm => ?_) (fun z => ?_)
  · obtain ⟨m4, rfl, -⟩ := px_s hm
    have m4 : m < 4 := m4
    have e : f_film (nI m) (G, H, P, U, R, T, W, L) = (nI (sg_P G).length, (G, H, P, U, R, T, W, pset L m ((sg_P G).map fun c => nI (od G H c)))) := by simp only [f_film, hm]
    rw [e] at kk
    refine e_m_copies rfl rfl (by decide) (by decide) r2 (fun σ1 g1 g2 => w_M_film_20 ?_)
    refine e_m_stt row12 (g1.gm r1 (by simp) (by simp)) g2 hB9 (fun σ2 f1 f2 f3 f4 => w_M_film_28 ?_)
    have hs2 : sm [12, 5] [7] σ σ2 := (g1.mono (by simp) (by simp)).tr f1
    have hl := sy_loop (sh := shM) (y := mX12_film) (Q := Q) (fun i σ' => (34, [some (.ref 0), some (.int (nI m)), none, some (.int (nI (sg_pm G i).length)), some (.int (nI i))], [], σ')) (fun i σ' => sm [26] [] σ2 σ' ∧ (∀ c, c < i → sg_p G c → σ'.1 26 (40 * m + (sg_pm G c).length) = nI (od G H c)) ∧ ∀ q, (q < 40 * m ∨ 40 * m + 40 ≤ q) → σ'.1 26 q = σ2.1 26 q) (sg_n G) ?_ ?_ 0 σ2 (Nat.zero_le _) ⟨sm.rf, fun c hc => absurd hc (Nat.not_lt_zero _), fun _ _ => rfl⟩
    · exact hl
    · rintro i σ3 hi ⟨i1, i2, i3⟩ ih
      have hg3 := i1.gm (hs2.gm r1 (by simp) (by simp)) (by simp) (by simp)
      obtain ⟨p1, p2, p3, p4⟩ := gm_pl hg3 (show i < 16 by omega)
      have ei : (nI i).toNatClampNeg = i := nI_clamp (by omega)
      have nle : ¬ (σ3.1 0 0 * σ3.1 0 1 ≤ nI i) := by rw [gm_n hg3]; exact nI_ge hi (by omega)
      have hjl : (sg_pm G i).length ≤ (sg_P G).length := pm_le (by omega)
      have lt : ∀ c, c < i → sg_p G c → (sg_pm G c).length < (sg_pm G i).length := fun c hc hp => by
        obtain ⟨s, hs⟩ := pm_pre (G := G) (i := c + 1) (i - (c + 1))
        rw [show c + 1 + (i - (c + 1)) = i by omega, pm_pl hp] at hs
        rw [hs]
        simp only [List.length_append, List.length_singleton]
        omega
      refine w_M_film_34 (fun q => absurd q nle) (fun _ => vp_in_nI (by omega) (by decide)) (fun _ _ => by rw [ix40]; exact vp_in_nI (by omega) (by decide)) (fun q => absurd q nle) (fun _ z => ?_) (fun _ z => ?_)
      · rw [ei] at z
        have hnp := p3 hi z
        have hw := gm_isw hi hnp
        have h9 := ih σ3 ⟨i1, fun c hc hp => i2 c (Nat.lt_of_le_of_ne (by omega) (fun e => hnp (e ▸ hp))) hp, i3⟩
        rw [pm_wall hw] at h9
        rw [nI_1]; exact h9
      · rw [ei] at z
        have hpl := p4 hi z
        rw [ei, ix40, nI_clamp (by omega), i1.1 5 (by decide) (by simp), f3 i (by omega), nI_1, nI_1]
        have h9 := ih (sy_up σ3.1 26 (40 * m + (sg_pm G i).length) (nI (od G H i)), σ3.2) ⟨i1.tr (sm.up (by simp) (by decide)), fun c hc hp => ?_, fun q hq => ?_⟩
        · rw [pm_pl hpl, List.length_append, List.length_singleton] at h9
          exact h9
        · dsimp only
          rw [sy_up2]
          by_cases e : c = i
          · subst e; rw [if_pos ⟨rfl, rfl⟩]
          · have := lt c (by omega) hp
            rw [if_neg (by omega)]; exact i2 c (by omega) hp
        · dsimp only
          rw [sy_up2, if_neg (by omega)]; exact i3 q hq
    · rintro σ3 ⟨i1, i2, i3⟩
      have hg3 := i1.gm (hs2.gm r1 (by simp) (by simp)) (by simp) (by simp)
      have le : σ3.1 0 0 * σ3.1 0 1 ≤ nI (sg_n G) := by rw [gm_n hg3]; exact nI_le (Nat.le_refl _) (by omega)
      refine w_M_film_34 (fun _ => vp_in_nI m4 (by decide)) (fun q => absurd le q) (fun q => absurd le q) (fun _ => ?_) (fun q => absurd le q) (fun q => absurd le q)
      rw [nI_clamp (by omega)]
      have hs3 : sm [12, 5, 25, 26] [7] σ (sy_up σ3.1 25 m (nI (sg_P G).length), σ3.2) := ((hs2.mono (by simp) (by simp)).tr (i1.mono (by simp) (by simp))).tr (sm.up (by simp) (by decide))
      refine kk _ (RM_ls h hs3 (by decide) (by decide) (lM_set ho40 r7 (fun i hi => ?_) (fun k hk => ?_) ?_ (fun k y hk => ?_)))
      · dsimp only; rw [sy_up2, if_neg (fun q => hi q.2), i1.1 25 (by decide) (by simp), hs2.1 25 (by decide) (by simp)]
      · dsimp only; rw [sy_up_ne _ _ _ (by decide), i3 k hk, hs2.1 26 (by decide) (by simp)]
      · dsimp only; rw [sy_up2, if_pos ⟨rfl, rfl⟩, List.length_map]
      · dsimp only
        rw [sy_up_ne _ _ _ (by decide)]
        rw [List.getElem?_map] at hk
        cases hc : (sg_P G)[k]? with
        | none => rw [hc] at hk; cases hk
        | some c =>
          rw [hc] at hk
          cases hk
          have hp := sg_P_at hc
          have h9 := i2 c hp.1 hp
          rw [← P_num hc] at h9
          exact h9
  · have e : f_film q (G, H, P, U, R, T, W, L) = (-1, (G, H, P, U, R, T, W, L)) := by simp only [f_film, z]
    rw [e] at kk
    exact kk σ h
theorem e_m_holding {Q : Option Value → sy_S → Prop} {σ : sy_S} {P : Nat → Option (Nat → Nat)} (hP : pM P σ.1) (kk : Q (some (.int (nI (phd P)))) σ) : sy_E shM mX12_holding (0, sy_ent [.ref 0] 3, [], σ) Q := by
  refine w_M_holding_0 ?_
  have hl := sy_loop (sh := shM) (y := mX12_holding) (Q := Q) (fun i σ' => (4, [some (.ref 0), some (.int (nI (ssum i fun i => if (P i).isSome then 1 else 0))), some (.int (nI i))], [], σ')) (fun i σ' => σ' = σ) 6 ?_ ?_ 0 σ (Nat.zero_le _) rfl
  · exact hl
  · rintro i σ1 hi rfl ih
    have h9 := ih σ1 rfl
    rw [ssum] at h9
    refine w_M_holding_4 (fun _ => vp_in_nI hi (by decide)) (fun q => absurd q (nI_ge hi (by decide))) (fun _ z => ?_) (fun _ z => ?_)
    · rw [nI_clamp (by omega)] at z
      cases hp : P i with
      | none =>
        rw [hp, if_neg (by decide), Nat.add_zero] at h9
        rw [Int32.add_zero, nI_1]; exact h9
      | some x => rw [(pM_s hP hi hp).1] at z; cases z
    · rw [nI_clamp (by omega)] at z
      cases hp : P i with
      | none => exact absurd (pM_n hP hi hp) z
      | some x =>
        rw [hp, if_pos (show (some x).isSome = true from rfl)] at h9
        rw [nI_1, nI_1]; exact h9
  · rintro σ1 rfl
    exact w_M_holding_4 (fun q => absurd (nI_le (Nat.le_refl 6) (by decide)) q) (fun _ => kk) (fun q => absurd (nI_le (Nat.le_refl 6) (by decide)) q) (fun q => absurd (nI_le (Nat.le_refl 6) (by decide)) q)
theorem M_count {Q : Option Value → sy_S → Prop} {σ : sy_S} {B : Nat} {S : st} (w : Int32) (ho : sO B S) (h : RM S σ.1) (kk : ∀ σ' : sy_S, RM S σ'.1 → Q (some (.int (f_count w S))) σ') : sy_E shM mX12_count (0, sy_ent [.ref 0, .int w] 2, [], σ) Q := by
  obtain ⟨G, H, P, U, R, T, W, L⟩ := S
  obtain ⟨r1, r2, r3, r4, r5, r6, r7⟩ := id h
  have hG := r1.1
  have hH := sO_H ho
  have pk : ∀ k : Nat, k < 9 → w = nI k → px (fun m => m < 9) w = some k := fun k hk e => by subst e; exact px_i (by omega) hk
  have ev : ∀ k : Nat, k < 9 → w = nI k → ∀ v : Int32, (px (fun m => m < 9) w = some k → f_count w (G, H, P, U, R, T, W, L) = v) → Q (some (.int v)) σ := by
    intro k hk e v hv
    have h9 := kk σ h
    rw [hv (pk k hk e)] at h9
    exact h9
  refine w_M_count_0 (fun q => ?_) (fun _ q => ?_) (fun _ _ q => ?_) (fun _ _ _ q => ?_) (fun _ _ _ _ q => ?_) (fun _ _ _ _ _ q => ?_) (fun _ _ _ _ _ _ q z => ?_) (fun _ _ _ _ _ _ q z => ?_) (fun _ _ _ _ _ _ _ q => ?_) (fun _ _ _ _ _ _ _ _ q => ?_) (fun q0 q1 q2 q3 q4 q5 q6 q7 q8 => ?_)
  · rw [gm_n r1]
    exact ev 0 (by decide) q _ (fun z => by simp only [f_count, z])
  · rw [r1.2.1.2.1]
    exact ev 1 (by decide) q _ (fun z => by simp only [f_count, z])
  · exact e_m_places r1 (w_M_count_66 (ev 2 (by decide) q _ (fun z => by simp only [f_count, z])))
  · exact e_m_grains rfl r1 r2 (w_M_count_75 (ev 3 (by decide) q _ (fun z => by simp only [f_count, z])))
  · exact e_m_holding r6 (w_M_count_80 (ev 4 (by decide) q _ (fun z => by simp only [f_count, z])))
  · rw [r4.1]
    exact ev 5 (by decide) q _ (fun z => by simp only [f_count, z])
  · cases W with
    | none => exact absurd r5 z
    | some sc => exact ev 6 (by decide) q _ (fun z => by simp only [f_count, z]; rfl)
  · cases W with
    | none => exact ev 6 (by decide) q _ (fun z => by simp only [f_count, z]; rfl)
    | some sc =>
      obtain ⟨s, c⟩ := sc
      have hc := ho.2.2.2.2.2.1 s c rfl
      refine absurd (fun y => ?_) z
      have r5 : σ.1 0 18 = nI c := r5.1
      rw [r5, nI_lit0, nI_eq (by omega) (by decide)] at y
      omega
  · rw [r3.1]
    exact ev 7 (by decide) q _ (fun z => by simp only [f_count, z])
  · rw [r3.2.1]
    exact ev 8 (by decide) q _ (fun z => by simp only [f_count, z])
  · have hn : px (fun m => m < 9) w = none := px_no (fun k hk hp e => by
      subst e
      have hp : k < 9 := hp
      match k, hp with
      | 0, _ => exact q0 rfl
      | 1, _ => exact q1 rfl
      | 2, _ => exact q2 rfl
      | 3, _ => exact q3 rfl
      | 4, _ => exact q4 rfl
      | 5, _ => exact q5 rfl
      | 6, _ => exact q6 rfl
      | 7, _ => exact q7 rfl
      | 8, _ => exact q8 rfl)
    have h9 := kk σ h
    have e : f_count w (G, H, P, U, R, T, W, L) = -2 := by simp only [f_count, hn]
    rw [e] at h9
    exact h9
