/-! soundness of one instruction (by program: wip/whole/gen/sound.py) -/
theorem sy_setI {X : sy_X} {sh : sy_Z} {σ : sy_S} {k n i : Nat} {fs : List (Option Nat)} {x : Int32} (hz : sh[k]? = some (0, n, fs)) : (sy_w X sh σ).set k (X.2.2 k, .inl (X.2.1 0, n, .inl (upd (σ.1 k) i x))) = sy_w X sh (sy_up σ.1 k i x, σ.2) := by
  rw [← sy_w_set (σ := σ) (σ' := (sy_up σ.1 k i x, σ.2)) hz (fun j z' hj => sy_e_up j z' hj)]
  congr 2
  show _ = Sum.inl (X.2.1 0, n, Sum.inl (sy_up σ.1 k i x k))
  rw [sy_up_self]
theorem sy_setB {X : sy_X} {sh : sy_Z} {σ : sy_S} {k n i : Nat} {fs : List (Option Nat)} {x : Int32} (hz : sh[k]? = some (1, n, fs)) : (sy_w X sh σ).set k (X.2.2 k, .inl (X.2.1 1, n, .inl (upd (σ.1 k) i x))) = sy_w X sh (sy_up σ.1 k i x, σ.2) := by
  rw [← sy_w_set (σ := σ) (σ' := (sy_up σ.1 k i x, σ.2)) hz (fun j z' hj => sy_e_up j z' hj)]
  congr 2
  show _ = Sum.inl (X.2.1 1, n, Sum.inl (sy_up σ.1 k i x k))
  rw [sy_up_self]
theorem sy_setL {X : sy_X} {sh : sy_Z} {σ : sy_S} {k n i : Nat} {fs : List (Option Nat)} {x : Int64} (hz : sh[k]? = some (2, n, fs)) : (sy_w X sh σ).set k (X.2.2 k, .inl (X.2.1 2, n, .inr (.inl (vp_updL (σ.2 k) i x)))) = sy_w X sh (σ.1, sy_upL σ.2 k i x) := by
  rw [← sy_w_set (σ := σ) (σ' := (σ.1, sy_upL σ.2 k i x)) hz (fun j z' hj => sy_e_upL j z' hj)]
  congr 2
  show _ = Sum.inl (X.2.1 2, n, Sum.inr (Sum.inl (sy_upL σ.2 k i x k)))
  rw [sy_upL_self]
theorem sy_setF {X : sy_X} {sh : sy_Z} {σ : sy_S} {k n b a : Nat} {fs : List (Option Nat)} {x : Int32} (hz : sh[k]? = some (a + 4, n, fs)) (hf : fs[b]? = some none) : (sy_w X sh σ).set k (X.2.2 k, .inr (a, (fs.mapIdx (sy_fv X σ k)).set b (.int x))) = sy_w X sh (sy_up σ.1 k b x, σ.2) := by
  rw [← sy_w_set (σ := σ) (σ' := (sy_up σ.1 k b x, σ.2)) hz (fun j z' hj => sy_e_up j z' hj)]
  congr 2
  show _ = Sum.inr (a, fs.mapIdx (sy_fv X (sy_up σ.1 k b x, σ.2) k))
  congr 2
  apply List.ext_getElem?
  intro j
  by_cases hj : j = b
  · subst hj
    rw [List.getElem?_set_self (by rw [List.length_mapIdx]; exact (List.getElem?_eq_some_iff.mp hf).1), List.getElem?_mapIdx, hf]
    show _ = some (Value.int (sy_up σ.1 k j x k j))
    rw [sy_up_self]
    simp [upd]
  · rw [List.getElem?_set_ne (Ne.symm hj), List.getElem?_mapIdx, List.getElem?_mapIdx]
    cases fs[j]? with
    | none => rfl
    | some f =>
      cases f with
      | none =>
        show some (Value.int (σ.1 k j)) = some (Value.int (sy_up σ.1 k b x k j))
        rw [sy_up_self]
        simp [upd, hj]
      | some r => rfl
theorem sy_ok1_2 {y : sy_M} {pc : Nat} {en : sy_I} (h : sy_ok1 y pc en = true) : sy_ok2 y pc en = true := by
  unfold sy_ok1 at h
  rw [Bool.and_eq_true] at h
  exact h.2
theorem sy_ok1_t {y : sy_M} {pc : Nat} {i : Instr} {a b : Nat} {v : Int32} {w : Int64} (h : sy_ok1 y pc (i, a, b, v, w) = true) : ∃ n, decode y.2.1 pc = .ok (i, n) := by
  unfold sy_ok1 at h
  rw [Bool.and_eq_true] at h
  have h := h.1
  split at h
  · rename_i i' n hd
    simp only [Bool.and_eq_true, decide_eq_true_eq, Bool.or_eq_true] at h
    obtain ⟨rfl, h2⟩ := h
    exact ⟨n, hd⟩
  · cases h
section SOUND
variable {sh : sy_Z} {y : sy_M} {Q : Option Value → sy_S → Prop} {l : Launch} {X : sy_X} {p : Program} {e : Env} {s : State} {m : MethodId} {args : Array Value} {below : List Frame} {meth : Method} {c : Code} {cf' : sy_Cf} {P : List Prop} {pc a b : Nat} {v : Int32} {w : Int64} {loc : List (Option Value)} {st : List Value} {σ : sy_S}
theorem sy_getf (C : sy_ctx y X p s m args meth c) {idx k n : Nat} {fs : List (Option Nat)} {f : Option Nat} {r : List Value} (hk : sy_ok1 y pc (.getfield idx, a, b, v, w) = true) (hz : sh[k]? = some (a + 4, n, fs)) (hf : fs[b]? = some f) {H : Heap} {locs : List Loc} {ls : Array Slot} {R : Room} {q : State → Prop} (hW : va_P X.1 vwCl (sy_w X sh σ) H)
    (kk : W p l e R s m args below meth c H locs 0 0 q (F0 m (pc + 3) ls (sy_fv X σ k b f :: r))) : W p l e R s m args below meth c H locs 0 0 q (F0 m pc ls (.ref (X.2.2 k) :: r)) := by
  obtain ⟨hx, hb, hr, hlocks, hml, hown, hts, hK, hcn⟩ := C
  have h2 := sy_ok1_2 hk
  have hd := sy_ok1_d hk rfl
  dsimp only [sy_ok2] at h2
  simp only [Bool.and_eq_true, Bool.or_eq_true, decide_eq_true_eq] at h2
  have he := sy_w_at (X := X) (σ := σ) hz
  obtain ⟨⟨C, T, N⟩, hc, -⟩ := hW k _ he
  have hc : vwCl[a]? = some (C, T, N) := hc
  have hin := (sy_cls hc).1
  have hN : b < N := by
    have h3 := h2.1
    unfold sy_inN at h3
    rw [hc] at h3
    simpa using h3
  have hv : (fs.mapIdx (sy_fv X σ k))[b]? = some (sy_fv X σ k b f) := by rw [List.getElem?_mapIdx, hf]; rfl
  rcases h2.2 with h3 | ⟨⟨h3, h4⟩, h5⟩
  · have hw := hts _ (sy_FLm h3)
    unfold sy_fw at hw
    simp only [hc] at hw
    rw [← hcn] at hw
    exact va_get hx hb hts hin hown hK.1 hW k he hc b hN hw (fun _ h9 => h9) hv hd kk
  · subst h4
    cases hc
    rw [h3] at hown
    rcases h5 with ⟨rfl, rfl⟩ | ⟨rfl, rfl⟩
    · exact va_getN hx hb hts hin hown hK.1 hW k he rfl 1 hN (va_Nw.use rfl hK.2.1) (fun _ h9 => h9) hv hd kk
    · exact va_getN hx hb hts hin hown hK.1 hW k he rfl 7 hN (va_Nw.use rfl hK.2.2.1) (fun _ h9 => h9) hv hd kk
set_option maxHeartbeats 4000000 in
theorem sy_one (C : sy_ctx y X p s m args meth c) {en : sy_I} {cf : sy_Cf} (hk : sy_ok1 y cf.1 en = true) (h : sy_x1 sh en cf = some (cf', P)) (hP : sy_all P) (kk : sy_at sh y Q l X p e s m args below meth c cf') : sy_at sh y Q l X p e s m args below meth c cf := by
  obtain ⟨hx, hb, hr, hlocks, hml, hown, hts, hK, hcn⟩ := id C
  obtain ⟨pc, loc, st, σ⟩ := cf
  obtain ⟨i, a, b, v, w⟩ := en
  intro H locs ls hW hD hS hl
  cases i with
  | aload_n k =>
    dsimp only [sy_x1] at h
    split at h
    · rename_i x hv
      cases h
      exact lv_aload_n hx hb (sy_ok1_d hk rfl) rfl (hl.2.2.2 _ _ hv) (kk H locs ls hW hD hS hl)
    · cases h
  | iload_n k =>
    dsimp only [sy_x1] at h
    split at h
    · rename_i x hv
      cases h
      exact lv_iload_n hx hb (sy_ok1_d hk rfl) rfl (hl.2.2.2 _ _ hv) (kk H locs ls hW hD hS hl)
    · cases h
  | lload_n k =>
    dsimp only [sy_x1] at h
    split at h
    · rename_i x hv
      cases h
      exact lv_lload_n hx hb (sy_ok1_d hk rfl) rfl (hl.2.2.2 _ _ hv) (kk H locs ls hW hD hS hl)
    · cases h
  | aload k =>
    dsimp only [sy_x1] at h
    split at h
    · rename_i x hv
      cases h
      exact lv_aload hx hb (sy_ok1_d hk rfl) (hl.2.2.2 _ _ hv) (kk H locs ls hW hD hS hl)
    · cases h
  | iload k =>
    dsimp only [sy_x1] at h
    split at h
    · rename_i x hv
      cases h
      exact lv_iload hx hb (sy_ok1_d hk rfl) (hl.2.2.2 _ _ hv) (kk H locs ls hW hD hS hl)
    · cases h
  | lload k =>
    dsimp only [sy_x1] at h
    split at h
    · rename_i x hv
      cases h
      exact lv_lload hx hb (sy_ok1_d hk rfl) (hl.2.2.2 _ _ hv) (kk H locs ls hW hD hS hl)
    · cases h
  | istore k =>
    dsimp only [sy_x1] at h
    split at h
    · split at h
      · rename_i hn
        cases h
        rw [hl.1] at hn
        exact lv_istore hx hb (sy_ok1_d hk rfl) hl.al hn rfl (fun ls hl' => kk H locs ls hW hD hS (hl.st1 (v := .int _) hn hl'))
      · cases h
    · cases h
  | istore_n k =>
    dsimp only [sy_x1] at h
    split at h
    · split at h
      · rename_i hn
        cases h
        rw [hl.1] at hn
        exact lv_istore_n hx hb (sy_ok1_d hk rfl) rfl hl.al hn rfl (fun ls hl' => kk H locs ls hW hD hS (hl.st1 (v := .int _) hn hl'))
      · cases h
    · cases h
  | astore k =>
    dsimp only [sy_x1] at h
    split at h
    · split at h
      · rename_i hn
        cases h
        rw [hl.1] at hn
        exact lv_astore hx hb (sy_ok1_d hk rfl) hl.al hn rfl (fun ls hl' => kk H locs ls hW hD hS (hl.st1 (v := .ref _) hn hl'))
      · cases h
    · cases h
  | astore_n k =>
    dsimp only [sy_x1] at h
    split at h
    · split at h
      · rename_i hn
        cases h
        rw [hl.1] at hn
        exact lv_astore_n hx hb (sy_ok1_d hk rfl) rfl hl.al hn rfl (fun ls hl' => kk H locs ls hW hD hS (hl.st1 (v := .ref _) hn hl'))
      · cases h
    · cases h
  | lstore k =>
    dsimp only [sy_x1] at h
    split at h
    · split at h
      · rename_i hn
        cases h
        rw [hl.1] at hn
        exact lv_lstore hx hb (sy_ok1_d hk rfl) hl.al hn rfl (fun ls hl' => kk H locs ls hW hD hS (hl.st2 (v := .long _) hn hl'))
      · cases h
    · cases h
  | lstore_n k =>
    dsimp only [sy_x1] at h
    split at h
    · split at h
      · rename_i hn
        cases h
        rw [hl.1] at hn
        exact lv_lstore_n hx hb (sy_ok1_d hk rfl) rfl hl.al hn rfl (fun ls hl' => kk H locs ls hW hD hS (hl.st2 (v := .long _) hn hl'))
      · cases h
    · cases h
  | iinc k n =>
    dsimp only [sy_x1] at h
    split at h
    · rename_i x hv
      cases h
      have hn : k < y.2.2.1 := by rw [← hl.1]; exact (List.getElem?_eq_some_iff.mp hv).1
      obtain ⟨k9, hk9⟩ := List.getElem?_of_mem (sy_al_mem (X := X) hv)
      exact lv_iinc hx hb (sy_ok1_d hk rfl) hl.al hk9 (by have h9 := sy_ok1_2 hk; dsimp only [sy_ok2] at h9; rw [of_decide_eq_true h9]) hn rfl (fun ls hl' => kk H locs ls hW hD hS (hl.st1 (v := .int _) hn hl'))
    · cases h
  | iconst n => cases h; exact lv_iconst hx hb (sy_ok1_d hk rfl) (by have h9 := sy_ok1_2 hk; dsimp only [sy_ok2] at h9; exact of_decide_eq_true h9) (kk H locs ls hW hD hS hl)
  | bipush n => cases h; exact lv_bipush hx hb (sy_ok1_d hk rfl) (by have h9 := sy_ok1_2 hk; dsimp only [sy_ok2] at h9; exact of_decide_eq_true h9) (kk H locs ls hW hD hS hl)
  | sipush n => cases h; exact lv_sipush hx hb (sy_ok1_d hk rfl) (by have h9 := sy_ok1_2 hk; dsimp only [sy_ok2] at h9; exact of_decide_eq_true h9) (kk H locs ls hW hD hS hl)
  | lconst n => cases h; exact lv_lconst hx hb (sy_ok1_d hk rfl) (by have h9 := sy_ok1_2 hk; dsimp only [sy_ok2] at h9; exact of_decide_eq_true h9) (kk H locs ls hW hD hS hl)
  | ldc n => cases h; exact lv_ldc hx hb hown (by rw [hcn]; exact hts _ (sy_CIm (sy_ok1_2 hk))) (sy_ok1_d hk rfl) (kk H locs ls hW hD hS hl)
  | ldc_w n => cases h; exact lv_ldcw hx hb hown (by rw [hcn]; exact hts _ (sy_CIm (sy_ok1_2 hk))) (sy_ok1_d hk rfl) (kk H locs ls hW hD hS hl)
  | ldc2_w n => cases h; exact lv_ldc2 hx hb hown (by rw [hcn]; exact hts _ (sy_CJm (sy_ok1_2 hk))) (sy_ok1_d hk rfl) (kk H locs ls hW hD hS hl)
  | iadd =>
    dsimp only [sy_x1] at h
    split at h
    · cases h
      exact lv_iadd hx hb (sy_ok1_d hk rfl) (kk H locs ls hW hD hS hl)
    · cases h
  | isub =>
    dsimp only [sy_x1] at h
    split at h
    · cases h
      exact lv_isub hx hb (sy_ok1_d hk rfl) (kk H locs ls hW hD hS hl)
    · cases h
  | imul =>
    dsimp only [sy_x1] at h
    split at h
    · cases h
      exact lv_imul hx hb (sy_ok1_d hk rfl) (kk H locs ls hW hD hS hl)
    · cases h
  | iand =>
    dsimp only [sy_x1] at h
    split at h
    · cases h
      exact lv_iand hx hb (sy_ok1_d hk rfl) (kk H locs ls hW hD hS hl)
    · cases h
  | ior =>
    dsimp only [sy_x1] at h
    split at h
    · cases h
      exact lv_ior hx hb (sy_ok1_d hk rfl) (kk H locs ls hW hD hS hl)
    · cases h
  | ixor =>
    dsimp only [sy_x1] at h
    split at h
    · cases h
      exact lv_ixor hx hb (sy_ok1_d hk rfl) (kk H locs ls hW hD hS hl)
    · cases h
  | ishl =>
    dsimp only [sy_x1] at h
    split at h
    · cases h
      exact lv_ishl hx hb (sy_ok1_d hk rfl) (kk H locs ls hW hD hS hl)
    · cases h
  | ishr =>
    dsimp only [sy_x1] at h
    split at h
    · cases h
      exact lv_ishr hx hb (sy_ok1_d hk rfl) (kk H locs ls hW hD hS hl)
    · cases h
  | ladd =>
    dsimp only [sy_x1] at h
    split at h
    · cases h
      exact lv_ladd hx hb (sy_ok1_d hk rfl) (kk H locs ls hW hD hS hl)
    · cases h
  | lsub =>
    dsimp only [sy_x1] at h
    split at h
    · cases h
      exact lv_lsub hx hb (sy_ok1_d hk rfl) (kk H locs ls hW hD hS hl)
    · cases h
  | lmul =>
    dsimp only [sy_x1] at h
    split at h
    · cases h
      exact lv_lmul hx hb (sy_ok1_d hk rfl) (kk H locs ls hW hD hS hl)
    · cases h
  | iushr =>
    dsimp only [sy_x1] at h
    split at h
    · cases h
      exact lv_iushr hx hb (sy_ok1_d hk rfl) rfl (kk H locs ls hW hD hS hl)
    · cases h
  | i2l =>
    dsimp only [sy_x1] at h
    split at h
    · cases h
      exact lv_i2l hx hb (sy_ok1_d hk rfl) rfl (kk H locs ls hW hD hS hl)
    · cases h
  | idiv =>
    dsimp only [sy_x1] at h
    split at h
    · cases h
      exact lv_idiv hx hb (sy_ok1_d hk rfl) hP.1 (kk H locs ls hW hD hS hl)
    · cases h
  | irem =>
    dsimp only [sy_x1] at h
    split at h
    · cases h
      exact lv_irem hx hb (sy_ok1_d hk rfl) hP.1 (kk H locs ls hW hD hS hl)
    · cases h
  | ldiv =>
    dsimp only [sy_x1] at h
    split at h
    · cases h
      exact lv_ldiv hx hb (sy_ok1_d hk rfl) hP.1 (kk H locs ls hW hD hS hl)
    · cases h
  | lcmp =>
    dsimp only [sy_x1] at h
    split at h
    · cases h
      exact W.lcmp hx hb (sy_ok1_d hk rfl) (kk H locs ls hW hD hS hl)
    · cases h
  | dup =>
    dsimp only [sy_x1] at h
    split at h
    · cases h
      exact lv_dup hx hb (sy_ok1_d hk rfl) rfl (kk H locs ls hW hD hS hl)
    · cases h
      exact lv_dup hx hb (sy_ok1_d hk rfl) rfl (kk H locs ls hW hD hS hl)
    · cases h
  | dup2 =>
    dsimp only [sy_x1] at h
    split at h
    · cases h
      exact lv_dup2_11 hx hb (sy_ok1_d hk rfl) rfl rfl (kk H locs ls hW hD hS hl)
    · cases h
  | pop =>
    dsimp only [sy_x1] at h
    split at h
    · cases h
      exact lv_pop hx hb (sy_ok1_d hk rfl) rfl (kk H locs ls hW hD hS hl)
    · cases h
  | iaload =>
    dsimp only [sy_x1] at h
    split at h
    · rename_i j k r
      cases h
      obtain ⟨⟨n, fs, hz, hin⟩, -⟩ := hP
      exact va_iald hx hb hK.1 hW k 0 (sy_w_at hz) rfl hin (sy_ok1_d hk rfl) (kk H locs ls hW hD hS hl)
    · cases h
  | baload =>
    dsimp only [sy_x1] at h
    split at h
    · rename_i j k r
      cases h
      obtain ⟨⟨n, fs, hz, hin⟩, -⟩ := hP
      exact va_zald hx hb hK.1 hW k 1 (sy_w_at hz) rfl hin (sy_ok1_d hk rfl) (kk H locs ls hW hD hS hl)
    · cases h
  | laload =>
    dsimp only [sy_x1] at h
    split at h
    · rename_i j k r
      cases h
      obtain ⟨⟨n, fs, hz, hin⟩, -⟩ := hP
      exact va_lald hx hb hK.1 hW k 2 (sy_w_at hz) rfl hin (sy_ok1_d hk rfl) (kk H locs ls hW hD hS hl)
    · cases h
  | iastore =>
    dsimp only [sy_x1] at h
    split at h
    · rename_i x j k r
      cases h
      obtain ⟨⟨n, fs, hz, hin⟩, -⟩ := hP
      exact va_iast hx hb hK.1 hW hD hS k 0 (sy_w_at hz) rfl hin (sy_ok1_d hk rfl) (fun H1 locs1 h1 h2 h3 => kk H1 locs1 ls (by rw [sy_setI hz] at h1; exact h1) (sy_D hD) h3 hl)
    · cases h
  | bastore =>
    dsimp only [sy_x1] at h
    split at h
    · rename_i x j k r
      cases h
      obtain ⟨⟨n, fs, hz, hin⟩, -⟩ := hP
      exact va_zast hx hb hK.1 hW hD hS k 1 (sy_w_at hz) rfl hin (sy_ok1_d hk rfl) (fun H1 locs1 h1 h2 h3 => kk H1 locs1 ls (by rw [sy_setB hz] at h1; exact h1) (sy_D hD) h3 hl)
    · cases h
  | lastore =>
    dsimp only [sy_x1] at h
    split at h
    · rename_i x j k r
      cases h
      obtain ⟨⟨n, fs, hz, hin⟩, -⟩ := hP
      exact va_last hx hb hK.1 hW hD hS k 2 (sy_w_at hz) rfl hin (sy_ok1_d hk rfl) (fun H1 locs1 h1 h2 h3 => kk H1 locs1 ls (by rw [sy_setL hz] at h1; exact h1) (sy_D hD) h3 hl)
    · cases h
  | aaload =>
    dsimp only [sy_x1] at h
    split at h
    · rename_i j k r
      cases h
      obtain ⟨⟨n, fs, q, hz, hin, hq⟩, -⟩ := hP
      have hlt : j.toNatClampNeg < n := Nat.not_le.mp fun q => hin (Or.inr q)
      have ha := hW k _ (sy_w_at hz)
      have e2 : (fs.getD j.toNatClampNeg none).map X.2.2 = some (X.2.2 q) := by rw [List.getD_eq_getElem?_getD, hq]; rfl
      have e3 : sy_rf sh k j.toNatClampNeg = q := by unfold sy_rf; rw [hz]; show (fs.getD j.toNatClampNeg none).getD 0 = q; rw [List.getD_eq_getElem?_getD, hq]; rfl
      have k2 := kk H locs ls hW hD hS hl
      rw [show (pc + 1, loc, Value.ref (sy_rf sh k j.toNatClampNeg) :: r, σ) = (pc + 1, loc, Value.ref q :: r, σ) by rw [e3]] at k2
      refine W.aald (v := .ref (X.2.2 q)) (ty := .array .int) hx hb ha ((hK.1.2 3 _ rfl).1 n (fun j => va_rf ((fs.getD j none).map X.2.2))) rfl (fun q => by cases q) ?_ ?_ rfl rfl (sy_ok1_d hk rfl) k2
      · show ¬ (j < 0 ∨ (arrV _ _ _).slots.size ≤ _)
        rw [arrV_size]
        exact hin
      · show (arrV _ n (fun j => va_rf ((fs.getD j none).map X.2.2))).slots[_]? = _
        rw [arrV_read _ _ hlt, e2]
        rfl
    · cases h
  | arraylength =>
    dsimp only [sy_x1] at h
    split at h
    · rename_i k r
      cases h
      obtain ⟨⟨t, n, fs, hz, ht⟩, -⟩ := hP
      have k2 := kk H locs ls hW hD hS hl
      have e3 : sy_len sh k = Int32.ofNat n := by unfold sy_len; rw [hz]
      rw [show (pc + 1, loc, Value.int (sy_len sh k) :: r, σ) = (pc + 1, loc, Value.int (Int32.ofNat n) :: r, σ) by rw [e3]] at k2
      match t, ht, hz with
      | 0, _, hz => exact va_alen hx hb hK.1 hW k 0 (sy_w_at hz) rfl rfl (sy_ok1_d hk rfl) k2
      | 1, _, hz => exact va_alen hx hb hK.1 hW k 1 (sy_w_at hz) rfl rfl (sy_ok1_d hk rfl) k2
      | 2, _, hz => exact va_alen hx hb hK.1 hW k 2 (sy_w_at hz) rfl rfl (sy_ok1_d hk rfl) k2
      | 3, _, hz => exact va_alen hx hb hK.1 hW k 3 (sy_w_at hz) rfl rfl (sy_ok1_d hk rfl) k2
    · cases h
  | getfield idx =>
    dsimp only [sy_x1] at h
    split at h
    · rename_i k r
      split at h
      · rename_i t n fs hz
        split at h
        · rename_i ht
          subst ht
          split at h
          · rename_i hf
            cases h
            exact sy_getf C hk hz hf hW (kk H locs ls hW hD hS hl)
          · rename_i q hf
            cases h
            exact sy_getf C hk hz hf hW (kk H locs ls hW hD hS hl)
          · cases h
        · cases h
      · cases h
    · cases h
  | putfield idx =>
    dsimp only [sy_x1] at h
    split at h
    · rename_i x k r
      split at h
      · rename_i t n fs hz
        split at h
        · rename_i ht
          subst ht
          split at h
          · rename_i hf
            cases h
            have h2 := sy_ok1_2 hk
            dsimp only [sy_ok2] at h2
            simp only [Bool.and_eq_true] at h2
            have he := sy_w_at (X := X) (σ := σ) hz
            obtain ⟨⟨C9, T, N⟩, hc, -⟩ := hW k _ he
            have hc : vwCl[a]? = some (C9, T, N) := hc
            obtain ⟨hin, hty, hnm⟩ := sy_cls hc
            have h3 := h2.2
            unfold sy_nonfinal at h3
            rw [hc] at h3
            simp only [Bool.and_eq_true, Bool.not_eq_true', decide_eq_true_eq] at h3
            have hw := hts _ (sy_FLm h2.1)
            unfold sy_fw at hw
            simp only [hc] at hw
            rw [← hcn] at hw
            refine va_put (ty := .int) hx hb hts hin (sy_ty a) hty hnm hown hK.1 hW hD hS k he hc b h3.1.2 hw (fun _ h9 => h9) h3.1.1 (by rw [h3.2]; decide +kernel) rfl rfl (by rw [List.length_mapIdx]; exact (List.getElem?_eq_some_iff.mp hf).1) (sy_ok1_d hk rfl) (fun H1 locs1 h1 h2 h3 => kk H1 locs1 ls (show va_P X.1 vwCl (sy_w X sh (sy_up σ.1 k b x, σ.2)) H1 by rw [← sy_setF (σ := σ) hz hf]; exact h1) (sy_D hD) h3 hl)
          · cases h
        · cases h
      · cases h
    · cases h
  | goto off => cases h; exact lv_goto hx hb (sy_ok1_d hk rfl) (by simpa [sy_ok2] using sy_ok1_2 hk) (kk H locs ls hW hD hS hl)
  | ifCond c0 off =>
    have ht : (pc : Int) + off = (b : Int) := by simpa [sy_ok2] using sy_ok1_2 hk
    dsimp only [sy_x1] at h
    split at h
    · split at h
      · cases h
        cases c0
        · exact lv_if_eq hx hb (sy_ok1_d hk rfl) ht (fun _ => kk H locs ls hW hD hS hl) (fun q => absurd hP.1 q)
        · exact lv_if_ne hx hb (sy_ok1_d hk rfl) ht (fun _ => kk H locs ls hW hD hS hl) (fun q => absurd q hP.1)
        · exact lv_if_lt hx hb (sy_ok1_d hk rfl) ht (fun _ => kk H locs ls hW hD hS hl) (fun q => absurd hP.1 q)
        · exact lv_if_ge hx hb (sy_ok1_d hk rfl) ht (fun _ => kk H locs ls hW hD hS hl) (fun q => absurd hP.1 q)
        · exact lv_if_gt hx hb (sy_ok1_d hk rfl) ht (fun _ => kk H locs ls hW hD hS hl) (fun q => absurd hP.1 q)
        · exact lv_if_le hx hb (sy_ok1_d hk rfl) ht (fun _ => kk H locs ls hW hD hS hl) (fun q => absurd hP.1 q)
      · cases h
        cases c0
        · exact lv_if_eq hx hb (sy_ok1_d hk rfl) ht (fun q => absurd q hP.1) (fun _ => kk H locs ls hW hD hS hl)
        · exact lv_if_ne hx hb (sy_ok1_d hk rfl) ht (fun q => absurd q hP.1) (fun _ => kk H locs ls hW hD hS hl)
        · exact lv_if_lt hx hb (sy_ok1_d hk rfl) ht (fun q => absurd q hP.1) (fun _ => kk H locs ls hW hD hS hl)
        · exact lv_if_ge hx hb (sy_ok1_d hk rfl) ht (fun q => absurd q hP.1) (fun _ => kk H locs ls hW hD hS hl)
        · exact lv_if_gt hx hb (sy_ok1_d hk rfl) ht (fun q => absurd q hP.1) (fun _ => kk H locs ls hW hD hS hl)
        · exact lv_if_le hx hb (sy_ok1_d hk rfl) ht (fun q => absurd q hP.1) (fun _ => kk H locs ls hW hD hS hl)
    · cases h
  | if_icmp c0 off =>
    have ht : (pc : Int) + off = (b : Int) := by simpa [sy_ok2] using sy_ok1_2 hk
    dsimp only [sy_x1] at h
    split at h
    · split at h
      · cases h
        cases c0
        · exact lv_icmp_eq hx hb (sy_ok1_d hk rfl) ht (fun _ => kk H locs ls hW hD hS hl) (fun q => absurd hP.1 q)
        · exact lv_icmp_ne hx hb (sy_ok1_d hk rfl) ht (fun _ => kk H locs ls hW hD hS hl) (fun q => absurd q hP.1)
        · exact lv_icmp_lt hx hb (sy_ok1_d hk rfl) ht (fun _ => kk H locs ls hW hD hS hl) (fun q => absurd hP.1 q)
        · exact lv_icmp_ge hx hb (sy_ok1_d hk rfl) ht (fun _ => kk H locs ls hW hD hS hl) (fun q => absurd hP.1 q)
        · exact lv_icmp_gt hx hb (sy_ok1_d hk rfl) ht (fun _ => kk H locs ls hW hD hS hl) (fun q => absurd hP.1 q)
        · exact lv_icmp_le hx hb (sy_ok1_d hk rfl) ht (fun _ => kk H locs ls hW hD hS hl) (fun q => absurd hP.1 q)
      · cases h
        cases c0
        · exact lv_icmp_eq hx hb (sy_ok1_d hk rfl) ht (fun q => absurd q hP.1) (fun _ => kk H locs ls hW hD hS hl)
        · exact lv_icmp_ne hx hb (sy_ok1_d hk rfl) ht (fun q => absurd q hP.1) (fun _ => kk H locs ls hW hD hS hl)
        · exact lv_icmp_lt hx hb (sy_ok1_d hk rfl) ht (fun q => absurd q hP.1) (fun _ => kk H locs ls hW hD hS hl)
        · exact lv_icmp_ge hx hb (sy_ok1_d hk rfl) ht (fun q => absurd q hP.1) (fun _ => kk H locs ls hW hD hS hl)
        · exact lv_icmp_gt hx hb (sy_ok1_d hk rfl) ht (fun q => absurd q hP.1) (fun _ => kk H locs ls hW hD hS hl)
        · exact lv_icmp_le hx hb (sy_ok1_d hk rfl) ht (fun q => absurd q hP.1) (fun _ => kk H locs ls hW hD hS hl)
    · cases h
  | tableswitch dflt lo hi offs =>
    obtain ⟨n9, hd⟩ := sy_ok1_t hk
    have h2 := sy_ok1_2 hk
    dsimp only [sy_x1] at h
    dsimp only [sy_ok2] at h2
    split at h
    · split at h
      · rename_i ha
        cases h
        rw [if_pos ha] at h2
        split at h2
        · rename_i off ho
          simp only [Bool.and_eq_true, decide_eq_true_eq] at h2
          have hv := hP.1
          rw [← hv] at h2 ho
          exact lv_tableIn hx hb hd (by omega) (by omega) (off := off) ho h2.1.1 (kk H locs ls hW hD hS hl)
        · cases h2
      · rename_i ha
        cases h
        rw [if_neg ha] at h2
        exact lv_tableOut hx hb hd hP.1 (by simpa using h2) (kk H locs ls hW hD hS hl)
    · cases h
  | _ => exact nomatch (show (none : Option (sy_Cf × List Prop)) = some _ from h)
end SOUND
