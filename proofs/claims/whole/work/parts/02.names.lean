/-- (wanting in the kit, named by its printed rows) the tables' word on arrays of arrays -/
def va_AOA (ty : FieldType) (U : State) : Prop := (Cond.arrayOver (.array ty)).before #[] U = true
theorem va_AOA.of {ty : FieldType} {A : Array Value} {U : State} (h : (Cond.arrayOver (.array ty)).before A U = true) : va_AOA ty U := h
theorem va_AOA.use {ty : FieldType} {A : Array Value} {U : State} (h : va_AOA ty U) : (Cond.arrayOver (.array ty)).before A U = true := h
/-! ===== BEGIN words of one list among another's, by their places ===== -/
theorem goodIn_r {big : List Cond} (ws : List Cond) (ps : List Nat) (hp : ws = ps.filterMap (fun i => big[i]?)) (h : ws.all goodWord = true) : GoodIn big ws := by
  intro w hw
  have h1 := List.all_eq_true.mp h w hw
  rw [hp] at hw
  obtain ⟨i, -, hi⟩ := List.mem_filterMap.mp hw
  have hm : w ∈ big := by first | exact List.mem_of_getElem? hi | exact List.getElem?_mem hi
  exact ⟨hm, good_of_word h1⟩
theorem goodIn_app {big a b : List Cond} (ha : GoodIn big a) (hb : GoodIn big b) : GoodIn big (a ++ b) := fun w h => (List.mem_append.mp h).elim (ha w) (hb w)
theorem goodIn_ca {big a b : List Cond} {c : Cond} (ha : GoodIn big (c :: a)) (hb : GoodIn big b) : GoodIn big (c :: (a ++ b)) := fun w h => (List.mem_cons.mp h).elim (fun e => ha w (List.mem_cons.mpr (Or.inl e))) (fun h => (List.mem_append.mp h).elim (fun h => ha w (List.mem_cons.mpr (Or.inr h))) (hb w))
theorem goodIn_sub {big ws : List Cond} (hm : ∀ w ∈ ws, w ∈ big) (h : ws.all goodWord = true) : GoodIn big ws := fun w hw => ⟨hm w hw, good_of_word (List.all_eq_true.mp h w hw)⟩
/-! ===== END ===== -/

/-! ===== BEGIN new T[n][m]: the outer array a place, the inner ones among the pooled ===== -/
/-- f, but v at every address of l -/
def vr_up {α : Type} (f : Nat → α) (l : List Nat) (v : α) : Nat → α := fun a => if a ∈ l then v else f a
theorem vr_up_in {α : Type} {f : Nat → α} {l : List Nat} {v : α} {a : Nat} (h : a ∈ l) : vr_up f l v a = v := if_pos h
theorem vr_up_ne {α : Type} {f : Nat → α} {l : List Nat} {v : α} {a : Nat} (h : a ∉ l) : vr_up f l v a = f a := if_neg h
theorem vr_rows {L l : List Nat} {f : Nat → va_E} {e : va_E} (h : ∀ a, a ∈ l → a ∉ L) : va_pl L f ++ l.map (fun a => (a, e)) = va_pl (L ++ l) (vr_up f l e) := by
  unfold va_pl
  rw [List.map_append]
  congr 1
  · apply List.map_congr_left
    intro a ha
    rw [vr_up_ne (fun q => h a q ha)]
  · apply List.map_congr_left
    intro a ha
    rw [vr_up_in ha]
theorem vr_lay {X rows : va_W} {x : Nat × va_E} {pl : va_W} {D : va_G} {cl : List vw_C} {H : Heap} (hP : va_P D cl (((X ++ pl) ++ [x]) ++ rows) H) : va_P D cl ((X ++ [x]) ++ (pl ++ rows)) H := by
  rw [List.append_assoc (X ++ pl)] at hP
  have h := va_P.swap hP
  rw [← List.append_assoc X] at h
  have h2 := va_P.swap h
  rw [List.append_assoc (X ++ [x])] at h2
  exact h2
theorem vr_layD {X rows : va_W} {x : Nat × va_E} {pl : va_W} {A : Nat → Prop} (hD : va_D A (((X ++ pl) ++ [x]) ++ rows)) : va_D A ((X ++ [x]) ++ (pl ++ rows)) := by
  rw [List.append_assoc (X ++ pl)] at hD
  have h := va_D.swap hD
  rw [← List.append_assoc X] at h
  have h2 := va_D.swap h
  rw [List.append_assoc (X ++ [x])] at h2
  exact h2
theorem vr_outer (c : ClassId) (N h0 : Nat) : ∀ i : Nat, Jvm.Free.Multi.outerC c N h0 i = arrV c N (fun j => va_rf (if j < i then some (h0 + 1 + j) else none))
  | 0 => by
    show ({ cls := c, slots := Array.replicate N .null, vm := .none } : Cell) = _
    rw [arrV_new]
    refine congrArg (arrV c N) (funext fun j => ?_)
    simp [va_rf]
  | i + 1 => by
    show (Jvm.Free.Multi.outerC c N h0 i).setSlot i (.ref (h0 + 1 + i)) = _
    rw [vr_outer c N h0 i, arrV_store]
    refine congrArg (arrV c N) (funext fun j => ?_)
    by_cases e : j = i
    · subst e
      simp [updV, va_rf]
    · by_cases h : j < i
      · simp [updV, e, h, Nat.lt_succ_of_lt h]
      · simp [updV, e, h, show ¬ j < i + 1 by omega]
section VGM
variable {p : Program} {l : Launch} {e : Env} {R : Room} {s : State} {m : MethodId} {args : Array Value} {below : List Frame} {meth : Method} {c : Code} {H : Heap} {locs : List Loc} {cells slots : Nat} {Q : State → Prop}
variable {cc : ByteArray} {pc : Nat} {ls : Array Slot} {rest : List Value} {D : va_G} {cl : List vw_C} {A : Nat → Prop} {a : Nat} {tys : List (ClassId × FieldType)} {ws : va_W} {H0 : Heap}
theorem va_mna {X : va_W} {L : List Nat} {f : Nat → va_E} {cc : ByteArray} (hexec : p.tables.exec = Jvm.exec) (hb : c.code = cc) {own : String} {index : Nat} {ty : FieldType} {cy : ClassId} (hown : s.vm.findClass own = some m.cls) (hclink : (Cond.classLink own index ("[" ++ (FieldType.array ty).toString)).before args s = true) (hover : va_AOA ty s) (harr : (Cond.arrayClass ty).before args s = true) (hcy : s.vm.findClass (FieldType.array ty).toString = some cy)
    (hK : va_K D cl tys s) (hP : va_P D cl (X ++ va_pl L f) H) (hD : va_D A (X ++ va_pl L f)) (hS : va_S A H0 H locs) (hA : ∀ q, H0.size ≤ q → A q) {n k : Int32} {N' K' : Nat} {z : vp_A} (hn : ¬ n < 0) (hk : ¬ k < 0) (hN : n.toNatClampNeg = N') (hM : k.toNatClampNeg = K')
    (hb1 : N' * 4 ≤ 536870912) (hb2 : K' * componentBytes ty ≤ 536870912) (hb3 : K' ≤ 536870912) (hdf : fits ty (defaultValue ty) = true) (hdd : (defaultValue ty).isDefault = true) (hcells : cells + (1 + N') ≤ R.cells) (hslots : slots + (N' + N' * K') ≤ R.slots) (hz : ∀ c : ClassId, Jvm.Free.Multi.innerC c K' (defaultValue ty) = vp_cell c z) (hdg : decode cc pc = .ok (.multianewarray index 2, 4))
    (kk : ∀ (q : Nat) (r : Nat → Nat) (cA : ClassId) (H1 : Heap), (∀ i j : Nat, i < N' → j < N' → r i = r j → i = j) → (∀ i : Nat, i < N' → r i ∉ L) → va_K D cl (tys ++ [(cA, .array ty)]) s →
      va_P D cl ((X ++ [(q, .inl (cA, N', .inr (.inr (.inr (.inr (fun i => if i < N' then some (r i) else none))))))]) ++ va_pl (L ++ (List.range N').map r) (vr_up f ((List.range N').map r) (.inl (cy, z)))) H1 → va_D A ((X ++ [(q, .inl (cA, N', .inr (.inr (.inr (.inr (fun i => if i < N' then some (r i) else none))))))]) ++ va_pl (L ++ (List.range N').map r) (vr_up f ((List.range N').map r) (.inl (cy, z)))) → va_S A H0 H1 locs →
      W p l e R s m args below meth c H1 locs (cells + 1 + N') (slots + N' + N' * K') Q (F0 m (pc + 4) ls (.ref q :: rest))) : W p l e R s m args below meth c H locs cells slots Q (F0 m pc ls (.int k :: .int n :: rest)) := by
  subst hN
  subst hM
  intro T hT Xs
  obtain ⟨vm₁, cA, comp, -, fA, fC, hO, -, X', step⟩ := Xs.multianewarray2F hexec hown hclink (va_AOA.use hover) harr (g := F0 m pc ls (.int k :: .int n :: rest)) rfl (by rw [hb]; exact hdg) rfl hn hk hb1 hb2 hb3 hdf hdd hcells hslots
  have ec : some cy = some comp := hcy.symm.trans fC
  cases ec
  generalize hF : Jvm.Free.Multi.fill (T.setVm vm₁) cA cy n.toNatClampNeg k.toNatClampNeg (defaultValue ty) n.toNatClampNeg = F at X' step
  have hTh : (T.setVm vm₁).heap = H := hT
  obtain ⟨f1, f2, -, -⟩ := Jvm.Free.Multi.fill_facts (T.setVm vm₁) cA cy n.toNatClampNeg k.toNatClampNeg (defaultValue ty) n.toNatClampNeg
  rw [hF, hTh] at f1 f2
  have hold : ∀ x : Nat, x < H.size → F.heap[x]? = H[x]? := fun x hx => by
    have := Jvm.Free.Multi.fill_old (T.setVm vm₁) cA cy n.toNatClampNeg k.toNatClampNeg (defaultValue ty) (a := x) (by rw [hTh]; exact hx) n.toNatClampNeg
    rw [hF, hTh] at this
    exact this
  have hrow : ∀ j : Nat, j < n.toNatClampNeg → F.heap[H.size + 1 + j]? = some (vp_cell cy z) := fun j hj => by
    have := Jvm.Free.Multi.fill_inner (T.setVm vm₁) cA cy n.toNatClampNeg k.toNatClampNeg (defaultValue ty) n.toNatClampNeg j hj
    rw [hF, hTh, hz] at this
    exact this
  have hout : Jvm.Free.Multi.outerC cA n.toNatClampNeg H.size n.toNatClampNeg = vp_cell cA (n.toNatClampNeg, .inr (.inr (.inr (.inr (fun i => if i < n.toNatClampNeg then some (H.size + 1 + i) else none))))) := by
    rw [vp_cell_q]
    exact vr_outer cA n.toNatClampNeg H.size n.toNatClampNeg
  rw [hout] at f2
  have hlt : ∀ a, a ∈ L → a < H.size := fun a ha => by
    obtain ⟨k9, hk9⟩ := va_pl_get (X := X) (f := f) ha
    exact (hP k9 _ hk9).lt
  have hnl : ∀ i : Nat, i < n.toNatClampNeg → H.size + 1 + i ∉ L := fun i _ h => by
    have := hlt _ h
    omega
  have hnm : ∀ a, a ∈ (List.range n.toNatClampNeg).map (fun i => H.size + 1 + i) → a ∉ L := fun a ha h => by
    obtain ⟨i, -, rfl⟩ := List.mem_map.mp ha
    have := hlt _ h
    omega
  have hP0 : va_P D cl (X ++ va_pl L f) F.heap := hP.kept (fun k9 x hx => hold x.1 ((hP k9 x hx).lt))
  have hP1 : va_P D cl ((X ++ va_pl L f) ++ [(H.size, .inl (cA, n.toNatClampNeg, .inr (.inr (.inr (.inr (fun i => if i < n.toNatClampNeg then some (H.size + 1 + i) else none))))))]) F.heap := hP0.app (fun k9 x hx => by
    have h0 : k9 < 1 := (List.getElem?_eq_some_iff.mp hx).1
    rw [show k9 = 0 by omega] at hx
    cases hx
    exact f2)
  have hP2 : va_P D cl (((X ++ va_pl L f) ++ [(H.size, .inl (cA, n.toNatClampNeg, .inr (.inr (.inr (.inr (fun i => if i < n.toNatClampNeg then some (H.size + 1 + i) else none))))))]) ++ ((List.range n.toNatClampNeg).map (fun i => H.size + 1 + i)).map (fun a => (a, .inl (cy, z)))) F.heap := hP1.app (fun k9 x hx => by
    obtain ⟨a, ha, rfl⟩ := List.mem_map.mp (List.mem_of_getElem? hx)
    obtain ⟨i, hi, rfl⟩ := List.mem_map.mp ha
    exact hrow i (List.mem_range.mp hi))
  have hD2 : va_D A (((X ++ va_pl L f) ++ [(H.size, .inl (cA, n.toNatClampNeg, .inr (.inr (.inr (.inr (fun i => if i < n.toNatClampNeg then some (H.size + 1 + i) else none))))))]) ++ ((List.range n.toNatClampNeg).map (fun i => H.size + 1 + i)).map (fun a => (a, .inl (cy, z)))) := by
    have hD1 := hD.push (e := .inl (cA, n.toNatClampNeg, .inr (.inr (.inr (.inr (fun i => if i < n.toNatClampNeg then some (H.size + 1 + i) else none)))))) hP rfl (hA _ hS.1)
    generalize hW1 : (X ++ va_pl L f) ++ [(H.size, .inl (cA, n.toNatClampNeg, .inr (.inr (.inr (.inr (fun i => if i < n.toNatClampNeg then some (H.size + 1 + i) else none))))))] = W1 at hD1 hP1 ⊢
    have hle : ∀ (k9 : Nat) (x : Nat × va_E), W1[k9]? = some x → x.1 ≤ H.size := fun k9 x hx => by
      rw [← hW1] at hx
      by_cases hl : k9 < (X ++ va_pl L f).length
      · rw [List.getElem?_append_left hl] at hx
        exact Nat.le_of_lt ((hP k9 x hx).lt)
      · rw [List.getElem?_append_right (by omega)] at hx
        have h0 : k9 - (X ++ va_pl L f).length < 1 := (List.getElem?_eq_some_iff.mp hx).1
        rw [show k9 - (X ++ va_pl L f).length = 0 by omega] at hx
        cases hx
        exact Nat.le_refl _
    have hr : ∀ (k9 : Nat) (x : Nat × va_E), (((List.range n.toNatClampNeg).map (fun i => H.size + 1 + i)).map (fun a => ((a, .inl (cy, z)) : Nat × va_E)))[k9]? = some x → x.1 = H.size + 1 + k9 := fun k9 x hx => by
      rw [List.getElem?_map, List.getElem?_map] at hx
      by_cases h9 : k9 < n.toNatClampNeg
      · rw [List.getElem?_range h9] at hx
        cases hx
        rfl
      · have hn0 : (List.range n.toNatClampNeg)[k9]? = none := List.getElem?_eq_none (by rw [List.length_range]; omega)
        rw [hn0] at hx
        cases hx
    refine ⟨fun i j x y hi hj hxy => ?_, fun k9 x hx => ?_⟩
    · by_cases h1 : i < W1.length <;> by_cases h2 : j < W1.length
      · rw [List.getElem?_append_left h1] at hi
        rw [List.getElem?_append_left h2] at hj
        exact hD1.1 i j x y hi hj hxy
      · rw [List.getElem?_append_left h1] at hi
        rw [List.getElem?_append_right (by omega)] at hj
        have := hle _ _ hi
        have := hr _ _ hj
        omega
      · rw [List.getElem?_append_right (by omega)] at hi
        rw [List.getElem?_append_left h2] at hj
        have := hle _ _ hj
        have := hr _ _ hi
        omega
      · rw [List.getElem?_append_right (by omega)] at hi hj
        have := hr _ _ hi
        have := hr _ _ hj
        omega
    · by_cases h1 : k9 < W1.length
      · rw [List.getElem?_append_left h1] at hx
        exact hD1.2 k9 x hx
      · rw [List.getElem?_append_right (by omega)] at hx
        have := hr _ _ hx
        exact hA _ (by have := hS.1; omega)
  have hAr : ArrOfT s cA (.array ty) := fun N9 z9 => by
    obtain ⟨-, k9, hk9, cm9, hkk9⟩ := (hO 0 0 0).1
    exact ⟨(fun q hq => by cases hq), k9, hk9, cm9, hkk9⟩
  have hK2 : va_K D cl (tys ++ [(cA, .array ty)]) s := ⟨hK.1, fun k9 x hx => by
    by_cases hl : k9 < tys.length
    · rw [List.getElem?_append_left hl] at hx
      exact hK.2 k9 x hx
    · rw [List.getElem?_append_right (by omega)] at hx
      have h0 : k9 - tys.length < 1 := (List.getElem?_eq_some_iff.mp hx).1
      rw [show k9 - tys.length = 0 by omega] at hx
      cases hx
      exact ⟨hAr, fA⟩⟩
  obtain ⟨t, a1, b1⟩ := kk H.size (fun i => H.size + 1 + i) cA F.heap (fun i j _ _ h => by have h9 : H.size + 1 + i = H.size + 1 + j := h; omega) hnl hK2 (by rw [← vr_rows hnm]; exact vr_lay hP2) (by rw [← vr_rows hnm]; exact vr_layD hD2) ⟨by rw [f1]; have := hS.1; omega, fun x h1 h2 => (hold x (Nat.lt_of_lt_of_le h1 hS.1)).trans (hS.2.1 x h1 h2), hS.2.2⟩ F rfl X'
  refine ⟨t, step t ?_, b1⟩
  have e : T.heap.size = H.size := by rw [hT]
  rw [e]
  exact a1
end VGM
/-! ===== END ===== -/

/-! ===== BEGIN printed: names, fields, word lists, decode rows ===== -/
def RX0 : String := "SandGroup$Changes"
def TX0 : u_T := fun k => match k with
  | 0 => ("SandGroup$Changes", "states", "[[I", true)
  | 1 => ("SandGroup$Changes", "now", "I", false)
  | _ => ("SandGroup$Changes", "last", "I", false)
def tyX0 : Nat → FieldType := fun k => match k with
  | 0 => .array (.array .int)
  | 1 => .int
  | _ => .int
abbrev wsX00 : List Cond := u_ws RX0 TX0 3
theorem nmX0 : ∀ a, a < 3 → ∀ b, b < 3 → a ≠ b → (TX0 a).2.1 ≠ (TX0 b).2.1 := by decide +kernel
theorem tyX0_ok : ∀ k, k < 3 → parseFieldDescriptor (TX0 k).2.2.1 = some (tyX0 k) := by decide +kernel
abbrev cX0_init : ByteArray := prog_2_method_1_code
def yX0_init : MethodName := ⟨RX0, "<init>", "()V"⟩
abbrev cX0_restart : ByteArray := prog_2_method_2_code
def yX0_restart : MethodName := ⟨RX0, "restart", "([I)V"⟩
abbrev cX0_note : ByteArray := prog_2_method_3_code
def yX0_note : MethodName := ⟨RX0, "note", "([I)V"⟩
abbrev cX0_undoable : ByteArray := prog_2_method_4_code
def yX0_undoable : MethodName := ⟨RX0, "undoable", "()I"⟩
abbrev cX0_redoable : ByteArray := prog_2_method_5_code
def yX0_redoable : MethodName := ⟨RX0, "redoable", "()I"⟩
abbrev cX0_back : ByteArray := prog_2_method_6_code
def yX0_back : MethodName := ⟨RX0, "back", "([I)I"⟩
abbrev cX0_forth : ByteArray := prog_2_method_7_code
def yX0_forth : MethodName := ⟨RX0, "forth", "([I)I"⟩
def RX1 : String := "SandGroup$Fall"
def TX1 : u_T := fun k => match k with
  | 0 => ("SandGroup$Fall", "grid", "LSandGroup$Grid;", true)
  | 1 => ("SandGroup$Fall", "heights", "[I", true)
  | _ => ("SandGroup$Fall", "counts", "[I", true)
def tyX1 : Nat → FieldType := fun k => match k with
  | 0 => .object "SandGroup$Grid"
  | 1 => .array .int
  | _ => .array .int
abbrev wsX10 : List Cond := u_ws RX1 TX1 3
theorem nmX1 : ∀ a, a < 3 → ∀ b, b < 3 → a ≠ b → (TX1 a).2.1 ≠ (TX1 b).2.1 := by decide +kernel
theorem tyX1_ok : ∀ k, k < 3 → parseFieldDescriptor (TX1 k).2.2.1 = some (tyX1 k) := by decide +kernel
abbrev cX1_init : ByteArray := prog_3_method_1_code
def yX1_init : MethodName := ⟨RX1, "<init>", "(LSandGroup$Grid;)V"⟩
abbrev cX1_begin : ByteArray := prog_3_method_2_code
def yX1_begin : MethodName := ⟨RX1, "begin", "([I)V"⟩
abbrev cX1_forgetCounts : ByteArray := prog_3_method_3_code
def yX1_forgetCounts : MethodName := ⟨RX1, "forgetCounts", "()V"⟩
abbrev cX1_addGrain : ByteArray := prog_3_method_4_code
def yX1_addGrain : MethodName := ⟨RX1, "addGrain", "(I)V"⟩
abbrev cX1_level : ByteArray := prog_3_method_5_code
def yX1_level : MethodName := ⟨RX1, "level", "()I"⟩
abbrev cX1_inRounds : ByteArray := prog_3_method_6_code
def yX1_inRounds : MethodName := ⟨RX1, "inRounds", "()I"⟩
abbrev cX1_readyBits : ByteArray := prog_3_method_7_code
def yX1_readyBits : MethodName := ⟨RX1, "readyBits", "()I"⟩
abbrev cX1_toppleOnce : ByteArray := prog_3_method_8_code
def yX1_toppleOnce : MethodName := ⟨RX1, "toppleOnce", "(I)Z"⟩
abbrev cX1_copyTo : ByteArray := prog_3_method_9_code
def yX1_copyTo : MethodName := ⟨RX1, "copyTo", "([I)V"⟩
abbrev cX1_code : ByteArray := prog_3_method_10_code
def yX1_code : MethodName := ⟨RX1, "code", "()I"⟩
abbrev cX1_grains : ByteArray := prog_3_method_11_code
def yX1_grains : MethodName := ⟨RX1, "grains", "()I"⟩
abbrev cX1_heightAt : ByteArray := prog_3_method_12_code
def yX1_heightAt : MethodName := ⟨RX1, "heightAt", "(I)I"⟩
abbrev cX1_countAt : ByteArray := prog_3_method_13_code
def yX1_countAt : MethodName := ⟨RX1, "countAt", "(I)I"⟩
abbrev cX1_toppled : ByteArray := prog_3_method_14_code
def yX1_toppled : MethodName := ⟨RX1, "toppled", "()I"⟩
abbrev cX1_lost : ByteArray := prog_3_method_15_code
def yX1_lost : MethodName := ⟨RX1, "lost", "()I"⟩
abbrev cX1_area : ByteArray := prog_3_method_16_code
def yX1_area : MethodName := ⟨RX1, "area", "()I"⟩
def RX2 : String := "SandGroup$Fire"
def TX2 : u_T := fun k => match k with
  | 0 => ("SandGroup$Fire", "grid", "LSandGroup$Grid;", true)
  | _ => ("SandGroup$Fire", "rounds", "[I", true)
def tyX2 : Nat → FieldType := fun k => match k with
  | 0 => .object "SandGroup$Grid"
  | _ => .array .int
abbrev wsX20 : List Cond := u_ws RX2 TX2 2
theorem nmX2 : ∀ a, a < 2 → ∀ b, b < 2 → a ≠ b → (TX2 a).2.1 ≠ (TX2 b).2.1 := by decide +kernel
theorem tyX2_ok : ∀ k, k < 2 → parseFieldDescriptor (TX2 k).2.2.1 = some (tyX2 k) := by decide +kernel
abbrev cX2_init : ByteArray := prog_4_method_1_code
def yX2_init : MethodName := ⟨RX2, "<init>", "(LSandGroup$Grid;)V"⟩
abbrev cX2_spread : ByteArray := prog_4_method_2_code
def yX2_spread : MethodName := ⟨RX2, "spread", "([I)I"⟩
abbrev cX2_burnOnce : ByteArray := prog_4_method_3_code
def yX2_burnOnce : MethodName := ⟨RX2, "burnOnce", "([II)Z"⟩
abbrev cX2_unburntNextTo : ByteArray := prog_4_method_4_code
def yX2_unburntNextTo : MethodName := ⟨RX2, "unburntNextTo", "(II)I"⟩
abbrev cX2_roundAt : ByteArray := prog_4_method_5_code
def yX2_roundAt : MethodName := ⟨RX2, "roundAt", "(I)I"⟩
abbrev cX2_unburnt : ByteArray := prog_4_method_6_code
def yX2_unburnt : MethodName := ⟨RX2, "unburnt", "()I"⟩
def RX3 : String := "SandGroup$Grid"
def TX3 : u_T := fun k => match k with
  | 0 => ("SandGroup$Grid", "walls", "[I", true)
  | 1 => ("SandGroup$Grid", "places", "[I", true)
  | 2 => ("SandGroup$Grid", "numbers", "[I", true)
  | 3 => ("SandGroup$Grid", "nexts", "[I", true)
  | 4 => ("SandGroup$Grid", "nextCounts", "[I", true)
  | 5 => ("SandGroup$Grid", "rows", "I", false)
  | 6 => ("SandGroup$Grid", "columns", "I", false)
  | _ => ("SandGroup$Grid", "placeCount", "I", false)
def tyX3 : Nat → FieldType := fun k => match k with
  | 0 => .array .int
  | 1 => .array .int
  | 2 => .array .int
  | 3 => .array .int
  | 4 => .array .int
  | 5 => .int
  | 6 => .int
  | _ => .int
abbrev wsX30 : List Cond := u_ws RX3 TX3 8
theorem nmX3 : ∀ a, a < 8 → ∀ b, b < 8 → a ≠ b → (TX3 a).2.1 ≠ (TX3 b).2.1 := by decide +kernel
theorem tyX3_ok : ∀ k, k < 8 → parseFieldDescriptor (TX3 k).2.2.1 = some (tyX3 k) := by decide +kernel
abbrev cX3_init : ByteArray := prog_5_method_1_code
def yX3_init : MethodName := ⟨RX3, "<init>", "(II)V"⟩
abbrev cX3_shape : ByteArray := prog_5_method_2_code
def yX3_shape : MethodName := ⟨RX3, "shape", "(II)V"⟩
abbrev cX3_build : ByteArray := prog_5_method_3_code
def yX3_build : MethodName := ⟨RX3, "build", "(IZ)V"⟩
abbrev cX3_link : ByteArray := prog_5_method_4_code
def yX3_link : MethodName := ⟨RX3, "link", "()V"⟩
abbrev cX3_linkCell : ByteArray := prog_5_method_5_code
def yX3_linkCell : MethodName := ⟨RX3, "linkCell", "(III)V"⟩
abbrev cX3_join : ByteArray := prog_5_method_6_code
def yX3_join : MethodName := ⟨RX3, "join", "(II)V"⟩
abbrev cX3_cellCount : ByteArray := prog_5_method_7_code
def yX3_cellCount : MethodName := ⟨RX3, "cellCount", "()I"⟩
abbrev cX3_columnCount : ByteArray := prog_5_method_8_code
def yX3_columnCount : MethodName := ⟨RX3, "columnCount", "()I"⟩
abbrev cX3_placeCount : ByteArray := prog_5_method_9_code
def yX3_placeCount : MethodName := ⟨RX3, "placeCount", "()I"⟩
abbrev cX3_isCell : ByteArray := prog_5_method_10_code
def yX3_isCell : MethodName := ⟨RX3, "isCell", "(I)Z"⟩
abbrev cX3_isPlace : ByteArray := prog_5_method_11_code
def yX3_isPlace : MethodName := ⟨RX3, "isPlace", "(I)Z"⟩
abbrev cX3_placeAt : ByteArray := prog_5_method_12_code
def yX3_placeAt : MethodName := ⟨RX3, "placeAt", "(I)I"⟩
abbrev cX3_numberOf : ByteArray := prog_5_method_13_code
def yX3_numberOf : MethodName := ⟨RX3, "numberOf", "(I)I"⟩
abbrev cX3_nextCount : ByteArray := prog_5_method_14_code
def yX3_nextCount : MethodName := ⟨RX3, "nextCount", "(I)I"⟩
abbrev cX3_nextAt : ByteArray := prog_5_method_15_code
def yX3_nextAt : MethodName := ⟨RX3, "nextAt", "(II)I"⟩
abbrev cX3_lossAt : ByteArray := prog_5_method_16_code
def yX3_lossAt : MethodName := ⟨RX3, "lossAt", "(I)I"⟩
abbrev cX3_spill : ByteArray := prog_5_method_17_code
def yX3_spill : MethodName := ⟨RX3, "spill", "([III)V"⟩
abbrev cX3_grainsOf : ByteArray := prog_5_method_18_code
def yX3_grainsOf : MethodName := ⟨RX3, "grainsOf", "([I)I"⟩
abbrev cX3_isStable : ByteArray := prog_5_method_19_code
def yX3_isStable : MethodName := ⟨RX3, "isStable", "([I)Z"⟩
abbrev cX3_pack : ByteArray := prog_5_method_20_code
def yX3_pack : MethodName := ⟨RX3, "pack", "([I)I"⟩
abbrev cX3_unpack : ByteArray := prog_5_method_21_code
def yX3_unpack : MethodName := ⟨RX3, "unpack", "(I[I)V"⟩
def RX4 : String := "SandGroup$March"
def TX4 : u_T := fun k => match k with
  | 0 => ("SandGroup$March", "grid", "LSandGroup$Grid;", true)
  | 1 => ("SandGroup$March", "heights", "[I", true)
  | 2 => ("SandGroup$March", "ring", "[I", true)
  | 3 => ("SandGroup$March", "order", "I", false)
  | 4 => ("SandGroup$March", "first", "I", false)
  | 5 => ("SandGroup$March", "length", "I", false)
  | _ => ("SandGroup$March", "standing", "I", false)
def tyX4 : Nat → FieldType := fun k => match k with
  | 0 => .object "SandGroup$Grid"
  | 1 => .array .int
  | 2 => .array .int
  | 3 => .int
  | 4 => .int
  | 5 => .int
  | _ => .int
abbrev wsX40 : List Cond := u_ws RX4 TX4 7
theorem nmX4 : ∀ a, a < 7 → ∀ b, b < 7 → a ≠ b → (TX4 a).2.1 ≠ (TX4 b).2.1 := by decide +kernel
theorem tyX4_ok : ∀ k, k < 7 → parseFieldDescriptor (TX4 k).2.2.1 = some (tyX4 k) := by decide +kernel
abbrev cX4_init : ByteArray := prog_6_method_1_code
def yX4_init : MethodName := ⟨RX4, "<init>", "(LSandGroup$Grid;)V"⟩
abbrev cX4_begin : ByteArray := prog_6_method_2_code
def yX4_begin : MethodName := ⟨RX4, "begin", "([II)V"⟩
abbrev cX4_step : ByteArray := prog_6_method_3_code
def yX4_step : MethodName := ⟨RX4, "step", "()I"⟩
abbrev cX4_chosen : ByteArray := prog_6_method_4_code
def yX4_chosen : MethodName := ⟨RX4, "chosen", "()I"⟩
abbrev cX4_leastCell : ByteArray := prog_6_method_5_code
def yX4_leastCell : MethodName := ⟨RX4, "leastCell", "()I"⟩
abbrev cX4_tallestCell : ByteArray := prog_6_method_6_code
def yX4_tallestCell : MethodName := ⟨RX4, "tallestCell", "()I"⟩
abbrev cX4_leave : ByteArray := prog_6_method_7_code
def yX4_leave : MethodName := ⟨RX4, "leave", "(Z)I"⟩
abbrev cX4_lineUp : ByteArray := prog_6_method_8_code
def yX4_lineUp : MethodName := ⟨RX4, "lineUp", "(I)V"⟩
def RX5 : String := "SandGroup$Matrix"
def TX5 : u_T := fun k => match k with
  | _ => ("SandGroup$Matrix", "entries", "[J", true)
def tyX5 : Nat → FieldType := fun k => match k with
  | _ => .array .long
abbrev wsX50 : List Cond := u_ws RX5 TX5 1
theorem nmX5 : ∀ a, a < 1 → ∀ b, b < 1 → a ≠ b → (TX5 a).2.1 ≠ (TX5 b).2.1 := by decide +kernel
theorem tyX5_ok : ∀ k, k < 1 → parseFieldDescriptor (TX5 k).2.2.1 = some (tyX5 k) := by decide +kernel
abbrev cX5_init : ByteArray := prog_7_method_1_code
def yX5_init : MethodName := ⟨RX5, "<init>", "()V"⟩
abbrev cX5_determinant : ByteArray := prog_7_method_2_code
def yX5_determinant : MethodName := ⟨RX5, "determinant", "(LSandGroup$Grid;)J"⟩
abbrev cX5_fillFrom : ByteArray := prog_7_method_3_code
def yX5_fillFrom : MethodName := ⟨RX5, "fillFrom", "(LSandGroup$Grid;I)V"⟩
abbrev cX5_eliminate : ByteArray := prog_7_method_4_code
def yX5_eliminate : MethodName := ⟨RX5, "eliminate", "(IIJ)V"⟩
def RX6 : String := "SandGroup$Seen"
def TX6 : u_T := fun k => match k with
  | 0 => ("SandGroup$Seen", "codes", "[I", true)
  | 1 => ("SandGroup$Seen", "links", "[I", true)
  | 2 => ("SandGroup$Seen", "heads", "[I", true)
  | _ => ("SandGroup$Seen", "length", "I", false)
def tyX6 : Nat → FieldType := fun k => match k with
  | 0 => .array .int
  | 1 => .array .int
  | 2 => .array .int
  | _ => .int
abbrev wsX60 : List Cond := u_ws RX6 TX6 4
theorem nmX6 : ∀ a, a < 4 → ∀ b, b < 4 → a ≠ b → (TX6 a).2.1 ≠ (TX6 b).2.1 := by decide +kernel
theorem tyX6_ok : ∀ k, k < 4 → parseFieldDescriptor (TX6 k).2.2.1 = some (tyX6 k) := by decide +kernel
abbrev cX6_init : ByteArray := prog_8_method_1_code
def yX6_init : MethodName := ⟨RX6, "<init>", "()V"⟩
abbrev cX6_clear : ByteArray := prog_8_method_2_code
def yX6_clear : MethodName := ⟨RX6, "clear", "()V"⟩
abbrev cX6_add : ByteArray := prog_8_method_3_code
def yX6_add : MethodName := ⟨RX6, "add", "(I)V"⟩
abbrev cX6_find : ByteArray := prog_8_method_4_code
def yX6_find : MethodName := ⟨RX6, "find", "(I)I"⟩
abbrev cX6_chainOf : ByteArray := prog_8_method_5_code
def yX6_chainOf : MethodName := ⟨RX6, "chainOf", "(I)I"⟩
def RX7 : String := "SandGroup$Shelf"
def TX7 : u_T := fun k => match k with
  | 0 => ("SandGroup$Shelf", "rows", "[[I", true)
  | _ => ("SandGroup$Shelf", "lengths", "[I", true)
def tyX7 : Nat → FieldType := fun k => match k with
  | 0 => .array (.array .int)
  | _ => .array .int
abbrev wsX70 : List Cond := u_ws RX7 TX7 2
theorem nmX7 : ∀ a, a < 2 → ∀ b, b < 2 → a ≠ b → (TX7 a).2.1 ≠ (TX7 b).2.1 := by decide +kernel
theorem tyX7_ok : ∀ k, k < 2 → parseFieldDescriptor (TX7 k).2.2.1 = some (tyX7 k) := by decide +kernel
abbrev cX7_init : ByteArray := prog_9_method_1_code
def yX7_init : MethodName := ⟨RX7, "<init>", "(II)V"⟩
abbrev cX7_clear : ByteArray := prog_9_method_2_code
def yX7_clear : MethodName := ⟨RX7, "clear", "()V"⟩
abbrev cX7_has : ByteArray := prog_9_method_3_code
def yX7_has : MethodName := ⟨RX7, "has", "(I)Z"⟩
abbrev cX7_holds : ByteArray := prog_9_method_4_code
def yX7_holds : MethodName := ⟨RX7, "holds", "(I)Z"⟩
abbrev cX7_lengthOf : ByteArray := prog_9_method_5_code
def yX7_lengthOf : MethodName := ⟨RX7, "lengthOf", "(I)I"⟩
abbrev cX7_rowAt : ByteArray := prog_9_method_6_code
def yX7_rowAt : MethodName := ⟨RX7, "rowAt", "(I)[I"⟩
abbrev cX7_hold : ByteArray := prog_9_method_7_code
def yX7_hold : MethodName := ⟨RX7, "hold", "(II)[I"⟩
abbrev cX7_heldCount : ByteArray := prog_9_method_8_code
def yX7_heldCount : MethodName := ⟨RX7, "heldCount", "()I"⟩
def RX8 : String := "SandGroup$Sums"
def TX8 : u_T := fun k => match k with
  | 0 => ("SandGroup$Sums", "grid", "LSandGroup$Grid;", true)
  | 1 => ("SandGroup$Sums", "fall", "LSandGroup$Fall;", true)
  | 2 => ("SandGroup$Sums", "nought", "[I", true)
  | 3 => ("SandGroup$Sums", "result", "[I", true)
  | 4 => ("SandGroup$Sums", "other", "[I", true)
  | _ => ("SandGroup$Sums", "both", "[I", true)
def tyX8 : Nat → FieldType := fun k => match k with
  | 0 => .object "SandGroup$Grid"
  | 1 => .object "SandGroup$Fall"
  | 2 => .array .int
  | 3 => .array .int
  | 4 => .array .int
  | _ => .array .int
abbrev wsX80 : List Cond := u_ws RX8 TX8 6
theorem nmX8 : ∀ a, a < 6 → ∀ b, b < 6 → a ≠ b → (TX8 a).2.1 ≠ (TX8 b).2.1 := by decide +kernel
theorem tyX8_ok : ∀ k, k < 6 → parseFieldDescriptor (TX8 k).2.2.1 = some (tyX8 k) := by decide +kernel
abbrev cX8_init : ByteArray := prog_10_method_1_code
def yX8_init : MethodName := ⟨RX8, "<init>", "(LSandGroup$Grid;LSandGroup$Fall;)V"⟩
abbrev cX8_add : ByteArray := prog_10_method_2_code
def yX8_add : MethodName := ⟨RX8, "add", "([I[I)I"⟩
abbrev cX8_addInto : ByteArray := prog_10_method_3_code
def yX8_addInto : MethodName := ⟨RX8, "addInto", "([I[I[I)V"⟩
abbrev cX8_copyResultTo : ByteArray := prog_10_method_4_code
def yX8_copyResultTo : MethodName := ⟨RX8, "copyResultTo", "([I)V"⟩
abbrev cX8_startAtNought : ByteArray := prog_10_method_5_code
def yX8_startAtNought : MethodName := ⟨RX8, "startAtNought", "()V"⟩
abbrev cX8_layFullZero : ByteArray := prog_10_method_6_code
def yX8_layFullZero : MethodName := ⟨RX8, "layFullZero", "()V"⟩
abbrev cX8_settleResult : ByteArray := prog_10_method_7_code
def yX8_settleResult : MethodName := ⟨RX8, "settleResult", "()V"⟩
abbrev cX8_multiply : ByteArray := prog_10_method_8_code
def yX8_multiply : MethodName := ⟨RX8, "multiply", "([II)V"⟩
abbrev cX8_negate : ByteArray := prog_10_method_9_code
def yX8_negate : MethodName := ⟨RX8, "negate", "([I)V"⟩
abbrev cX8_leastToNought : ByteArray := prog_10_method_10_code
def yX8_leastToNought : MethodName := ⟨RX8, "leastToNought", "([II)I"⟩
abbrev cX8_areOne : ByteArray := prog_10_method_11_code
def yX8_areOne : MethodName := ⟨RX8, "areOne", "([I[I)Z"⟩
def RX9 : String := "SandGroup$Tally"
def TX9 : u_T := fun k => match k with
  | 0 => ("SandGroup$Tally", "sizes", "[I", true)
  | 1 => ("SandGroup$Tally", "often", "[I", true)
  | 2 => ("SandGroup$Tally", "unlike", "I", false)
  | 3 => ("SandGroup$Tally", "together", "I", false)
  | _ => ("SandGroup$Tally", "greatest", "I", false)
def tyX9 : Nat → FieldType := fun k => match k with
  | 0 => .array .int
  | 1 => .array .int
  | 2 => .int
  | 3 => .int
  | _ => .int
abbrev wsX90 : List Cond := u_ws RX9 TX9 5
theorem nmX9 : ∀ a, a < 5 → ∀ b, b < 5 → a ≠ b → (TX9 a).2.1 ≠ (TX9 b).2.1 := by decide +kernel
theorem tyX9_ok : ∀ k, k < 5 → parseFieldDescriptor (TX9 k).2.2.1 = some (tyX9 k) := by decide +kernel
abbrev cX9_init : ByteArray := prog_11_method_1_code
def yX9_init : MethodName := ⟨RX9, "<init>", "()V"⟩
abbrev cX9_clear : ByteArray := prog_11_method_2_code
def yX9_clear : MethodName := ⟨RX9, "clear", "()V"⟩
abbrev cX9_add : ByteArray := prog_11_method_3_code
def yX9_add : MethodName := ⟨RX9, "add", "(I)V"⟩
abbrev cX9_unlike : ByteArray := prog_11_method_4_code
def yX9_unlike : MethodName := ⟨RX9, "unlike", "()I"⟩
abbrev cX9_together : ByteArray := prog_11_method_5_code
def yX9_together : MethodName := ⟨RX9, "together", "()I"⟩
abbrev cX9_greatest : ByteArray := prog_11_method_6_code
def yX9_greatest : MethodName := ⟨RX9, "greatest", "()I"⟩
abbrev cX9_sizeAt : ByteArray := prog_11_method_7_code
def yX9_sizeAt : MethodName := ⟨RX9, "sizeAt", "(I)I"⟩
abbrev cX9_oftenAt : ByteArray := prog_11_method_8_code
def yX9_oftenAt : MethodName := ⟨RX9, "oftenAt", "(I)I"⟩
def RX10 : String := "SandGroup$Tape"
def TX10 : u_T := fun k => match k with
  | 0 => ("SandGroup$Tape", "bytes", "[I", true)
  | 1 => ("SandGroup$Tape", "values", "[I", true)
  | 2 => ("SandGroup$Tape", "codes", "[I", true)
  | 3 => ("SandGroup$Tape", "length", "I", false)
  | 4 => ("SandGroup$Tape", "codeCount", "I", false)
  | 5 => ("SandGroup$Tape", "slashes", "I", false)
  | 6 => ("SandGroup$Tape", "width", "I", false)
  | _ => ("SandGroup$Tape", "inRow", "I", false)
def tyX10 : Nat → FieldType := fun k => match k with
  | 0 => .array .int
  | 1 => .array .int
  | 2 => .array .int
  | 3 => .int
  | 4 => .int
  | 5 => .int
  | 6 => .int
  | _ => .int
abbrev wsX100 : List Cond := u_ws RX10 TX10 8
theorem nmX10 : ∀ a, a < 8 → ∀ b, b < 8 → a ≠ b → (TX10 a).2.1 ≠ (TX10 b).2.1 := by decide +kernel
theorem tyX10_ok : ∀ k, k < 8 → parseFieldDescriptor (TX10 k).2.2.1 = some (tyX10 k) := by decide +kernel
abbrev cX10_init : ByteArray := prog_12_method_1_code
def yX10_init : MethodName := ⟨RX10, "<init>", "()V"⟩
abbrev cX10_isFull : ByteArray := prog_12_method_2_code
def yX10_isFull : MethodName := ⟨RX10, "isFull", "()Z"⟩
abbrev cX10_append : ByteArray := prog_12_method_3_code
def yX10_append : MethodName := ⟨RX10, "append", "(I)I"⟩
abbrev cX10_rewind : ByteArray := prog_12_method_4_code
def yX10_rewind : MethodName := ⟨RX10, "rewind", "()V"⟩
abbrev cX10_length : ByteArray := prog_12_method_5_code
def yX10_length : MethodName := ⟨RX10, "length", "()I"⟩
abbrev cX10_codeCount : ByteArray := prog_12_method_6_code
def yX10_codeCount : MethodName := ⟨RX10, "codeCount", "()I"⟩
abbrev cX10_codeAt : ByteArray := prog_12_method_7_code
def yX10_codeAt : MethodName := ⟨RX10, "codeAt", "(I)I"⟩
abbrev cX10_rowCount : ByteArray := prog_12_method_8_code
def yX10_rowCount : MethodName := ⟨RX10, "rowCount", "()I"⟩
abbrev cX10_columnCount : ByteArray := prog_12_method_9_code
def yX10_columnCount : MethodName := ⟨RX10, "columnCount", "()I"⟩
abbrev cX10_valueAt : ByteArray := prog_12_method_10_code
def yX10_valueAt : MethodName := ⟨RX10, "valueAt", "(I)I"⟩
abbrev cX10_parse : ByteArray := prog_12_method_11_code
def yX10_parse : MethodName := ⟨RX10, "parse", "()I"⟩
abbrev cX10_refuse : ByteArray := prog_12_method_12_code
def yX10_refuse : MethodName := ⟨RX10, "refuse", "(II)I"⟩
abbrev cX10_accept : ByteArray := prog_12_method_13_code
def yX10_accept : MethodName := ⟨RX10, "accept", "(I)I"⟩
abbrev cX10_acceptSlash : ByteArray := prog_12_method_14_code
def yX10_acceptSlash : MethodName := ⟨RX10, "acceptSlash", "()I"⟩
abbrev cX10_mostInRow : ByteArray := prog_12_method_15_code
def yX10_mostInRow : MethodName := ⟨RX10, "mostInRow", "()I"⟩
abbrev cX10_isRowWhole : ByteArray := prog_12_method_16_code
def yX10_isRowWhole : MethodName := ⟨RX10, "isRowWhole", "()Z"⟩
abbrev cX10_closeRow : ByteArray := prog_12_method_17_code
def yX10_closeRow : MethodName := ⟨RX10, "closeRow", "()V"⟩
def RX11 : String := "SandGroup"
def TX11 : u_T := fun k => match k with
  | 0 => ("SandGroup", "grid", "LSandGroup$Grid;", true)
  | 1 => ("SandGroup", "heights", "[I", true)
  | 2 => ("SandGroup", "changes", "LSandGroup$Changes;", true)
  | 3 => ("SandGroup", "tape", "LSandGroup$Tape;", true)
  | 4 => ("SandGroup", "piles", "LSandGroup$Shelf;", true)
  | 5 => ("SandGroup", "lists", "LSandGroup$Shelf;", true)
  | 6 => ("SandGroup", "fall", "LSandGroup$Fall;", true)
  | 7 => ("SandGroup", "march", "LSandGroup$March;", true)
  | 8 => ("SandGroup", "otherMarch", "LSandGroup$March;", true)
  | 9 => ("SandGroup", "sums", "LSandGroup$Sums;", true)
  | 10 => ("SandGroup", "fire", "LSandGroup$Fire;", true)
  | 11 => ("SandGroup", "matrix", "LSandGroup$Matrix;", true)
  | 12 => ("SandGroup", "seen", "LSandGroup$Seen;", true)
  | 13 => ("SandGroup", "tally", "LSandGroup$Tally;", true)
  | _ => ("SandGroup", "walked", "[I", true)
def tyX11 : Nat → FieldType := fun k => match k with
  | 0 => .object "SandGroup$Grid"
  | 1 => .array .int
  | 2 => .object "SandGroup$Changes"
  | 3 => .object "SandGroup$Tape"
  | 4 => .object "SandGroup$Shelf"
  | 5 => .object "SandGroup$Shelf"
  | 6 => .object "SandGroup$Fall"
  | 7 => .object "SandGroup$March"
  | 8 => .object "SandGroup$March"
  | 9 => .object "SandGroup$Sums"
  | 10 => .object "SandGroup$Fire"
  | 11 => .object "SandGroup$Matrix"
  | 12 => .object "SandGroup$Seen"
  | 13 => .object "SandGroup$Tally"
  | _ => .array .int
abbrev wsX110 : List Cond := u_ws RX11 TX11 15
theorem nmX11 : ∀ a, a < 15 → ∀ b, b < 15 → a ≠ b → (TX11 a).2.1 ≠ (TX11 b).2.1 := by decide +kernel
theorem tyX11_ok : ∀ k, k < 15 → parseFieldDescriptor (TX11 k).2.2.1 = some (tyX11 k) := by decide +kernel
abbrev cX11_init : ByteArray := prog_1_method_1_code
def yX11_init : MethodName := ⟨RX11, "<init>", "()V"⟩
abbrev cX11_size : ByteArray := prog_1_method_2_code
def yX11_size : MethodName := ⟨RX11, "size", "(II)I"⟩
abbrev cX11_wall : ByteArray := prog_1_method_3_code
def yX11_wall : MethodName := ⟨RX11, "wall", "(IZ)I"⟩
abbrev cX11_set : ByteArray := prog_1_method_4_code
def yX11_set : MethodName := ⟨RX11, "set", "(II)I"⟩
abbrev cX11_height : ByteArray := prog_1_method_5_code
def yX11_height : MethodName := ⟨RX11, "height", "(I)I"⟩
abbrev cX11_drop : ByteArray := prog_1_method_6_code
def yX11_drop : MethodName := ⟨RX11, "drop", "(II)I"⟩
abbrev cX11_topple : ByteArray := prog_1_method_7_code
def yX11_topple : MethodName := ⟨RX11, "topple", "(I)I"⟩
abbrev cX11_settle : ByteArray := prog_1_method_8_code
def yX11_settle : MethodName := ⟨RX11, "settle", "()I"⟩
abbrev cX11_feed : ByteArray := prog_1_method_9_code
def yX11_feed : MethodName := ⟨RX11, "feed", "(I)I"⟩
abbrev cX11_read : ByteArray := prog_1_method_10_code
def yX11_read : MethodName := ⟨RX11, "read", "()I"⟩
abbrev cX11_why : ByteArray := prog_1_method_11_code
def yX11_why : MethodName := ⟨RX11, "why", "(I)I"⟩
abbrev cX11_settled : ByteArray := prog_1_method_12_code
def yX11_settled : MethodName := ⟨RX11, "settled", "(I)I"⟩
abbrev cX11_trace : ByteArray := prog_1_method_13_code
def yX11_trace : MethodName := ⟨RX11, "trace", "(II)I"⟩
abbrev cX11_common : ByteArray := prog_1_method_14_code
def yX11_common : MethodName := ⟨RX11, "common", "(II)I"⟩
abbrev cX11_keep : ByteArray := prog_1_method_15_code
def yX11_keep : MethodName := ⟨RX11, "keep", "(I)I"⟩
abbrev cX11_load : ByteArray := prog_1_method_16_code
def yX11_load : MethodName := ⟨RX11, "load", "(I)I"⟩
abbrev cX11_pile : ByteArray := prog_1_method_17_code
def yX11_pile : MethodName := ⟨RX11, "pile", "(II)I"⟩
abbrev cX11_sum : ByteArray := prog_1_method_18_code
def yX11_sum : MethodName := ⟨RX11, "sum", "(III)I"⟩
abbrev cX11_nought : ByteArray := prog_1_method_19_code
def yX11_nought : MethodName := ⟨RX11, "nought", "(I)I"⟩
abbrev cX11_times : ByteArray := prog_1_method_20_code
def yX11_times : MethodName := ⟨RX11, "times", "(III)I"⟩
abbrev cX11_opposite : ByteArray := prog_1_method_21_code
def yX11_opposite : MethodName := ⟨RX11, "opposite", "(II)I"⟩
abbrev cX11_order : ByteArray := prog_1_method_22_code
def yX11_order : MethodName := ⟨RX11, "order", "(I)I"⟩
abbrev cX11_one : ByteArray := prog_1_method_23_code
def yX11_one : MethodName := ⟨RX11, "one", "(II)I"⟩
abbrev cX11_group : ByteArray := prog_1_method_24_code
def yX11_group : MethodName := ⟨RX11, "group", "()J"⟩
abbrev cX11_burn : ByteArray := prog_1_method_25_code
def yX11_burn : MethodName := ⟨RX11, "burn", "(II)I"⟩
abbrev cX11_through : ByteArray := prog_1_method_26_code
def yX11_through : MethodName := ⟨RX11, "through", "()I"⟩
abbrev cX11_avalanche : ByteArray := prog_1_method_27_code
def yX11_avalanche : MethodName := ⟨RX11, "avalanche", "(II)I"⟩
abbrev cX11_again : ByteArray := prog_1_method_28_code
def yX11_again : MethodName := ⟨RX11, "again", "(II)I"⟩
abbrev cX11_lots : ByteArray := prog_1_method_29_code
def yX11_lots : MethodName := ⟨RX11, "lots", "(III)I"⟩
abbrev cX11_judge : ByteArray := prog_1_method_30_code
def yX11_judge : MethodName := ⟨RX11, "judge", "(I)I"⟩
abbrev cX11_steadies : ByteArray := prog_1_method_31_code
def yX11_steadies : MethodName := ⟨RX11, "steadies", "(I)I"⟩
abbrev cX11_film : ByteArray := prog_1_method_32_code
def yX11_film : MethodName := ⟨RX11, "film", "(I)I"⟩
abbrev cX11_list : ByteArray := prog_1_method_33_code
def yX11_list : MethodName := ⟨RX11, "list", "(II)I"⟩
abbrev cX11_put : ByteArray := prog_1_method_34_code
def yX11_put : MethodName := ⟨RX11, "put", "(III)I"⟩
abbrev cX11_get : ByteArray := prog_1_method_35_code
def yX11_get : MethodName := ⟨RX11, "get", "(II)J"⟩
abbrev cX11_undo : ByteArray := prog_1_method_36_code
def yX11_undo : MethodName := ⟨RX11, "undo", "()I"⟩
abbrev cX11_redo : ByteArray := prog_1_method_37_code
def yX11_redo : MethodName := ⟨RX11, "redo", "()I"⟩
abbrev cX11_count : ByteArray := prog_1_method_38_code
def yX11_count : MethodName := ⟨RX11, "count", "(I)I"⟩
abbrev cX11_isOrder : ByteArray := prog_1_method_39_code
def yX11_isOrder : MethodName := ⟨RX11, "isOrder", "(I)Z"⟩
abbrev cX11_alike : ByteArray := prog_1_method_40_code
def yX11_alike : MethodName := ⟨RX11, "alike", "([I[I)Z"⟩
abbrev cX11_forgetPilesAndChanges : ByteArray := prog_1_method_41_code
def yX11_forgetPilesAndChanges : MethodName := ⟨RX11, "forgetPilesAndChanges", "()V"⟩
abbrev cX11_lay : ByteArray := prog_1_method_42_code
def yX11_lay : MethodName := ⟨RX11, "lay", "(II)V"⟩
abbrev cX11_holdResult : ByteArray := prog_1_method_43_code
def yX11_holdResult : MethodName := ⟨RX11, "holdResult", "(I)I"⟩
abbrev cX11_scatter : ByteArray := prog_1_method_44_code
def yX11_scatter : MethodName := ⟨RX11, "scatter", "(II)V"⟩
abbrev cX11_firstUntold : ByteArray := prog_1_method_45_code
def yX11_firstUntold : MethodName := ⟨RX11, "firstUntold", "([II)I"⟩
abbrev cX11_firstUnsteady : ByteArray := prog_1_method_46_code
def yX11_firstUnsteady : MethodName := ⟨RX11, "firstUnsteady", "([I)I"⟩
def RX12 : String := "SandGroupModel"
def TX12 : u_T := fun k => match k with
  | 0 => ("SandGroupModel", "rows", "I", false)
  | 1 => ("SandGroupModel", "columns", "I", false)
  | 2 => ("SandGroupModel", "walls", "[Z", true)
  | 3 => ("SandGroupModel", "heights", "[I", true)
  | 4 => ("SandGroupModel", "next", "[I", true)
  | 5 => ("SandGroupModel", "nextMany", "[I", true)
  | 6 => ("SandGroupModel", "counts", "[I", true)
  | 7 => ("SandGroupModel", "lost", "I", false)
  | 8 => ("SandGroupModel", "now", "[Z", true)
  | 9 => ("SandGroupModel", "piles", "[I", true)
  | 10 => ("SandGroupModel", "holds", "[Z", true)
  | 11 => ("SandGroupModel", "before", "[I", true)
  | 12 => ("SandGroupModel", "behind", "[I", true)
  | 13 => ("SandGroupModel", "beforeMany", "I", false)
  | 14 => ("SandGroupModel", "behindMany", "I", false)
  | 15 => ("SandGroupModel", "tape", "[I", true)
  | 16 => ("SandGroupModel", "length", "I", false)
  | 17 => ("SandGroupModel", "whyAhead", "I", false)
  | 18 => ("SandGroupModel", "whyWhat", "I", false)
  | 19 => ("SandGroupModel", "slashes", "I", false)
  | 20 => ("SandGroupModel", "inRow", "I", false)
  | 21 => ("SandGroupModel", "wide", "I", false)
  | 22 => ("SandGroupModel", "t", "[I", true)
  | 23 => ("SandGroupModel", "standing", "[I", true)
  | 24 => ("SandGroupModel", "standMany", "I", false)
  | 25 => ("SandGroupModel", "stands", "[Z", true)
  | 26 => ("SandGroupModel", "firsts", "[I", true)
  | 27 => ("SandGroupModel", "u", "[I", true)
  | 28 => ("SandGroupModel", "free", "[I", true)
  | 29 => ("SandGroupModel", "nought", "[I", true)
  | 30 => ("SandGroupModel", "other", "[I", true)
  | 31 => ("SandGroupModel", "matrix", "[J", true)
  | 32 => ("SandGroupModel", "burnt", "[I", true)
  | 33 => ("SandGroupModel", "codes", "[I", true)
  | 34 => ("SandGroupModel", "unlike", "[I", true)
  | 35 => ("SandGroupModel", "came", "[I", true)
  | 36 => ("SandGroupModel", "unlikeMany", "I", false)
  | 37 => ("SandGroupModel", "listSize", "[I", true)
  | 38 => ("SandGroupModel", "items", "[I", true)
  | _ => ("SandGroupModel", "numbers", "[J", true)
def tyX12 : Nat → FieldType := fun k => match k with
  | 0 => .int
  | 1 => .int
  | 2 => .array .boolean
  | 3 => .array .int
  | 4 => .array .int
  | 5 => .array .int
  | 6 => .array .int
  | 7 => .int
  | 8 => .array .boolean
  | 9 => .array .int
  | 10 => .array .boolean
  | 11 => .array .int
  | 12 => .array .int
  | 13 => .int
  | 14 => .int
  | 15 => .array .int
  | 16 => .int
  | 17 => .int
  | 18 => .int
  | 19 => .int
  | 20 => .int
  | 21 => .int
  | 22 => .array .int
  | 23 => .array .int
  | 24 => .int
  | 25 => .array .boolean
  | 26 => .array .int
  | 27 => .array .int
  | 28 => .array .int
  | 29 => .array .int
  | 30 => .array .int
  | 31 => .array .long
  | 32 => .array .int
  | 33 => .array .int
  | 34 => .array .int
  | 35 => .array .int
  | 36 => .int
  | 37 => .array .int
  | 38 => .array .int
  | _ => .array .long
abbrev wsX120 : List Cond := u_ws RX12 TX12 40
theorem nmX12 : ∀ a, a < 40 → ∀ b, b < 40 → a ≠ b → (TX12 a).2.1 ≠ (TX12 b).2.1 := by decide +kernel
theorem tyX12_ok : ∀ k, k < 40 → parseFieldDescriptor (TX12 k).2.2.1 = some (tyX12 k) := by decide +kernel
abbrev cX12_init : ByteArray := prog_14_method_1_code
def yX12_init : MethodName := ⟨RX12, "<init>", "()V"⟩
abbrev cX12_in : ByteArray := prog_14_method_2_code
def yX12_in : MethodName := ⟨RX12, "in", "(JJJ)Z"⟩
abbrev cX12_cells : ByteArray := prog_14_method_3_code
def yX12_cells : MethodName := ⟨RX12, "cells", "()I"⟩
abbrev cX12_isPlace : ByteArray := prog_14_method_4_code
def yX12_isPlace : MethodName := ⟨RX12, "isPlace", "(I)Z"⟩
abbrev cX12_link : ByteArray := prog_14_method_5_code
def yX12_link : MethodName := ⟨RX12, "link", "(III)V"⟩
abbrev cX12_links : ByteArray := prog_14_method_6_code
def yX12_links : MethodName := ⟨RX12, "links", "()V"⟩
abbrev cX12_copies : ByteArray := prog_14_method_7_code
def yX12_copies : MethodName := ⟨RX12, "copies", "([I[I)V"⟩
abbrev cX12_places : ByteArray := prog_14_method_8_code
def yX12_places : MethodName := ⟨RX12, "places", "()I"⟩
abbrev cX12_topples : ByteArray := prog_14_method_9_code
def yX12_topples : MethodName := ⟨RX12, "topples", "([III)V"⟩
abbrev cX12_begins : ByteArray := prog_14_method_10_code
def yX12_begins : MethodName := ⟨RX12, "begins", "()V"⟩
abbrev cX12_may : ByteArray := prog_14_method_11_code
def yX12_may : MethodName := ⟨RX12, "may", "([II)Z"⟩
abbrev cX12_isStable : ByteArray := prog_14_method_12_code
def yX12_isStable : MethodName := ⟨RX12, "isStable", "([I)Z"⟩
abbrev cX12_sizeCounted : ByteArray := prog_14_method_13_code
def yX12_sizeCounted : MethodName := ⟨RX12, "sizeCounted", "()I"⟩
abbrev cX12_settles : ByteArray := prog_14_method_14_code
def yX12_settles : MethodName := ⟨RX12, "settles", "([I)I"⟩
abbrev cX12_roundsOf : ByteArray := prog_14_method_15_code
def yX12_roundsOf : MethodName := ⟨RX12, "roundsOf", "([I)I"⟩
abbrev cX12_toppled : ByteArray := prog_14_method_16_code
def yX12_toppled : MethodName := ⟨RX12, "toppled", "()I"⟩
abbrev cX12_grains : ByteArray := prog_14_method_17_code
def yX12_grains : MethodName := ⟨RX12, "grains", "([I)I"⟩
abbrev cX12_forgets : ByteArray := prog_14_method_18_code
def yX12_forgets : MethodName := ⟨RX12, "forgets", "()V"⟩
abbrev cX12_pushesBefore : ByteArray := prog_14_method_19_code
def yX12_pushesBefore : MethodName := ⟨RX12, "pushesBefore", "()V"⟩
abbrev cX12_changes : ByteArray := prog_14_method_20_code
def yX12_changes : MethodName := ⟨RX12, "changes", "()V"⟩
abbrev cX12_undo : ByteArray := prog_14_method_21_code
def yX12_undo : MethodName := ⟨RX12, "undo", "()I"⟩
abbrev cX12_redo : ByteArray := prog_14_method_22_code
def yX12_redo : MethodName := ⟨RX12, "redo", "()I"⟩
abbrev cX12_size : ByteArray := prog_14_method_23_code
def yX12_size : MethodName := ⟨RX12, "size", "(II)I"⟩
abbrev cX12_wall : ByteArray := prog_14_method_24_code
def yX12_wall : MethodName := ⟨RX12, "wall", "(IZ)I"⟩
abbrev cX12_set : ByteArray := prog_14_method_25_code
def yX12_set : MethodName := ⟨RX12, "set", "(II)I"⟩
abbrev cX12_height : ByteArray := prog_14_method_26_code
def yX12_height : MethodName := ⟨RX12, "height", "(I)I"⟩
abbrev cX12_drop : ByteArray := prog_14_method_27_code
def yX12_drop : MethodName := ⟨RX12, "drop", "(II)I"⟩
abbrev cX12_topple : ByteArray := prog_14_method_28_code
def yX12_topple : MethodName := ⟨RX12, "topple", "(I)I"⟩
abbrev cX12_settle : ByteArray := prog_14_method_29_code
def yX12_settle : MethodName := ⟨RX12, "settle", "()I"⟩
abbrev cX12_feed : ByteArray := prog_14_method_30_code
def yX12_feed : MethodName := ⟨RX12, "feed", "(I)I"⟩
abbrev cX12_isCell : ByteArray := prog_14_method_31_code
def yX12_isCell : MethodName := ⟨RX12, "isCell", "(I)Z"⟩
abbrev cX12_wrongAt : ByteArray := prog_14_method_32_code
def yX12_wrongAt : MethodName := ⟨RX12, "wrongAt", "(I)I"⟩
abbrev cX12_wrongPlace : ByteArray := prog_14_method_33_code
def yX12_wrongPlace : MethodName := ⟨RX12, "wrongPlace", "()I"⟩
abbrev cX12_read : ByteArray := prog_14_method_34_code
def yX12_read : MethodName := ⟨RX12, "read", "()I"⟩
abbrev cX12_why : ByteArray := prog_14_method_35_code
def yX12_why : MethodName := ⟨RX12, "why", "(I)I"⟩
abbrev cX12_settledThen : ByteArray := prog_14_method_36_code
def yX12_settledThen : MethodName := ⟨RX12, "settledThen", "(I)I"⟩
abbrev cX12_settled : ByteArray := prog_14_method_37_code
def yX12_settled : MethodName := ⟨RX12, "settled", "(I)I"⟩
abbrev cX12_comesBehind : ByteArray := prog_14_method_38_code
def yX12_comesBehind : MethodName := ⟨RX12, "comesBehind", "([II)V"⟩
abbrev cX12_beginsOrder : ByteArray := prog_14_method_39_code
def yX12_beginsOrder : MethodName := ⟨RX12, "beginsOrder", "([I)V"⟩
abbrev cX12_least : ByteArray := prog_14_method_40_code
def yX12_least : MethodName := ⟨RX12, "least", "([I)I"⟩
abbrev cX12_tallest : ByteArray := prog_14_method_41_code
def yX12_tallest : MethodName := ⟨RX12, "tallest", "([I)I"⟩
abbrev cX12_leaves : ByteArray := prog_14_method_42_code
def yX12_leaves : MethodName := ⟨RX12, "leaves", "(Z)I"⟩
abbrev cX12_goes : ByteArray := prog_14_method_43_code
def yX12_goes : MethodName := ⟨RX12, "goes", "([II)I"⟩
abbrev cX12_isOrder : ByteArray := prog_14_method_44_code
def yX12_isOrder : MethodName := ⟨RX12, "isOrder", "(I)Z"⟩
abbrev cX12_trace : ByteArray := prog_14_method_45_code
def yX12_trace : MethodName := ⟨RX12, "trace", "(II)I"⟩
abbrev cX12_firstsBy : ByteArray := prog_14_method_46_code
def yX12_firstsBy : MethodName := ⟨RX12, "firstsBy", "(I)I"⟩
abbrev cX12_common : ByteArray := prog_14_method_47_code
def yX12_common : MethodName := ⟨RX12, "common", "(II)I"⟩
abbrev cX12_isPile : ByteArray := prog_14_method_48_code
def yX12_isPile : MethodName := ⟨RX12, "isPile", "(I)Z"⟩
abbrev cX12_takes : ByteArray := prog_14_method_49_code
def yX12_takes : MethodName := ⟨RX12, "takes", "(I[I)V"⟩
abbrev cX12_lays : ByteArray := prog_14_method_50_code
def yX12_lays : MethodName := ⟨RX12, "lays", "(I[I)I"⟩
abbrev cX12_keep : ByteArray := prog_14_method_51_code
def yX12_keep : MethodName := ⟨RX12, "keep", "(I)I"⟩
abbrev cX12_load : ByteArray := prog_14_method_52_code
def yX12_load : MethodName := ⟨RX12, "load", "(I)I"⟩
abbrev cX12_pile : ByteArray := prog_14_method_53_code
def yX12_pile : MethodName := ⟨RX12, "pile", "(II)I"⟩
abbrev cX12_addsTo : ByteArray := prog_14_method_54_code
def yX12_addsTo : MethodName := ⟨RX12, "addsTo", "([I[I)I"⟩
abbrev cX12_sum : ByteArray := prog_14_method_55_code
def yX12_sum : MethodName := ⟨RX12, "sum", "(III)I"⟩
abbrev cX12_laysNought : ByteArray := prog_14_method_56_code
def yX12_laysNought : MethodName := ⟨RX12, "laysNought", "()V"⟩
abbrev cX12_nought : ByteArray := prog_14_method_57_code
def yX12_nought : MethodName := ⟨RX12, "nought", "(I)I"⟩
abbrev cX12_isLike : ByteArray := prog_14_method_58_code
def yX12_isLike : MethodName := ⟨RX12, "isLike", "([I[I)Z"⟩
abbrev cX12_times : ByteArray := prog_14_method_59_code
def yX12_times : MethodName := ⟨RX12, "times", "(III)I"⟩
abbrev cX12_opposite : ByteArray := prog_14_method_60_code
def yX12_opposite : MethodName := ⟨RX12, "opposite", "(II)I"⟩
abbrev cX12_order : ByteArray := prog_14_method_61_code
def yX12_order : MethodName := ⟨RX12, "order", "(I)I"⟩
abbrev cX12_one : ByteArray := prog_14_method_62_code
def yX12_one : MethodName := ⟨RX12, "one", "(II)I"⟩
abbrev cX12_laysMatrix : ByteArray := prog_14_method_63_code
def yX12_laysMatrix : MethodName := ⟨RX12, "laysMatrix", "()V"⟩
abbrev cX12_group : ByteArray := prog_14_method_64_code
def yX12_group : MethodName := ⟨RX12, "group", "()J"⟩
abbrev cX12_unburnt : ByteArray := prog_14_method_65_code
def yX12_unburnt : MethodName := ⟨RX12, "unburnt", "(I)I"⟩
abbrev cX12_burns : ByteArray := prog_14_method_66_code
def yX12_burns : MethodName := ⟨RX12, "burns", "([I)I"⟩
abbrev cX12_notBurnt : ByteArray := prog_14_method_67_code
def yX12_notBurnt : MethodName := ⟨RX12, "notBurnt", "()I"⟩
abbrev cX12_burn : ByteArray := prog_14_method_68_code
def yX12_burn : MethodName := ⟨RX12, "burn", "(II)I"⟩
abbrev cX12_through : ByteArray := prog_14_method_69_code
def yX12_through : MethodName := ⟨RX12, "through", "()I"⟩
abbrev cX12_avalanche : ByteArray := prog_14_method_70_code
def yX12_avalanche : MethodName := ⟨RX12, "avalanche", "(II)I"⟩
abbrev cX12_codeOf : ByteArray := prog_14_method_71_code
def yX12_codeOf : MethodName := ⟨RX12, "codeOf", "([I)I"⟩
abbrev cX12_ahead : ByteArray := prog_14_method_72_code
def yX12_ahead : MethodName := ⟨RX12, "ahead", "(I)I"⟩
abbrev cX12_again : ByteArray := prog_14_method_73_code
def yX12_again : MethodName := ⟨RX12, "again", "(II)I"⟩
abbrev cX12_countsSize : ByteArray := prog_14_method_74_code
def yX12_countsSize : MethodName := ⟨RX12, "countsSize", "(I)V"⟩
abbrev cX12_placeOf : ByteArray := prog_14_method_75_code
def yX12_placeOf : MethodName := ⟨RX12, "placeOf", "(I)I"⟩
abbrev cX12_lotsThen : ByteArray := prog_14_method_76_code
def yX12_lotsThen : MethodName := ⟨RX12, "lotsThen", "(IIII)I"⟩
abbrev cX12_lots : ByteArray := prog_14_method_77_code
def yX12_lots : MethodName := ⟨RX12, "lots", "(III)I"⟩
abbrev cX12_isList : ByteArray := prog_14_method_78_code
def yX12_isList : MethodName := ⟨RX12, "isList", "(I)Z"⟩
abbrev cX12_judge : ByteArray := prog_14_method_79_code
def yX12_judge : MethodName := ⟨RX12, "judge", "(I)I"⟩
abbrev cX12_firstUntold : ByteArray := prog_14_method_80_code
def yX12_firstUntold : MethodName := ⟨RX12, "firstUntold", "(I)I"⟩
abbrev cX12_then : ByteArray := prog_14_method_81_code
def yX12_then : MethodName := ⟨RX12, "then", "(I)J"⟩
abbrev cX12_steadies : ByteArray := prog_14_method_82_code
def yX12_steadies : MethodName := ⟨RX12, "steadies", "(I)I"⟩
abbrev cX12_film : ByteArray := prog_14_method_83_code
def yX12_film : MethodName := ⟨RX12, "film", "(I)I"⟩
abbrev cX12_list : ByteArray := prog_14_method_84_code
def yX12_list : MethodName := ⟨RX12, "list", "(II)I"⟩
abbrev cX12_put : ByteArray := prog_14_method_85_code
def yX12_put : MethodName := ⟨RX12, "put", "(III)I"⟩
abbrev cX12_get : ByteArray := prog_14_method_86_code
def yX12_get : MethodName := ⟨RX12, "get", "(II)J"⟩
abbrev cX12_holding : ByteArray := prog_14_method_87_code
def yX12_holding : MethodName := ⟨RX12, "holding", "()I"⟩
abbrev cX12_count : ByteArray := prog_14_method_88_code
def yX12_count : MethodName := ⟨RX12, "count", "(I)I"⟩
def RJ9 : String := "java/lang/Math"
def TJ9 : u_T := fun k => match k with
  | _ => ("", "", "", false)
def tyJ9 : Nat → FieldType := fun k => match k with
  | _ => .int
abbrev wsJ90 : List Cond := u_ws RJ9 TJ9 0
theorem nmJ9 : ∀ a, a < 0 → ∀ b, b < 0 → a ≠ b → (TJ9 a).2.1 ≠ (TJ9 b).2.1 := by decide +kernel
theorem tyJ9_ok : ∀ k, k < 0 → parseFieldDescriptor (TJ9 k).2.2.1 = some (tyJ9 k) := by decide +kernel
abbrev cJ9_max_7cf53 : ByteArray := prog_15_method_65_code
def yJ9_max_7cf53 : MethodName := ⟨RJ9, "max", "(II)I"⟩
def RJ10 : String := "java/lang/System"
def TJ10 : u_T := fun k => match k with
  | _ => ("", "", "", false)
def tyJ10 : Nat → FieldType := fun k => match k with
  | _ => .int
abbrev wsJ100 : List Cond := u_ws RJ10 TJ10 0
theorem nmJ10 : ∀ a, a < 0 → ∀ b, b < 0 → a ≠ b → (TJ10 a).2.1 ≠ (TJ10 b).2.1 := by decide +kernel
theorem tyJ10_ok : ∀ k, k < 0 → parseFieldDescriptor (TJ10 k).2.2.1 = some (tyJ10 k) := by decide +kernel
def RJ7 : String := "java/util/Arrays"
def TJ7 : u_T := fun k => match k with
  | _ => ("", "", "", false)
def tyJ7 : Nat → FieldType := fun k => match k with
  | _ => .int
abbrev wsJ70 : List Cond := u_ws RJ7 TJ7 0
theorem nmJ7 : ∀ a, a < 0 → ∀ b, b < 0 → a ≠ b → (TJ7 a).2.1 ≠ (TJ7 b).2.1 := by decide +kernel
theorem tyJ7_ok : ∀ k, k < 0 → parseFieldDescriptor (TJ7 k).2.2.1 = some (tyJ7 k) := by decide +kernel
abbrev cJ7_fill_d0a16 : ByteArray := prog_17_method_101_code
def yJ7_fill_d0a16 : MethodName := ⟨RJ7, "fill", "([JJ)V"⟩
abbrev cJ7_fill_53178 : ByteArray := prog_17_method_103_code
def yJ7_fill_53178 : MethodName := ⟨RJ7, "fill", "([II)V"⟩
def RL : String := "SandGroupLaw"
abbrev cL_law : ByteArray := code
def yL_law : MethodName := ⟨RL, "law", "([I)Z"⟩
abbrev vwCl : List vw_C := [(RX0, TX0, 3), (RX1, TX1, 3), (RX2, TX2, 2), (RX3, TX3, 8), (RX4, TX4, 7), (RX5, TX5, 1), (RX6, TX6, 4), (RX7, TX7, 2), (RX8, TX8, 6), (RX9, TX9, 5), (RX10, TX10, 8), (RX11, TX11, 15), (RX12, TX12, 40)]
