/-! the constructors of Shelf, Grid, SandGroup (by program: wip/whole/gen/p88.py) -/
def ct_z : sy_S := (fun _ _ => 0, fun _ _ => 0)
theorem ct_sub {X : sy_X} {A : Nat → Prop} {s : State} {ws ws' : va_W} {H : Heap} {locs : List Loc} (V : ct_V X A s ws H locs) (is : List Nat) (hn : va_nd is = true) (hs : is.map (fun i => ws[i]?) = ws'.map some) : ct_V X A s ws' H locs := by
  obtain ⟨hP, hD, hS, hA⟩ := V
  refine ⟨hP.sub is ?_, hD.sub is hn hs, hS, hA⟩
  have e : is.filterMap (fun i => ws[i]?) = (is.map (fun i => ws[i]?)).filterMap id := by
    rw [List.filterMap_map]; rfl
  rw [e, hs, List.filterMap_map]
  have : ∀ l : va_W, l.filterMap (id ∘ some) = l := by
    intro l
    induction l with
    | nil => rfl
    | cons a r ih => show a :: List.filterMap (id ∘ some) r = a :: r; rw [ih]
  exact this ws'
set_option maxRecDepth 100000 in
theorem n_X7p (X : sy_X) (h0 : Nat) : ct_Met mX7_init 8 108 [.null, .null] [.int 6, .int 16] X h0 (fun u => ∃ (q1 q2 : Nat) (σ : sy_S), u = ct_w (X.1, X.2.1, fun k => ([h0, q1, q1 + 1 + 0, q1 + 1 + 1, q1 + 1 + 2, q1 + 1 + 3, q1 + 1 + 4, q1 + 1 + 5, q2]).getD k 0) σ 0 shP ∧ ∀ i, i < 6 → σ.1 8 i = -1) := by
  refine ct_met (by decide +kernel) rfl rfl (Nat.le_of_ble_eq_true rfl) ?_
  intro l p e s m args below meth c ls A C hr hlk hin hA V hl
  have hl : lv_has ls 3 [(0, .ref h0), (1, .int 6), (2, .int 16)] := hl
  have C : ct_c cX7_init 3 RX7 X p s m args c := C
  have V : ct_V X A s [(h0, .inr (7, [.null, .null]))] s.heap [] := V
  generalize hQe : MQ _ _ _ _ _ _ _ = Qe
  generalize s.heap = H at V ⊢
  generalize ([] : List Loc) = locs at V ⊢
  obtain ⟨hx, hb, -⟩ := id C
  refine ct_obj C hl.1 (lv_at hl 0 rfl) (by decide) (by decide) (sy_inT (sy_i1 (List.mem_of_getElem? (i := 132) (by decide +kernel))) rfl) (sy_inT (sy_i1 (List.mem_of_getElem? (i := 23) (by decide +kernel))) rfl) (sy_inT (sy_i1 (List.mem_of_getElem? (i := 24) rfl)) rfl) (show decode cX7_init 0 = .ok (.aload_n 0, 1) by decide +kernel) (show decode cX7_init 1 = .ok (.invokespecial 1, 3) by decide +kernel) ?_
  refine lv_aload_n hx hb (show decode cX7_init 4 = .ok (.aload_n 0, 1) by decide +kernel) rfl (lv_at hl 0 rfl) ?_
  refine lv_iload_n hx hb (show decode cX7_init 5 = .ok (.iload_n 1, 1) by decide +kernel) rfl (lv_at hl 1 rfl) ?_
  refine lv_iload_n hx hb (show decode cX7_init 6 = .ok (.iload_n 2, 1) by decide +kernel) rfl (lv_at hl 2 rfl) ?_
  refine ct_newII (N := 6) (M := 16) C V (sy_inT (sy_i1 (List.mem_of_getElem? (i := 133) (by decide +kernel))) rfl) (sy_inT (sy_i1 (List.mem_of_getElem? (i := 77) (by decide +kernel))) rfl) (by decide) (by decide) (by decide) (by decide) (by decide) (Nat.le_of_ble_eq_true rfl) (Nat.le_of_ble_eq_true rfl) (show decode cX7_init 7 = .ok (.multianewarray 7 2, 4) by decide +kernel) (fun q1 H locs V => ?_)
  have V : ct_V X A s (((h0, .inr (7, [.null, .null])) :: (ct_tab X q1 6 16))) H locs := V
  refine ct_putF C hin V 0 (N := 2) (T := TX7) rfl (by decide) (by decide) rfl rfl ⟨rfl, rfl⟩ (by simp) (show decode cX7_init 11 = .ok (.putfield 9, 3) by decide +kernel) (fun H locs V => ?_)
  have V : ct_V X A s (((h0, .inr (7, [.ref q1, .null])) :: (ct_tab X q1 6 16))) H locs := V
  refine lv_aload_n hx hb (show decode cX7_init 14 = .ok (.aload_n 0, 1) by decide +kernel) rfl (lv_at hl 0 rfl) ?_
  refine lv_iload_n hx hb (show decode cX7_init 15 = .ok (.iload_n 1, 1) by decide +kernel) rfl (lv_at hl 1 rfl) ?_
  refine ct_newI (N := 6) C V (sy_inT (sy_i1 (List.mem_of_getElem? (i := 77) (by decide +kernel))) rfl) (by decide) (by decide) (by decide) (Nat.le_of_ble_eq_true rfl) (Nat.le_of_ble_eq_true rfl) (show decode cX7_init 16 = .ok (.newarray .int, 2) by decide +kernel) (fun q2 H V => ?_)
  have V : ct_V X A s (((h0, .inr (7, [.ref q1, .null])) :: (ct_tab X q1 6 16 ++ [(q2, .inl (X.2.1 0, 6, .inl fun _ => 0))]))) H locs := V
  refine ct_putF C hin V 1 (N := 2) (T := TX7) rfl (by decide) (by decide) rfl rfl ⟨rfl, rfl⟩ (by simp) (show decode cX7_init 18 = .ok (.putfield 14, 3) by decide +kernel) (fun H locs V => ?_)
  have V : ct_V X A s (((h0, .inr (7, [.ref q1, .ref q2])) :: (ct_tab X q1 6 16 ++ [(q2, .inl (X.2.1 0, 6, .inl fun _ => 0))]))) H locs := V
  refine lv_aload_n hx hb (show decode cX7_init 21 = .ok (.aload_n 0, 1) by decide +kernel) rfl (lv_at hl 0 rfl) ?_
  have E : sy_w (X.1, X.2.1, fun k => ([h0, q1, q1 + 1 + 0, q1 + 1 + 1, q1 + 1 + 2, q1 + 1 + 3, q1 + 1 + 4, q1 + 1 + 5, q2]).getD k 0) shP ct_z = ((h0, .inr (7, [.ref q1, .ref q2])) :: (ct_tab X q1 6 16 ++ [(q2, .inl (X.2.1 0, 6, .inl fun _ => 0))])) := (ct_w_eq _ _ _).symm.trans rfl
  rw [← E] at V
  refine ct_meth C V mX7_clear (k := 0) (As := []) (n := 0) (Q1 := fun r σ => r = none ∧ ∀ i, i < 6 → σ.1 8 i = -1) kX7_clear (sy_inT (sy_i1 (List.mem_of_getElem? (i := 134) (by decide +kernel))) rfl) (show decode cX7_init 22 = .ok (.invokevirtual 18, 3) by decide +kernel) rfl rfl (Nat.le_of_ble_eq_true rfl) (Nat.le_of_ble_eq_true rfl) ⟨Nat.le_of_ble_eq_true rfl, Nat.le_of_ble_eq_true rfl⟩ ⟨Nat.le_of_ble_eq_true rfl, Nat.le_of_ble_eq_true rfl⟩ hl.1 (z := (shP[0]).2) rfl (e_cp_clear (fun σ h => ⟨rfl, h⟩)) (fun r σ H locs hr V => ?_)
  obtain ⟨rfl, hq⟩ := hr
  subst hQe
  refine ct_end C hr hlk hA V ?_ ?_ ?_ (show decode cX7_init 25 = .ok (.return_, 1) by decide +kernel)
  · exact ⟨q1, q2, σ, (ct_w_eq _ _ _).symm, hq⟩
  · exact Nat.le_of_ble_eq_true rfl
  · exact Nat.le_of_ble_eq_true rfl
set_option maxRecDepth 100000 in
theorem n_X7l (X : sy_X) (h0 : Nat) : ct_Met mX7_init 6 168 [.null, .null] [.int 4, .int 40] X h0 (fun u => ∃ (q1 q2 : Nat) (σ : sy_S), u = ct_w (X.1, X.2.1, fun k => ([h0, q1, q1 + 1 + 0, q1 + 1 + 1, q1 + 1 + 2, q1 + 1 + 3, q2]).getD k 0) σ 0 shL ∧ ∀ i, i < 4 → σ.1 6 i = -1) := by
  refine ct_met (by decide +kernel) rfl rfl (Nat.le_of_ble_eq_true rfl) ?_
  intro l p e s m args below meth c ls A C hr hlk hin hA V hl
  have hl : lv_has ls 3 [(0, .ref h0), (1, .int 4), (2, .int 40)] := hl
  have C : ct_c cX7_init 3 RX7 X p s m args c := C
  have V : ct_V X A s [(h0, .inr (7, [.null, .null]))] s.heap [] := V
  generalize hQe : MQ _ _ _ _ _ _ _ = Qe
  generalize s.heap = H at V ⊢
  generalize ([] : List Loc) = locs at V ⊢
  obtain ⟨hx, hb, -⟩ := id C
  refine ct_obj C hl.1 (lv_at hl 0 rfl) (by decide) (by decide) (sy_inT (sy_i1 (List.mem_of_getElem? (i := 132) (by decide +kernel))) rfl) (sy_inT (sy_i1 (List.mem_of_getElem? (i := 23) (by decide +kernel))) rfl) (sy_inT (sy_i1 (List.mem_of_getElem? (i := 24) rfl)) rfl) (show decode cX7_init 0 = .ok (.aload_n 0, 1) by decide +kernel) (show decode cX7_init 1 = .ok (.invokespecial 1, 3) by decide +kernel) ?_
  refine lv_aload_n hx hb (show decode cX7_init 4 = .ok (.aload_n 0, 1) by decide +kernel) rfl (lv_at hl 0 rfl) ?_
  refine lv_iload_n hx hb (show decode cX7_init 5 = .ok (.iload_n 1, 1) by decide +kernel) rfl (lv_at hl 1 rfl) ?_
  refine lv_iload_n hx hb (show decode cX7_init 6 = .ok (.iload_n 2, 1) by decide +kernel) rfl (lv_at hl 2 rfl) ?_
  refine ct_newII (N := 4) (M := 40) C V (sy_inT (sy_i1 (List.mem_of_getElem? (i := 133) (by decide +kernel))) rfl) (sy_inT (sy_i1 (List.mem_of_getElem? (i := 77) (by decide +kernel))) rfl) (by decide) (by decide) (by decide) (by decide) (by decide) (Nat.le_of_ble_eq_true rfl) (Nat.le_of_ble_eq_true rfl) (show decode cX7_init 7 = .ok (.multianewarray 7 2, 4) by decide +kernel) (fun q1 H locs V => ?_)
  have V : ct_V X A s (((h0, .inr (7, [.null, .null])) :: (ct_tab X q1 4 40))) H locs := V
  refine ct_putF C hin V 0 (N := 2) (T := TX7) rfl (by decide) (by decide) rfl rfl ⟨rfl, rfl⟩ (by simp) (show decode cX7_init 11 = .ok (.putfield 9, 3) by decide +kernel) (fun H locs V => ?_)
  have V : ct_V X A s (((h0, .inr (7, [.ref q1, .null])) :: (ct_tab X q1 4 40))) H locs := V
  refine lv_aload_n hx hb (show decode cX7_init 14 = .ok (.aload_n 0, 1) by decide +kernel) rfl (lv_at hl 0 rfl) ?_
  refine lv_iload_n hx hb (show decode cX7_init 15 = .ok (.iload_n 1, 1) by decide +kernel) rfl (lv_at hl 1 rfl) ?_
  refine ct_newI (N := 4) C V (sy_inT (sy_i1 (List.mem_of_getElem? (i := 77) (by decide +kernel))) rfl) (by decide) (by decide) (by decide) (Nat.le_of_ble_eq_true rfl) (Nat.le_of_ble_eq_true rfl) (show decode cX7_init 16 = .ok (.newarray .int, 2) by decide +kernel) (fun q2 H V => ?_)
  have V : ct_V X A s (((h0, .inr (7, [.ref q1, .null])) :: (ct_tab X q1 4 40 ++ [(q2, .inl (X.2.1 0, 4, .inl fun _ => 0))]))) H locs := V
  refine ct_putF C hin V 1 (N := 2) (T := TX7) rfl (by decide) (by decide) rfl rfl ⟨rfl, rfl⟩ (by simp) (show decode cX7_init 18 = .ok (.putfield 14, 3) by decide +kernel) (fun H locs V => ?_)
  have V : ct_V X A s (((h0, .inr (7, [.ref q1, .ref q2])) :: (ct_tab X q1 4 40 ++ [(q2, .inl (X.2.1 0, 4, .inl fun _ => 0))]))) H locs := V
  refine lv_aload_n hx hb (show decode cX7_init 21 = .ok (.aload_n 0, 1) by decide +kernel) rfl (lv_at hl 0 rfl) ?_
  have E : sy_w (X.1, X.2.1, fun k => ([h0, q1, q1 + 1 + 0, q1 + 1 + 1, q1 + 1 + 2, q1 + 1 + 3, q2]).getD k 0) shL ct_z = ((h0, .inr (7, [.ref q1, .ref q2])) :: (ct_tab X q1 4 40 ++ [(q2, .inl (X.2.1 0, 4, .inl fun _ => 0))])) := (ct_w_eq _ _ _).symm.trans rfl
  rw [← E] at V
  refine ct_meth C V mX7_clear (k := 0) (As := []) (n := 0) (Q1 := fun r σ => r = none ∧ ∀ i, i < 4 → σ.1 6 i = -1) kX7_clear (sy_inT (sy_i1 (List.mem_of_getElem? (i := 134) (by decide +kernel))) rfl) (show decode cX7_init 22 = .ok (.invokevirtual 18, 3) by decide +kernel) rfl rfl (Nat.le_of_ble_eq_true rfl) (Nat.le_of_ble_eq_true rfl) ⟨Nat.le_of_ble_eq_true rfl, Nat.le_of_ble_eq_true rfl⟩ ⟨Nat.le_of_ble_eq_true rfl, Nat.le_of_ble_eq_true rfl⟩ hl.1 (z := (shL[0]).2) rfl (e_cl_clear (fun σ h => ⟨rfl, h⟩)) (fun r σ H locs hr V => ?_)
  obtain ⟨rfl, hq⟩ := hr
  subst hQe
  refine ct_end C hr hlk hA V ?_ ?_ ?_ (show decode cX7_init 25 = .ok (.return_, 1) by decide +kernel)
  · exact ⟨q1, q2, σ, (ct_w_eq _ _ _).symm, hq⟩
  · exact Nat.le_of_ble_eq_true rfl
  · exact Nat.le_of_ble_eq_true rfl
set_option maxRecDepth 100000 in
theorem n_X3 (X : sy_X) (h0 : Nat) : ct_Met mX3_init 5 128 [.null, .null, .null, .null, .null, .int 0, .int 0, .int 0] [.int 3, .int 3] X h0 (fun u => ∃ (q1 q2 q3 q4 q5 : Nat) (σ : sy_S), u = ct_w (X.1, X.2.1, fun k => ([h0, q1, q2, q3, q4, q5]).getD k 0) σ 0 shG ∧ gx (3, 3, fun _ => false) σ.1) := by
  refine ct_met (by decide +kernel) rfl rfl (Nat.le_of_ble_eq_true rfl) ?_
  intro l p e s m args below meth c ls A C hr hlk hin hA V hl
  have hl : lv_has ls 3 [(0, .ref h0), (1, .int 3), (2, .int 3)] := hl
  have C : ct_c cX3_init 3 RX3 X p s m args c := C
  have V : ct_V X A s [(h0, .inr (3, [.null, .null, .null, .null, .null, .int 0, .int 0, .int 0]))] s.heap [] := V
  generalize hQe : MQ _ _ _ _ _ _ _ = Qe
  generalize s.heap = H at V ⊢
  generalize ([] : List Loc) = locs at V ⊢
  obtain ⟨hx, hb, -⟩ := id C
  refine ct_obj C hl.1 (lv_at hl 0 rfl) (by decide) (by decide) (sy_inT (sy_i1 (List.mem_of_getElem? (i := 30) (by decide +kernel))) rfl) (sy_inT (sy_i1 (List.mem_of_getElem? (i := 23) (by decide +kernel))) rfl) (sy_inT (sy_i1 (List.mem_of_getElem? (i := 24) rfl)) rfl) (show decode cX3_init 0 = .ok (.aload_n 0, 1) by decide +kernel) (show decode cX3_init 1 = .ok (.invokespecial 3, 3) by decide +kernel) ?_
  refine lv_aload_n hx hb (show decode cX3_init 4 = .ok (.aload_n 0, 1) by decide +kernel) rfl (lv_at hl 0 rfl) ?_
  refine lv_bipush (v := 16) hx hb (show decode cX3_init 5 = .ok (.bipush 16, 2) by decide +kernel) (by decide) ?_
  refine ct_newI (N := 16) C V (sy_inT (sy_i1 (List.mem_of_getElem? (i := 77) (by decide +kernel))) rfl) (by decide) (by decide) (by decide) (Nat.le_of_ble_eq_true rfl) (Nat.le_of_ble_eq_true rfl) (show decode cX3_init 7 = .ok (.newarray .int, 2) by decide +kernel) (fun q1 H V => ?_)
  have V : ct_V X A s (((h0, .inr (3, [.null, .null, .null, .null, .null, .int 0, .int 0, .int 0])) :: [(q1, .inl (X.2.1 0, 16, .inl fun _ => 0))])) H locs := V
  refine ct_putF C hin V 0 (N := 8) (T := TX3) rfl (by decide) (by decide) rfl rfl ⟨rfl, rfl⟩ (by simp) (show decode cX3_init 9 = .ok (.putfield 9, 3) by decide +kernel) (fun H locs V => ?_)
  have V : ct_V X A s (((h0, .inr (3, [.ref q1, .null, .null, .null, .null, .int 0, .int 0, .int 0])) :: [(q1, .inl (X.2.1 0, 16, .inl fun _ => 0))])) H locs := V
  refine lv_aload_n hx hb (show decode cX3_init 12 = .ok (.aload_n 0, 1) by decide +kernel) rfl (lv_at hl 0 rfl) ?_
  refine lv_bipush (v := 16) hx hb (show decode cX3_init 13 = .ok (.bipush 16, 2) by decide +kernel) (by decide) ?_
  refine ct_newI (N := 16) C V (sy_inT (sy_i1 (List.mem_of_getElem? (i := 77) (by decide +kernel))) rfl) (by decide) (by decide) (by decide) (Nat.le_of_ble_eq_true rfl) (Nat.le_of_ble_eq_true rfl) (show decode cX3_init 15 = .ok (.newarray .int, 2) by decide +kernel) (fun q2 H V => ?_)
  have V : ct_V X A s (((h0, .inr (3, [.ref q1, .null, .null, .null, .null, .int 0, .int 0, .int 0])) :: [(q1, .inl (X.2.1 0, 16, .inl fun _ => 0)), (q2, .inl (X.2.1 0, 16, .inl fun _ => 0))])) H locs := V
  refine ct_putF C hin V 1 (N := 8) (T := TX3) rfl (by decide) (by decide) rfl rfl ⟨rfl, rfl⟩ (by simp) (show decode cX3_init 17 = .ok (.putfield 15, 3) by decide +kernel) (fun H locs V => ?_)
  have V : ct_V X A s (((h0, .inr (3, [.ref q1, .ref q2, .null, .null, .null, .int 0, .int 0, .int 0])) :: [(q1, .inl (X.2.1 0, 16, .inl fun _ => 0)), (q2, .inl (X.2.1 0, 16, .inl fun _ => 0))])) H locs := V
  refine lv_aload_n hx hb (show decode cX3_init 20 = .ok (.aload_n 0, 1) by decide +kernel) rfl (lv_at hl 0 rfl) ?_
  refine lv_bipush (v := 16) hx hb (show decode cX3_init 21 = .ok (.bipush 16, 2) by decide +kernel) (by decide) ?_
  refine ct_newI (N := 16) C V (sy_inT (sy_i1 (List.mem_of_getElem? (i := 77) (by decide +kernel))) rfl) (by decide) (by decide) (by decide) (Nat.le_of_ble_eq_true rfl) (Nat.le_of_ble_eq_true rfl) (show decode cX3_init 23 = .ok (.newarray .int, 2) by decide +kernel) (fun q3 H V => ?_)
  have V : ct_V X A s (((h0, .inr (3, [.ref q1, .ref q2, .null, .null, .null, .int 0, .int 0, .int 0])) :: [(q1, .inl (X.2.1 0, 16, .inl fun _ => 0)), (q2, .inl (X.2.1 0, 16, .inl fun _ => 0)), (q3, .inl (X.2.1 0, 16, .inl fun _ => 0))])) H locs := V
  refine ct_putF C hin V 2 (N := 8) (T := TX3) rfl (by decide) (by decide) rfl rfl ⟨rfl, rfl⟩ (by simp) (show decode cX3_init 25 = .ok (.putfield 18, 3) by decide +kernel) (fun H locs V => ?_)
  have V : ct_V X A s (((h0, .inr (3, [.ref q1, .ref q2, .ref q3, .null, .null, .int 0, .int 0, .int 0])) :: [(q1, .inl (X.2.1 0, 16, .inl fun _ => 0)), (q2, .inl (X.2.1 0, 16, .inl fun _ => 0)), (q3, .inl (X.2.1 0, 16, .inl fun _ => 0))])) H locs := V
  refine lv_aload_n hx hb (show decode cX3_init 28 = .ok (.aload_n 0, 1) by decide +kernel) rfl (lv_at hl 0 rfl) ?_
  refine lv_bipush (v := 64) hx hb (show decode cX3_init 29 = .ok (.bipush 64, 2) by decide +kernel) (by decide) ?_
  refine ct_newI (N := 64) C V (sy_inT (sy_i1 (List.mem_of_getElem? (i := 77) (by decide +kernel))) rfl) (by decide) (by decide) (by decide) (Nat.le_of_ble_eq_true rfl) (Nat.le_of_ble_eq_true rfl) (show decode cX3_init 31 = .ok (.newarray .int, 2) by decide +kernel) (fun q4 H V => ?_)
  have V : ct_V X A s (((h0, .inr (3, [.ref q1, .ref q2, .ref q3, .null, .null, .int 0, .int 0, .int 0])) :: [(q1, .inl (X.2.1 0, 16, .inl fun _ => 0)), (q2, .inl (X.2.1 0, 16, .inl fun _ => 0)), (q3, .inl (X.2.1 0, 16, .inl fun _ => 0)), (q4, .inl (X.2.1 0, 64, .inl fun _ => 0))])) H locs := V
  refine ct_putF C hin V 3 (N := 8) (T := TX3) rfl (by decide) (by decide) rfl rfl ⟨rfl, rfl⟩ (by simp) (show decode cX3_init 33 = .ok (.putfield 21, 3) by decide +kernel) (fun H locs V => ?_)
  have V : ct_V X A s (((h0, .inr (3, [.ref q1, .ref q2, .ref q3, .ref q4, .null, .int 0, .int 0, .int 0])) :: [(q1, .inl (X.2.1 0, 16, .inl fun _ => 0)), (q2, .inl (X.2.1 0, 16, .inl fun _ => 0)), (q3, .inl (X.2.1 0, 16, .inl fun _ => 0)), (q4, .inl (X.2.1 0, 64, .inl fun _ => 0))])) H locs := V
  refine lv_aload_n hx hb (show decode cX3_init 36 = .ok (.aload_n 0, 1) by decide +kernel) rfl (lv_at hl 0 rfl) ?_
  refine lv_bipush (v := 16) hx hb (show decode cX3_init 37 = .ok (.bipush 16, 2) by decide +kernel) (by decide) ?_
  refine ct_newI (N := 16) C V (sy_inT (sy_i1 (List.mem_of_getElem? (i := 77) (by decide +kernel))) rfl) (by decide) (by decide) (by decide) (Nat.le_of_ble_eq_true rfl) (Nat.le_of_ble_eq_true rfl) (show decode cX3_init 39 = .ok (.newarray .int, 2) by decide +kernel) (fun q5 H V => ?_)
  have V : ct_V X A s (((h0, .inr (3, [.ref q1, .ref q2, .ref q3, .ref q4, .null, .int 0, .int 0, .int 0])) :: [(q1, .inl (X.2.1 0, 16, .inl fun _ => 0)), (q2, .inl (X.2.1 0, 16, .inl fun _ => 0)), (q3, .inl (X.2.1 0, 16, .inl fun _ => 0)), (q4, .inl (X.2.1 0, 64, .inl fun _ => 0)), (q5, .inl (X.2.1 0, 16, .inl fun _ => 0))])) H locs := V
  refine ct_putF C hin V 4 (N := 8) (T := TX3) rfl (by decide) (by decide) rfl rfl ⟨rfl, rfl⟩ (by simp) (show decode cX3_init 41 = .ok (.putfield 24, 3) by decide +kernel) (fun H locs V => ?_)
  have V : ct_V X A s (((h0, .inr (3, [.ref q1, .ref q2, .ref q3, .ref q4, .ref q5, .int 0, .int 0, .int 0])) :: [(q1, .inl (X.2.1 0, 16, .inl fun _ => 0)), (q2, .inl (X.2.1 0, 16, .inl fun _ => 0)), (q3, .inl (X.2.1 0, 16, .inl fun _ => 0)), (q4, .inl (X.2.1 0, 64, .inl fun _ => 0)), (q5, .inl (X.2.1 0, 16, .inl fun _ => 0))])) H locs := V
  refine lv_aload_n hx hb (show decode cX3_init 44 = .ok (.aload_n 0, 1) by decide +kernel) rfl (lv_at hl 0 rfl) ?_
  refine lv_iload_n hx hb (show decode cX3_init 45 = .ok (.iload_n 1, 1) by decide +kernel) rfl (lv_at hl 1 rfl) ?_
  refine lv_iload_n hx hb (show decode cX3_init 46 = .ok (.iload_n 2, 1) by decide +kernel) rfl (lv_at hl 2 rfl) ?_
  have E : sy_w (X.1, X.2.1, fun k => ([h0, q1, q2, q3, q4, q5]).getD k 0) shG ct_z = ((h0, .inr (3, [.ref q1, .ref q2, .ref q3, .ref q4, .ref q5, .int 0, .int 0, .int 0])) :: [(q1, .inl (X.2.1 0, 16, .inl fun _ => 0)), (q2, .inl (X.2.1 0, 16, .inl fun _ => 0)), (q3, .inl (X.2.1 0, 16, .inl fun _ => 0)), (q4, .inl (X.2.1 0, 64, .inl fun _ => 0)), (q5, .inl (X.2.1 0, 16, .inl fun _ => 0))]) := (ct_w_eq _ _ _).symm.trans rfl
  rw [← E] at V
  refine ct_meth C V mX3_shape (k := 0) (As := [.int (nI 3), .int (nI 3)]) (n := 2) (Q1 := fun r σ => r = none ∧ gx (3, 3, fun _ => false) σ.1) kX3_shape (sy_inT (sy_i1 (List.mem_of_getElem? (i := 31) (by decide +kernel))) rfl) (show decode cX3_init 47 = .ok (.invokevirtual 27, 3) by decide +kernel) rfl rfl (Nat.le_of_ble_eq_true rfl) (Nat.le_of_ble_eq_true rfl) ⟨Nat.le_of_ble_eq_true rfl, Nat.le_of_ble_eq_true rfl⟩ ⟨Nat.le_of_ble_eq_true rfl, Nat.le_of_ble_eq_true rfl⟩ hl.1 (z := (shG[0]).2) rfl (e_g_shape (r := 3) (c := 3) ⟨by decide, by decide, by decide, by decide⟩ (fun σ h _ _ => ⟨rfl, h⟩)) (fun r σ H locs hr V => ?_)
  obtain ⟨rfl, hq⟩ := hr
  subst hQe
  refine ct_end C hr hlk hA V ?_ ?_ ?_ (show decode cX3_init 50 = .ok (.return_, 1) by decide +kernel)
  · exact ⟨q1, q2, q3, q4, q5, σ, (ct_w_eq _ _ _).symm, hq⟩
  · exact Nat.le_of_ble_eq_true rfl
  · exact Nat.le_of_ble_eq_true rfl
