/-! the law from its entry (by program: wip/whole/gen/p91.py) -/
set_option maxHeartbeats 1000000 in
set_option maxRecDepth 100000 in
/-- the law, from its entry -/
theorem whole_start {p : Program} {e : Env} {s : State} {m : MethodId} {below : List Frame} {meth : Method} {c : Code} (l : Launch) (hflags : l.flags = flags0) {b L : Nat} {xs : Nat → Int32} (hL : L ≤ 2048) (C0 : lw_At p s m meth c b L xs) : W p l e room_1 s m #[Value.ref b] below meth c s.heap [] 0 0 (lw_Z below #[Value.ref b] s) (entryFrame m ([Value.ref b] : List Value).toArray 4) := by
  obtain ⟨hx, hb, hr, hml, hown, hts, hX, hbl, hlocks, hgv⟩ := id C0
  obtain ⟨X0, hK, hO⟩ := ct_know hts
  have hts' : ∀ w ∈ sy_T, w.before #[Value.ref b] s = true := fun w hw => hts w (List.mem_filter.mp hw).1
  have C : ct_c code 4 R_law X0 p s m #[Value.ref b] c := ⟨hx, hb, hml, hown, hts', hK, hO⟩
  have V : ct_V X0 (lw_A s) s [] s.heap [] := ⟨fun k q h => by simp at h, ⟨fun i j p q h => by simp at h, fun k q h => by simp at h⟩, va_S.rf, fun _ h => h⟩
  have hl := lv_entry ([.ref b]) (n := 4) (Nat.le_of_ble_eq_true rfl)
  rw [lg_entry_eq]
  generalize (lg_sl ([.ref b]) ++ List.replicate (4 - (lg_sl ([.ref b])).length) Slot.unset).toArray = ls at hl ⊢
  have hl : lv_has ls 4 [(0, .ref b)] := hl
  refine ct_new (a := 11) (N := 15) (cl := RX11) (T := TX11) (fs := [.null, .null, .null, .null, .null, .null, .null, .null, .null, .null, .null, .null, .null, .null, .null]) C V rfl (sy_inT (sy_i1 (List.mem_of_getElem? (i := 17) (by decide +kernel))) rfl) (sy_inT (sy_i1 (List.mem_of_getElem? (i := 18) (by decide +kernel))) rfl) sy_ini11 ct_fsX (Nat.le_of_ble_eq_true rfl) (Nat.le_of_ble_eq_true rfl) (show decode code 0 = .ok (.new 7, 3) by decide +kernel) (fun q1 H V => ?_)
  refine lv_dup hx hb (show decode code 3 = .ok (.dup, 1) by decide +kernel) rfl ?_
  refine ct_call (n := 0) (ws := []) C V (n_X11 X0 q1) rfl rfl (sy_inT (sy_i1 (List.mem_of_getElem? (i := 21) rfl)) rfl) sy_ini11 (sy_inT (sy_i1 (List.mem_of_getElem? (i := 19) (by decide +kernel))) rfl) (sy_inT (sy_i1 (List.mem_of_getElem? (i := 20) (by decide +kernel))) rfl) ⟨by decide, by decide, by decide +kernel⟩ ⟨Nat.le_of_ble_eq_true rfl, Nat.le_of_ble_eq_true rfl⟩ rfl hl.1 rfl (Nat.le_of_ble_eq_true rfl) (show decode code 4 = .ok (.invokespecial 9, 3) by decide +kernel) ⟨Nat.le_of_ble_eq_true rfl, Nat.le_of_ble_eq_true rfl⟩ (fun u1 H locs hG1 V => ?_)
  have V : ct_V X0 (lw_A s) s u1 H locs := V
  refine lv_astore_n (lv' := [(1, .ref q1), (0, .ref b)]) hx hb (show decode code 7 = .ok (.astore_n 1, 1) by decide +kernel) rfl hl (by decide) rfl (fun ls hl => ?_)
  refine ct_new (a := 12) (N := 40) (cl := RX12) (T := TX12) (fs := [.int 0, .int 0, .null, .null, .null, .null, .null, .int 0, .null, .null, .null, .null, .null, .int 0, .int 0, .null, .int 0, .int 0, .int 0, .int 0, .int 0, .int 0, .null, .null, .int 0, .null, .null, .null, .null, .null, .null, .null, .null, .null, .null, .null, .int 0, .null, .null, .null]) C V rfl (sy_inT (sy_i4 (List.mem_of_getElem? (i := 224) (by decide +kernel))) rfl) (sy_inT (sy_i4 (List.mem_of_getElem? (i := 225) (by decide +kernel))) rfl) sy_ini12 ct_fsM (Nat.le_of_ble_eq_true rfl) (Nat.le_of_ble_eq_true rfl) (show decode code 8 = .ok (.new 10, 3) by decide +kernel) (fun q2 H V => ?_)
  refine lv_dup hx hb (show decode code 11 = .ok (.dup, 1) by decide +kernel) rfl ?_
  refine ct_call (n := 0) (ws := u1) C V (n_X12 X0 q2) rfl rfl (sy_inT (sy_i4 (List.mem_of_getElem? (i := 228) rfl)) rfl) sy_ini12 (sy_inT (sy_i4 (List.mem_of_getElem? (i := 226) (by decide +kernel))) rfl) (sy_inT (sy_i4 (List.mem_of_getElem? (i := 227) (by decide +kernel))) rfl) ⟨by decide, by decide, by decide +kernel⟩ ⟨Nat.le_of_ble_eq_true rfl, Nat.le_of_ble_eq_true rfl⟩ rfl hl.1 rfl (Nat.le_of_ble_eq_true rfl) (show decode code 12 = .ok (.invokespecial 12, 3) by decide +kernel) ⟨Nat.le_of_ble_eq_true rfl, Nat.le_of_ble_eq_true rfl⟩ (fun u2 H locs hG2 V => ?_)
  refine lv_astore_n (lv' := [(2, .ref q2), (1, .ref q1), (0, .ref b)]) hx hb (show decode code 15 = .ok (.astore_n 2, 1) by decide +kernel) rfl hl (by decide) rfl (fun ls hl => ?_)
  refine lv_iconst (v := 0) hx hb (show decode code 16 = .ok (.iconst 0, 1) by decide +kernel) (by decide) ?_
  refine lv_istore_n (lv' := [(3, .int 0), (2, .ref q2), (1, .ref q1), (0, .ref b)]) hx hb (show decode code 17 = .ok (.istore_n 3, 1) by decide +kernel) rfl hl (by decide) rfl (fun ls hl => ?_)
  refine W.widen (k := 600000) (n := 7302250) (Nat.le_of_ble_eq_true rfl) (Nat.le_of_ble_eq_true rfl) ?_
  refine Exists.elim hG1 (fun ad1 hG1 => ?_)
  refine Exists.elim hG1 (fun σ1 hG1 => ?_)
  refine Exists.elim hG2 (fun ad2 hG2 => ?_)
  refine Exists.elim hG2 (fun σ2 hG2 => ?_)
  have V := ct_two (hG1.1 ▸ hG2.1 ▸ V) hG1.2.2 hG2.2.2
  refine law_loop hL C0 (X := (X0.1, X0.2.1, ad1)) (X' := (X0.1, X0.2.1, ad2)) hK hK 513 0 (by omega) (by omega) ct_S0 H locs ls ct_sO V ?_
  exact ct_lv hl hG1.2.1 hG2.2.1
