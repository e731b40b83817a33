/-! the law's loop (by program: wip/whole/gen/p85.py) -/
theorem dL_32 : decode code 32 = .ok (.tableswitch 1193 0 36 #[164, 197, 246, 279, 302, 335, 358, 371, 394, 407, 430, 453, 486, 519, 542, 565, 598, 641, 664, 707, 740, 763, 796, 810, 843, 856, 889, 922, 965, 988, 1011, 1034, 1067, 1110, 1144, 1157, 1170], 164) := by decide +kernel
theorem lw_end {N k : Nat} (hN : N ≤ 2048) (hk : 4 * k ≤ N) : (nI N - 4 < nI (4 * k)) ↔ N < 4 * k + 4 := by
  by_cases h : 4 ≤ N
  · have e : nI N - 4 = nI (N - 4) := pk_sub (b := 4) h
    rw [e, nI_ltI (by omega) (by omega)]
    omega
  · have e : k = 0 := by omega
    subst e
    refine ⟨fun _ => by omega, fun _ => ?_⟩
    match N, h with
    | 0, _ => decide
    | 1, _ => decide
    | 2, _ => decide
    | 3, _ => decide
    | n + 4, h => exact absurd (by omega) h
section LAW
variable {p : Program} {l : Launch} {e : Env} {s : State} {m : MethodId} {below : List Frame} {meth : Method} {c : Code} {b N : Nat} {xs : Nat → Int32} {X X' : sy_X}
theorem law_loop (hN : N ≤ 2048) (C0 : lw_At p s m meth c b N xs) (hK : sy_K X s) (hK' : sy_K X' s) :
    ∀ (d k : Nat), N < 4 * (k + d) → 4 * k ≤ N → ∀ (S : st) (H : Heap) (locs : List Loc) (ls : Array Slot), sO (999 + k) S → lw_V X X' s S S H locs → lv_has ls 4 [(0, .ref b), (1, .ref (X.2.2 6)), (2, .ref (X'.2.2 0)), (3, .int (nI (4 * k)))] → W p l e room_1 s m #[Value.ref b] below meth c H locs 600000 7302250 (lw_Z below #[Value.ref b] s) (F0 m 18 ls []) := by
  obtain ⟨hx, hb, hr, hml, hown, hts, hX, hbl, hlocks, hgv⟩ := C0
  have hts' : ∀ w ∈ sy_T, w.before #[Value.ref b] s = true := fun w hw => hts w (List.mem_filter.mp hw).1
  have hbA : ¬ lw_A s b := Nat.not_le.mpr hbl
  intro d
  induction d with
  | zero => intro k h1 h2; omega
  | succ d ih =>
    intro k h1 h2 S H locs ls ho V hl
    have hS := lw_VS V
    refine lv_iload_n hx hb (show decode code 18 = .ok (.iload_n 3, 1) by decide +kernel) rfl (lv_at hl 3 rfl) ?_
    refine lv_aload_n hx hb (show decode code 19 = .ok (.aload_n 0, 1) by decide +kernel) rfl (lv_at hl 0 rfl) ?_
    refine va_slen hx hb hX hbl hbA hS (show decode code 20 = .ok (.arraylength, 1) by decide +kernel) ?_
    refine lv_iconst (v := 4) hx hb (show decode code 21 = .ok (.iconst 4, 1) by decide +kernel) (by decide) ?_
    refine lv_isub hx hb (show decode code 22 = .ok (.isub, 1) by decide +kernel) ?_
    have eend := lw_end hN h2
    refine lv_icmp_gt (tgt := 1231) hx hb (show decode code 23 = .ok (.if_icmp .gt 1208, 3) by decide +kernel) (by decide) (fun q => ?_) (fun q => ?_)
    · refine lv_iconst (v := 1) hx hb (show decode code 1231 = .ok (.iconst 1, 1) by decide +kernel) (by decide) ?_
      refine va_forget (fun q hq => hS.2.2 q hq) ?_
      exact lw_ret hx hb hr hlocks (show decode code 1232 = .ok (.ireturn, 1) by decide +kernel)
    · have hlt : 4 * k + 4 ≤ N := Nat.not_lt.mp (fun z => q (eend.mpr z))
      have Hy : lw_Hy p s m c b N xs X X' ls (4 * k) 600000 7302250 := ⟨hx, hb, hml, hown, hts', hX, hbl, hl, hlt, hN, hK, hK', Nat.le_refl _, Nat.le_refl _⟩
      have tail : ∀ (S' : st) (H1 : Heap) (locs1 : List Loc), sO (999 + k + 1) S' → lw_V X X' s S' S' H1 locs1 → W p l e room_1 s m #[Value.ref b] below meth c H1 locs1 600000 7302250 (lw_Z below #[Value.ref b] s) (F0 m 1225 ls []) := by
        intro S' H1 locs1 ho1 V1
        refine lv_iinc (v := nI (4 * (k + 1))) (lv' := [(3, .int (nI (4 * (k + 1)))), (0, .ref b), (1, .ref (X.2.2 6)), (2, .ref (X'.2.2 0))]) hx hb (show decode code 1225 = .ok (.iinc 3 4, 3) by decide +kernel) hl (k := 3) rfl (nI_add (4 * k) 4) (by decide) rfl (fun ls hl => ?_)
        refine lv_goto (tgt := 18) hx hb (show decode code 1228 = .ok (.goto (-1210), 3) by decide +kernel) (by decide) ?_
        exact ih (k + 1) (by omega) (by omega) S' H1 locs1 ls ho1 V1 (lv_sub hl [1, 2, 3, 0] rfl)
      refine lv_aload_n hx hb (show decode code 26 = .ok (.aload_n 0, 1) by decide +kernel) rfl (lv_at hl 0 rfl) ?_
      refine lv_iload_n hx hb (show decode code 27 = .ok (.iload_n 3, 1) by decide +kernel) rfl (lv_at hl 3 rfl) ?_
      refine va_sld hx hb hX hbl hbA hS (vp_in_nI (by omega) (by omega)) (show decode code 28 = .ok (.iaload, 1) by decide +kernel) ?_
      rw [nI_clamp (by omega)]
      refine lv_bipush (v := 63) hx hb (show decode code 29 = .ok (.bipush 63, 2) by decide +kernel) (by decide) ?_
      refine lv_iand hx hb (show decode code 31 = .ok (.iand, 1) by decide +kernel) ?_
      obtain ⟨t, ht, et⟩ : ∃ t, t < 64 ∧ xs (4 * k) &&& 63 = nI t := ⟨_, Nat.mod_lt _ (by decide), pk_and (xs (4 * k)) (m := 63) 6 rfl⟩
      rw [et]
      have hB : 999 ≤ 999 + k := by omega
      have hB2 : 999 + k ≤ 2000 := by omega
      match t, ht with
      | 0, _ => exact lv_tableIn (off := 164) (tgt := 196) hx hb dL_32 (by decide) (by decide) rfl (by decide) (lw_c0 Hy V ho hB hB2 tail)
      | 1, _ => exact lv_tableIn (off := 197) (tgt := 229) hx hb dL_32 (by decide) (by decide) rfl (by decide) (lw_c1 Hy V ho hB hB2 tail)
      | 2, _ => exact lv_tableIn (off := 246) (tgt := 278) hx hb dL_32 (by decide) (by decide) rfl (by decide) (lw_c2 Hy V ho hB hB2 tail)
      | 3, _ => exact lv_tableIn (off := 279) (tgt := 311) hx hb dL_32 (by decide) (by decide) rfl (by decide) (lw_c3 Hy V ho hB hB2 tail)
      | 4, _ => exact lv_tableIn (off := 302) (tgt := 334) hx hb dL_32 (by decide) (by decide) rfl (by decide) (lw_c4 Hy V ho hB hB2 tail)
      | 5, _ => exact lv_tableIn (off := 335) (tgt := 367) hx hb dL_32 (by decide) (by decide) rfl (by decide) (lw_c5 Hy V ho hB hB2 tail)
      | 6, _ => exact lv_tableIn (off := 358) (tgt := 390) hx hb dL_32 (by decide) (by decide) rfl (by decide) (lw_c6 Hy V ho hB hB2 tail)
      | 7, _ => exact lv_tableIn (off := 371) (tgt := 403) hx hb dL_32 (by decide) (by decide) rfl (by decide) (lw_c7 Hy V ho hB hB2 tail)
      | 8, _ => exact lv_tableIn (off := 394) (tgt := 426) hx hb dL_32 (by decide) (by decide) rfl (by decide) (lw_c8 Hy V ho hB hB2 tail)
      | 9, _ => exact lv_tableIn (off := 407) (tgt := 439) hx hb dL_32 (by decide) (by decide) rfl (by decide) (lw_c9 Hy V ho hB hB2 tail)
      | 10, _ => exact lv_tableIn (off := 430) (tgt := 462) hx hb dL_32 (by decide) (by decide) rfl (by decide) (lw_c10 Hy V ho hB hB2 tail)
      | 11, _ => exact lv_tableIn (off := 453) (tgt := 485) hx hb dL_32 (by decide) (by decide) rfl (by decide) (lw_c11 Hy V ho hB hB2 tail)
      | 12, _ => exact lv_tableIn (off := 486) (tgt := 518) hx hb dL_32 (by decide) (by decide) rfl (by decide) (lw_c12 Hy V ho hB hB2 tail)
      | 13, _ => exact lv_tableIn (off := 519) (tgt := 551) hx hb dL_32 (by decide) (by decide) rfl (by decide) (lw_c13 Hy V ho hB hB2 tail)
      | 14, _ => exact lv_tableIn (off := 542) (tgt := 574) hx hb dL_32 (by decide) (by decide) rfl (by decide) (lw_c14 Hy V ho hB hB2 tail)
      | 15, _ => exact lv_tableIn (off := 565) (tgt := 597) hx hb dL_32 (by decide) (by decide) rfl (by decide) (lw_c15 Hy V ho hB hB2 tail)
      | 16, _ => exact lv_tableIn (off := 598) (tgt := 630) hx hb dL_32 (by decide) (by decide) rfl (by decide) (lw_c16 Hy V ho hB hB2 tail)
      | 17, _ => exact lv_tableIn (off := 641) (tgt := 673) hx hb dL_32 (by decide) (by decide) rfl (by decide) (lw_c17 Hy V ho hB hB2 tail)
      | 18, _ => exact lv_tableIn (off := 664) (tgt := 696) hx hb dL_32 (by decide) (by decide) rfl (by decide) (lw_c18 Hy V ho hB hB2 tail)
      | 19, _ => exact lv_tableIn (off := 707) (tgt := 739) hx hb dL_32 (by decide) (by decide) rfl (by decide) (lw_c19 Hy V ho hB hB2 tail)
      | 20, _ => exact lv_tableIn (off := 740) (tgt := 772) hx hb dL_32 (by decide) (by decide) rfl (by decide) (lw_c20 Hy V ho hB hB2 tail)
      | 21, _ => exact lv_tableIn (off := 763) (tgt := 795) hx hb dL_32 (by decide) (by decide) rfl (by decide) (lw_c21 Hy V ho hB hB2 tail)
      | 22, _ => exact lv_tableIn (off := 796) (tgt := 828) hx hb dL_32 (by decide) (by decide) rfl (by decide) (lw_c22 Hy V ho hB hB2 tail)
      | 23, _ => exact lv_tableIn (off := 810) (tgt := 842) hx hb dL_32 (by decide) (by decide) rfl (by decide) (lw_c23 Hy V ho hB hB2 tail)
      | 24, _ => exact lv_tableIn (off := 843) (tgt := 875) hx hb dL_32 (by decide) (by decide) rfl (by decide) (lw_c24 Hy V ho hB hB2 tail)
      | 25, _ => exact lv_tableIn (off := 856) (tgt := 888) hx hb dL_32 (by decide) (by decide) rfl (by decide) (lw_c25 Hy V ho hB hB2 tail)
      | 26, _ => exact lv_tableIn (off := 889) (tgt := 921) hx hb dL_32 (by decide) (by decide) rfl (by decide) (lw_c26 Hy V ho hB hB2 tail)
      | 27, _ => exact lv_tableIn (off := 922) (tgt := 954) hx hb dL_32 (by decide) (by decide) rfl (by decide) (lw_c27 Hy V ho hB hB2 tail)
      | 28, _ => exact lv_tableIn (off := 965) (tgt := 997) hx hb dL_32 (by decide) (by decide) rfl (by decide) (lw_c28 Hy V ho hB hB2 tail)
      | 29, _ => exact lv_tableIn (off := 988) (tgt := 1020) hx hb dL_32 (by decide) (by decide) rfl (by decide) (lw_c29 Hy V ho hB hB2 tail)
      | 30, _ => exact lv_tableIn (off := 1011) (tgt := 1043) hx hb dL_32 (by decide) (by decide) rfl (by decide) (lw_c30 Hy V ho hB hB2 tail)
      | 31, _ => exact lv_tableIn (off := 1034) (tgt := 1066) hx hb dL_32 (by decide) (by decide) rfl (by decide) (lw_c31 Hy V ho hB hB2 tail)
      | 32, _ => exact lv_tableIn (off := 1067) (tgt := 1099) hx hb dL_32 (by decide) (by decide) rfl (by decide) (lw_c32 Hy V ho hB hB2 tail)
      | 33, _ => exact lv_tableIn (off := 1110) (tgt := 1142) hx hb dL_32 (by decide) (by decide) rfl (by decide) (lw_c33 Hy V ho hB hB2 tail)
      | 34, _ => exact lv_tableIn (off := 1144) (tgt := 1176) hx hb dL_32 (by decide) (by decide) rfl (by decide) (lw_c34 Hy V ho hB hB2 tail)
      | 35, _ => exact lv_tableIn (off := 1157) (tgt := 1189) hx hb dL_32 (by decide) (by decide) rfl (by decide) (lw_c35 Hy V ho hB hB2 tail)
      | 36, _ => exact lv_tableIn (off := 1170) (tgt := 1202) hx hb dL_32 (by decide) (by decide) rfl (by decide) (lw_c36 Hy V ho hB hB2 tail)
      | t + 37, ht =>
        refine lv_tableOut (tgt := 1225) hx hb dL_32 (Or.inr ?_) (by decide) (tail S H locs (ho.mono (Nat.le_succ _)) V)
        rw [nI_toInt (by omega)]; omega
end LAW
