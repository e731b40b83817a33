section
-- ===== PART A: goes FIRST, ahead of the names: the tables' words, and 'selects' of the private methods out of them =====
/-- a private method of a class that the tables say can be made, by its rows of tables_1 -/
def lw_okq (q : MethodName × Nat) : Prop := (q.1.cls ≠ "java/lang/invoke/MethodHandle" ∧ q.1.cls ≠ "java/lang/invoke/VarHandle") ∧ Cond.instantiable q.1.cls q.2 ∈ tables_1 ∧ Cond.privateMethod q.1 ∈ tables_1 ∧ Cond.instanceMethod q.1 ∈ tables_1
theorem lw_p0 : lw_okq (⟨"SandGroup$Grid", "link", "()V"⟩, 8) := ⟨⟨by decide +kernel, by decide +kernel⟩, List.mem_of_getElem? (i := 26) (by decide +kernel), List.mem_of_getElem? (i := 39) (by decide +kernel), List.mem_of_getElem? (i := 40) (by decide +kernel)⟩
theorem lw_p1 : lw_okq (⟨"SandGroup$Grid", "linkCell", "(III)V"⟩, 8) := ⟨⟨by decide +kernel, by decide +kernel⟩, List.mem_of_getElem? (i := 26) (by decide +kernel), List.mem_of_getElem? (i := 43) (by decide +kernel), List.mem_of_getElem? (i := 44) (by decide +kernel)⟩
theorem lw_p2 : lw_okq (⟨"SandGroup$Grid", "join", "(II)V"⟩, 8) := ⟨⟨by decide +kernel, by decide +kernel⟩, List.mem_of_getElem? (i := 26) (by decide +kernel), List.mem_of_getElem? (i := 47) (by decide +kernel), List.mem_of_getElem? (i := 48) (by decide +kernel)⟩
theorem lw_p3 : lw_okq (⟨"SandGroup", "forgetPilesAndChanges", "()V"⟩, 15) := ⟨⟨by decide +kernel, by decide +kernel⟩, List.mem_of_getElem? (i := 18) (by decide +kernel), List.mem_of_getElem? (i := 337) (by decide +kernel), List.mem_of_getElem? (i := 338) (by decide +kernel)⟩
theorem lw_p4 : lw_okq (⟨"SandGroup$Tape", "accept", "(I)I"⟩, 8) := ⟨⟨by decide +kernel, by decide +kernel⟩, List.mem_of_getElem? (i := 97) (by decide +kernel), List.mem_of_getElem? (i := 434) (by decide +kernel), List.mem_of_getElem? (i := 435) (by decide +kernel)⟩
theorem lw_p5 : lw_okq (⟨"SandGroup$Tape", "acceptSlash", "()I"⟩, 8) := ⟨⟨by decide +kernel, by decide +kernel⟩, List.mem_of_getElem? (i := 97) (by decide +kernel), List.mem_of_getElem? (i := 438) (by decide +kernel), List.mem_of_getElem? (i := 439) (by decide +kernel)⟩
theorem lw_p6 : lw_okq (⟨"SandGroup$Tape", "isRowWhole", "()Z"⟩, 8) := ⟨⟨by decide +kernel, by decide +kernel⟩, List.mem_of_getElem? (i := 97) (by decide +kernel), List.mem_of_getElem? (i := 442) (by decide +kernel), List.mem_of_getElem? (i := 443) (by decide +kernel)⟩
theorem lw_p7 : lw_okq (⟨"SandGroup$Tape", "closeRow", "()V"⟩, 8) := ⟨⟨by decide +kernel, by decide +kernel⟩, List.mem_of_getElem? (i := 97) (by decide +kernel), List.mem_of_getElem? (i := 446) (by decide +kernel), List.mem_of_getElem? (i := 447) (by decide +kernel)⟩
theorem lw_p8 : lw_okq (⟨"SandGroup$Tape", "mostInRow", "()I"⟩, 8) := ⟨⟨by decide +kernel, by decide +kernel⟩, List.mem_of_getElem? (i := 97) (by decide +kernel), List.mem_of_getElem? (i := 450) (by decide +kernel), List.mem_of_getElem? (i := 451) (by decide +kernel)⟩
theorem lw_p9 : lw_okq (⟨"SandGroup$Tape", "refuse", "(II)I"⟩, 8) := ⟨⟨by decide +kernel, by decide +kernel⟩, List.mem_of_getElem? (i := 97) (by decide +kernel), List.mem_of_getElem? (i := 454) (by decide +kernel), List.mem_of_getElem? (i := 455) (by decide +kernel)⟩
theorem lw_p10 : lw_okq (⟨"SandGroup", "lay", "(II)V"⟩, 15) := ⟨⟨by decide +kernel, by decide +kernel⟩, List.mem_of_getElem? (i := 18) (by decide +kernel), List.mem_of_getElem? (i := 474) (by decide +kernel), List.mem_of_getElem? (i := 475) (by decide +kernel)⟩
theorem lw_p11 : lw_okq (⟨"SandGroup$Fall", "readyBits", "()I"⟩, 3) := ⟨⟨by decide +kernel, by decide +kernel⟩, List.mem_of_getElem? (i := 147) (by decide +kernel), List.mem_of_getElem? (i := 494) (by decide +kernel), List.mem_of_getElem? (i := 495) (by decide +kernel)⟩
theorem lw_p12 : lw_okq (⟨"SandGroup$March", "lineUp", "(I)V"⟩, 7) := ⟨⟨by decide +kernel, by decide +kernel⟩, List.mem_of_getElem? (i := 163) (by decide +kernel), List.mem_of_getElem? (i := 546) (by decide +kernel), List.mem_of_getElem? (i := 547) (by decide +kernel)⟩
theorem lw_p13 : lw_okq (⟨"SandGroup$March", "chosen", "()I"⟩, 7) := ⟨⟨by decide +kernel, by decide +kernel⟩, List.mem_of_getElem? (i := 163) (by decide +kernel), List.mem_of_getElem? (i := 554) (by decide +kernel), List.mem_of_getElem? (i := 555) (by decide +kernel)⟩
theorem lw_p14 : lw_okq (⟨"SandGroup$March", "leastCell", "()I"⟩, 7) := ⟨⟨by decide +kernel, by decide +kernel⟩, List.mem_of_getElem? (i := 163) (by decide +kernel), List.mem_of_getElem? (i := 558) (by decide +kernel), List.mem_of_getElem? (i := 559) (by decide +kernel)⟩
theorem lw_p15 : lw_okq (⟨"SandGroup$March", "leave", "(Z)I"⟩, 7) := ⟨⟨by decide +kernel, by decide +kernel⟩, List.mem_of_getElem? (i := 163) (by decide +kernel), List.mem_of_getElem? (i := 562) (by decide +kernel), List.mem_of_getElem? (i := 563) (by decide +kernel)⟩
def lw_privs_1 : List (MethodName × Nat) := [(⟨"SandGroup$Grid", "link", "()V"⟩, 8), (⟨"SandGroup$Grid", "linkCell", "(III)V"⟩, 8), (⟨"SandGroup$Grid", "join", "(II)V"⟩, 8), (⟨"SandGroup", "forgetPilesAndChanges", "()V"⟩, 15), (⟨"SandGroup$Tape", "accept", "(I)I"⟩, 8), (⟨"SandGroup$Tape", "acceptSlash", "()I"⟩, 8), (⟨"SandGroup$Tape", "isRowWhole", "()Z"⟩, 8), (⟨"SandGroup$Tape", "closeRow", "()V"⟩, 8), (⟨"SandGroup$Tape", "mostInRow", "()I"⟩, 8), (⟨"SandGroup$Tape", "refuse", "(II)I"⟩, 8), (⟨"SandGroup", "lay", "(II)V"⟩, 15), (⟨"SandGroup$Fall", "readyBits", "()I"⟩, 3), (⟨"SandGroup$March", "lineUp", "(I)V"⟩, 7), (⟨"SandGroup$March", "chosen", "()I"⟩, 7), (⟨"SandGroup$March", "leastCell", "()I"⟩, 7), (⟨"SandGroup$March", "leave", "(Z)I"⟩, 7)]
theorem lw_r1 : ∀ q ∈ lw_privs_1, lw_okq q := List.forall_mem_cons.mpr ⟨lw_p0, List.forall_mem_cons.mpr ⟨lw_p1, List.forall_mem_cons.mpr ⟨lw_p2, List.forall_mem_cons.mpr ⟨lw_p3, List.forall_mem_cons.mpr ⟨lw_p4, List.forall_mem_cons.mpr ⟨lw_p5, List.forall_mem_cons.mpr ⟨lw_p6, List.forall_mem_cons.mpr ⟨lw_p7, List.forall_mem_cons.mpr ⟨lw_p8, List.forall_mem_cons.mpr ⟨lw_p9, List.forall_mem_cons.mpr ⟨lw_p10, List.forall_mem_cons.mpr ⟨lw_p11, List.forall_mem_cons.mpr ⟨lw_p12, List.forall_mem_cons.mpr ⟨lw_p13, List.forall_mem_cons.mpr ⟨lw_p14, List.forall_mem_cons.mpr ⟨lw_p15, fun _ h => absurd h List.not_mem_nil⟩⟩⟩⟩⟩⟩⟩⟩⟩⟩⟩⟩⟩⟩⟩⟩
theorem lw_p16 : lw_okq (⟨"SandGroup$March", "tallestCell", "()I"⟩, 7) := ⟨⟨by decide +kernel, by decide +kernel⟩, List.mem_of_getElem? (i := 163) (by decide +kernel), List.mem_of_getElem? (i := 566) (by decide +kernel), List.mem_of_getElem? (i := 567) (by decide +kernel)⟩
theorem lw_p17 : lw_okq (⟨"SandGroup$Sums", "layFullZero", "()V"⟩, 6) := ⟨⟨by decide +kernel, by decide +kernel⟩, List.mem_of_getElem? (i := 191) (by decide +kernel), List.mem_of_getElem? (i := 631) (by decide +kernel), List.mem_of_getElem? (i := 632) (by decide +kernel)⟩
theorem lw_p18 : lw_okq (⟨"SandGroup$Sums", "settleResult", "()V"⟩, 6) := ⟨⟨by decide +kernel, by decide +kernel⟩, List.mem_of_getElem? (i := 191) (by decide +kernel), List.mem_of_getElem? (i := 639) (by decide +kernel), List.mem_of_getElem? (i := 640) (by decide +kernel)⟩
theorem lw_p19 : lw_okq (⟨"SandGroup", "holdResult", "(I)I"⟩, 15) := ⟨⟨by decide +kernel, by decide +kernel⟩, List.mem_of_getElem? (i := 18) (by decide +kernel), List.mem_of_getElem? (i := 649) (by decide +kernel), List.mem_of_getElem? (i := 650) (by decide +kernel)⟩
theorem lw_p20 : lw_okq (⟨"SandGroup$Sums", "addInto", "([I[I[I)V"⟩, 6) := ⟨⟨by decide +kernel, by decide +kernel⟩, List.mem_of_getElem? (i := 191) (by decide +kernel), List.mem_of_getElem? (i := 664) (by decide +kernel), List.mem_of_getElem? (i := 665) (by decide +kernel)⟩
theorem lw_p21 : lw_okq (⟨"SandGroup$Matrix", "fillFrom", "(LSandGroup$Grid;I)V"⟩, 1) := ⟨⟨by decide +kernel, by decide +kernel⟩, List.mem_of_getElem? (i := 229) (by decide +kernel), List.mem_of_getElem? (i := 706) (by decide +kernel), List.mem_of_getElem? (i := 707) (by decide +kernel)⟩
theorem lw_p22 : lw_okq (⟨"SandGroup$Matrix", "eliminate", "(IIJ)V"⟩, 1) := ⟨⟨by decide +kernel, by decide +kernel⟩, List.mem_of_getElem? (i := 229) (by decide +kernel), List.mem_of_getElem? (i := 722) (by decide +kernel), List.mem_of_getElem? (i := 723) (by decide +kernel)⟩
theorem lw_p23 : lw_okq (⟨"SandGroup$Fire", "burnOnce", "([II)Z"⟩, 2) := ⟨⟨by decide +kernel, by decide +kernel⟩, List.mem_of_getElem? (i := 216) (by decide +kernel), List.mem_of_getElem? (i := 735) (by decide +kernel), List.mem_of_getElem? (i := 736) (by decide +kernel)⟩
theorem lw_p24 : lw_okq (⟨"SandGroup$Fire", "unburntNextTo", "(II)I"⟩, 2) := ⟨⟨by decide +kernel, by decide +kernel⟩, List.mem_of_getElem? (i := 216) (by decide +kernel), List.mem_of_getElem? (i := 741) (by decide +kernel), List.mem_of_getElem? (i := 742) (by decide +kernel)⟩
theorem lw_p25 : lw_okq (⟨"SandGroup", "scatter", "(II)V"⟩, 15) := ⟨⟨by decide +kernel, by decide +kernel⟩, List.mem_of_getElem? (i := 18) (by decide +kernel), List.mem_of_getElem? (i := 813) (by decide +kernel), List.mem_of_getElem? (i := 814) (by decide +kernel)⟩
theorem lw_p26 : lw_okq (⟨"SandGroup", "firstUntold", "([II)I"⟩, 15) := ⟨⟨by decide +kernel, by decide +kernel⟩, List.mem_of_getElem? (i := 18) (by decide +kernel), List.mem_of_getElem? (i := 873) (by decide +kernel), List.mem_of_getElem? (i := 874) (by decide +kernel)⟩
theorem lw_p27 : lw_okq (⟨"SandGroup", "firstUnsteady", "([I)I"⟩, 15) := ⟨⟨by decide +kernel, by decide +kernel⟩, List.mem_of_getElem? (i := 18) (by decide +kernel), List.mem_of_getElem? (i := 877) (by decide +kernel), List.mem_of_getElem? (i := 878) (by decide +kernel)⟩
theorem lw_p28 : lw_okq (⟨"SandGroupModel", "links", "()V"⟩, 40) := ⟨⟨by decide +kernel, by decide +kernel⟩, List.mem_of_getElem? (i := 945) (by decide +kernel), List.mem_of_getElem? (i := 951) (by decide +kernel), List.mem_of_getElem? (i := 952) (by decide +kernel)⟩
theorem lw_p29 : lw_okq (⟨"SandGroupModel", "cells", "()I"⟩, 40) := ⟨⟨by decide +kernel, by decide +kernel⟩, List.mem_of_getElem? (i := 945) (by decide +kernel), List.mem_of_getElem? (i := 955) (by decide +kernel), List.mem_of_getElem? (i := 956) (by decide +kernel)⟩
theorem lw_p30 : lw_okq (⟨"SandGroupModel", "link", "(III)V"⟩, 40) := ⟨⟨by decide +kernel, by decide +kernel⟩, List.mem_of_getElem? (i := 945) (by decide +kernel), List.mem_of_getElem? (i := 959) (by decide +kernel), List.mem_of_getElem? (i := 960) (by decide +kernel)⟩
theorem lw_p31 : lw_okq (⟨"SandGroupModel", "pushesBefore", "()V"⟩, 40) := ⟨⟨by decide +kernel, by decide +kernel⟩, List.mem_of_getElem? (i := 945) (by decide +kernel), List.mem_of_getElem? (i := 1096) (by decide +kernel), List.mem_of_getElem? (i := 1097) (by decide +kernel)⟩
def lw_privs_2 : List (MethodName × Nat) := [(⟨"SandGroup$March", "tallestCell", "()I"⟩, 7), (⟨"SandGroup$Sums", "layFullZero", "()V"⟩, 6), (⟨"SandGroup$Sums", "settleResult", "()V"⟩, 6), (⟨"SandGroup", "holdResult", "(I)I"⟩, 15), (⟨"SandGroup$Sums", "addInto", "([I[I[I)V"⟩, 6), (⟨"SandGroup$Matrix", "fillFrom", "(LSandGroup$Grid;I)V"⟩, 1), (⟨"SandGroup$Matrix", "eliminate", "(IIJ)V"⟩, 1), (⟨"SandGroup$Fire", "burnOnce", "([II)Z"⟩, 2), (⟨"SandGroup$Fire", "unburntNextTo", "(II)I"⟩, 2), (⟨"SandGroup", "scatter", "(II)V"⟩, 15), (⟨"SandGroup", "firstUntold", "([II)I"⟩, 15), (⟨"SandGroup", "firstUnsteady", "([I)I"⟩, 15), (⟨"SandGroupModel", "links", "()V"⟩, 40), (⟨"SandGroupModel", "cells", "()I"⟩, 40), (⟨"SandGroupModel", "link", "(III)V"⟩, 40), (⟨"SandGroupModel", "pushesBefore", "()V"⟩, 40)]
theorem lw_r2 : ∀ q ∈ lw_privs_2, lw_okq q := List.forall_mem_cons.mpr ⟨lw_p16, List.forall_mem_cons.mpr ⟨lw_p17, List.forall_mem_cons.mpr ⟨lw_p18, List.forall_mem_cons.mpr ⟨lw_p19, List.forall_mem_cons.mpr ⟨lw_p20, List.forall_mem_cons.mpr ⟨lw_p21, List.forall_mem_cons.mpr ⟨lw_p22, List.forall_mem_cons.mpr ⟨lw_p23, List.forall_mem_cons.mpr ⟨lw_p24, List.forall_mem_cons.mpr ⟨lw_p25, List.forall_mem_cons.mpr ⟨lw_p26, List.forall_mem_cons.mpr ⟨lw_p27, List.forall_mem_cons.mpr ⟨lw_p28, List.forall_mem_cons.mpr ⟨lw_p29, List.forall_mem_cons.mpr ⟨lw_p30, List.forall_mem_cons.mpr ⟨lw_p31, fun _ h => absurd h List.not_mem_nil⟩⟩⟩⟩⟩⟩⟩⟩⟩⟩⟩⟩⟩⟩⟩⟩
theorem lw_p32 : lw_okq (⟨"SandGroupModel", "forgets", "()V"⟩, 40) := ⟨⟨by decide +kernel, by decide +kernel⟩, List.mem_of_getElem? (i := 945) (by decide +kernel), List.mem_of_getElem? (i := 1105) (by decide +kernel), List.mem_of_getElem? (i := 1106) (by decide +kernel)⟩
theorem lw_p33 : lw_okq (⟨"SandGroupModel", "isPlace", "(I)Z"⟩, 40) := ⟨⟨by decide +kernel, by decide +kernel⟩, List.mem_of_getElem? (i := 945) (by decide +kernel), List.mem_of_getElem? (i := 1117) (by decide +kernel), List.mem_of_getElem? (i := 1118) (by decide +kernel)⟩
theorem lw_p34 : lw_okq (⟨"SandGroupModel", "changes", "()V"⟩, 40) := ⟨⟨by decide +kernel, by decide +kernel⟩, List.mem_of_getElem? (i := 945) (by decide +kernel), List.mem_of_getElem? (i := 1122) (by decide +kernel), List.mem_of_getElem? (i := 1123) (by decide +kernel)⟩
theorem lw_p35 : lw_okq (⟨"SandGroupModel", "may", "([II)Z"⟩, 40) := ⟨⟨by decide +kernel, by decide +kernel⟩, List.mem_of_getElem? (i := 945) (by decide +kernel), List.mem_of_getElem? (i := 1139) (by decide +kernel), List.mem_of_getElem? (i := 1140) (by decide +kernel)⟩
theorem lw_p36 : lw_okq (⟨"SandGroupModel", "topples", "([III)V"⟩, 40) := ⟨⟨by decide +kernel, by decide +kernel⟩, List.mem_of_getElem? (i := 945) (by decide +kernel), List.mem_of_getElem? (i := 1143) (by decide +kernel), List.mem_of_getElem? (i := 1144) (by decide +kernel)⟩
theorem lw_p37 : lw_okq (⟨"SandGroupModel", "settles", "([I)I"⟩, 40) := ⟨⟨by decide +kernel, by decide +kernel⟩, List.mem_of_getElem? (i := 945) (by decide +kernel), List.mem_of_getElem? (i := 1151) (by decide +kernel), List.mem_of_getElem? (i := 1152) (by decide +kernel)⟩
theorem lw_p38 : lw_okq (⟨"SandGroupModel", "begins", "()V"⟩, 40) := ⟨⟨by decide +kernel, by decide +kernel⟩, List.mem_of_getElem? (i := 945) (by decide +kernel), List.mem_of_getElem? (i := 1155) (by decide +kernel), List.mem_of_getElem? (i := 1156) (by decide +kernel)⟩
theorem lw_p39 : lw_okq (⟨"SandGroupModel", "isStable", "([I)Z"⟩, 40) := ⟨⟨by decide +kernel, by decide +kernel⟩, List.mem_of_getElem? (i := 945) (by decide +kernel), List.mem_of_getElem? (i := 1159) (by decide +kernel), List.mem_of_getElem? (i := 1160) (by decide +kernel)⟩
theorem lw_p40 : lw_okq (⟨"SandGroupModel", "sizeCounted", "()I"⟩, 40) := ⟨⟨by decide +kernel, by decide +kernel⟩, List.mem_of_getElem? (i := 945) (by decide +kernel), List.mem_of_getElem? (i := 1163) (by decide +kernel), List.mem_of_getElem? (i := 1164) (by decide +kernel)⟩
theorem lw_p41 : lw_okq (⟨"SandGroupModel", "wrongPlace", "()I"⟩, 40) := ⟨⟨by decide +kernel, by decide +kernel⟩, List.mem_of_getElem? (i := 945) (by decide +kernel), List.mem_of_getElem? (i := 1176) (by decide +kernel), List.mem_of_getElem? (i := 1177) (by decide +kernel)⟩
theorem lw_p42 : lw_okq (⟨"SandGroupModel", "wrongAt", "(I)I"⟩, 40) := ⟨⟨by decide +kernel, by decide +kernel⟩, List.mem_of_getElem? (i := 945) (by decide +kernel), List.mem_of_getElem? (i := 1180) (by decide +kernel), List.mem_of_getElem? (i := 1181) (by decide +kernel)⟩
theorem lw_p43 : lw_okq (⟨"SandGroupModel", "roundsOf", "([I)I"⟩, 40) := ⟨⟨by decide +kernel, by decide +kernel⟩, List.mem_of_getElem? (i := 945) (by decide +kernel), List.mem_of_getElem? (i := 1201) (by decide +kernel), List.mem_of_getElem? (i := 1202) (by decide +kernel)⟩
theorem lw_p44 : lw_okq (⟨"SandGroupModel", "settledThen", "(I)I"⟩, 40) := ⟨⟨by decide +kernel, by decide +kernel⟩, List.mem_of_getElem? (i := 945) (by decide +kernel), List.mem_of_getElem? (i := 1205) (by decide +kernel), List.mem_of_getElem? (i := 1206) (by decide +kernel)⟩
theorem lw_p45 : lw_okq (⟨"SandGroupModel", "toppled", "()I"⟩, 40) := ⟨⟨by decide +kernel, by decide +kernel⟩, List.mem_of_getElem? (i := 945) (by decide +kernel), List.mem_of_getElem? (i := 1209) (by decide +kernel), List.mem_of_getElem? (i := 1210) (by decide +kernel)⟩
theorem lw_p46 : lw_okq (⟨"SandGroupModel", "grains", "([I)I"⟩, 40) := ⟨⟨by decide +kernel, by decide +kernel⟩, List.mem_of_getElem? (i := 945) (by decide +kernel), List.mem_of_getElem? (i := 1213) (by decide +kernel), List.mem_of_getElem? (i := 1214) (by decide +kernel)⟩
theorem lw_p47 : lw_okq (⟨"SandGroupModel", "beginsOrder", "([I)V"⟩, 40) := ⟨⟨by decide +kernel, by decide +kernel⟩, List.mem_of_getElem? (i := 945) (by decide +kernel), List.mem_of_getElem? (i := 1225) (by decide +kernel), List.mem_of_getElem? (i := 1226) (by decide +kernel)⟩
def lw_privs_3 : List (MethodName × Nat) := [(⟨"SandGroupModel", "forgets", "()V"⟩, 40), (⟨"SandGroupModel", "isPlace", "(I)Z"⟩, 40), (⟨"SandGroupModel", "changes", "()V"⟩, 40), (⟨"SandGroupModel", "may", "([II)Z"⟩, 40), (⟨"SandGroupModel", "topples", "([III)V"⟩, 40), (⟨"SandGroupModel", "settles", "([I)I"⟩, 40), (⟨"SandGroupModel", "begins", "()V"⟩, 40), (⟨"SandGroupModel", "isStable", "([I)Z"⟩, 40), (⟨"SandGroupModel", "sizeCounted", "()I"⟩, 40), (⟨"SandGroupModel", "wrongPlace", "()I"⟩, 40), (⟨"SandGroupModel", "wrongAt", "(I)I"⟩, 40), (⟨"SandGroupModel", "roundsOf", "([I)I"⟩, 40), (⟨"SandGroupModel", "settledThen", "(I)I"⟩, 40), (⟨"SandGroupModel", "toppled", "()I"⟩, 40), (⟨"SandGroupModel", "grains", "([I)I"⟩, 40), (⟨"SandGroupModel", "beginsOrder", "([I)V"⟩, 40)]
theorem lw_r3 : ∀ q ∈ lw_privs_3, lw_okq q := List.forall_mem_cons.mpr ⟨lw_p32, List.forall_mem_cons.mpr ⟨lw_p33, List.forall_mem_cons.mpr ⟨lw_p34, List.forall_mem_cons.mpr ⟨lw_p35, List.forall_mem_cons.mpr ⟨lw_p36, List.forall_mem_cons.mpr ⟨lw_p37, List.forall_mem_cons.mpr ⟨lw_p38, List.forall_mem_cons.mpr ⟨lw_p39, List.forall_mem_cons.mpr ⟨lw_p40, List.forall_mem_cons.mpr ⟨lw_p41, List.forall_mem_cons.mpr ⟨lw_p42, List.forall_mem_cons.mpr ⟨lw_p43, List.forall_mem_cons.mpr ⟨lw_p44, List.forall_mem_cons.mpr ⟨lw_p45, List.forall_mem_cons.mpr ⟨lw_p46, List.forall_mem_cons.mpr ⟨lw_p47, fun _ h => absurd h List.not_mem_nil⟩⟩⟩⟩⟩⟩⟩⟩⟩⟩⟩⟩⟩⟩⟩⟩
theorem lw_p48 : lw_okq (⟨"SandGroupModel", "comesBehind", "([II)V"⟩, 40) := ⟨⟨by decide +kernel, by decide +kernel⟩, List.mem_of_getElem? (i := 945) (by decide +kernel), List.mem_of_getElem? (i := 1229) (by decide +kernel), List.mem_of_getElem? (i := 1230) (by decide +kernel)⟩
theorem lw_p49 : lw_okq (⟨"SandGroupModel", "goes", "([II)I"⟩, 40) := ⟨⟨by decide +kernel, by decide +kernel⟩, List.mem_of_getElem? (i := 945) (by decide +kernel), List.mem_of_getElem? (i := 1233) (by decide +kernel), List.mem_of_getElem? (i := 1234) (by decide +kernel)⟩
theorem lw_p50 : lw_okq (⟨"SandGroupModel", "least", "([I)I"⟩, 40) := ⟨⟨by decide +kernel, by decide +kernel⟩, List.mem_of_getElem? (i := 945) (by decide +kernel), List.mem_of_getElem? (i := 1237) (by decide +kernel), List.mem_of_getElem? (i := 1238) (by decide +kernel)⟩
theorem lw_p51 : lw_okq (⟨"SandGroupModel", "tallest", "([I)I"⟩, 40) := ⟨⟨by decide +kernel, by decide +kernel⟩, List.mem_of_getElem? (i := 945) (by decide +kernel), List.mem_of_getElem? (i := 1241) (by decide +kernel), List.mem_of_getElem? (i := 1242) (by decide +kernel)⟩
theorem lw_p52 : lw_okq (⟨"SandGroupModel", "leaves", "(Z)I"⟩, 40) := ⟨⟨by decide +kernel, by decide +kernel⟩, List.mem_of_getElem? (i := 945) (by decide +kernel), List.mem_of_getElem? (i := 1245) (by decide +kernel), List.mem_of_getElem? (i := 1246) (by decide +kernel)⟩
theorem lw_p53 : lw_okq (⟨"SandGroupModel", "firstsBy", "(I)I"⟩, 40) := ⟨⟨by decide +kernel, by decide +kernel⟩, List.mem_of_getElem? (i := 945) (by decide +kernel), List.mem_of_getElem? (i := 1253) (by decide +kernel), List.mem_of_getElem? (i := 1254) (by decide +kernel)⟩
theorem lw_p54 : lw_okq (⟨"SandGroupModel", "lays", "(I[I)I"⟩, 40) := ⟨⟨by decide +kernel, by decide +kernel⟩, List.mem_of_getElem? (i := 945) (by decide +kernel), List.mem_of_getElem? (i := 1265) (by decide +kernel), List.mem_of_getElem? (i := 1266) (by decide +kernel)⟩
theorem lw_p55 : lw_okq (⟨"SandGroupModel", "takes", "(I[I)V"⟩, 40) := ⟨⟨by decide +kernel, by decide +kernel⟩, List.mem_of_getElem? (i := 945) (by decide +kernel), List.mem_of_getElem? (i := 1273) (by decide +kernel), List.mem_of_getElem? (i := 1274) (by decide +kernel)⟩
theorem lw_p56 : lw_okq (⟨"SandGroupModel", "addsTo", "([I[I)I"⟩, 40) := ⟨⟨by decide +kernel, by decide +kernel⟩, List.mem_of_getElem? (i := 945) (by decide +kernel), List.mem_of_getElem? (i := 1285) (by decide +kernel), List.mem_of_getElem? (i := 1286) (by decide +kernel)⟩
theorem lw_p57 : lw_okq (⟨"SandGroupModel", "laysNought", "()V"⟩, 40) := ⟨⟨by decide +kernel, by decide +kernel⟩, List.mem_of_getElem? (i := 945) (by decide +kernel), List.mem_of_getElem? (i := 1293) (by decide +kernel), List.mem_of_getElem? (i := 1294) (by decide +kernel)⟩
theorem lw_p58 : lw_okq (⟨"SandGroupModel", "isLike", "([I[I)Z"⟩, 40) := ⟨⟨by decide +kernel, by decide +kernel⟩, List.mem_of_getElem? (i := 945) (by decide +kernel), List.mem_of_getElem? (i := 1310) (by decide +kernel), List.mem_of_getElem? (i := 1311) (by decide +kernel)⟩
theorem lw_p59 : lw_okq (⟨"SandGroupModel", "laysMatrix", "()V"⟩, 40) := ⟨⟨by decide +kernel, by decide +kernel⟩, List.mem_of_getElem? (i := 945) (by decide +kernel), List.mem_of_getElem? (i := 1322) (by decide +kernel), List.mem_of_getElem? (i := 1323) (by decide +kernel)⟩
theorem lw_p60 : lw_okq (⟨"SandGroupModel", "burns", "([I)I"⟩, 40) := ⟨⟨by decide +kernel, by decide +kernel⟩, List.mem_of_getElem? (i := 945) (by decide +kernel), List.mem_of_getElem? (i := 1331) (by decide +kernel), List.mem_of_getElem? (i := 1332) (by decide +kernel)⟩
theorem lw_p61 : lw_okq (⟨"SandGroupModel", "unburnt", "(I)I"⟩, 40) := ⟨⟨by decide +kernel, by decide +kernel⟩, List.mem_of_getElem? (i := 945) (by decide +kernel), List.mem_of_getElem? (i := 1335) (by decide +kernel), List.mem_of_getElem? (i := 1336) (by decide +kernel)⟩
theorem lw_p62 : lw_okq (⟨"SandGroupModel", "notBurnt", "()I"⟩, 40) := ⟨⟨by decide +kernel, by decide +kernel⟩, List.mem_of_getElem? (i := 945) (by decide +kernel), List.mem_of_getElem? (i := 1339) (by decide +kernel), List.mem_of_getElem? (i := 1340) (by decide +kernel)⟩
theorem lw_p63 : lw_okq (⟨"SandGroupModel", "places", "()I"⟩, 40) := ⟨⟨by decide +kernel, by decide +kernel⟩, List.mem_of_getElem? (i := 945) (by decide +kernel), List.mem_of_getElem? (i := 1347) (by decide +kernel), List.mem_of_getElem? (i := 1348) (by decide +kernel)⟩
def lw_privs_4 : List (MethodName × Nat) := [(⟨"SandGroupModel", "comesBehind", "([II)V"⟩, 40), (⟨"SandGroupModel", "goes", "([II)I"⟩, 40), (⟨"SandGroupModel", "least", "([I)I"⟩, 40), (⟨"SandGroupModel", "tallest", "([I)I"⟩, 40), (⟨"SandGroupModel", "leaves", "(Z)I"⟩, 40), (⟨"SandGroupModel", "firstsBy", "(I)I"⟩, 40), (⟨"SandGroupModel", "lays", "(I[I)I"⟩, 40), (⟨"SandGroupModel", "takes", "(I[I)V"⟩, 40), (⟨"SandGroupModel", "addsTo", "([I[I)I"⟩, 40), (⟨"SandGroupModel", "laysNought", "()V"⟩, 40), (⟨"SandGroupModel", "isLike", "([I[I)Z"⟩, 40), (⟨"SandGroupModel", "laysMatrix", "()V"⟩, 40), (⟨"SandGroupModel", "burns", "([I)I"⟩, 40), (⟨"SandGroupModel", "unburnt", "(I)I"⟩, 40), (⟨"SandGroupModel", "notBurnt", "()I"⟩, 40), (⟨"SandGroupModel", "places", "()I"⟩, 40)]
theorem lw_r4 : ∀ q ∈ lw_privs_4, lw_okq q := List.forall_mem_cons.mpr ⟨lw_p48, List.forall_mem_cons.mpr ⟨lw_p49, List.forall_mem_cons.mpr ⟨lw_p50, List.forall_mem_cons.mpr ⟨lw_p51, List.forall_mem_cons.mpr ⟨lw_p52, List.forall_mem_cons.mpr ⟨lw_p53, List.forall_mem_cons.mpr ⟨lw_p54, List.forall_mem_cons.mpr ⟨lw_p55, List.forall_mem_cons.mpr ⟨lw_p56, List.forall_mem_cons.mpr ⟨lw_p57, List.forall_mem_cons.mpr ⟨lw_p58, List.forall_mem_cons.mpr ⟨lw_p59, List.forall_mem_cons.mpr ⟨lw_p60, List.forall_mem_cons.mpr ⟨lw_p61, List.forall_mem_cons.mpr ⟨lw_p62, List.forall_mem_cons.mpr ⟨lw_p63, fun _ h => absurd h List.not_mem_nil⟩⟩⟩⟩⟩⟩⟩⟩⟩⟩⟩⟩⟩⟩⟩⟩
theorem lw_p64 : lw_okq (⟨"SandGroupModel", "codeOf", "([I)I"⟩, 40) := ⟨⟨by decide +kernel, by decide +kernel⟩, List.mem_of_getElem? (i := 945) (by decide +kernel), List.mem_of_getElem? (i := 1359) (by decide +kernel), List.mem_of_getElem? (i := 1360) (by decide +kernel)⟩
theorem lw_p65 : lw_okq (⟨"SandGroupModel", "ahead", "(I)I"⟩, 40) := ⟨⟨by decide +kernel, by decide +kernel⟩, List.mem_of_getElem? (i := 945) (by decide +kernel), List.mem_of_getElem? (i := 1363) (by decide +kernel), List.mem_of_getElem? (i := 1364) (by decide +kernel)⟩
theorem lw_p66 : lw_okq (⟨"SandGroupModel", "placeOf", "(I)I"⟩, 40) := ⟨⟨by decide +kernel, by decide +kernel⟩, List.mem_of_getElem? (i := 945) (by decide +kernel), List.mem_of_getElem? (i := 1375) (by decide +kernel), List.mem_of_getElem? (i := 1376) (by decide +kernel)⟩
theorem lw_p67 : lw_okq (⟨"SandGroupModel", "countsSize", "(I)V"⟩, 40) := ⟨⟨by decide +kernel, by decide +kernel⟩, List.mem_of_getElem? (i := 945) (by decide +kernel), List.mem_of_getElem? (i := 1380) (by decide +kernel), List.mem_of_getElem? (i := 1381) (by decide +kernel)⟩
theorem lw_p68 : lw_okq (⟨"SandGroupModel", "lotsThen", "(IIII)I"⟩, 40) := ⟨⟨by decide +kernel, by decide +kernel⟩, List.mem_of_getElem? (i := 945) (by decide +kernel), List.mem_of_getElem? (i := 1384) (by decide +kernel), List.mem_of_getElem? (i := 1385) (by decide +kernel)⟩
theorem lw_p69 : lw_okq (⟨"SandGroupModel", "firstUntold", "(I)I"⟩, 40) := ⟨⟨by decide +kernel, by decide +kernel⟩, List.mem_of_getElem? (i := 945) (by decide +kernel), List.mem_of_getElem? (i := 1399) (by decide +kernel), List.mem_of_getElem? (i := 1400) (by decide +kernel)⟩
theorem lw_p70 : lw_okq (⟨"SandGroupModel", "then", "(I)J"⟩, 40) := ⟨⟨by decide +kernel, by decide +kernel⟩, List.mem_of_getElem? (i := 945) (by decide +kernel), List.mem_of_getElem? (i := 1404) (by decide +kernel), List.mem_of_getElem? (i := 1405) (by decide +kernel)⟩
theorem lw_p71 : lw_okq (⟨"SandGroupModel", "holding", "()I"⟩, 40) := ⟨⟨by decide +kernel, by decide +kernel⟩, List.mem_of_getElem? (i := 945) (by decide +kernel), List.mem_of_getElem? (i := 1429) (by decide +kernel), List.mem_of_getElem? (i := 1430) (by decide +kernel)⟩
def lw_privs_5 : List (MethodName × Nat) := [(⟨"SandGroupModel", "codeOf", "([I)I"⟩, 40), (⟨"SandGroupModel", "ahead", "(I)I"⟩, 40), (⟨"SandGroupModel", "placeOf", "(I)I"⟩, 40), (⟨"SandGroupModel", "countsSize", "(I)V"⟩, 40), (⟨"SandGroupModel", "lotsThen", "(IIII)I"⟩, 40), (⟨"SandGroupModel", "firstUntold", "(I)I"⟩, 40), (⟨"SandGroupModel", "then", "(I)J"⟩, 40), (⟨"SandGroupModel", "holding", "()I"⟩, 40)]
theorem lw_r5 : ∀ q ∈ lw_privs_5, lw_okq q := List.forall_mem_cons.mpr ⟨lw_p64, List.forall_mem_cons.mpr ⟨lw_p65, List.forall_mem_cons.mpr ⟨lw_p66, List.forall_mem_cons.mpr ⟨lw_p67, List.forall_mem_cons.mpr ⟨lw_p68, List.forall_mem_cons.mpr ⟨lw_p69, List.forall_mem_cons.mpr ⟨lw_p70, List.forall_mem_cons.mpr ⟨lw_p71, fun _ h => absurd h List.not_mem_nil⟩⟩⟩⟩⟩⟩⟩⟩
def lw_privs : List (MethodName × Nat) := lw_privs_1 ++ (lw_privs_2 ++ (lw_privs_3 ++ (lw_privs_4 ++ (lw_privs_5))))
def lw_tbl : List Cond := k2_sels lw_privs ++ tables_1
theorem lw_privs_ok : ∀ q ∈ lw_privs, lw_okq q := by
  show ∀ q ∈ lw_privs_1 ++ (lw_privs_2 ++ (lw_privs_3 ++ (lw_privs_4 ++ (lw_privs_5)))), lw_okq q
  exact List.forall_mem_append.mpr ⟨lw_r1, List.forall_mem_append.mpr ⟨lw_r2, List.forall_mem_append.mpr ⟨lw_r3, List.forall_mem_append.mpr ⟨lw_r4, lw_r5⟩⟩⟩⟩
-- ===== end of PART A; then your names; then what follows =====
end
section
/-- (wanting in the kit, named by its printed rows) the tables' word on arrays of arrays -/
def va_AOA (ty : FieldType) (U : State) : Prop := (Cond.arrayOver (.array ty)).before #[] U = true
theorem va_AOA.of {ty : FieldType} {A : Array Value} {U : State} (h : (Cond.arrayOver (.array ty)).before A U = true) : va_AOA ty U := h
theorem va_AOA.use {ty : FieldType} {A : Array Value} {U : State} (h : va_AOA ty U) : (Cond.arrayOver (.array ty)).before A U = true := h
/-! ===== BEGIN words of one list among another's, by their places ===== -/
theorem goodIn_r {big : List Cond} (ws : List Cond) (ps : List Nat) (hp : ws = ps.filterMap (fun i => big[i]?)) (h : ws.all goodWord = true) : GoodIn big ws := by
  intro w hw
  have h1 := List.all_eq_true.mp h w hw
  rw [hp] at hw
  obtain ⟨i, -, hi⟩ := List.mem_filterMap.mp hw
  have hm : w ∈ big := by first | exact List.mem_of_getElem? hi | exact List.getElem?_mem hi
  exact ⟨hm, good_of_word h1⟩
theorem goodIn_app {big a b : List Cond} (ha : GoodIn big a) (hb : GoodIn big b) : GoodIn big (a ++ b) := fun w h => (List.mem_append.mp h).elim (ha w) (hb w)
theorem goodIn_ca {big a b : List Cond} {c : Cond} (ha : GoodIn big (c :: a)) (hb : GoodIn big b) : GoodIn big (c :: (a ++ b)) := fun w h => (List.mem_cons.mp h).elim (fun e => ha w (List.mem_cons.mpr (Or.inl e))) (fun h => (List.mem_append.mp h).elim (fun h => ha w (List.mem_cons.mpr (Or.inr h))) (hb w))
theorem goodIn_sub {big ws : List Cond} (hm : ∀ w ∈ ws, w ∈ big) (h : ws.all goodWord = true) : GoodIn big ws := fun w hw => ⟨hm w hw, good_of_word (List.all_eq_true.mp h w hw)⟩
/-! ===== END ===== -/

/-! ===== BEGIN new T[n][m]: the outer array a place, the inner ones among the pooled ===== -/
/-- f, but v at every address of l -/
def vr_up {α : Type} (f : Nat → α) (l : List Nat) (v : α) : Nat → α := fun a => if a ∈ l then v else f a
theorem vr_up_in {α : Type} {f : Nat → α} {l : List Nat} {v : α} {a : Nat} (h : a ∈ l) : vr_up f l v a = v := if_pos h
theorem vr_up_ne {α : Type} {f : Nat → α} {l : List Nat} {v : α} {a : Nat} (h : a ∉ l) : vr_up f l v a = f a := if_neg h
theorem vr_rows {L l : List Nat} {f : Nat → va_E} {e : va_E} (h : ∀ a, a ∈ l → a ∉ L) : va_pl L f ++ l.map (fun a => (a, e)) = va_pl (L ++ l) (vr_up f l e) := by
  unfold va_pl
  rw [List.map_append]
  congr 1
  · apply List.map_congr_left
    intro a ha
    rw [vr_up_ne (fun q => h a q ha)]
  · apply List.map_congr_left
    intro a ha
    rw [vr_up_in ha]
theorem vr_lay {X rows : va_W} {x : Nat × va_E} {pl : va_W} {D : va_G} {cl : List vw_C} {H : Heap} (hP : va_P D cl (((X ++ pl) ++ [x]) ++ rows) H) : va_P D cl ((X ++ [x]) ++ (pl ++ rows)) H := by
  rw [List.append_assoc (X ++ pl)] at hP
  have h := va_P.swap hP
  rw [← List.append_assoc X] at h
  have h2 := va_P.swap h
  rw [List.append_assoc (X ++ [x])] at h2
  exact h2
theorem vr_layD {X rows : va_W} {x : Nat × va_E} {pl : va_W} {A : Nat → Prop} (hD : va_D A (((X ++ pl) ++ [x]) ++ rows)) : va_D A ((X ++ [x]) ++ (pl ++ rows)) := by
  rw [List.append_assoc (X ++ pl)] at hD
  have h := va_D.swap hD
  rw [← List.append_assoc X] at h
  have h2 := va_D.swap h
  rw [List.append_assoc (X ++ [x])] at h2
  exact h2
theorem vr_outer (c : ClassId) (N h0 : Nat) : ∀ i : Nat, Jvm.Free.Multi.outerC c N h0 i = arrV c N (fun j => va_rf (if j < i then some (h0 + 1 + j) else none))
  | 0 => by
    show ({ cls := c, slots := Array.replicate N .null, vm := .none } : Cell) = _
    rw [arrV_new]
    refine congrArg (arrV c N) (funext fun j => ?_)
    simp [va_rf]
  | i + 1 => by
    show (Jvm.Free.Multi.outerC c N h0 i).setSlot i (.ref (h0 + 1 + i)) = _
    rw [vr_outer c N h0 i, arrV_store]
    refine congrArg (arrV c N) (funext fun j => ?_)
    by_cases e : j = i
    · subst e
      simp [updV, va_rf]
    · by_cases h : j < i
      · simp [updV, e, h, Nat.lt_succ_of_lt h]
      · simp [updV, e, h, show ¬ j < i + 1 by omega]
section VGM
variable {p : Program} {l : Launch} {e : Env} {R : Room} {s : State} {m : MethodId} {args : Array Value} {below : List Frame} {meth : Method} {c : Code} {H : Heap} {locs : List Loc} {cells slots : Nat} {Q : State → Prop}
variable {cc : ByteArray} {pc : Nat} {ls : Array Slot} {rest : List Value} {D : va_G} {cl : List vw_C} {A : Nat → Prop} {a : Nat} {tys : List (ClassId × FieldType)} {ws : va_W} {H0 : Heap}
theorem va_mna {X : va_W} {L : List Nat} {f : Nat → va_E} {cc : ByteArray} (hexec : p.tables.exec = Jvm.exec) (hb : c.code = cc) {own : String} {index : Nat} {ty : FieldType} {cy : ClassId} (hown : s.vm.findClass own = some m.cls) (hclink : (Cond.classLink own index ("[" ++ (FieldType.array ty).toString)).before args s = true) (hover : va_AOA ty s) (harr : (Cond.arrayClass ty).before args s = true) (hcy : s.vm.findClass (FieldType.array ty).toString = some cy)
    (hK : va_K D cl tys s) (hP : va_P D cl (X ++ va_pl L f) H) (hD : va_D A (X ++ va_pl L f)) (hS : va_S A H0 H locs) (hA : ∀ q, H0.size ≤ q → A q) {n k : Int32} {N' K' : Nat} {z : vp_A} (hn : ¬ n < 0) (hk : ¬ k < 0) (hN : n.toNatClampNeg = N') (hM : k.toNatClampNeg = K')
    (hb1 : N' * 4 ≤ 536870912) (hb2 : K' * componentBytes ty ≤ 536870912) (hb3 : K' ≤ 536870912) (hdf : fits ty (defaultValue ty) = true) (hdd : (defaultValue ty).isDefault = true) (hcells : cells + (1 + N') ≤ R.cells) (hslots : slots + (N' + N' * K') ≤ R.slots) (hz : ∀ c : ClassId, Jvm.Free.Multi.innerC c K' (defaultValue ty) = vp_cell c z) (hdg : decode cc pc = .ok (.multianewarray index 2, 4))
    (kk : ∀ (q : Nat) (r : Nat → Nat) (cA : ClassId) (H1 : Heap), (∀ i j : Nat, i < N' → j < N' → r i = r j → i = j) → (∀ i : Nat, i < N' → r i ∉ L) → va_K D cl (tys ++ [(cA, .array ty)]) s →
      va_P D cl ((X ++ [(q, .inl (cA, N', .inr (.inr (.inr (.inr (fun i => if i < N' then some (r i) else none))))))]) ++ va_pl (L ++ (List.range N').map r) (vr_up f ((List.range N').map r) (.inl (cy, z)))) H1 → va_D A ((X ++ [(q, .inl (cA, N', .inr (.inr (.inr (.inr (fun i => if i < N' then some (r i) else none))))))]) ++ va_pl (L ++ (List.range N').map r) (vr_up f ((List.range N').map r) (.inl (cy, z)))) → va_S A H0 H1 locs →
      W p l e R s m args below meth c H1 locs (cells + 1 + N') (slots + N' + N' * K') Q (F0 m (pc + 4) ls (.ref q :: rest))) : W p l e R s m args below meth c H locs cells slots Q (F0 m pc ls (.int k :: .int n :: rest)) := by
  subst hN
  subst hM
  intro T hT Xs
  obtain ⟨vm₁, cA, comp, -, fA, fC, hO, -, X', step⟩ := Xs.multianewarray2F hexec hown hclink (va_AOA.use hover) harr (g := F0 m pc ls (.int k :: .int n :: rest)) rfl (by rw [hb]; exact hdg) rfl hn hk hb1 hb2 hb3 hdf hdd hcells hslots
  have ec : some cy = some comp := hcy.symm.trans fC
  cases ec
  generalize hF : Jvm.Free.Multi.fill (T.setVm vm₁) cA cy n.toNatClampNeg k.toNatClampNeg (defaultValue ty) n.toNatClampNeg = F at X' step
  have hTh : (T.setVm vm₁).heap = H := hT
  obtain ⟨f1, f2, -, -⟩ := Jvm.Free.Multi.fill_facts (T.setVm vm₁) cA cy n.toNatClampNeg k.toNatClampNeg (defaultValue ty) n.toNatClampNeg
  rw [hF, hTh] at f1 f2
  have hold : ∀ x : Nat, x < H.size → F.heap[x]? = H[x]? := fun x hx => by
    have := Jvm.Free.Multi.fill_old (T.setVm vm₁) cA cy n.toNatClampNeg k.toNatClampNeg (defaultValue ty) (a := x) (by rw [hTh]; exact hx) n.toNatClampNeg
    rw [hF, hTh] at this
    exact this
  have hrow : ∀ j : Nat, j < n.toNatClampNeg → F.heap[H.size + 1 + j]? = some (vp_cell cy z) := fun j hj => by
    have := Jvm.Free.Multi.fill_inner (T.setVm vm₁) cA cy n.toNatClampNeg k.toNatClampNeg (defaultValue ty) n.toNatClampNeg j hj
    rw [hF, hTh, hz] at this
    exact this
  have hout : Jvm.Free.Multi.outerC cA n.toNatClampNeg H.size n.toNatClampNeg = vp_cell cA (n.toNatClampNeg, .inr (.inr (.inr (.inr (fun i => if i < n.toNatClampNeg then some (H.size + 1 + i) else none))))) := by
    rw [vp_cell_q]
    exact vr_outer cA n.toNatClampNeg H.size n.toNatClampNeg
  rw [hout] at f2
  have hlt : ∀ a, a ∈ L → a < H.size := fun a ha => by
    obtain ⟨k9, hk9⟩ := va_pl_get (X := X) (f := f) ha
    exact (hP k9 _ hk9).lt
  have hnl : ∀ i : Nat, i < n.toNatClampNeg → H.size + 1 + i ∉ L := fun i _ h => by
    have := hlt _ h
    omega
  have hnm : ∀ a, a ∈ (List.range n.toNatClampNeg).map (fun i => H.size + 1 + i) → a ∉ L := fun a ha h => by
    obtain ⟨i, -, rfl⟩ := List.mem_map.mp ha
    have := hlt _ h
    omega
  have hP0 : va_P D cl (X ++ va_pl L f) F.heap := hP.kept (fun k9 x hx => hold x.1 ((hP k9 x hx).lt))
  have hP1 : va_P D cl ((X ++ va_pl L f) ++ [(H.size, .inl (cA, n.toNatClampNeg, .inr (.inr (.inr (.inr (fun i => if i < n.toNatClampNeg then some (H.size + 1 + i) else none))))))]) F.heap := hP0.app (fun k9 x hx => by
    have h0 : k9 < 1 := (List.getElem?_eq_some_iff.mp hx).1
    rw [show k9 = 0 by omega] at hx
    cases hx
    exact f2)
  have hP2 : va_P D cl (((X ++ va_pl L f) ++ [(H.size, .inl (cA, n.toNatClampNeg, .inr (.inr (.inr (.inr (fun i => if i < n.toNatClampNeg then some (H.size + 1 + i) else none))))))]) ++ ((List.range n.toNatClampNeg).map (fun i => H.size + 1 + i)).map (fun a => (a, .inl (cy, z)))) F.heap := hP1.app (fun k9 x hx => by
    obtain ⟨a, ha, rfl⟩ := List.mem_map.mp (List.mem_of_getElem? hx)
    obtain ⟨i, hi, rfl⟩ := List.mem_map.mp ha
    exact hrow i (List.mem_range.mp hi))
  have hD2 : va_D A (((X ++ va_pl L f) ++ [(H.size, .inl (cA, n.toNatClampNeg, .inr (.inr (.inr (.inr (fun i => if i < n.toNatClampNeg then some (H.size + 1 + i) else none))))))]) ++ ((List.range n.toNatClampNeg).map (fun i => H.size + 1 + i)).map (fun a => (a, .inl (cy, z)))) := by
    have hD1 := hD.push (e := .inl (cA, n.toNatClampNeg, .inr (.inr (.inr (.inr (fun i => if i < n.toNatClampNeg then some (H.size + 1 + i) else none)))))) hP rfl (hA _ hS.1)
    generalize hW1 : (X ++ va_pl L f) ++ [(H.size, .inl (cA, n.toNatClampNeg, .inr (.inr (.inr (.inr (fun i => if i < n.toNatClampNeg then some (H.size + 1 + i) else none))))))] = W1 at hD1 hP1 ⊢
    have hle : ∀ (k9 : Nat) (x : Nat × va_E), W1[k9]? = some x → x.1 ≤ H.size := fun k9 x hx => by
      rw [← hW1] at hx
      by_cases hl : k9 < (X ++ va_pl L f).length
      · rw [List.getElem?_append_left hl] at hx
        exact Nat.le_of_lt ((hP k9 x hx).lt)
      · rw [List.getElem?_append_right (by omega)] at hx
        have h0 : k9 - (X ++ va_pl L f).length < 1 := (List.getElem?_eq_some_iff.mp hx).1
        rw [show k9 - (X ++ va_pl L f).length = 0 by omega] at hx
        cases hx
        exact Nat.le_refl _
    have hr : ∀ (k9 : Nat) (x : Nat × va_E), (((List.range n.toNatClampNeg).map (fun i => H.size + 1 + i)).map (fun a => ((a, .inl (cy, z)) : Nat × va_E)))[k9]? = some x → x.1 = H.size + 1 + k9 := fun k9 x hx => by
      rw [List.getElem?_map, List.getElem?_map] at hx
      by_cases h9 : k9 < n.toNatClampNeg
      · rw [List.getElem?_range h9] at hx
        cases hx
        rfl
      · have hn0 : (List.range n.toNatClampNeg)[k9]? = none := List.getElem?_eq_none (by rw [List.length_range]; omega)
        rw [hn0] at hx
        cases hx
    refine ⟨fun i j x y hi hj hxy => ?_, fun k9 x hx => ?_⟩
    · by_cases h1 : i < W1.length <;> by_cases h2 : j < W1.length
      · rw [List.getElem?_append_left h1] at hi
        rw [List.getElem?_append_left h2] at hj
        exact hD1.1 i j x y hi hj hxy
      · rw [List.getElem?_append_left h1] at hi
        rw [List.getElem?_append_right (by omega)] at hj
        have := hle _ _ hi
        have := hr _ _ hj
        omega
      · rw [List.getElem?_append_right (by omega)] at hi
        rw [List.getElem?_append_left h2] at hj
        have := hle _ _ hj
        have := hr _ _ hi
        omega
      · rw [List.getElem?_append_right (by omega)] at hi hj
        have := hr _ _ hi
        have := hr _ _ hj
        omega
    · by_cases h1 : k9 < W1.length
      · rw [List.getElem?_append_left h1] at hx
        exact hD1.2 k9 x hx
      · rw [List.getElem?_append_right (by omega)] at hx
        have := hr _ _ hx
        exact hA _ (by have := hS.1; omega)
  have hAr : ArrOfT s cA (.array ty) := fun N9 z9 => by
    obtain ⟨-, k9, hk9, cm9, hkk9⟩ := (hO 0 0 0).1
    exact ⟨(fun q hq => by cases hq), k9, hk9, cm9, hkk9⟩
  have hK2 : va_K D cl (tys ++ [(cA, .array ty)]) s := ⟨hK.1, fun k9 x hx => by
    by_cases hl : k9 < tys.length
    · rw [List.getElem?_append_left hl] at hx
      exact hK.2 k9 x hx
    · rw [List.getElem?_append_right (by omega)] at hx
      have h0 : k9 - tys.length < 1 := (List.getElem?_eq_some_iff.mp hx).1
      rw [show k9 - tys.length = 0 by omega] at hx
      cases hx
      exact ⟨hAr, fA⟩⟩
  obtain ⟨t, a1, b1⟩ := kk H.size (fun i => H.size + 1 + i) cA F.heap (fun i j _ _ h => by have h9 : H.size + 1 + i = H.size + 1 + j := h; omega) hnl hK2 (by rw [← vr_rows hnm]; exact vr_lay hP2) (by rw [← vr_rows hnm]; exact vr_layD hD2) ⟨by rw [f1]; have := hS.1; omega, fun x h1 h2 => (hold x (Nat.lt_of_lt_of_le h1 hS.1)).trans (hS.2.1 x h1 h2), hS.2.2⟩ F rfl X'
  refine ⟨t, step t ?_, b1⟩
  have e : T.heap.size = H.size := by rw [hT]
  rw [e]
  exact a1
end VGM
/-! ===== END ===== -/

/-! ===== BEGIN printed: names, fields, word lists, decode rows ===== -/
def RX0 : String := "SandGroup$Changes"
def TX0 : u_T := fun k => match k with
  | 0 => ("SandGroup$Changes", "states", "[[I", true)
  | 1 => ("SandGroup$Changes", "now", "I", false)
  | _ => ("SandGroup$Changes", "last", "I", false)
def tyX0 : Nat → FieldType := fun k => match k with
  | 0 => .array (.array .int)
  | 1 => .int
  | _ => .int
abbrev wsX00 : List Cond := u_ws RX0 TX0 3
theorem nmX0 : ∀ a, a < 3 → ∀ b, b < 3 → a ≠ b → (TX0 a).2.1 ≠ (TX0 b).2.1 := by decide +kernel
theorem tyX0_ok : ∀ k, k < 3 → parseFieldDescriptor (TX0 k).2.2.1 = some (tyX0 k) := by decide +kernel
abbrev cX0_init : ByteArray := prog_2_method_1_code
def yX0_init : MethodName := ⟨RX0, "<init>", "()V"⟩
abbrev cX0_restart : ByteArray := prog_2_method_2_code
def yX0_restart : MethodName := ⟨RX0, "restart", "([I)V"⟩
abbrev cX0_note : ByteArray := prog_2_method_3_code
def yX0_note : MethodName := ⟨RX0, "note", "([I)V"⟩
abbrev cX0_undoable : ByteArray := prog_2_method_4_code
def yX0_undoable : MethodName := ⟨RX0, "undoable", "()I"⟩
abbrev cX0_redoable : ByteArray := prog_2_method_5_code
def yX0_redoable : MethodName := ⟨RX0, "redoable", "()I"⟩
abbrev cX0_back : ByteArray := prog_2_method_6_code
def yX0_back : MethodName := ⟨RX0, "back", "([I)I"⟩
abbrev cX0_forth : ByteArray := prog_2_method_7_code
def yX0_forth : MethodName := ⟨RX0, "forth", "([I)I"⟩
def RX1 : String := "SandGroup$Fall"
def TX1 : u_T := fun k => match k with
  | 0 => ("SandGroup$Fall", "grid", "LSandGroup$Grid;", true)
  | 1 => ("SandGroup$Fall", "heights", "[I", true)
  | _ => ("SandGroup$Fall", "counts", "[I", true)
def tyX1 : Nat → FieldType := fun k => match k with
  | 0 => .object "SandGroup$Grid"
  | 1 => .array .int
  | _ => .array .int
abbrev wsX10 : List Cond := u_ws RX1 TX1 3
theorem nmX1 : ∀ a, a < 3 → ∀ b, b < 3 → a ≠ b → (TX1 a).2.1 ≠ (TX1 b).2.1 := by decide +kernel
theorem tyX1_ok : ∀ k, k < 3 → parseFieldDescriptor (TX1 k).2.2.1 = some (tyX1 k) := by decide +kernel
abbrev cX1_init : ByteArray := prog_3_method_1_code
def yX1_init : MethodName := ⟨RX1, "<init>", "(LSandGroup$Grid;)V"⟩
abbrev cX1_begin : ByteArray := prog_3_method_2_code
def yX1_begin : MethodName := ⟨RX1, "begin", "([I)V"⟩
abbrev cX1_forgetCounts : ByteArray := prog_3_method_3_code
def yX1_forgetCounts : MethodName := ⟨RX1, "forgetCounts", "()V"⟩
abbrev cX1_addGrain : ByteArray := prog_3_method_4_code
def yX1_addGrain : MethodName := ⟨RX1, "addGrain", "(I)V"⟩
abbrev cX1_level : ByteArray := prog_3_method_5_code
def yX1_level : MethodName := ⟨RX1, "level", "()I"⟩
abbrev cX1_inRounds : ByteArray := prog_3_method_6_code
def yX1_inRounds : MethodName := ⟨RX1, "inRounds", "()I"⟩
abbrev cX1_readyBits : ByteArray := prog_3_method_7_code
def yX1_readyBits : MethodName := ⟨RX1, "readyBits", "()I"⟩
abbrev cX1_toppleOnce : ByteArray := prog_3_method_8_code
def yX1_toppleOnce : MethodName := ⟨RX1, "toppleOnce", "(I)Z"⟩
abbrev cX1_copyTo : ByteArray := prog_3_method_9_code
def yX1_copyTo : MethodName := ⟨RX1, "copyTo", "([I)V"⟩
abbrev cX1_code : ByteArray := prog_3_method_10_code
def yX1_code : MethodName := ⟨RX1, "code", "()I"⟩
abbrev cX1_grains : ByteArray := prog_3_method_11_code
def yX1_grains : MethodName := ⟨RX1, "grains", "()I"⟩
abbrev cX1_heightAt : ByteArray := prog_3_method_12_code
def yX1_heightAt : MethodName := ⟨RX1, "heightAt", "(I)I"⟩
abbrev cX1_countAt : ByteArray := prog_3_method_13_code
def yX1_countAt : MethodName := ⟨RX1, "countAt", "(I)I"⟩
abbrev cX1_toppled : ByteArray := prog_3_method_14_code
def yX1_toppled : MethodName := ⟨RX1, "toppled", "()I"⟩
abbrev cX1_lost : ByteArray := prog_3_method_15_code
def yX1_lost : MethodName := ⟨RX1, "lost", "()I"⟩
abbrev cX1_area : ByteArray := prog_3_method_16_code
def yX1_area : MethodName := ⟨RX1, "area", "()I"⟩
def RX2 : String := "SandGroup$Fire"
def TX2 : u_T := fun k => match k with
  | 0 => ("SandGroup$Fire", "grid", "LSandGroup$Grid;", true)
  | _ => ("SandGroup$Fire", "rounds", "[I", true)
def tyX2 : Nat → FieldType := fun k => match k with
  | 0 => .object "SandGroup$Grid"
  | _ => .array .int
abbrev wsX20 : List Cond := u_ws RX2 TX2 2
theorem nmX2 : ∀ a, a < 2 → ∀ b, b < 2 → a ≠ b → (TX2 a).2.1 ≠ (TX2 b).2.1 := by decide +kernel
theorem tyX2_ok : ∀ k, k < 2 → parseFieldDescriptor (TX2 k).2.2.1 = some (tyX2 k) := by decide +kernel
abbrev cX2_init : ByteArray := prog_4_method_1_code
def yX2_init : MethodName := ⟨RX2, "<init>", "(LSandGroup$Grid;)V"⟩
abbrev cX2_spread : ByteArray := prog_4_method_2_code
def yX2_spread : MethodName := ⟨RX2, "spread", "([I)I"⟩
abbrev cX2_burnOnce : ByteArray := prog_4_method_3_code
def yX2_burnOnce : MethodName := ⟨RX2, "burnOnce", "([II)Z"⟩
abbrev cX2_unburntNextTo : ByteArray := prog_4_method_4_code
def yX2_unburntNextTo : MethodName := ⟨RX2, "unburntNextTo", "(II)I"⟩
abbrev cX2_roundAt : ByteArray := prog_4_method_5_code
def yX2_roundAt : MethodName := ⟨RX2, "roundAt", "(I)I"⟩
abbrev cX2_unburnt : ByteArray := prog_4_method_6_code
def yX2_unburnt : MethodName := ⟨RX2, "unburnt", "()I"⟩
def RX3 : String := "SandGroup$Grid"
def TX3 : u_T := fun k => match k with
  | 0 => ("SandGroup$Grid", "walls", "[I", true)
  | 1 => ("SandGroup$Grid", "places", "[I", true)
  | 2 => ("SandGroup$Grid", "numbers", "[I", true)
  | 3 => ("SandGroup$Grid", "nexts", "[I", true)
  | 4 => ("SandGroup$Grid", "nextCounts", "[I", true)
  | 5 => ("SandGroup$Grid", "rows", "I", false)
  | 6 => ("SandGroup$Grid", "columns", "I", false)
  | _ => ("SandGroup$Grid", "placeCount", "I", false)
def tyX3 : Nat → FieldType := fun k => match k with
  | 0 => .array .int
  | 1 => .array .int
  | 2 => .array .int
  | 3 => .array .int
  | 4 => .array .int
  | 5 => .int
  | 6 => .int
  | _ => .int
abbrev wsX30 : List Cond := u_ws RX3 TX3 8
theorem nmX3 : ∀ a, a < 8 → ∀ b, b < 8 → a ≠ b → (TX3 a).2.1 ≠ (TX3 b).2.1 := by decide +kernel
theorem tyX3_ok : ∀ k, k < 8 → parseFieldDescriptor (TX3 k).2.2.1 = some (tyX3 k) := by decide +kernel
abbrev cX3_init : ByteArray := prog_5_method_1_code
def yX3_init : MethodName := ⟨RX3, "<init>", "(II)V"⟩
abbrev cX3_shape : ByteArray := prog_5_method_2_code
def yX3_shape : MethodName := ⟨RX3, "shape", "(II)V"⟩
abbrev cX3_build : ByteArray := prog_5_method_3_code
def yX3_build : MethodName := ⟨RX3, "build", "(IZ)V"⟩
abbrev cX3_link : ByteArray := prog_5_method_4_code
def yX3_link : MethodName := ⟨RX3, "link", "()V"⟩
abbrev cX3_linkCell : ByteArray := prog_5_method_5_code
def yX3_linkCell : MethodName := ⟨RX3, "linkCell", "(III)V"⟩
abbrev cX3_join : ByteArray := prog_5_method_6_code
def yX3_join : MethodName := ⟨RX3, "join", "(II)V"⟩
abbrev cX3_cellCount : ByteArray := prog_5_method_7_code
def yX3_cellCount : MethodName := ⟨RX3, "cellCount", "()I"⟩
abbrev cX3_columnCount : ByteArray := prog_5_method_8_code
def yX3_columnCount : MethodName := ⟨RX3, "columnCount", "()I"⟩
abbrev cX3_placeCount : ByteArray := prog_5_method_9_code
def yX3_placeCount : MethodName := ⟨RX3, "placeCount", "()I"⟩
abbrev cX3_isCell : ByteArray := prog_5_method_10_code
def yX3_isCell : MethodName := ⟨RX3, "isCell", "(I)Z"⟩
abbrev cX3_isPlace : ByteArray := prog_5_method_11_code
def yX3_isPlace : MethodName := ⟨RX3, "isPlace", "(I)Z"⟩
abbrev cX3_placeAt : ByteArray := prog_5_method_12_code
def yX3_placeAt : MethodName := ⟨RX3, "placeAt", "(I)I"⟩
abbrev cX3_numberOf : ByteArray := prog_5_method_13_code
def yX3_numberOf : MethodName := ⟨RX3, "numberOf", "(I)I"⟩
abbrev cX3_nextCount : ByteArray := prog_5_method_14_code
def yX3_nextCount : MethodName := ⟨RX3, "nextCount", "(I)I"⟩
abbrev cX3_nextAt : ByteArray := prog_5_method_15_code
def yX3_nextAt : MethodName := ⟨RX3, "nextAt", "(II)I"⟩
abbrev cX3_lossAt : ByteArray := prog_5_method_16_code
def yX3_lossAt : MethodName := ⟨RX3, "lossAt", "(I)I"⟩
abbrev cX3_spill : ByteArray := prog_5_method_17_code
def yX3_spill : MethodName := ⟨RX3, "spill", "([III)V"⟩
abbrev cX3_grainsOf : ByteArray := prog_5_method_18_code
def yX3_grainsOf : MethodName := ⟨RX3, "grainsOf", "([I)I"⟩
abbrev cX3_isStable : ByteArray := prog_5_method_19_code
def yX3_isStable : MethodName := ⟨RX3, "isStable", "([I)Z"⟩
abbrev cX3_pack : ByteArray := prog_5_method_20_code
def yX3_pack : MethodName := ⟨RX3, "pack", "([I)I"⟩
abbrev cX3_unpack : ByteArray := prog_5_method_21_code
def yX3_unpack : MethodName := ⟨RX3, "unpack", "(I[I)V"⟩
def RX4 : String := "SandGroup$March"
def TX4 : u_T := fun k => match k with
  | 0 => ("SandGroup$March", "grid", "LSandGroup$Grid;", true)
  | 1 => ("SandGroup$March", "heights", "[I", true)
  | 2 => ("SandGroup$March", "ring", "[I", true)
  | 3 => ("SandGroup$March", "order", "I", false)
  | 4 => ("SandGroup$March", "first", "I", false)
  | 5 => ("SandGroup$March", "length", "I", false)
  | _ => ("SandGroup$March", "standing", "I", false)
def tyX4 : Nat → FieldType := fun k => match k with
  | 0 => .object "SandGroup$Grid"
  | 1 => .array .int
  | 2 => .array .int
  | 3 => .int
  | 4 => .int
  | 5 => .int
  | _ => .int
abbrev wsX40 : List Cond := u_ws RX4 TX4 7
theorem nmX4 : ∀ a, a < 7 → ∀ b, b < 7 → a ≠ b → (TX4 a).2.1 ≠ (TX4 b).2.1 := by decide +kernel
theorem tyX4_ok : ∀ k, k < 7 → parseFieldDescriptor (TX4 k).2.2.1 = some (tyX4 k) := by decide +kernel
abbrev cX4_init : ByteArray := prog_6_method_1_code
def yX4_init : MethodName := ⟨RX4, "<init>", "(LSandGroup$Grid;)V"⟩
abbrev cX4_begin : ByteArray := prog_6_method_2_code
def yX4_begin : MethodName := ⟨RX4, "begin", "([II)V"⟩
abbrev cX4_step : ByteArray := prog_6_method_3_code
def yX4_step : MethodName := ⟨RX4, "step", "()I"⟩
abbrev cX4_chosen : ByteArray := prog_6_method_4_code
def yX4_chosen : MethodName := ⟨RX4, "chosen", "()I"⟩
abbrev cX4_leastCell : ByteArray := prog_6_method_5_code
def yX4_leastCell : MethodName := ⟨RX4, "leastCell", "()I"⟩
abbrev cX4_tallestCell : ByteArray := prog_6_method_6_code
def yX4_tallestCell : MethodName := ⟨RX4, "tallestCell", "()I"⟩
abbrev cX4_leave : ByteArray := prog_6_method_7_code
def yX4_leave : MethodName := ⟨RX4, "leave", "(Z)I"⟩
abbrev cX4_lineUp : ByteArray := prog_6_method_8_code
def yX4_lineUp : MethodName := ⟨RX4, "lineUp", "(I)V"⟩
def RX5 : String := "SandGroup$Matrix"
def TX5 : u_T := fun k => match k with
  | _ => ("SandGroup$Matrix", "entries", "[J", true)
def tyX5 : Nat → FieldType := fun k => match k with
  | _ => .array .long
abbrev wsX50 : List Cond := u_ws RX5 TX5 1
theorem nmX5 : ∀ a, a < 1 → ∀ b, b < 1 → a ≠ b → (TX5 a).2.1 ≠ (TX5 b).2.1 := by decide +kernel
theorem tyX5_ok : ∀ k, k < 1 → parseFieldDescriptor (TX5 k).2.2.1 = some (tyX5 k) := by decide +kernel
abbrev cX5_init : ByteArray := prog_7_method_1_code
def yX5_init : MethodName := ⟨RX5, "<init>", "()V"⟩
abbrev cX5_determinant : ByteArray := prog_7_method_2_code
def yX5_determinant : MethodName := ⟨RX5, "determinant", "(LSandGroup$Grid;)J"⟩
abbrev cX5_fillFrom : ByteArray := prog_7_method_3_code
def yX5_fillFrom : MethodName := ⟨RX5, "fillFrom", "(LSandGroup$Grid;I)V"⟩
abbrev cX5_eliminate : ByteArray := prog_7_method_4_code
def yX5_eliminate : MethodName := ⟨RX5, "eliminate", "(IIJ)V"⟩
def RX6 : String := "SandGroup$Seen"
def TX6 : u_T := fun k => match k with
  | 0 => ("SandGroup$Seen", "codes", "[I", true)
  | 1 => ("SandGroup$Seen", "links", "[I", true)
  | 2 => ("SandGroup$Seen", "heads", "[I", true)
  | _ => ("SandGroup$Seen", "length", "I", false)
def tyX6 : Nat → FieldType := fun k => match k with
  | 0 => .array .int
  | 1 => .array .int
  | 2 => .array .int
  | _ => .int
abbrev wsX60 : List Cond := u_ws RX6 TX6 4
theorem nmX6 : ∀ a, a < 4 → ∀ b, b < 4 → a ≠ b → (TX6 a).2.1 ≠ (TX6 b).2.1 := by decide +kernel
theorem tyX6_ok : ∀ k, k < 4 → parseFieldDescriptor (TX6 k).2.2.1 = some (tyX6 k) := by decide +kernel
abbrev cX6_init : ByteArray := prog_8_method_1_code
def yX6_init : MethodName := ⟨RX6, "<init>", "()V"⟩
abbrev cX6_clear : ByteArray := prog_8_method_2_code
def yX6_clear : MethodName := ⟨RX6, "clear", "()V"⟩
abbrev cX6_add : ByteArray := prog_8_method_3_code
def yX6_add : MethodName := ⟨RX6, "add", "(I)V"⟩
abbrev cX6_find : ByteArray := prog_8_method_4_code
def yX6_find : MethodName := ⟨RX6, "find", "(I)I"⟩
abbrev cX6_chainOf : ByteArray := prog_8_method_5_code
def yX6_chainOf : MethodName := ⟨RX6, "chainOf", "(I)I"⟩
def RX7 : String := "SandGroup$Shelf"
def TX7 : u_T := fun k => match k with
  | 0 => ("SandGroup$Shelf", "rows", "[[I", true)
  | _ => ("SandGroup$Shelf", "lengths", "[I", true)
def tyX7 : Nat → FieldType := fun k => match k with
  | 0 => .array (.array .int)
  | _ => .array .int
abbrev wsX70 : List Cond := u_ws RX7 TX7 2
theorem nmX7 : ∀ a, a < 2 → ∀ b, b < 2 → a ≠ b → (TX7 a).2.1 ≠ (TX7 b).2.1 := by decide +kernel
theorem tyX7_ok : ∀ k, k < 2 → parseFieldDescriptor (TX7 k).2.2.1 = some (tyX7 k) := by decide +kernel
abbrev cX7_init : ByteArray := prog_9_method_1_code
def yX7_init : MethodName := ⟨RX7, "<init>", "(II)V"⟩
abbrev cX7_clear : ByteArray := prog_9_method_2_code
def yX7_clear : MethodName := ⟨RX7, "clear", "()V"⟩
abbrev cX7_has : ByteArray := prog_9_method_3_code
def yX7_has : MethodName := ⟨RX7, "has", "(I)Z"⟩
abbrev cX7_holds : ByteArray := prog_9_method_4_code
def yX7_holds : MethodName := ⟨RX7, "holds", "(I)Z"⟩
abbrev cX7_lengthOf : ByteArray := prog_9_method_5_code
def yX7_lengthOf : MethodName := ⟨RX7, "lengthOf", "(I)I"⟩
abbrev cX7_rowAt : ByteArray := prog_9_method_6_code
def yX7_rowAt : MethodName := ⟨RX7, "rowAt", "(I)[I"⟩
abbrev cX7_hold : ByteArray := prog_9_method_7_code
def yX7_hold : MethodName := ⟨RX7, "hold", "(II)[I"⟩
abbrev cX7_heldCount : ByteArray := prog_9_method_8_code
def yX7_heldCount : MethodName := ⟨RX7, "heldCount", "()I"⟩
def RX8 : String := "SandGroup$Sums"
def TX8 : u_T := fun k => match k with
  | 0 => ("SandGroup$Sums", "grid", "LSandGroup$Grid;", true)
  | 1 => ("SandGroup$Sums", "fall", "LSandGroup$Fall;", true)
  | 2 => ("SandGroup$Sums", "nought", "[I", true)
  | 3 => ("SandGroup$Sums", "result", "[I", true)
  | 4 => ("SandGroup$Sums", "other", "[I", true)
  | _ => ("SandGroup$Sums", "both", "[I", true)
def tyX8 : Nat → FieldType := fun k => match k with
  | 0 => .object "SandGroup$Grid"
  | 1 => .object "SandGroup$Fall"
  | 2 => .array .int
  | 3 => .array .int
  | 4 => .array .int
  | _ => .array .int
abbrev wsX80 : List Cond := u_ws RX8 TX8 6
theorem nmX8 : ∀ a, a < 6 → ∀ b, b < 6 → a ≠ b → (TX8 a).2.1 ≠ (TX8 b).2.1 := by decide +kernel
theorem tyX8_ok : ∀ k, k < 6 → parseFieldDescriptor (TX8 k).2.2.1 = some (tyX8 k) := by decide +kernel
abbrev cX8_init : ByteArray := prog_10_method_1_code
def yX8_init : MethodName := ⟨RX8, "<init>", "(LSandGroup$Grid;LSandGroup$Fall;)V"⟩
abbrev cX8_add : ByteArray := prog_10_method_2_code
def yX8_add : MethodName := ⟨RX8, "add", "([I[I)I"⟩
abbrev cX8_addInto : ByteArray := prog_10_method_3_code
def yX8_addInto : MethodName := ⟨RX8, "addInto", "([I[I[I)V"⟩
abbrev cX8_copyResultTo : ByteArray := prog_10_method_4_code
def yX8_copyResultTo : MethodName := ⟨RX8, "copyResultTo", "([I)V"⟩
abbrev cX8_startAtNought : ByteArray := prog_10_method_5_code
def yX8_startAtNought : MethodName := ⟨RX8, "startAtNought", "()V"⟩
abbrev cX8_layFullZero : ByteArray := prog_10_method_6_code
def yX8_layFullZero : MethodName := ⟨RX8, "layFullZero", "()V"⟩
abbrev cX8_settleResult : ByteArray := prog_10_method_7_code
def yX8_settleResult : MethodName := ⟨RX8, "settleResult", "()V"⟩
abbrev cX8_multiply : ByteArray := prog_10_method_8_code
def yX8_multiply : MethodName := ⟨RX8, "multiply", "([II)V"⟩
abbrev cX8_negate : ByteArray := prog_10_method_9_code
def yX8_negate : MethodName := ⟨RX8, "negate", "([I)V"⟩
abbrev cX8_leastToNought : ByteArray := prog_10_method_10_code
def yX8_leastToNought : MethodName := ⟨RX8, "leastToNought", "([II)I"⟩
abbrev cX8_areOne : ByteArray := prog_10_method_11_code
def yX8_areOne : MethodName := ⟨RX8, "areOne", "([I[I)Z"⟩
def RX9 : String := "SandGroup$Tally"
def TX9 : u_T := fun k => match k with
  | 0 => ("SandGroup$Tally", "sizes", "[I", true)
  | 1 => ("SandGroup$Tally", "often", "[I", true)
  | 2 => ("SandGroup$Tally", "unlike", "I", false)
  | 3 => ("SandGroup$Tally", "together", "I", false)
  | _ => ("SandGroup$Tally", "greatest", "I", false)
def tyX9 : Nat → FieldType := fun k => match k with
  | 0 => .array .int
  | 1 => .array .int
  | 2 => .int
  | 3 => .int
  | _ => .int
abbrev wsX90 : List Cond := u_ws RX9 TX9 5
theorem nmX9 : ∀ a, a < 5 → ∀ b, b < 5 → a ≠ b → (TX9 a).2.1 ≠ (TX9 b).2.1 := by decide +kernel
theorem tyX9_ok : ∀ k, k < 5 → parseFieldDescriptor (TX9 k).2.2.1 = some (tyX9 k) := by decide +kernel
abbrev cX9_init : ByteArray := prog_11_method_1_code
def yX9_init : MethodName := ⟨RX9, "<init>", "()V"⟩
abbrev cX9_clear : ByteArray := prog_11_method_2_code
def yX9_clear : MethodName := ⟨RX9, "clear", "()V"⟩
abbrev cX9_add : ByteArray := prog_11_method_3_code
def yX9_add : MethodName := ⟨RX9, "add", "(I)V"⟩
abbrev cX9_unlike : ByteArray := prog_11_method_4_code
def yX9_unlike : MethodName := ⟨RX9, "unlike", "()I"⟩
abbrev cX9_together : ByteArray := prog_11_method_5_code
def yX9_together : MethodName := ⟨RX9, "together", "()I"⟩
abbrev cX9_greatest : ByteArray := prog_11_method_6_code
def yX9_greatest : MethodName := ⟨RX9, "greatest", "()I"⟩
abbrev cX9_sizeAt : ByteArray := prog_11_method_7_code
def yX9_sizeAt : MethodName := ⟨RX9, "sizeAt", "(I)I"⟩
abbrev cX9_oftenAt : ByteArray := prog_11_method_8_code
def yX9_oftenAt : MethodName := ⟨RX9, "oftenAt", "(I)I"⟩
def RX10 : String := "SandGroup$Tape"
def TX10 : u_T := fun k => match k with
  | 0 => ("SandGroup$Tape", "bytes", "[I", true)
  | 1 => ("SandGroup$Tape", "values", "[I", true)
  | 2 => ("SandGroup$Tape", "codes", "[I", true)
  | 3 => ("SandGroup$Tape", "length", "I", false)
  | 4 => ("SandGroup$Tape", "codeCount", "I", false)
  | 5 => ("SandGroup$Tape", "slashes", "I", false)
  | 6 => ("SandGroup$Tape", "width", "I", false)
  | _ => ("SandGroup$Tape", "inRow", "I", false)
def tyX10 : Nat → FieldType := fun k => match k with
  | 0 => .array .int
  | 1 => .array .int
  | 2 => .array .int
  | 3 => .int
  | 4 => .int
  | 5 => .int
  | 6 => .int
  | _ => .int
abbrev wsX100 : List Cond := u_ws RX10 TX10 8
theorem nmX10 : ∀ a, a < 8 → ∀ b, b < 8 → a ≠ b → (TX10 a).2.1 ≠ (TX10 b).2.1 := by decide +kernel
theorem tyX10_ok : ∀ k, k < 8 → parseFieldDescriptor (TX10 k).2.2.1 = some (tyX10 k) := by decide +kernel
abbrev cX10_init : ByteArray := prog_12_method_1_code
def yX10_init : MethodName := ⟨RX10, "<init>", "()V"⟩
abbrev cX10_isFull : ByteArray := prog_12_method_2_code
def yX10_isFull : MethodName := ⟨RX10, "isFull", "()Z"⟩
abbrev cX10_append : ByteArray := prog_12_method_3_code
def yX10_append : MethodName := ⟨RX10, "append", "(I)I"⟩
abbrev cX10_rewind : ByteArray := prog_12_method_4_code
def yX10_rewind : MethodName := ⟨RX10, "rewind", "()V"⟩
abbrev cX10_length : ByteArray := prog_12_method_5_code
def yX10_length : MethodName := ⟨RX10, "length", "()I"⟩
abbrev cX10_codeCount : ByteArray := prog_12_method_6_code
def yX10_codeCount : MethodName := ⟨RX10, "codeCount", "()I"⟩
abbrev cX10_codeAt : ByteArray := prog_12_method_7_code
def yX10_codeAt : MethodName := ⟨RX10, "codeAt", "(I)I"⟩
abbrev cX10_rowCount : ByteArray := prog_12_method_8_code
def yX10_rowCount : MethodName := ⟨RX10, "rowCount", "()I"⟩
abbrev cX10_columnCount : ByteArray := prog_12_method_9_code
def yX10_columnCount : MethodName := ⟨RX10, "columnCount", "()I"⟩
abbrev cX10_valueAt : ByteArray := prog_12_method_10_code
def yX10_valueAt : MethodName := ⟨RX10, "valueAt", "(I)I"⟩
abbrev cX10_parse : ByteArray := prog_12_method_11_code
def yX10_parse : MethodName := ⟨RX10, "parse", "()I"⟩
abbrev cX10_refuse : ByteArray := prog_12_method_12_code
def yX10_refuse : MethodName := ⟨RX10, "refuse", "(II)I"⟩
abbrev cX10_accept : ByteArray := prog_12_method_13_code
def yX10_accept : MethodName := ⟨RX10, "accept", "(I)I"⟩
abbrev cX10_acceptSlash : ByteArray := prog_12_method_14_code
def yX10_acceptSlash : MethodName := ⟨RX10, "acceptSlash", "()I"⟩
abbrev cX10_mostInRow : ByteArray := prog_12_method_15_code
def yX10_mostInRow : MethodName := ⟨RX10, "mostInRow", "()I"⟩
abbrev cX10_isRowWhole : ByteArray := prog_12_method_16_code
def yX10_isRowWhole : MethodName := ⟨RX10, "isRowWhole", "()Z"⟩
abbrev cX10_closeRow : ByteArray := prog_12_method_17_code
def yX10_closeRow : MethodName := ⟨RX10, "closeRow", "()V"⟩
def RX11 : String := "SandGroup"
def TX11 : u_T := fun k => match k with
  | 0 => ("SandGroup", "grid", "LSandGroup$Grid;", true)
  | 1 => ("SandGroup", "heights", "[I", true)
  | 2 => ("SandGroup", "changes", "LSandGroup$Changes;", true)
  | 3 => ("SandGroup", "tape", "LSandGroup$Tape;", true)
  | 4 => ("SandGroup", "piles", "LSandGroup$Shelf;", true)
  | 5 => ("SandGroup", "lists", "LSandGroup$Shelf;", true)
  | 6 => ("SandGroup", "fall", "LSandGroup$Fall;", true)
  | 7 => ("SandGroup", "march", "LSandGroup$March;", true)
  | 8 => ("SandGroup", "otherMarch", "LSandGroup$March;", true)
  | 9 => ("SandGroup", "sums", "LSandGroup$Sums;", true)
  | 10 => ("SandGroup", "fire", "LSandGroup$Fire;", true)
  | 11 => ("SandGroup", "matrix", "LSandGroup$Matrix;", true)
  | 12 => ("SandGroup", "seen", "LSandGroup$Seen;", true)
  | 13 => ("SandGroup", "tally", "LSandGroup$Tally;", true)
  | _ => ("SandGroup", "walked", "[I", true)
def tyX11 : Nat → FieldType := fun k => match k with
  | 0 => .object "SandGroup$Grid"
  | 1 => .array .int
  | 2 => .object "SandGroup$Changes"
  | 3 => .object "SandGroup$Tape"
  | 4 => .object "SandGroup$Shelf"
  | 5 => .object "SandGroup$Shelf"
  | 6 => .object "SandGroup$Fall"
  | 7 => .object "SandGroup$March"
  | 8 => .object "SandGroup$March"
  | 9 => .object "SandGroup$Sums"
  | 10 => .object "SandGroup$Fire"
  | 11 => .object "SandGroup$Matrix"
  | 12 => .object "SandGroup$Seen"
  | 13 => .object "SandGroup$Tally"
  | _ => .array .int
abbrev wsX110 : List Cond := u_ws RX11 TX11 15
theorem nmX11 : ∀ a, a < 15 → ∀ b, b < 15 → a ≠ b → (TX11 a).2.1 ≠ (TX11 b).2.1 := by decide +kernel
theorem tyX11_ok : ∀ k, k < 15 → parseFieldDescriptor (TX11 k).2.2.1 = some (tyX11 k) := by decide +kernel
abbrev cX11_init : ByteArray := prog_1_method_1_code
def yX11_init : MethodName := ⟨RX11, "<init>", "()V"⟩
abbrev cX11_size : ByteArray := prog_1_method_2_code
def yX11_size : MethodName := ⟨RX11, "size", "(II)I"⟩
abbrev cX11_wall : ByteArray := prog_1_method_3_code
def yX11_wall : MethodName := ⟨RX11, "wall", "(IZ)I"⟩
abbrev cX11_set : ByteArray := prog_1_method_4_code
def yX11_set : MethodName := ⟨RX11, "set", "(II)I"⟩
abbrev cX11_height : ByteArray := prog_1_method_5_code
def yX11_height : MethodName := ⟨RX11, "height", "(I)I"⟩
abbrev cX11_drop : ByteArray := prog_1_method_6_code
def yX11_drop : MethodName := ⟨RX11, "drop", "(II)I"⟩
abbrev cX11_topple : ByteArray := prog_1_method_7_code
def yX11_topple : MethodName := ⟨RX11, "topple", "(I)I"⟩
abbrev cX11_settle : ByteArray := prog_1_method_8_code
def yX11_settle : MethodName := ⟨RX11, "settle", "()I"⟩
abbrev cX11_feed : ByteArray := prog_1_method_9_code
def yX11_feed : MethodName := ⟨RX11, "feed", "(I)I"⟩
abbrev cX11_read : ByteArray := prog_1_method_10_code
def yX11_read : MethodName := ⟨RX11, "read", "()I"⟩
abbrev cX11_why : ByteArray := prog_1_method_11_code
def yX11_why : MethodName := ⟨RX11, "why", "(I)I"⟩
abbrev cX11_settled : ByteArray := prog_1_method_12_code
def yX11_settled : MethodName := ⟨RX11, "settled", "(I)I"⟩
abbrev cX11_trace : ByteArray := prog_1_method_13_code
def yX11_trace : MethodName := ⟨RX11, "trace", "(II)I"⟩
abbrev cX11_common : ByteArray := prog_1_method_14_code
def yX11_common : MethodName := ⟨RX11, "common", "(II)I"⟩
abbrev cX11_keep : ByteArray := prog_1_method_15_code
def yX11_keep : MethodName := ⟨RX11, "keep", "(I)I"⟩
abbrev cX11_load : ByteArray := prog_1_method_16_code
def yX11_load : MethodName := ⟨RX11, "load", "(I)I"⟩
abbrev cX11_pile : ByteArray := prog_1_method_17_code
def yX11_pile : MethodName := ⟨RX11, "pile", "(II)I"⟩
abbrev cX11_sum : ByteArray := prog_1_method_18_code
def yX11_sum : MethodName := ⟨RX11, "sum", "(III)I"⟩
abbrev cX11_nought : ByteArray := prog_1_method_19_code
def yX11_nought : MethodName := ⟨RX11, "nought", "(I)I"⟩
abbrev cX11_times : ByteArray := prog_1_method_20_code
def yX11_times : MethodName := ⟨RX11, "times", "(III)I"⟩
abbrev cX11_opposite : ByteArray := prog_1_method_21_code
def yX11_opposite : MethodName := ⟨RX11, "opposite", "(II)I"⟩
abbrev cX11_order : ByteArray := prog_1_method_22_code
def yX11_order : MethodName := ⟨RX11, "order", "(I)I"⟩
abbrev cX11_one : ByteArray := prog_1_method_23_code
def yX11_one : MethodName := ⟨RX11, "one", "(II)I"⟩
abbrev cX11_group : ByteArray := prog_1_method_24_code
def yX11_group : MethodName := ⟨RX11, "group", "()J"⟩
abbrev cX11_burn : ByteArray := prog_1_method_25_code
def yX11_burn : MethodName := ⟨RX11, "burn", "(II)I"⟩
abbrev cX11_through : ByteArray := prog_1_method_26_code
def yX11_through : MethodName := ⟨RX11, "through", "()I"⟩
abbrev cX11_avalanche : ByteArray := prog_1_method_27_code
def yX11_avalanche : MethodName := ⟨RX11, "avalanche", "(II)I"⟩
abbrev cX11_again : ByteArray := prog_1_method_28_code
def yX11_again : MethodName := ⟨RX11, "again", "(II)I"⟩
abbrev cX11_lots : ByteArray := prog_1_method_29_code
def yX11_lots : MethodName := ⟨RX11, "lots", "(III)I"⟩
abbrev cX11_judge : ByteArray := prog_1_method_30_code
def yX11_judge : MethodName := ⟨RX11, "judge", "(I)I"⟩
abbrev cX11_steadies : ByteArray := prog_1_method_31_code
def yX11_steadies : MethodName := ⟨RX11, "steadies", "(I)I"⟩
abbrev cX11_film : ByteArray := prog_1_method_32_code
def yX11_film : MethodName := ⟨RX11, "film", "(I)I"⟩
abbrev cX11_list : ByteArray := prog_1_method_33_code
def yX11_list : MethodName := ⟨RX11, "list", "(II)I"⟩
abbrev cX11_put : ByteArray := prog_1_method_34_code
def yX11_put : MethodName := ⟨RX11, "put", "(III)I"⟩
abbrev cX11_get : ByteArray := prog_1_method_35_code
def yX11_get : MethodName := ⟨RX11, "get", "(II)J"⟩
abbrev cX11_undo : ByteArray := prog_1_method_36_code
def yX11_undo : MethodName := ⟨RX11, "undo", "()I"⟩
abbrev cX11_redo : ByteArray := prog_1_method_37_code
def yX11_redo : MethodName := ⟨RX11, "redo", "()I"⟩
abbrev cX11_count : ByteArray := prog_1_method_38_code
def yX11_count : MethodName := ⟨RX11, "count", "(I)I"⟩
abbrev cX11_isOrder : ByteArray := prog_1_method_39_code
def yX11_isOrder : MethodName := ⟨RX11, "isOrder", "(I)Z"⟩
abbrev cX11_alike : ByteArray := prog_1_method_40_code
def yX11_alike : MethodName := ⟨RX11, "alike", "([I[I)Z"⟩
abbrev cX11_forgetPilesAndChanges : ByteArray := prog_1_method_41_code
def yX11_forgetPilesAndChanges : MethodName := ⟨RX11, "forgetPilesAndChanges", "()V"⟩
abbrev cX11_lay : ByteArray := prog_1_method_42_code
def yX11_lay : MethodName := ⟨RX11, "lay", "(II)V"⟩
abbrev cX11_holdResult : ByteArray := prog_1_method_43_code
def yX11_holdResult : MethodName := ⟨RX11, "holdResult", "(I)I"⟩
abbrev cX11_scatter : ByteArray := prog_1_method_44_code
def yX11_scatter : MethodName := ⟨RX11, "scatter", "(II)V"⟩
abbrev cX11_firstUntold : ByteArray := prog_1_method_45_code
def yX11_firstUntold : MethodName := ⟨RX11, "firstUntold", "([II)I"⟩
abbrev cX11_firstUnsteady : ByteArray := prog_1_method_46_code
def yX11_firstUnsteady : MethodName := ⟨RX11, "firstUnsteady", "([I)I"⟩
def RX12 : String := "SandGroupModel"
def TX12 : u_T := fun k => match k with
  | 0 => ("SandGroupModel", "rows", "I", false)
  | 1 => ("SandGroupModel", "columns", "I", false)
  | 2 => ("SandGroupModel", "walls", "[Z", true)
  | 3 => ("SandGroupModel", "heights", "[I", true)
  | 4 => ("SandGroupModel", "next", "[I", true)
  | 5 => ("SandGroupModel", "nextMany", "[I", true)
  | 6 => ("SandGroupModel", "counts", "[I", true)
  | 7 => ("SandGroupModel", "lost", "I", false)
  | 8 => ("SandGroupModel", "now", "[Z", true)
  | 9 => ("SandGroupModel", "piles", "[I", true)
  | 10 => ("SandGroupModel", "holds", "[Z", true)
  | 11 => ("SandGroupModel", "before", "[I", true)
  | 12 => ("SandGroupModel", "behind", "[I", true)
  | 13 => ("SandGroupModel", "beforeMany", "I", false)
  | 14 => ("SandGroupModel", "behindMany", "I", false)
  | 15 => ("SandGroupModel", "tape", "[I", true)
  | 16 => ("SandGroupModel", "length", "I", false)
  | 17 => ("SandGroupModel", "whyAhead", "I", false)
  | 18 => ("SandGroupModel", "whyWhat", "I", false)
  | 19 => ("SandGroupModel", "slashes", "I", false)
  | 20 => ("SandGroupModel", "inRow", "I", false)
  | 21 => ("SandGroupModel", "wide", "I", false)
  | 22 => ("SandGroupModel", "t", "[I", true)
  | 23 => ("SandGroupModel", "standing", "[I", true)
  | 24 => ("SandGroupModel", "standMany", "I", false)
  | 25 => ("SandGroupModel", "stands", "[Z", true)
  | 26 => ("SandGroupModel", "firsts", "[I", true)
  | 27 => ("SandGroupModel", "u", "[I", true)
  | 28 => ("SandGroupModel", "free", "[I", true)
  | 29 => ("SandGroupModel", "nought", "[I", true)
  | 30 => ("SandGroupModel", "other", "[I", true)
  | 31 => ("SandGroupModel", "matrix", "[J", true)
  | 32 => ("SandGroupModel", "burnt", "[I", true)
  | 33 => ("SandGroupModel", "codes", "[I", true)
  | 34 => ("SandGroupModel", "unlike", "[I", true)
  | 35 => ("SandGroupModel", "came", "[I", true)
  | 36 => ("SandGroupModel", "unlikeMany", "I", false)
  | 37 => ("SandGroupModel", "listSize", "[I", true)
  | 38 => ("SandGroupModel", "items", "[I", true)
  | _ => ("SandGroupModel", "numbers", "[J", true)
def tyX12 : Nat → FieldType := fun k => match k with
  | 0 => .int
  | 1 => .int
  | 2 => .array .boolean
  | 3 => .array .int
  | 4 => .array .int
  | 5 => .array .int
  | 6 => .array .int
  | 7 => .int
  | 8 => .array .boolean
  | 9 => .array .int
  | 10 => .array .boolean
  | 11 => .array .int
  | 12 => .array .int
  | 13 => .int
  | 14 => .int
  | 15 => .array .int
  | 16 => .int
  | 17 => .int
  | 18 => .int
  | 19 => .int
  | 20 => .int
  | 21 => .int
  | 22 => .array .int
  | 23 => .array .int
  | 24 => .int
  | 25 => .array .boolean
  | 26 => .array .int
  | 27 => .array .int
  | 28 => .array .int
  | 29 => .array .int
  | 30 => .array .int
  | 31 => .array .long
  | 32 => .array .int
  | 33 => .array .int
  | 34 => .array .int
  | 35 => .array .int
  | 36 => .int
  | 37 => .array .int
  | 38 => .array .int
  | _ => .array .long
abbrev wsX120 : List Cond := u_ws RX12 TX12 40
theorem nmX12 : ∀ a, a < 40 → ∀ b, b < 40 → a ≠ b → (TX12 a).2.1 ≠ (TX12 b).2.1 := by decide +kernel
theorem tyX12_ok : ∀ k, k < 40 → parseFieldDescriptor (TX12 k).2.2.1 = some (tyX12 k) := by decide +kernel
abbrev cX12_init : ByteArray := prog_14_method_1_code
def yX12_init : MethodName := ⟨RX12, "<init>", "()V"⟩
abbrev cX12_in : ByteArray := prog_14_method_2_code
def yX12_in : MethodName := ⟨RX12, "in", "(JJJ)Z"⟩
abbrev cX12_cells : ByteArray := prog_14_method_3_code
def yX12_cells : MethodName := ⟨RX12, "cells", "()I"⟩
abbrev cX12_isPlace : ByteArray := prog_14_method_4_code
def yX12_isPlace : MethodName := ⟨RX12, "isPlace", "(I)Z"⟩
abbrev cX12_link : ByteArray := prog_14_method_5_code
def yX12_link : MethodName := ⟨RX12, "link", "(III)V"⟩
abbrev cX12_links : ByteArray := prog_14_method_6_code
def yX12_links : MethodName := ⟨RX12, "links", "()V"⟩
abbrev cX12_copies : ByteArray := prog_14_method_7_code
def yX12_copies : MethodName := ⟨RX12, "copies", "([I[I)V"⟩
abbrev cX12_places : ByteArray := prog_14_method_8_code
def yX12_places : MethodName := ⟨RX12, "places", "()I"⟩
abbrev cX12_topples : ByteArray := prog_14_method_9_code
def yX12_topples : MethodName := ⟨RX12, "topples", "([III)V"⟩
abbrev cX12_begins : ByteArray := prog_14_method_10_code
def yX12_begins : MethodName := ⟨RX12, "begins", "()V"⟩
abbrev cX12_may : ByteArray := prog_14_method_11_code
def yX12_may : MethodName := ⟨RX12, "may", "([II)Z"⟩
abbrev cX12_isStable : ByteArray := prog_14_method_12_code
def yX12_isStable : MethodName := ⟨RX12, "isStable", "([I)Z"⟩
abbrev cX12_sizeCounted : ByteArray := prog_14_method_13_code
def yX12_sizeCounted : MethodName := ⟨RX12, "sizeCounted", "()I"⟩
abbrev cX12_settles : ByteArray := prog_14_method_14_code
def yX12_settles : MethodName := ⟨RX12, "settles", "([I)I"⟩
abbrev cX12_roundsOf : ByteArray := prog_14_method_15_code
def yX12_roundsOf : MethodName := ⟨RX12, "roundsOf", "([I)I"⟩
abbrev cX12_toppled : ByteArray := prog_14_method_16_code
def yX12_toppled : MethodName := ⟨RX12, "toppled", "()I"⟩
abbrev cX12_grains : ByteArray := prog_14_method_17_code
def yX12_grains : MethodName := ⟨RX12, "grains", "([I)I"⟩
abbrev cX12_forgets : ByteArray := prog_14_method_18_code
def yX12_forgets : MethodName := ⟨RX12, "forgets", "()V"⟩
abbrev cX12_pushesBefore : ByteArray := prog_14_method_19_code
def yX12_pushesBefore : MethodName := ⟨RX12, "pushesBefore", "()V"⟩
abbrev cX12_changes : ByteArray := prog_14_method_20_code
def yX12_changes : MethodName := ⟨RX12, "changes", "()V"⟩
abbrev cX12_undo : ByteArray := prog_14_method_21_code
def yX12_undo : MethodName := ⟨RX12, "undo", "()I"⟩
abbrev cX12_redo : ByteArray := prog_14_method_22_code
def yX12_redo : MethodName := ⟨RX12, "redo", "()I"⟩
abbrev cX12_size : ByteArray := prog_14_method_23_code
def yX12_size : MethodName := ⟨RX12, "size", "(II)I"⟩
abbrev cX12_wall : ByteArray := prog_14_method_24_code
def yX12_wall : MethodName := ⟨RX12, "wall", "(IZ)I"⟩
abbrev cX12_set : ByteArray := prog_14_method_25_code
def yX12_set : MethodName := ⟨RX12, "set", "(II)I"⟩
abbrev cX12_height : ByteArray := prog_14_method_26_code
def yX12_height : MethodName := ⟨RX12, "height", "(I)I"⟩
abbrev cX12_drop : ByteArray := prog_14_method_27_code
def yX12_drop : MethodName := ⟨RX12, "drop", "(II)I"⟩
abbrev cX12_topple : ByteArray := prog_14_method_28_code
def yX12_topple : MethodName := ⟨RX12, "topple", "(I)I"⟩
abbrev cX12_settle : ByteArray := prog_14_method_29_code
def yX12_settle : MethodName := ⟨RX12, "settle", "()I"⟩
abbrev cX12_feed : ByteArray := prog_14_method_30_code
def yX12_feed : MethodName := ⟨RX12, "feed", "(I)I"⟩
abbrev cX12_isCell : ByteArray := prog_14_method_31_code
def yX12_isCell : MethodName := ⟨RX12, "isCell", "(I)Z"⟩
abbrev cX12_wrongAt : ByteArray := prog_14_method_32_code
def yX12_wrongAt : MethodName := ⟨RX12, "wrongAt", "(I)I"⟩
abbrev cX12_wrongPlace : ByteArray := prog_14_method_33_code
def yX12_wrongPlace : MethodName := ⟨RX12, "wrongPlace", "()I"⟩
abbrev cX12_read : ByteArray := prog_14_method_34_code
def yX12_read : MethodName := ⟨RX12, "read", "()I"⟩
abbrev cX12_why : ByteArray := prog_14_method_35_code
def yX12_why : MethodName := ⟨RX12, "why", "(I)I"⟩
abbrev cX12_settledThen : ByteArray := prog_14_method_36_code
def yX12_settledThen : MethodName := ⟨RX12, "settledThen", "(I)I"⟩
abbrev cX12_settled : ByteArray := prog_14_method_37_code
def yX12_settled : MethodName := ⟨RX12, "settled", "(I)I"⟩
abbrev cX12_comesBehind : ByteArray := prog_14_method_38_code
def yX12_comesBehind : MethodName := ⟨RX12, "comesBehind", "([II)V"⟩
abbrev cX12_beginsOrder : ByteArray := prog_14_method_39_code
def yX12_beginsOrder : MethodName := ⟨RX12, "beginsOrder", "([I)V"⟩
abbrev cX12_least : ByteArray := prog_14_method_40_code
def yX12_least : MethodName := ⟨RX12, "least", "([I)I"⟩
abbrev cX12_tallest : ByteArray := prog_14_method_41_code
def yX12_tallest : MethodName := ⟨RX12, "tallest", "([I)I"⟩
abbrev cX12_leaves : ByteArray := prog_14_method_42_code
def yX12_leaves : MethodName := ⟨RX12, "leaves", "(Z)I"⟩
abbrev cX12_goes : ByteArray := prog_14_method_43_code
def yX12_goes : MethodName := ⟨RX12, "goes", "([II)I"⟩
abbrev cX12_isOrder : ByteArray := prog_14_method_44_code
def yX12_isOrder : MethodName := ⟨RX12, "isOrder", "(I)Z"⟩
abbrev cX12_trace : ByteArray := prog_14_method_45_code
def yX12_trace : MethodName := ⟨RX12, "trace", "(II)I"⟩
abbrev cX12_firstsBy : ByteArray := prog_14_method_46_code
def yX12_firstsBy : MethodName := ⟨RX12, "firstsBy", "(I)I"⟩
abbrev cX12_common : ByteArray := prog_14_method_47_code
def yX12_common : MethodName := ⟨RX12, "common", "(II)I"⟩
abbrev cX12_isPile : ByteArray := prog_14_method_48_code
def yX12_isPile : MethodName := ⟨RX12, "isPile", "(I)Z"⟩
abbrev cX12_takes : ByteArray := prog_14_method_49_code
def yX12_takes : MethodName := ⟨RX12, "takes", "(I[I)V"⟩
abbrev cX12_lays : ByteArray := prog_14_method_50_code
def yX12_lays : MethodName := ⟨RX12, "lays", "(I[I)I"⟩
abbrev cX12_keep : ByteArray := prog_14_method_51_code
def yX12_keep : MethodName := ⟨RX12, "keep", "(I)I"⟩
abbrev cX12_load : ByteArray := prog_14_method_52_code
def yX12_load : MethodName := ⟨RX12, "load", "(I)I"⟩
abbrev cX12_pile : ByteArray := prog_14_method_53_code
def yX12_pile : MethodName := ⟨RX12, "pile", "(II)I"⟩
abbrev cX12_addsTo : ByteArray := prog_14_method_54_code
def yX12_addsTo : MethodName := ⟨RX12, "addsTo", "([I[I)I"⟩
abbrev cX12_sum : ByteArray := prog_14_method_55_code
def yX12_sum : MethodName := ⟨RX12, "sum", "(III)I"⟩
abbrev cX12_laysNought : ByteArray := prog_14_method_56_code
def yX12_laysNought : MethodName := ⟨RX12, "laysNought", "()V"⟩
abbrev cX12_nought : ByteArray := prog_14_method_57_code
def yX12_nought : MethodName := ⟨RX12, "nought", "(I)I"⟩
abbrev cX12_isLike : ByteArray := prog_14_method_58_code
def yX12_isLike : MethodName := ⟨RX12, "isLike", "([I[I)Z"⟩
abbrev cX12_times : ByteArray := prog_14_method_59_code
def yX12_times : MethodName := ⟨RX12, "times", "(III)I"⟩
abbrev cX12_opposite : ByteArray := prog_14_method_60_code
def yX12_opposite : MethodName := ⟨RX12, "opposite", "(II)I"⟩
abbrev cX12_order : ByteArray := prog_14_method_61_code
def yX12_order : MethodName := ⟨RX12, "order", "(I)I"⟩
abbrev cX12_one : ByteArray := prog_14_method_62_code
def yX12_one : MethodName := ⟨RX12, "one", "(II)I"⟩
abbrev cX12_laysMatrix : ByteArray := prog_14_method_63_code
def yX12_laysMatrix : MethodName := ⟨RX12, "laysMatrix", "()V"⟩
abbrev cX12_group : ByteArray := prog_14_method_64_code
def yX12_group : MethodName := ⟨RX12, "group", "()J"⟩
abbrev cX12_unburnt : ByteArray := prog_14_method_65_code
def yX12_unburnt : MethodName := ⟨RX12, "unburnt", "(I)I"⟩
abbrev cX12_burns : ByteArray := prog_14_method_66_code
def yX12_burns : MethodName := ⟨RX12, "burns", "([I)I"⟩
abbrev cX12_notBurnt : ByteArray := prog_14_method_67_code
def yX12_notBurnt : MethodName := ⟨RX12, "notBurnt", "()I"⟩
abbrev cX12_burn : ByteArray := prog_14_method_68_code
def yX12_burn : MethodName := ⟨RX12, "burn", "(II)I"⟩
abbrev cX12_through : ByteArray := prog_14_method_69_code
def yX12_through : MethodName := ⟨RX12, "through", "()I"⟩
abbrev cX12_avalanche : ByteArray := prog_14_method_70_code
def yX12_avalanche : MethodName := ⟨RX12, "avalanche", "(II)I"⟩
abbrev cX12_codeOf : ByteArray := prog_14_method_71_code
def yX12_codeOf : MethodName := ⟨RX12, "codeOf", "([I)I"⟩
abbrev cX12_ahead : ByteArray := prog_14_method_72_code
def yX12_ahead : MethodName := ⟨RX12, "ahead", "(I)I"⟩
abbrev cX12_again : ByteArray := prog_14_method_73_code
def yX12_again : MethodName := ⟨RX12, "again", "(II)I"⟩
abbrev cX12_countsSize : ByteArray := prog_14_method_74_code
def yX12_countsSize : MethodName := ⟨RX12, "countsSize", "(I)V"⟩
abbrev cX12_placeOf : ByteArray := prog_14_method_75_code
def yX12_placeOf : MethodName := ⟨RX12, "placeOf", "(I)I"⟩
abbrev cX12_lotsThen : ByteArray := prog_14_method_76_code
def yX12_lotsThen : MethodName := ⟨RX12, "lotsThen", "(IIII)I"⟩
abbrev cX12_lots : ByteArray := prog_14_method_77_code
def yX12_lots : MethodName := ⟨RX12, "lots", "(III)I"⟩
abbrev cX12_isList : ByteArray := prog_14_method_78_code
def yX12_isList : MethodName := ⟨RX12, "isList", "(I)Z"⟩
abbrev cX12_judge : ByteArray := prog_14_method_79_code
def yX12_judge : MethodName := ⟨RX12, "judge", "(I)I"⟩
abbrev cX12_firstUntold : ByteArray := prog_14_method_80_code
def yX12_firstUntold : MethodName := ⟨RX12, "firstUntold", "(I)I"⟩
abbrev cX12_then : ByteArray := prog_14_method_81_code
def yX12_then : MethodName := ⟨RX12, "then", "(I)J"⟩
abbrev cX12_steadies : ByteArray := prog_14_method_82_code
def yX12_steadies : MethodName := ⟨RX12, "steadies", "(I)I"⟩
abbrev cX12_film : ByteArray := prog_14_method_83_code
def yX12_film : MethodName := ⟨RX12, "film", "(I)I"⟩
abbrev cX12_list : ByteArray := prog_14_method_84_code
def yX12_list : MethodName := ⟨RX12, "list", "(II)I"⟩
abbrev cX12_put : ByteArray := prog_14_method_85_code
def yX12_put : MethodName := ⟨RX12, "put", "(III)I"⟩
abbrev cX12_get : ByteArray := prog_14_method_86_code
def yX12_get : MethodName := ⟨RX12, "get", "(II)J"⟩
abbrev cX12_holding : ByteArray := prog_14_method_87_code
def yX12_holding : MethodName := ⟨RX12, "holding", "()I"⟩
abbrev cX12_count : ByteArray := prog_14_method_88_code
def yX12_count : MethodName := ⟨RX12, "count", "(I)I"⟩
def RJ9 : String := "java/lang/Math"
def TJ9 : u_T := fun k => match k with
  | _ => ("", "", "", false)
def tyJ9 : Nat → FieldType := fun k => match k with
  | _ => .int
abbrev wsJ90 : List Cond := u_ws RJ9 TJ9 0
theorem nmJ9 : ∀ a, a < 0 → ∀ b, b < 0 → a ≠ b → (TJ9 a).2.1 ≠ (TJ9 b).2.1 := by decide +kernel
theorem tyJ9_ok : ∀ k, k < 0 → parseFieldDescriptor (TJ9 k).2.2.1 = some (tyJ9 k) := by decide +kernel
abbrev cJ9_max_7cf53 : ByteArray := prog_15_method_65_code
def yJ9_max_7cf53 : MethodName := ⟨RJ9, "max", "(II)I"⟩
def RJ10 : String := "java/lang/System"
def TJ10 : u_T := fun k => match k with
  | _ => ("", "", "", false)
def tyJ10 : Nat → FieldType := fun k => match k with
  | _ => .int
abbrev wsJ100 : List Cond := u_ws RJ10 TJ10 0
theorem nmJ10 : ∀ a, a < 0 → ∀ b, b < 0 → a ≠ b → (TJ10 a).2.1 ≠ (TJ10 b).2.1 := by decide +kernel
theorem tyJ10_ok : ∀ k, k < 0 → parseFieldDescriptor (TJ10 k).2.2.1 = some (tyJ10 k) := by decide +kernel
def RJ7 : String := "java/util/Arrays"
def TJ7 : u_T := fun k => match k with
  | _ => ("", "", "", false)
def tyJ7 : Nat → FieldType := fun k => match k with
  | _ => .int
abbrev wsJ70 : List Cond := u_ws RJ7 TJ7 0
theorem nmJ7 : ∀ a, a < 0 → ∀ b, b < 0 → a ≠ b → (TJ7 a).2.1 ≠ (TJ7 b).2.1 := by decide +kernel
theorem tyJ7_ok : ∀ k, k < 0 → parseFieldDescriptor (TJ7 k).2.2.1 = some (tyJ7 k) := by decide +kernel
abbrev cJ7_fill_d0a16 : ByteArray := prog_17_method_101_code
def yJ7_fill_d0a16 : MethodName := ⟨RJ7, "fill", "([JJ)V"⟩
abbrev cJ7_fill_53178 : ByteArray := prog_17_method_103_code
def yJ7_fill_53178 : MethodName := ⟨RJ7, "fill", "([II)V"⟩
def RL : String := "SandGroupLaw"
abbrev cL_law : ByteArray := code
def yL_law : MethodName := ⟨RL, "law", "([I)Z"⟩
abbrev vwCl : List vw_C := [(RX0, TX0, 3), (RX1, TX1, 3), (RX2, TX2, 2), (RX3, TX3, 8), (RX4, TX4, 7), (RX5, TX5, 1), (RX6, TX6, 4), (RX7, TX7, 2), (RX8, TX8, 6), (RX9, TX9, 5), (RX10, TX10, 8), (RX11, TX11, 15), (RX12, TX12, 40)]
end
section
/-! A layer over the kit: a fixed shape of cells (each an array or an object whose references never change), a store of numbers, and a judgement sy_E of one method's run over them. -/
abbrev sy_S : Type := (Nat → Nat → Int32) × (Nat → Nat → Int64)
/-- a cell's shape: kind (0 ints, 1 booleans, 2 longs, 3 references, 4 + c an object of class c), length, references (none: a number of the store) -/
abbrev sy_Y : Type := Nat × Nat × List (Option Nat)
abbrev sy_Z : Type := List sy_Y
abbrev sy_X : Type := va_G × (Nat → ClassId) × (Nat → Nat)
abbrev sy_Cf : Type := Nat × List (Option Value) × List Value × sy_S
/-- a method: name, bytes, locals, answer, number of its class, frames and words that it needs -/
abbrev sy_M : Type := MethodName × ByteArray × Nat × Option FieldType × Nat × Nat × Nat
def sy_v (X : sy_X) (v : Value) : Value := match v with
  | .ref k => .ref (X.2.2 k)
  | w => w
def sy_fv (X : sy_X) (σ : sy_S) (k j : Nat) (f : Option Nat) : Value := match f with
  | none => .int (σ.1 k j)
  | some r => .ref (X.2.2 r)
def sy_e (X : sy_X) (σ : sy_S) (k : Nat) (z : sy_Y) : va_E := match z.1 with
  | 0 => .inl (X.2.1 0, z.2.1, .inl (σ.1 k))
  | 1 => .inl (X.2.1 1, z.2.1, .inl (σ.1 k))
  | 2 => .inl (X.2.1 2, z.2.1, .inr (.inl (σ.2 k)))
  | 3 => .inl (X.2.1 3, z.2.1, .inr (.inr (.inr (.inr fun i => (z.2.2.getD i none).map X.2.2))))
  | c + 4 => .inr (c, z.2.2.mapIdx (sy_fv X σ k))
def sy_w (X : sy_X) (sh : sy_Z) (σ : sy_S) : va_W := sh.mapIdx fun k z => (X.2.2 k, sy_e X σ k z)
abbrev sy_tys (X : sy_X) : List (ClassId × FieldType) := [(X.2.1 0, .int), (X.2.1 1, .boolean), (X.2.1 2, .long), (X.2.1 3, .array .int)]
theorem sy_w_at {X : sy_X} {sh : sy_Z} {σ : sy_S} {k : Nat} {z : sy_Y} (h : sh[k]? = some z) : (sy_w X sh σ)[k]? = some (X.2.2 k, sy_e X σ k z) := by
  simp [sy_w, List.getElem?_mapIdx, h]
theorem sy_w_len {X : sy_X} {sh : sy_Z} {σ : sy_S} : (sy_w X sh σ).length = sh.length := by
  simp [sy_w]
theorem sy_w_set {X : sy_X} {sh : sy_Z} {σ σ' : sy_S} {k : Nat} {z : sy_Y} (h : sh[k]? = some z) (hs : ∀ (j : Nat) (z' : sy_Y), j ≠ k → sy_e X σ' j z' = sy_e X σ j z') : (sy_w X sh σ).set k (X.2.2 k, sy_e X σ' k z) = sy_w X sh σ' := by
  apply List.ext_getElem?
  intro j
  by_cases hj : j = k
  · subst hj
    rw [sy_w_at h, List.getElem?_set_self]
    rw [sy_w_len]
    exact (List.getElem?_eq_some_iff.mp h).1
  · rw [List.getElem?_set_ne (Ne.symm hj)]
    simp only [sy_w, List.getElem?_mapIdx]
    cases sh[j]? with
    | none => rfl
    | some z' => simp [hs j z' hj]
/-- the store with one number changed -/
def sy_up (f : Nat → Nat → Int32) (k i : Nat) (x : Int32) : Nat → Nat → Int32 := fun a => if a = k then upd (f k) i x else f a
def sy_upL (f : Nat → Nat → Int64) (k i : Nat) (x : Int64) : Nat → Nat → Int64 := fun a => if a = k then vp_updL (f k) i x else f a
theorem sy_up_self (f : Nat → Nat → Int32) (k i : Nat) (x : Int32) : sy_up f k i x k = upd (f k) i x := by simp [sy_up]
theorem sy_up_ne (f : Nat → Nat → Int32) {k j : Nat} (i : Nat) (x : Int32) (h : j ≠ k) : sy_up f k i x j = f j := by simp [sy_up, h]
theorem sy_upL_self (f : Nat → Nat → Int64) (k i : Nat) (x : Int64) : sy_upL f k i x k = vp_updL (f k) i x := by simp [sy_upL]
theorem sy_upL_ne (f : Nat → Nat → Int64) {k j : Nat} (i : Nat) (x : Int64) (h : j ≠ k) : sy_upL f k i x j = f j := by simp [sy_upL, h]
theorem sy_e_up {X : sy_X} {σ : sy_S} {k i : Nat} {x : Int32} (j : Nat) (z : sy_Y) (h : j ≠ k) : sy_e X (sy_up σ.1 k i x, σ.2) j z = sy_e X σ j z := by
  unfold sy_e
  have e : sy_fv X (sy_up σ.1 k i x, σ.2) j = sy_fv X σ j := by
    funext a f
    unfold sy_fv
    cases f with
    | none => simp [sy_up_ne _ _ _ h]
    | some r => rfl
  simp only [sy_up_ne _ _ _ h, e]
theorem sy_e_upL {X : sy_X} {σ : sy_S} {k i : Nat} {x : Int64} (j : Nat) (z : sy_Y) (h : j ≠ k) : sy_e X (σ.1, sy_upL σ.2 k i x) j z = sy_e X σ j z := by
  unfold sy_e
  have e : sy_fv X (σ.1, sy_upL σ.2 k i x) j = sy_fv X σ j := by
    funext a f
    unfold sy_fv
    cases f <;> rfl
  simp only [sy_upL_ne _ _ _ h, e]
def sy_A (X : sy_X) (sh : sy_Z) (sz : Nat) : Nat → Prop := fun q => (∃ k, k < sh.length ∧ q = X.2.2 k) ∨ sz ≤ q
theorem sy_D {X : sy_X} {sh : sy_Z} {σ σ' : sy_S} {A : Nat → Prop} (h : va_D A (sy_w X sh σ)) : va_D A (sy_w X sh σ') := by
  have key : ∀ (i : Nat) (p : Nat × va_E), (sy_w X sh σ')[i]? = some p → ∃ p', (sy_w X sh σ)[i]? = some p' ∧ p'.1 = p.1 := by
    intro i p hp
    simp only [sy_w, List.getElem?_mapIdx] at hp ⊢
    cases hz : sh[i]? with
    | none => rw [hz] at hp; cases hp
    | some z =>
      rw [hz] at hp
      cases hp
      exact ⟨_, rfl, rfl⟩
  refine ⟨fun i j p q hp hq e => ?_, fun k q hq => ?_⟩
  · obtain ⟨p', hp', e1⟩ := key i p hp
    obtain ⟨q', hq', e2⟩ := key j q hq
    exact h.1 i j p' q' hp' hq' (by rw [e1, e2, e])
  · obtain ⟨q', hq', e1⟩ := key k q hq
    rw [← e1]
    exact h.2 k q' hq'
/-! locals -/
def sy_has (X : sy_X) (ls : Array Slot) (nL : Nat) (loc : List (Option Value)) : Prop := loc.length = nL ∧ ls.size = nL ∧ lv_wf ls ∧ ∀ (i : Nat) (v : Value), loc[i]? = some (some v) → ls[i]? = some (.val (sy_v X v))
def sy_al (X : sy_X) (loc : List (Option Value)) : List (Nat × Value) := (List.range loc.length).filterMap fun i => (loc[i]?.join).map fun v => (i, sy_v X v)
theorem sy_al_mem {X : sy_X} {loc : List (Option Value)} {i : Nat} {v : Value} (h : loc[i]? = some (some v)) : (i, sy_v X v) ∈ sy_al X loc := by
  unfold sy_al
  refine List.mem_filterMap.mpr ⟨i, List.mem_range.mpr (List.getElem?_eq_some_iff.mp h).1, ?_⟩
  rw [h]
  rfl
theorem sy_has.al {X : sy_X} {ls : Array Slot} {nL : Nat} {loc : List (Option Value)} (h : sy_has X ls nL loc) : lv_has ls nL (sy_al X loc) := by
  refine ⟨h.2.1, h.2.2.1, fun q hq => ?_⟩
  unfold sy_al at hq
  obtain ⟨i, -, hi⟩ := List.mem_filterMap.mp hq
  cases hv : loc[i]? with
  | none => rw [hv] at hi; cases hi
  | some o =>
    cases o with
    | none => rw [hv] at hi; cases hi
    | some v =>
      rw [hv] at hi
      cases hi
      exact h.2.2.2 i v hv
theorem sy_cat (X : sy_X) (v : Value) : (sy_v X v).category = v.category := by cases v <;> rfl
def sy_st1 (loc : List (Option Value)) (i : Nat) (v : Value) : List (Option Value) := (match loc[i - 1]? with
  | some (some (.long _)) => loc.set (i - 1) none
  | some (some (.double _)) => loc.set (i - 1) none
  | _ => loc).set i (some v)
def sy_st2 (loc : List (Option Value)) (i : Nat) (v : Value) : List (Option Value) := (sy_st1 loc i v).set (i + 1) none
theorem sy_st1_len (loc : List (Option Value)) (i : Nat) (v : Value) : (sy_st1 loc i v).length = loc.length := by
  unfold sy_st1
  split <;> simp
theorem sy_st1_at {loc : List (Option Value)} {i j : Nat} {v w : Value} (h : (sy_st1 loc i v)[j]? = some (some w)) : (j = i ∧ w = v) ∨ (j ≠ i ∧ loc[j]? = some (some w) ∧ ¬ (j + 1 = i ∧ w.category = 2)) := by
  unfold sy_st1 at h
  by_cases hj : j = i
  · subst hj
    left
    have aux : ∀ L : List (Option Value), (L.set j (some v))[j]? = some (some w) → w = v := by
      intro L hL
      rw [List.getElem?_set_self'] at hL
      cases hz : L[j]? <;> simp_all
    exact ⟨rfl, aux _ h⟩
  · right
    rw [List.getElem?_set_ne (Ne.symm hj)] at h
    refine ⟨hj, ?_⟩
    split at h
    · by_cases h1 : i - 1 = j
      · subst h1
        rw [List.getElem?_set_self'] at h
        simp_all
      · rw [List.getElem?_set_ne h1] at h
        exact ⟨h, fun q => h1 (by omega)⟩
    · by_cases h1 : i - 1 = j
      · subst h1
        rw [List.getElem?_set_self'] at h
        simp_all
      · rw [List.getElem?_set_ne h1] at h
        exact ⟨h, fun q => h1 (by omega)⟩
    · rename_i n1 n2
      refine ⟨h, fun q => ?_⟩
      have e : i - 1 = j := by omega
      rw [e] at n1 n2
      cases w with
      | long x => exact n1 x h
      | double x => exact n2 x h
      | _ => exact absurd q.2 (by simp [Value.category])
end
section
/-! The tables' words that every method may use (by program: wip/whole/gen/words.py) -/
def sy_T : List Cond := lw_tbl.filter goodWord
def sy_cn (k : Nat) : String := [RX0, RX1, RX2, RX3, RX4, RX5, RX6, RX7, RX8, RX9, RX10, RX11, RX12, RJ7, RJ9].getD k ""
def sy_ty (k : Nat) : Nat → FieldType := [tyX0, tyX1, tyX2, tyX3, tyX4, tyX5, tyX6, tyX7, tyX8, tyX9, tyX10, tyX11, tyX12].getD k tyX0
theorem sy_inT {w : Cond} (h : w ∈ tables_1) (hg : goodWord w = true) : w ∈ sy_T := List.mem_filter.mpr ⟨List.mem_append_right _ h, hg⟩
theorem sy_inP {w : Cond} (h : w ∈ k2_sels lw_privs) (hg : goodWord w = true) : w ∈ sy_T := List.mem_filter.mpr ⟨List.mem_append_left _ h, hg⟩
theorem sy_i1 {w : Cond} (h : w ∈ tables_1_1) : w ∈ tables_1 := List.mem_append_left _ h
theorem sy_i2 {w : Cond} (h : w ∈ tables_1_2) : w ∈ tables_1 := List.mem_append_right _ (List.mem_append_left _ h)
theorem sy_i3 {w : Cond} (h : w ∈ tables_1_3) : w ∈ tables_1 := List.mem_append_right _ (List.mem_append_right _ (List.mem_append_left _ h))
theorem sy_i4 {w : Cond} (h : w ∈ tables_1_4) : w ∈ tables_1 := List.mem_append_right _ (List.mem_append_right _ (List.mem_append_right _ (List.mem_append_left _ h)))
theorem sy_i5 {w : Cond} (h : w ∈ tables_1_5) : w ∈ tables_1 := List.mem_append_right _ (List.mem_append_right _ (List.mem_append_right _ (List.mem_append_right _ (List.mem_append_left _ h))))
theorem sy_i6 {w : Cond} (h : w ∈ tables_1_6) : w ∈ tables_1 := List.mem_append_right _ (List.mem_append_right _ (List.mem_append_right _ (List.mem_append_right _ (List.mem_append_right _ h))))

def sy_FL : List (Nat × Nat × Nat × Nat) := [(3, 9, 3, 0), (3, 15, 3, 1), (3, 18, 3, 2), (3, 21, 3, 3), (3, 24, 3, 4), (3, 31, 3, 5), (3, 35, 3, 6), (3, 47, 3, 7), (0, 13, 0, 0), (0, 16, 0, 1), (0, 20, 0, 2), (10, 11, 10, 0), (10, 15, 10, 1), (10, 18, 10, 2), (10, 21, 10, 3), (10, 25, 10, 4), (10, 28, 10, 5), (10, 31, 10, 6), (10, 34, 10, 7), (7, 9, 7, 0), (7, 14, 7, 1), (1, 18, 1, 0), (1, 9, 1, 1), (1, 15, 1, 2), (4, 18, 4, 0), (4, 9, 4, 1), (4, 15, 4, 2), (4, 28, 4, 3), (4, 32, 4, 4), (4, 35, 4, 5), (4, 38, 4, 6), (8, 24, 8, 0), (8, 28, 8, 1), (8, 9, 8, 2), (8, 15, 8, 3), (8, 18, 8, 4), (8, 21, 8, 5), (2, 15, 2, 0), (2, 9, 2, 1), (5, 9, 5, 0), (6, 9, 6, 0), (6, 15, 6, 1), (6, 18, 6, 2), (6, 27, 6, 3), (9, 9, 9, 0), (9, 15, 9, 1), (9, 18, 9, 2), (9, 22, 9, 3), (9, 25, 9, 4), (11, 16, 11, 0), (11, 20, 11, 1), (11, 27, 11, 2), (11, 34, 11, 3), (11, 41, 11, 4), (11, 45, 11, 5), (11, 53, 11, 6), (11, 60, 11, 7), (11, 64, 11, 8), (11, 72, 11, 9), (11, 79, 11, 10), (11, 86, 11, 11), (11, 93, 11, 12), (11, 100, 11, 13), (11, 104, 11, 14), (12, 9, 12, 0), (12, 15, 12, 1), (12, 18, 12, 2), (12, 22, 12, 3), (12, 26, 12, 4), (12, 29, 12, 5), (12, 32, 12, 6), (12, 117, 12, 7), (12, 35, 12, 8), (12, 38, 12, 9), (12, 41, 12, 10), (12, 44, 12, 11), (12, 47, 12, 12), (12, 138, 12, 13), (12, 141, 12, 14), (12, 50, 12, 15), (12, 169, 12, 16), (12, 198, 12, 17), (12, 192, 12, 18), (12, 185, 12, 19), (12, 179, 12, 20), (12, 182, 12, 21), (12, 53, 12, 22), (12, 56, 12, 23), (12, 219, 12, 24), (12, 59, 12, 25), (12, 62, 12, 26), (12, 65, 12, 27), (12, 68, 12, 28), (12, 71, 12, 29), (12, 74, 12, 30), (12, 77, 12, 31), (12, 81, 12, 32), (12, 84, 12, 33), (12, 87, 12, 34), (12, 90, 12, 35), (12, 301, 12, 36), (12, 93, 12, 37), (12, 96, 12, 38), (12, 99, 12, 39)]
def sy_fw (q : Nat × Nat × Nat × Nat) : Cond := match vwCl[q.2.2.1]? with
  | some (_, t, _) => .fieldLink (sy_cn q.1) q.2.1 (t q.2.2.2).1 (t q.2.2.2).2.1 (t q.2.2.2).2.2.1
  | none => .initialized ""
set_option maxRecDepth 100000 in
theorem sy_FL_ok : (sy_FL.all fun q => decide (sy_fw q ∈ tables_1) && goodWord (sy_fw q)) = true := by decide +kernel
def sy_CI : List (Nat × Nat × Int) := [(1, 43, 1000000), (11, 204, 1000000), (11, 244, 1000000000), (6, 35, -1640531535), (11, 372, 1103515245), (11, 373, 2147483647), (11, 374, 65536), (12, 306, 1103515245), (12, 307, 2147483647), (12, 308, 65536)]
def sy_CJ : List (Nat × Nat × Int) := [(5, 39, 4), (5, 51, -1), (11, 337, -9223372036854775808), (12, 147, 4), (12, 156, 999), (12, 161, 99), (12, 167, 127), (12, 172, 48), (12, 174, 57), (12, 201, 2), (12, 236, 3), (12, 252, 5), (12, 272, 1000000000), (12, 278, -1), (12, 304, 200), (12, 329, 1000000), (12, 338, -9223372036854775808)]
set_option maxRecDepth 100000 in
theorem sy_CI_ok : (sy_CI.all fun q => decide (Cond.constant (sy_cn q.1) q.2.1 (Int32.ofInt q.2.2) ∈ tables_1) && goodWord (Cond.constant (sy_cn q.1) q.2.1 (Int32.ofInt q.2.2))) = true := by decide +kernel
set_option maxRecDepth 100000 in
theorem sy_CJ_ok : (sy_CJ.all fun q => decide (Cond.constantLong (sy_cn q.1) q.2.1 (Int64.ofInt q.2.2) ∈ tables_1) && goodWord (Cond.constantLong (sy_cn q.1) q.2.1 (Int64.ofInt q.2.2))) = true := by decide +kernel
set_option maxRecDepth 100000 in
theorem sy_cw0 : (wsX00.all fun w => decide (w ∈ tables_1) && goodWord w) = true := by decide +kernel
set_option maxRecDepth 100000 in
theorem sy_cw1 : (wsX10.all fun w => decide (w ∈ tables_1) && goodWord w) = true := by decide +kernel
set_option maxRecDepth 100000 in
theorem sy_cw2 : (wsX20.all fun w => decide (w ∈ tables_1) && goodWord w) = true := by decide +kernel
set_option maxRecDepth 100000 in
theorem sy_cw3 : (wsX30.all fun w => decide (w ∈ tables_1) && goodWord w) = true := by decide +kernel
set_option maxRecDepth 100000 in
theorem sy_cw4 : (wsX40.all fun w => decide (w ∈ tables_1) && goodWord w) = true := by decide +kernel
set_option maxRecDepth 100000 in
theorem sy_cw5 : (wsX50.all fun w => decide (w ∈ tables_1) && goodWord w) = true := by decide +kernel
set_option maxRecDepth 100000 in
theorem sy_cw6 : (wsX60.all fun w => decide (w ∈ tables_1) && goodWord w) = true := by decide +kernel
set_option maxRecDepth 100000 in
theorem sy_cw7 : (wsX70.all fun w => decide (w ∈ tables_1) && goodWord w) = true := by decide +kernel
set_option maxRecDepth 100000 in
theorem sy_cw8 : (wsX80.all fun w => decide (w ∈ tables_1) && goodWord w) = true := by decide +kernel
set_option maxRecDepth 100000 in
theorem sy_cw9 : (wsX90.all fun w => decide (w ∈ tables_1) && goodWord w) = true := by decide +kernel
set_option maxRecDepth 100000 in
theorem sy_cw10 : (wsX100.all fun w => decide (w ∈ tables_1) && goodWord w) = true := by decide +kernel
set_option maxRecDepth 100000 in
theorem sy_cw11 : (wsX110.all fun w => decide (w ∈ tables_1) && goodWord w) = true := by decide +kernel
set_option maxRecDepth 100000 in
theorem sy_cw12 : (wsX120.all fun w => decide (w ∈ tables_1) && goodWord w) = true := by decide +kernel
end
section
/-! methods as records, and the words on each (by program: wip/whole/gen/meth.py) -/
def sy_mok (y : sy_M) (st : Bool) (n : Nat) : Prop := Cond.code y.1 y.2.1 y.2.2.1 y.2.2.2.1 ∈ sy_T ∧ Cond.initialized y.1.cls ∈ sy_T ∧ (y.1.cls ≠ "java/lang/invoke/MethodHandle" ∧ y.1.cls ≠ "java/lang/invoke/VarHandle" ∧ (parseMethodDescriptor y.1.desc).map (fun d => d.parameters.length) = some n) ∧ plainName y.1.cls = true ∧ (st = true → Cond.static y.1 ∈ sy_T) ∧ (st = false → Cond.instanceMethod y.1 ∈ sy_T ∧ Cond.selects y.1.cls y.1 y.1 ∈ sy_T) ∧ y.1.cls = sy_cn y.2.2.2.2.1
theorem sy_mokV {y : sy_M} {n : Nat} (h1 : Cond.code y.1 y.2.1 y.2.2.1 y.2.2.2.1 ∈ sy_T) (h2 : Cond.initialized y.1.cls ∈ sy_T) (h3 : y.1.cls ≠ "java/lang/invoke/MethodHandle" ∧ y.1.cls ≠ "java/lang/invoke/VarHandle" ∧ (parseMethodDescriptor y.1.desc).map (fun d => d.parameters.length) = some n) (h4 : plainName y.1.cls = true) (h5 : Cond.instanceMethod y.1 ∈ sy_T) (h6 : Cond.selects y.1.cls y.1 y.1 ∈ sy_T) (h7 : y.1.cls = sy_cn y.2.2.2.2.1) : sy_mok y false n := ⟨h1, h2, h3, h4, (fun h => by cases h), fun _ => ⟨h5, h6⟩, h7⟩
theorem sy_mokS {y : sy_M} {n : Nat} (h1 : Cond.code y.1 y.2.1 y.2.2.1 y.2.2.2.1 ∈ sy_T) (h2 : Cond.initialized y.1.cls ∈ sy_T) (h3 : y.1.cls ≠ "java/lang/invoke/MethodHandle" ∧ y.1.cls ≠ "java/lang/invoke/VarHandle" ∧ (parseMethodDescriptor y.1.desc).map (fun d => d.parameters.length) = some n) (h4 : plainName y.1.cls = true) (h5 : Cond.static y.1 ∈ sy_T) (h7 : y.1.cls = sy_cn y.2.2.2.2.1) : sy_mok y true n := ⟨h1, h2, h3, h4, fun _ => h5, (fun h => by cases h), h7⟩
theorem sy_ini0 : Cond.initialized RX0 ∈ sy_T := sy_inT (sy_i1 (List.mem_of_getElem? (i := 4) (by decide +kernel))) rfl
theorem sy_ini1 : Cond.initialized RX1 ∈ sy_T := sy_inT (sy_i1 (List.mem_of_getElem? (i := 7) (by decide +kernel))) rfl
theorem sy_ini2 : Cond.initialized RX2 ∈ sy_T := sy_inT (sy_i1 (List.mem_of_getElem? (i := 10) (by decide +kernel))) rfl
theorem sy_ini3 : Cond.initialized RX3 ∈ sy_T := sy_inT (sy_i1 (List.mem_of_getElem? (i := 2) (by decide +kernel))) rfl
theorem sy_ini4 : Cond.initialized RX4 ∈ sy_T := sy_inT (sy_i1 (List.mem_of_getElem? (i := 8) (by decide +kernel))) rfl
theorem sy_ini5 : Cond.initialized RX5 ∈ sy_T := sy_inT (sy_i1 (List.mem_of_getElem? (i := 11) (by decide +kernel))) rfl
theorem sy_ini6 : Cond.initialized RX6 ∈ sy_T := sy_inT (sy_i1 (List.mem_of_getElem? (i := 12) (by decide +kernel))) rfl
theorem sy_ini7 : Cond.initialized RX7 ∈ sy_T := sy_inT (sy_i1 (List.mem_of_getElem? (i := 6) (by decide +kernel))) rfl
theorem sy_ini8 : Cond.initialized RX8 ∈ sy_T := sy_inT (sy_i1 (List.mem_of_getElem? (i := 9) (by decide +kernel))) rfl
theorem sy_ini9 : Cond.initialized RX9 ∈ sy_T := sy_inT (sy_i1 (List.mem_of_getElem? (i := 13) (by decide +kernel))) rfl
theorem sy_ini10 : Cond.initialized RX10 ∈ sy_T := sy_inT (sy_i1 (List.mem_of_getElem? (i := 5) (by decide +kernel))) rfl
theorem sy_ini11 : Cond.initialized RX11 ∈ sy_T := sy_inT (sy_i1 (List.mem_of_getElem? (i := 1) (by decide +kernel))) rfl
theorem sy_ini12 : Cond.initialized RX12 ∈ sy_T := sy_inT (sy_i1 (List.mem_of_getElem? (i := 14) (by decide +kernel))) rfl
theorem sy_ini13 : Cond.initialized RJ7 ∈ sy_T := sy_inT (sy_i1 (List.mem_of_getElem? (i := 3) (by decide +kernel))) rfl
theorem sy_ini14 : Cond.initialized RJ9 ∈ sy_T := sy_inT (sy_i1 (List.mem_of_getElem? (i := 16) (by decide +kernel))) rfl
def mX0_back : sy_M := (yX0_back, cX0_back, 2, (some .int), 0, 1, 26)
theorem kX0_back : sy_mok mX0_back false 1 := sy_mokV (sy_inT (sy_i4 (List.mem_of_getElem? (i := 191) rfl)) rfl) sy_ini0 ⟨by decide, by decide, by decide +kernel⟩ (by decide +kernel) (sy_inT (sy_i4 (List.mem_of_getElem? (i := 189) (by decide +kernel))) rfl) (sy_inT (sy_i4 (List.mem_of_getElem? (i := 190) (by decide +kernel))) rfl) rfl
def mX0_forth : sy_M := (yX0_forth, cX0_forth, 2, (some .int), 0, 1, 26)
theorem kX0_forth : sy_mok mX0_forth false 1 := sy_mokV (sy_inT (sy_i4 (List.mem_of_getElem? (i := 203) rfl)) rfl) sy_ini0 ⟨by decide, by decide, by decide +kernel⟩ (by decide +kernel) (sy_inT (sy_i4 (List.mem_of_getElem? (i := 201) (by decide +kernel))) rfl) (sy_inT (sy_i4 (List.mem_of_getElem? (i := 202) (by decide +kernel))) rfl) rfl
def mX0_init : sy_M := (yX0_init, cX0_init, 1, none, 0, 1, 20)
def mX0_note : sy_M := (yX0_note, cX0_note, 3, none, 0, 1, 26)
theorem kX0_note : sy_mok mX0_note false 1 := sy_mokV (sy_inT (sy_i2 (List.mem_of_getElem? (i := 132) rfl)) rfl) sy_ini0 ⟨by decide, by decide, by decide +kernel⟩ (by decide +kernel) (sy_inT (sy_i2 (List.mem_of_getElem? (i := 130) (by decide +kernel))) rfl) (sy_inT (sy_i2 (List.mem_of_getElem? (i := 131) (by decide +kernel))) rfl) rfl
def mX0_redoable : sy_M := (yX0_redoable, cX0_redoable, 1, (some .int), 0, 0, 0)
theorem kX0_redoable : sy_mok mX0_redoable false 0 := sy_mokV (sy_inT (sy_i4 (List.mem_of_getElem? (i := 199) rfl)) rfl) sy_ini0 ⟨by decide, by decide, by decide +kernel⟩ (by decide +kernel) (sy_inT (sy_i4 (List.mem_of_getElem? (i := 197) (by decide +kernel))) rfl) (sy_inT (sy_i4 (List.mem_of_getElem? (i := 198) (by decide +kernel))) rfl) rfl
def mX0_restart : sy_M := (yX0_restart, cX0_restart, 2, none, 0, 1, 26)
theorem kX0_restart : sy_mok mX0_restart false 1 := sy_mokV (sy_inT (sy_i2 (List.mem_of_getElem? (i := 104) rfl)) rfl) sy_ini0 ⟨by decide, by decide, by decide +kernel⟩ (by decide +kernel) (sy_inT (sy_i2 (List.mem_of_getElem? (i := 102) (by decide +kernel))) rfl) (sy_inT (sy_i2 (List.mem_of_getElem? (i := 103) (by decide +kernel))) rfl) rfl
def mX0_undoable : sy_M := (yX0_undoable, cX0_undoable, 1, (some .int), 0, 0, 0)
theorem kX0_undoable : sy_mok mX0_undoable false 0 := sy_mokV (sy_inT (sy_i4 (List.mem_of_getElem? (i := 187) rfl)) rfl) sy_ini0 ⟨by decide, by decide, by decide +kernel⟩ (by decide +kernel) (sy_inT (sy_i4 (List.mem_of_getElem? (i := 185) (by decide +kernel))) rfl) (sy_inT (sy_i4 (List.mem_of_getElem? (i := 186) (by decide +kernel))) rfl) rfl
def mX1_addGrain : sy_M := (yX1_addGrain, cX1_addGrain, 2, none, 1, 0, 0)
theorem kX1_addGrain : sy_mok mX1_addGrain false 1 := sy_mokV (sy_inT (sy_i4 (List.mem_of_getElem? (i := 54) rfl)) rfl) sy_ini1 ⟨by decide, by decide, by decide +kernel⟩ (by decide +kernel) (sy_inT (sy_i4 (List.mem_of_getElem? (i := 52) (by decide +kernel))) rfl) (sy_inT (sy_i4 (List.mem_of_getElem? (i := 53) (by decide +kernel))) rfl) rfl
def mX1_area : sy_M := (yX1_area, cX1_area, 3, (some .int), 1, 0, 0)
theorem kX1_area : sy_mok mX1_area false 0 := sy_mokV (sy_inT (sy_i3 (List.mem_of_getElem? (i := 41) rfl)) rfl) sy_ini1 ⟨by decide, by decide, by decide +kernel⟩ (by decide +kernel) (sy_inT (sy_i3 (List.mem_of_getElem? (i := 39) (by decide +kernel))) rfl) (sy_inT (sy_i3 (List.mem_of_getElem? (i := 40) (by decide +kernel))) rfl) rfl
def mX1_begin : sy_M := (yX1_begin, cX1_begin, 2, none, 1, 1, 26)
theorem kX1_begin : sy_mok mX1_begin false 1 := sy_mokV (sy_inT (sy_i2 (List.mem_of_getElem? (i := 160) rfl)) rfl) sy_ini1 ⟨by decide, by decide, by decide +kernel⟩ (by decide +kernel) (sy_inT (sy_i2 (List.mem_of_getElem? (i := 158) (by decide +kernel))) rfl) (sy_inT (sy_i2 (List.mem_of_getElem? (i := 159) (by decide +kernel))) rfl) rfl
def mX1_code : sy_M := (yX1_code, cX1_code, 1, (some .int), 1, 1, 23)
theorem kX1_code : sy_mok mX1_code false 0 := sy_mokV (sy_inT (sy_i4 (List.mem_of_getElem? (i := 71) rfl)) rfl) sy_ini1 ⟨by decide, by decide, by decide +kernel⟩ (by decide +kernel) (sy_inT (sy_i4 (List.mem_of_getElem? (i := 69) (by decide +kernel))) rfl) (sy_inT (sy_i4 (List.mem_of_getElem? (i := 70) (by decide +kernel))) rfl) rfl
def mX1_copyTo : sy_M := (yX1_copyTo, cX1_copyTo, 2, none, 1, 1, 26)
theorem kX1_copyTo : sy_mok mX1_copyTo false 1 := sy_mokV (sy_inT (sy_i2 (List.mem_of_getElem? (i := 172) rfl)) rfl) sy_ini1 ⟨by decide, by decide, by decide +kernel⟩ (by decide +kernel) (sy_inT (sy_i2 (List.mem_of_getElem? (i := 170) (by decide +kernel))) rfl) (sy_inT (sy_i2 (List.mem_of_getElem? (i := 171) (by decide +kernel))) rfl) rfl
def mX1_countAt : sy_M := (yX1_countAt, cX1_countAt, 2, (some .int), 1, 0, 0)
theorem kX1_countAt : sy_mok mX1_countAt false 1 := sy_mokV (sy_inT (sy_i3 (List.mem_of_getElem? (i := 28) rfl)) rfl) sy_ini1 ⟨by decide, by decide, by decide +kernel⟩ (by decide +kernel) (sy_inT (sy_i3 (List.mem_of_getElem? (i := 26) (by decide +kernel))) rfl) (sy_inT (sy_i3 (List.mem_of_getElem? (i := 27) (by decide +kernel))) rfl) rfl
def mX1_forgetCounts : sy_M := (yX1_forgetCounts, cX1_forgetCounts, 1, none, 1, 1, 23)
theorem kX1_forgetCounts : sy_mok mX1_forgetCounts false 0 := sy_mokV (sy_inT (sy_i4 (List.mem_of_getElem? (i := 99) rfl)) rfl) sy_ini1 ⟨by decide, by decide, by decide +kernel⟩ (by decide +kernel) (sy_inT (sy_i4 (List.mem_of_getElem? (i := 97) (by decide +kernel))) rfl) (sy_inT (sy_i4 (List.mem_of_getElem? (i := 98) (by decide +kernel))) rfl) rfl
def mX1_grains : sy_M := (yX1_grains, cX1_grains, 1, (some .int), 1, 1, 23)
theorem kX1_grains : sy_mok mX1_grains false 0 := sy_mokV (sy_inT (sy_i3 (List.mem_of_getElem? (i := 45) rfl)) rfl) sy_ini1 ⟨by decide, by decide, by decide +kernel⟩ (by decide +kernel) (sy_inT (sy_i3 (List.mem_of_getElem? (i := 43) (by decide +kernel))) rfl) (sy_inT (sy_i3 (List.mem_of_getElem? (i := 44) (by decide +kernel))) rfl) rfl
def mX1_heightAt : sy_M := (yX1_heightAt, cX1_heightAt, 2, (some .int), 1, 0, 0)
theorem kX1_heightAt : sy_mok mX1_heightAt false 1 := sy_mokV (sy_inT (sy_i3 (List.mem_of_getElem? (i := 32) rfl)) rfl) sy_ini1 ⟨by decide, by decide, by decide +kernel⟩ (by decide +kernel) (sy_inT (sy_i3 (List.mem_of_getElem? (i := 30) (by decide +kernel))) rfl) (sy_inT (sy_i3 (List.mem_of_getElem? (i := 31) (by decide +kernel))) rfl) rfl
def mX1_inRounds : sy_M := (yX1_inRounds, cX1_inRounds, 4, (some .int), 1, 2, 44)
theorem kX1_inRounds : sy_mok mX1_inRounds false 0 := sy_mokV (sy_inT (sy_i3 (List.mem_of_getElem? (i := 12) rfl)) rfl) sy_ini1 ⟨by decide, by decide, by decide +kernel⟩ (by decide +kernel) (sy_inT (sy_i3 (List.mem_of_getElem? (i := 10) (by decide +kernel))) rfl) (sy_inT (sy_i3 (List.mem_of_getElem? (i := 11) (by decide +kernel))) rfl) rfl
def mX1_init : sy_M := (yX1_init, cX1_init, 2, none, 1, 1, 20)
def mX1_level : sy_M := (yX1_level, cX1_level, 9, (some .int), 1, 1, 26)
theorem kX1_level : sy_mok mX1_level false 0 := sy_mokV (sy_inT (sy_i2 (List.mem_of_getElem? (i := 166) rfl)) rfl) sy_ini1 ⟨by decide, by decide, by decide +kernel⟩ (by decide +kernel) (sy_inT (sy_i2 (List.mem_of_getElem? (i := 164) (by decide +kernel))) rfl) (sy_inT (sy_i2 (List.mem_of_getElem? (i := 165) (by decide +kernel))) rfl) rfl
def mX1_lost : sy_M := (yX1_lost, cX1_lost, 4, (some .int), 1, 1, 21)
theorem kX1_lost : sy_mok mX1_lost false 0 := sy_mokV (sy_inT (sy_i3 (List.mem_of_getElem? (i := 36) rfl)) rfl) sy_ini1 ⟨by decide, by decide, by decide +kernel⟩ (by decide +kernel) (sy_inT (sy_i3 (List.mem_of_getElem? (i := 34) (by decide +kernel))) rfl) (sy_inT (sy_i3 (List.mem_of_getElem? (i := 35) (by decide +kernel))) rfl) rfl
def mX1_readyBits : sy_M := (yX1_readyBits, cX1_readyBits, 4, (some .int), 1, 1, 21)
theorem kX1_readyBits : sy_mok mX1_readyBits false 0 := sy_mokV (sy_inT (sy_i3 (List.mem_of_getElem? (i := 16) rfl)) rfl) sy_ini1 ⟨by decide, by decide, by decide +kernel⟩ (by decide +kernel) (sy_inT (sy_i3 (List.mem_of_getElem? (i := 15) (by decide +kernel))) rfl) (sy_inP (List.mem_of_getElem? (i := 11) (by decide +kernel)) rfl) rfl
def mX1_toppleOnce : sy_M := (yX1_toppleOnce, cX1_toppleOnce, 2, (some .boolean), 1, 2, 42)
theorem kX1_toppleOnce : sy_mok mX1_toppleOnce false 1 := sy_mokV (sy_inT (sy_i4 (List.mem_of_getElem? (i := 146) rfl)) rfl) sy_ini1 ⟨by decide, by decide, by decide +kernel⟩ (by decide +kernel) (sy_inT (sy_i4 (List.mem_of_getElem? (i := 144) (by decide +kernel))) rfl) (sy_inT (sy_i4 (List.mem_of_getElem? (i := 145) (by decide +kernel))) rfl) rfl
def mX1_toppled : sy_M := (yX1_toppled, cX1_toppled, 1, (some .int), 1, 1, 23)
theorem kX1_toppled : sy_mok mX1_toppled false 0 := sy_mokV (sy_inT (sy_i4 (List.mem_of_getElem? (i := 58) rfl)) rfl) sy_ini1 ⟨by decide, by decide, by decide +kernel⟩ (by decide +kernel) (sy_inT (sy_i4 (List.mem_of_getElem? (i := 56) (by decide +kernel))) rfl) (sy_inT (sy_i4 (List.mem_of_getElem? (i := 57) (by decide +kernel))) rfl) rfl
def mX2_burnOnce : sy_M := (yX2_burnOnce, cX2_burnOnce, 6, (some .boolean), 2, 2, 47)
theorem kX2_burnOnce : sy_mok mX2_burnOnce false 2 := sy_mokV (sy_inT (sy_i4 (List.mem_of_getElem? (i := 17) rfl)) rfl) sy_ini2 ⟨by decide, by decide, by decide +kernel⟩ (by decide +kernel) (sy_inT (sy_i4 (List.mem_of_getElem? (i := 16) (by decide +kernel))) rfl) (sy_inP (List.mem_of_getElem? (i := 23) (by decide +kernel)) rfl) rfl
def mX2_init : sy_M := (yX2_init, cX2_init, 2, none, 2, 1, 20)
def mX2_roundAt : sy_M := (yX2_roundAt, cX2_roundAt, 2, (some .int), 2, 0, 0)
theorem kX2_roundAt : sy_mok mX2_roundAt false 1 := sy_mokV (sy_inT (sy_i4 (List.mem_of_getElem? (i := 29) rfl)) rfl) sy_ini2 ⟨by decide, by decide, by decide +kernel⟩ (by decide +kernel) (sy_inT (sy_i4 (List.mem_of_getElem? (i := 27) (by decide +kernel))) rfl) (sy_inT (sy_i4 (List.mem_of_getElem? (i := 28) (by decide +kernel))) rfl) rfl
def mX2_spread : sy_M := (yX2_spread, cX2_spread, 3, (some .int), 2, 3, 72)
theorem kX2_spread : sy_mok mX2_spread false 1 := sy_mokV (sy_inT (sy_i4 (List.mem_of_getElem? (i := 12) rfl)) rfl) sy_ini2 ⟨by decide, by decide, by decide +kernel⟩ (by decide +kernel) (sy_inT (sy_i4 (List.mem_of_getElem? (i := 10) (by decide +kernel))) rfl) (sy_inT (sy_i4 (List.mem_of_getElem? (i := 11) (by decide +kernel))) rfl) rfl
def mX2_unburnt : sy_M := (yX2_unburnt, cX2_unburnt, 4, (some .int), 2, 1, 21)
theorem kX2_unburnt : sy_mok mX2_unburnt false 0 := sy_mokV (sy_inT (sy_i4 (List.mem_of_getElem? (i := 33) rfl)) rfl) sy_ini2 ⟨by decide, by decide, by decide +kernel⟩ (by decide +kernel) (sy_inT (sy_i4 (List.mem_of_getElem? (i := 31) (by decide +kernel))) rfl) (sy_inT (sy_i4 (List.mem_of_getElem? (i := 32) (by decide +kernel))) rfl) rfl
def mX2_unburntNextTo : sy_M := (yX2_unburntNextTo, cX2_unburntNextTo, 6, (some .int), 2, 1, 22)
theorem kX2_unburntNextTo : sy_mok mX2_unburntNextTo false 2 := sy_mokV (sy_inT (sy_i4 (List.mem_of_getElem? (i := 23) rfl)) rfl) sy_ini2 ⟨by decide, by decide, by decide +kernel⟩ (by decide +kernel) (sy_inT (sy_i4 (List.mem_of_getElem? (i := 22) (by decide +kernel))) rfl) (sy_inP (List.mem_of_getElem? (i := 24) (by decide +kernel)) rfl) rfl
def mX3_build : sy_M := (yX3_build, cX3_build, 3, none, 3, 3, 68)
theorem kX3_build : sy_mok mX3_build false 2 := sy_mokV (sy_inT (sy_i2 (List.mem_of_getElem? (i := 124) rfl)) rfl) sy_ini3 ⟨by decide, by decide, by decide +kernel⟩ (by decide +kernel) (sy_inT (sy_i2 (List.mem_of_getElem? (i := 122) (by decide +kernel))) rfl) (sy_inT (sy_i2 (List.mem_of_getElem? (i := 123) (by decide +kernel))) rfl) rfl
def mX3_cellCount : sy_M := (yX3_cellCount, cX3_cellCount, 1, (some .int), 3, 0, 0)
theorem kX3_cellCount : sy_mok mX3_cellCount false 0 := sy_mokV (sy_inT (sy_i2 (List.mem_of_getElem? (i := 93) rfl)) rfl) sy_ini3 ⟨by decide, by decide, by decide +kernel⟩ (by decide +kernel) (sy_inT (sy_i2 (List.mem_of_getElem? (i := 91) (by decide +kernel))) rfl) (sy_inT (sy_i2 (List.mem_of_getElem? (i := 92) (by decide +kernel))) rfl) rfl
def mX3_columnCount : sy_M := (yX3_columnCount, cX3_columnCount, 1, (some .int), 3, 0, 0)
theorem kX3_columnCount : sy_mok mX3_columnCount false 0 := sy_mokV (sy_inT (sy_i4 (List.mem_of_getElem? (i := 211) rfl)) rfl) sy_ini3 ⟨by decide, by decide, by decide +kernel⟩ (by decide +kernel) (sy_inT (sy_i4 (List.mem_of_getElem? (i := 209) (by decide +kernel))) rfl) (sy_inT (sy_i4 (List.mem_of_getElem? (i := 210) (by decide +kernel))) rfl) rfl
def mX3_grainsOf : sy_M := (yX3_grainsOf, cX3_grainsOf, 4, (some .int), 3, 0, 0)
theorem kX3_grainsOf : sy_mok mX3_grainsOf false 1 := sy_mokV (sy_inT (sy_i3 (List.mem_of_getElem? (i := 49) rfl)) rfl) sy_ini3 ⟨by decide, by decide, by decide +kernel⟩ (by decide +kernel) (sy_inT (sy_i3 (List.mem_of_getElem? (i := 47) (by decide +kernel))) rfl) (sy_inT (sy_i3 (List.mem_of_getElem? (i := 48) (by decide +kernel))) rfl) rfl
def mX3_init : sy_M := (yX3_init, cX3_init, 3, none, 3, 4, 90)
def mX3_isCell : sy_M := (yX3_isCell, cX3_isCell, 2, (some .boolean), 3, 0, 0)
theorem kX3_isCell : sy_mok mX3_isCell false 1 := sy_mokV (sy_inT (sy_i2 (List.mem_of_getElem? (i := 115) rfl)) rfl) sy_ini3 ⟨by decide, by decide, by decide +kernel⟩ (by decide +kernel) (sy_inT (sy_i2 (List.mem_of_getElem? (i := 113) (by decide +kernel))) rfl) (sy_inT (sy_i2 (List.mem_of_getElem? (i := 114) (by decide +kernel))) rfl) rfl
def mX3_isPlace : sy_M := (yX3_isPlace, cX3_isPlace, 2, (some .boolean), 3, 1, 21)
theorem kX3_isPlace : sy_mok mX3_isPlace false 1 := sy_mokV (sy_inT (sy_i2 (List.mem_of_getElem? (i := 119) rfl)) rfl) sy_ini3 ⟨by decide, by decide, by decide +kernel⟩ (by decide +kernel) (sy_inT (sy_i2 (List.mem_of_getElem? (i := 117) (by decide +kernel))) rfl) (sy_inT (sy_i2 (List.mem_of_getElem? (i := 118) (by decide +kernel))) rfl) rfl
def mX3_isStable : sy_M := (yX3_isStable, cX3_isStable, 3, (some .boolean), 3, 0, 0)
theorem kX3_isStable : sy_mok mX3_isStable false 1 := sy_mokV (sy_inT (sy_i4 (List.mem_of_getElem? (i := 50) rfl)) rfl) sy_ini3 ⟨by decide, by decide, by decide +kernel⟩ (by decide +kernel) (sy_inT (sy_i4 (List.mem_of_getElem? (i := 48) (by decide +kernel))) rfl) (sy_inT (sy_i4 (List.mem_of_getElem? (i := 49) (by decide +kernel))) rfl) rfl
def mX3_join : sy_M := (yX3_join, cX3_join, 3, none, 3, 0, 0)
theorem kX3_join : sy_mok mX3_join false 2 := sy_mokV (sy_inT (sy_i1 (List.mem_of_getElem? (i := 49) rfl)) rfl) sy_ini3 ⟨by decide, by decide, by decide +kernel⟩ (by decide +kernel) (sy_inT (sy_i1 (List.mem_of_getElem? (i := 48) (by decide +kernel))) rfl) (sy_inP (List.mem_of_getElem? (i := 2) (by decide +kernel)) rfl) rfl
def mX3_link : sy_M := (yX3_link, cX3_link, 4, none, 3, 2, 45)
theorem kX3_link : sy_mok mX3_link false 0 := sy_mokV (sy_inT (sy_i1 (List.mem_of_getElem? (i := 41) rfl)) rfl) sy_ini3 ⟨by decide, by decide, by decide +kernel⟩ (by decide +kernel) (sy_inT (sy_i1 (List.mem_of_getElem? (i := 40) (by decide +kernel))) rfl) (sy_inP (List.mem_of_getElem? (i := 0) (by decide +kernel)) rfl) rfl
def mX3_linkCell : sy_M := (yX3_linkCell, cX3_linkCell, 4, none, 3, 1, 22)
theorem kX3_linkCell : sy_mok mX3_linkCell false 3 := sy_mokV (sy_inT (sy_i1 (List.mem_of_getElem? (i := 45) rfl)) rfl) sy_ini3 ⟨by decide, by decide, by decide +kernel⟩ (by decide +kernel) (sy_inT (sy_i1 (List.mem_of_getElem? (i := 44) (by decide +kernel))) rfl) (sy_inP (List.mem_of_getElem? (i := 1) (by decide +kernel)) rfl) rfl
def mX3_lossAt : sy_M := (yX3_lossAt, cX3_lossAt, 2, (some .int), 3, 0, 0)
theorem kX3_lossAt : sy_mok mX3_lossAt false 1 := sy_mokV (sy_inT (sy_i2 (List.mem_of_getElem? (i := 152) rfl)) rfl) sy_ini3 ⟨by decide, by decide, by decide +kernel⟩ (by decide +kernel) (sy_inT (sy_i2 (List.mem_of_getElem? (i := 150) (by decide +kernel))) rfl) (sy_inT (sy_i2 (List.mem_of_getElem? (i := 151) (by decide +kernel))) rfl) rfl
def mX3_nextAt : sy_M := (yX3_nextAt, cX3_nextAt, 3, (some .int), 3, 0, 0)
theorem kX3_nextAt : sy_mok mX3_nextAt false 2 := sy_mokV (sy_inT (sy_i3 (List.mem_of_getElem? (i := 97) rfl)) rfl) sy_ini3 ⟨by decide, by decide, by decide +kernel⟩ (by decide +kernel) (sy_inT (sy_i3 (List.mem_of_getElem? (i := 95) (by decide +kernel))) rfl) (sy_inT (sy_i3 (List.mem_of_getElem? (i := 96) (by decide +kernel))) rfl) rfl
def mX3_nextCount : sy_M := (yX3_nextCount, cX3_nextCount, 2, (some .int), 3, 0, 0)
theorem kX3_nextCount : sy_mok mX3_nextCount false 1 := sy_mokV (sy_inT (sy_i3 (List.mem_of_getElem? (i := 93) rfl)) rfl) sy_ini3 ⟨by decide, by decide, by decide +kernel⟩ (by decide +kernel) (sy_inT (sy_i3 (List.mem_of_getElem? (i := 91) (by decide +kernel))) rfl) (sy_inT (sy_i3 (List.mem_of_getElem? (i := 92) (by decide +kernel))) rfl) rfl
def mX3_numberOf : sy_M := (yX3_numberOf, cX3_numberOf, 2, (some .int), 3, 0, 0)
theorem kX3_numberOf : sy_mok mX3_numberOf false 1 := sy_mokV (sy_inT (sy_i3 (List.mem_of_getElem? (i := 239) rfl)) rfl) sy_ini3 ⟨by decide, by decide, by decide +kernel⟩ (by decide +kernel) (sy_inT (sy_i3 (List.mem_of_getElem? (i := 237) (by decide +kernel))) rfl) (sy_inT (sy_i3 (List.mem_of_getElem? (i := 238) (by decide +kernel))) rfl) rfl
def mX3_pack : sy_M := (yX3_pack, cX3_pack, 4, (some .int), 3, 0, 0)
theorem kX3_pack : sy_mok mX3_pack false 1 := sy_mokV (sy_inT (sy_i4 (List.mem_of_getElem? (i := 75) rfl)) rfl) sy_ini3 ⟨by decide, by decide, by decide +kernel⟩ (by decide +kernel) (sy_inT (sy_i4 (List.mem_of_getElem? (i := 73) (by decide +kernel))) rfl) (sy_inT (sy_i4 (List.mem_of_getElem? (i := 74) (by decide +kernel))) rfl) rfl
def mX3_placeAt : sy_M := (yX3_placeAt, cX3_placeAt, 2, (some .int), 3, 0, 0)
theorem kX3_placeAt : sy_mok mX3_placeAt false 1 := sy_mokV (sy_inT (sy_i3 (List.mem_of_getElem? (i := 24) rfl)) rfl) sy_ini3 ⟨by decide, by decide, by decide +kernel⟩ (by decide +kernel) (sy_inT (sy_i3 (List.mem_of_getElem? (i := 22) (by decide +kernel))) rfl) (sy_inT (sy_i3 (List.mem_of_getElem? (i := 23) (by decide +kernel))) rfl) rfl
def mX3_placeCount : sy_M := (yX3_placeCount, cX3_placeCount, 1, (some .int), 3, 0, 0)
theorem kX3_placeCount : sy_mok mX3_placeCount false 0 := sy_mokV (sy_inT (sy_i3 (List.mem_of_getElem? (i := 20) rfl)) rfl) sy_ini3 ⟨by decide, by decide, by decide +kernel⟩ (by decide +kernel) (sy_inT (sy_i3 (List.mem_of_getElem? (i := 18) (by decide +kernel))) rfl) (sy_inT (sy_i3 (List.mem_of_getElem? (i := 19) (by decide +kernel))) rfl) rfl
def mX3_shape : sy_M := (yX3_shape, cX3_shape, 3, none, 3, 3, 68)
theorem kX3_shape : sy_mok mX3_shape false 2 := sy_mokV (sy_inT (sy_i1 (List.mem_of_getElem? (i := 34) rfl)) rfl) sy_ini3 ⟨by decide, by decide, by decide +kernel⟩ (by decide +kernel) (sy_inT (sy_i1 (List.mem_of_getElem? (i := 32) (by decide +kernel))) rfl) (sy_inT (sy_i1 (List.mem_of_getElem? (i := 33) (by decide +kernel))) rfl) rfl
def mX3_spill : sy_M := (yX3_spill, cX3_spill, 7, none, 3, 0, 0)
theorem kX3_spill : sy_mok mX3_spill false 3 := sy_mokV (sy_inT (sy_i2 (List.mem_of_getElem? (i := 148) rfl)) rfl) sy_ini3 ⟨by decide, by decide, by decide +kernel⟩ (by decide +kernel) (sy_inT (sy_i2 (List.mem_of_getElem? (i := 146) (by decide +kernel))) rfl) (sy_inT (sy_i2 (List.mem_of_getElem? (i := 147) (by decide +kernel))) rfl) rfl
def mX3_unpack : sy_M := (yX3_unpack, cX3_unpack, 5, none, 3, 0, 0)
theorem kX3_unpack : sy_mok mX3_unpack false 2 := sy_mokV (sy_inT (sy_i4 (List.mem_of_getElem? (i := 42) rfl)) rfl) sy_ini3 ⟨by decide, by decide, by decide +kernel⟩ (by decide +kernel) (sy_inT (sy_i4 (List.mem_of_getElem? (i := 40) (by decide +kernel))) rfl) (sy_inT (sy_i4 (List.mem_of_getElem? (i := 41) (by decide +kernel))) rfl) rfl
def mX4_begin : sy_M := (yX4_begin, cX4_begin, 4, none, 4, 1, 26)
theorem kX4_begin : sy_mok mX4_begin false 2 := sy_mokV (sy_inT (sy_i3 (List.mem_of_getElem? (i := 61) rfl)) rfl) sy_ini4 ⟨by decide, by decide, by decide +kernel⟩ (by decide +kernel) (sy_inT (sy_i3 (List.mem_of_getElem? (i := 59) (by decide +kernel))) rfl) (sy_inT (sy_i3 (List.mem_of_getElem? (i := 60) (by decide +kernel))) rfl) rfl
def mX4_chosen : sy_M := (yX4_chosen, cX4_chosen, 1, (some .int), 4, 2, 45)
theorem kX4_chosen : sy_mok mX4_chosen false 0 := sy_mokV (sy_inT (sy_i3 (List.mem_of_getElem? (i := 76) rfl)) rfl) sy_ini4 ⟨by decide, by decide, by decide +kernel⟩ (by decide +kernel) (sy_inT (sy_i3 (List.mem_of_getElem? (i := 75) (by decide +kernel))) rfl) (sy_inP (List.mem_of_getElem? (i := 13) (by decide +kernel)) rfl) rfl
def mX4_init : sy_M := (yX4_init, cX4_init, 2, none, 4, 1, 20)
def mX4_leastCell : sy_M := (yX4_leastCell, cX4_leastCell, 3, (some .int), 4, 1, 21)
theorem kX4_leastCell : sy_mok mX4_leastCell false 0 := sy_mokV (sy_inT (sy_i3 (List.mem_of_getElem? (i := 80) rfl)) rfl) sy_ini4 ⟨by decide, by decide, by decide +kernel⟩ (by decide +kernel) (sy_inT (sy_i3 (List.mem_of_getElem? (i := 79) (by decide +kernel))) rfl) (sy_inP (List.mem_of_getElem? (i := 14) (by decide +kernel)) rfl) rfl
def mX4_leave : sy_M := (yX4_leave, cX4_leave, 3, (some .int), 4, 0, 0)
theorem kX4_leave : sy_mok mX4_leave false 1 := sy_mokV (sy_inT (sy_i3 (List.mem_of_getElem? (i := 84) rfl)) rfl) sy_ini4 ⟨by decide, by decide, by decide +kernel⟩ (by decide +kernel) (sy_inT (sy_i3 (List.mem_of_getElem? (i := 83) (by decide +kernel))) rfl) (sy_inP (List.mem_of_getElem? (i := 15) (by decide +kernel)) rfl) rfl
def mX4_lineUp : sy_M := (yX4_lineUp, cX4_lineUp, 3, none, 4, 0, 0)
theorem kX4_lineUp : sy_mok mX4_lineUp false 1 := sy_mokV (sy_inT (sy_i3 (List.mem_of_getElem? (i := 68) rfl)) rfl) sy_ini4 ⟨by decide, by decide, by decide +kernel⟩ (by decide +kernel) (sy_inT (sy_i3 (List.mem_of_getElem? (i := 67) (by decide +kernel))) rfl) (sy_inP (List.mem_of_getElem? (i := 12) (by decide +kernel)) rfl) rfl
def mX4_step : sy_M := (yX4_step, cX4_step, 3, (some .int), 4, 3, 65)
theorem kX4_step : sy_mok mX4_step false 0 := sy_mokV (sy_inT (sy_i3 (List.mem_of_getElem? (i := 72) rfl)) rfl) sy_ini4 ⟨by decide, by decide, by decide +kernel⟩ (by decide +kernel) (sy_inT (sy_i3 (List.mem_of_getElem? (i := 70) (by decide +kernel))) rfl) (sy_inT (sy_i3 (List.mem_of_getElem? (i := 71) (by decide +kernel))) rfl) rfl
def mX4_tallestCell : sy_M := (yX4_tallestCell, cX4_tallestCell, 5, (some .int), 4, 1, 21)
theorem kX4_tallestCell : sy_mok mX4_tallestCell false 0 := sy_mokV (sy_inT (sy_i3 (List.mem_of_getElem? (i := 88) rfl)) rfl) sy_ini4 ⟨by decide, by decide, by decide +kernel⟩ (by decide +kernel) (sy_inT (sy_i3 (List.mem_of_getElem? (i := 87) (by decide +kernel))) rfl) (sy_inP (List.mem_of_getElem? (i := 16) (by decide +kernel)) rfl) rfl
def mX5_determinant : sy_M := (yX5_determinant, cX5_determinant, 6, (some .long), 5, 2, 49)
theorem kX5_determinant : sy_mok mX5_determinant false 1 := sy_mokV (sy_inT (sy_i3 (List.mem_of_getElem? (i := 223) rfl)) rfl) sy_ini5 ⟨by decide, by decide, by decide +kernel⟩ (by decide +kernel) (sy_inT (sy_i3 (List.mem_of_getElem? (i := 221) (by decide +kernel))) rfl) (sy_inT (sy_i3 (List.mem_of_getElem? (i := 222) (by decide +kernel))) rfl) rfl
def mX5_eliminate : sy_M := (yX5_eliminate, cX5_eliminate, 13, none, 5, 0, 0)
theorem kX5_eliminate : sy_mok mX5_eliminate false 3 := sy_mokV (sy_inT (sy_i4 (List.mem_of_getElem? (i := 4) rfl)) rfl) sy_ini5 ⟨by decide, by decide, by decide +kernel⟩ (by decide +kernel) (sy_inT (sy_i4 (List.mem_of_getElem? (i := 3) (by decide +kernel))) rfl) (sy_inP (List.mem_of_getElem? (i := 22) (by decide +kernel)) rfl) rfl
def mX5_fillFrom : sy_M := (yX5_fillFrom, cX5_fillFrom, 6, none, 5, 1, 24)
theorem kX5_fillFrom : sy_mok mX5_fillFrom false 2 := sy_mokV (sy_inT (sy_i3 (List.mem_of_getElem? (i := 228) rfl)) rfl) sy_ini5 ⟨by decide, by decide, by decide +kernel⟩ (by decide +kernel) (sy_inT (sy_i3 (List.mem_of_getElem? (i := 227) (by decide +kernel))) rfl) (sy_inP (List.mem_of_getElem? (i := 21) (by decide +kernel)) rfl) rfl
def mX5_init : sy_M := (yX5_init, cX5_init, 1, none, 5, 1, 20)
def mX6_add : sy_M := (yX6_add, cX6_add, 3, none, 6, 1, 20)
theorem kX6_add : sy_mok mX6_add false 1 := sy_mokV (sy_inT (sy_i4 (List.mem_of_getElem? (i := 79) rfl)) rfl) sy_ini6 ⟨by decide, by decide, by decide +kernel⟩ (by decide +kernel) (sy_inT (sy_i4 (List.mem_of_getElem? (i := 77) (by decide +kernel))) rfl) (sy_inT (sy_i4 (List.mem_of_getElem? (i := 78) (by decide +kernel))) rfl) rfl
def mX6_chainOf : sy_M := (yX6_chainOf, cX6_chainOf, 1, (some .int), 6, 0, 0)
theorem kX6_chainOf : sy_mok mX6_chainOf true 1 := sy_mokS (sy_inT (sy_i4 (List.mem_of_getElem? (i := 82) rfl)) rfl) sy_ini6 ⟨by decide, by decide, by decide +kernel⟩ (by decide +kernel) (sy_inT (sy_i4 (List.mem_of_getElem? (i := 81) (by decide +kernel))) rfl) rfl
def mX6_clear : sy_M := (yX6_clear, cX6_clear, 1, none, 6, 1, 23)
theorem kX6_clear : sy_mok mX6_clear false 0 := sy_mokV (sy_inT (sy_i4 (List.mem_of_getElem? (i := 66) rfl)) rfl) sy_ini6 ⟨by decide, by decide, by decide +kernel⟩ (by decide +kernel) (sy_inT (sy_i4 (List.mem_of_getElem? (i := 64) (by decide +kernel))) rfl) (sy_inT (sy_i4 (List.mem_of_getElem? (i := 65) (by decide +kernel))) rfl) rfl
def mX6_find : sy_M := (yX6_find, cX6_find, 4, (some .int), 6, 1, 20)
theorem kX6_find : sy_mok mX6_find false 1 := sy_mokV (sy_inT (sy_i4 (List.mem_of_getElem? (i := 87) rfl)) rfl) sy_ini6 ⟨by decide, by decide, by decide +kernel⟩ (by decide +kernel) (sy_inT (sy_i4 (List.mem_of_getElem? (i := 85) (by decide +kernel))) rfl) (sy_inT (sy_i4 (List.mem_of_getElem? (i := 86) (by decide +kernel))) rfl) rfl
def mX6_init : sy_M := (yX6_init, cX6_init, 1, none, 6, 1, 20)
def mX7_clear : sy_M := (yX7_clear, cX7_clear, 1, none, 7, 1, 23)
theorem kX7_clear : sy_mok mX7_clear false 0 := sy_mokV (sy_inT (sy_i1 (List.mem_of_getElem? (i := 137) rfl)) rfl) sy_ini7 ⟨by decide, by decide, by decide +kernel⟩ (by decide +kernel) (sy_inT (sy_i1 (List.mem_of_getElem? (i := 135) (by decide +kernel))) rfl) (sy_inT (sy_i1 (List.mem_of_getElem? (i := 136) (by decide +kernel))) rfl) rfl
def mX7_has : sy_M := (yX7_has, cX7_has, 2, (some .boolean), 7, 0, 0)
theorem kX7_has : sy_mok mX7_has false 1 := sy_mokV (sy_inT (sy_i3 (List.mem_of_getElem? (i := 109) rfl)) rfl) sy_ini7 ⟨by decide, by decide, by decide +kernel⟩ (by decide +kernel) (sy_inT (sy_i3 (List.mem_of_getElem? (i := 107) (by decide +kernel))) rfl) (sy_inT (sy_i3 (List.mem_of_getElem? (i := 108) (by decide +kernel))) rfl) rfl
def mX7_heldCount : sy_M := (yX7_heldCount, cX7_heldCount, 3, (some .int), 7, 0, 0)
theorem kX7_heldCount : sy_mok mX7_heldCount false 0 := sy_mokV (sy_inT (sy_i4 (List.mem_of_getElem? (i := 215) rfl)) rfl) sy_ini7 ⟨by decide, by decide, by decide +kernel⟩ (by decide +kernel) (sy_inT (sy_i4 (List.mem_of_getElem? (i := 213) (by decide +kernel))) rfl) (sy_inT (sy_i4 (List.mem_of_getElem? (i := 214) (by decide +kernel))) rfl) rfl
def mX7_hold : sy_M := (yX7_hold, cX7_hold, 3, (some (.array .int)), 7, 0, 0)
theorem kX7_hold : sy_mok mX7_hold false 2 := sy_mokV (sy_inT (sy_i3 (List.mem_of_getElem? (i := 113) rfl)) rfl) sy_ini7 ⟨by decide, by decide, by decide +kernel⟩ (by decide +kernel) (sy_inT (sy_i3 (List.mem_of_getElem? (i := 111) (by decide +kernel))) rfl) (sy_inT (sy_i3 (List.mem_of_getElem? (i := 112) (by decide +kernel))) rfl) rfl
def mX7_holds : sy_M := (yX7_holds, cX7_holds, 2, (some .boolean), 7, 0, 0)
theorem kX7_holds : sy_mok mX7_holds false 1 := sy_mokV (sy_inT (sy_i3 (List.mem_of_getElem? (i := 121) rfl)) rfl) sy_ini7 ⟨by decide, by decide, by decide +kernel⟩ (by decide +kernel) (sy_inT (sy_i3 (List.mem_of_getElem? (i := 119) (by decide +kernel))) rfl) (sy_inT (sy_i3 (List.mem_of_getElem? (i := 120) (by decide +kernel))) rfl) rfl
def mX7_init : sy_M := (yX7_init, cX7_init, 3, none, 7, 2, 43)
def mX7_lengthOf : sy_M := (yX7_lengthOf, cX7_lengthOf, 2, (some .int), 7, 0, 0)
theorem kX7_lengthOf : sy_mok mX7_lengthOf false 1 := sy_mokV (sy_inT (sy_i4 (List.mem_of_getElem? (i := 142) rfl)) rfl) sy_ini7 ⟨by decide, by decide, by decide +kernel⟩ (by decide +kernel) (sy_inT (sy_i4 (List.mem_of_getElem? (i := 140) (by decide +kernel))) rfl) (sy_inT (sy_i4 (List.mem_of_getElem? (i := 141) (by decide +kernel))) rfl) rfl
def mX7_rowAt : sy_M := (yX7_rowAt, cX7_rowAt, 2, (some (.array .int)), 7, 0, 0)
theorem kX7_rowAt : sy_mok mX7_rowAt false 1 := sy_mokV (sy_inT (sy_i3 (List.mem_of_getElem? (i := 125) rfl)) rfl) sy_ini7 ⟨by decide, by decide, by decide +kernel⟩ (by decide +kernel) (sy_inT (sy_i3 (List.mem_of_getElem? (i := 123) (by decide +kernel))) rfl) (sy_inT (sy_i3 (List.mem_of_getElem? (i := 124) (by decide +kernel))) rfl) rfl
def mX8_add : sy_M := (yX8_add, cX8_add, 4, (some .int), 8, 2, 54)
theorem kX8_add : sy_mok mX8_add false 2 := sy_mokV (sy_inT (sy_i3 (List.mem_of_getElem? (i := 139) rfl)) rfl) sy_ini8 ⟨by decide, by decide, by decide +kernel⟩ (by decide +kernel) (sy_inT (sy_i3 (List.mem_of_getElem? (i := 137) (by decide +kernel))) rfl) (sy_inT (sy_i3 (List.mem_of_getElem? (i := 138) (by decide +kernel))) rfl) rfl
def mX8_addInto : sy_M := (yX8_addInto, cX8_addInto, 4, none, 8, 3, 77)
theorem kX8_addInto : sy_mok mX8_addInto false 3 := sy_mokV (sy_inT (sy_i3 (List.mem_of_getElem? (i := 186) rfl)) rfl) sy_ini8 ⟨by decide, by decide, by decide +kernel⟩ (by decide +kernel) (sy_inT (sy_i3 (List.mem_of_getElem? (i := 185) (by decide +kernel))) rfl) (sy_inP (List.mem_of_getElem? (i := 20) (by decide +kernel)) rfl) rfl
def mX8_areOne : sy_M := (yX8_areOne, cX8_areOne, 3, (some .boolean), 8, 4, 100)
theorem kX8_areOne : sy_mok mX8_areOne false 2 := sy_mokV (sy_inT (sy_i3 (List.mem_of_getElem? (i := 215) rfl)) rfl) sy_ini8 ⟨by decide, by decide, by decide +kernel⟩ (by decide +kernel) (sy_inT (sy_i3 (List.mem_of_getElem? (i := 213) (by decide +kernel))) rfl) (sy_inT (sy_i3 (List.mem_of_getElem? (i := 214) (by decide +kernel))) rfl) rfl
def mX8_copyResultTo : sy_M := (yX8_copyResultTo, cX8_copyResultTo, 2, none, 8, 1, 26)
theorem kX8_copyResultTo : sy_mok mX8_copyResultTo false 1 := sy_mokV (sy_inT (sy_i3 (List.mem_of_getElem? (i := 166) rfl)) rfl) sy_ini8 ⟨by decide, by decide, by decide +kernel⟩ (by decide +kernel) (sy_inT (sy_i3 (List.mem_of_getElem? (i := 164) (by decide +kernel))) rfl) (sy_inT (sy_i3 (List.mem_of_getElem? (i := 165) (by decide +kernel))) rfl) rfl
def mX8_init : sy_M := (yX8_init, cX8_init, 3, none, 8, 1, 20)
def mX8_layFullZero : sy_M := (yX8_layFullZero, cX8_layFullZero, 2, none, 8, 2, 54)
theorem kX8_layFullZero : sy_mok mX8_layFullZero false 0 := sy_mokV (sy_inT (sy_i3 (List.mem_of_getElem? (i := 153) rfl)) rfl) sy_ini8 ⟨by decide, by decide, by decide +kernel⟩ (by decide +kernel) (sy_inT (sy_i3 (List.mem_of_getElem? (i := 152) (by decide +kernel))) rfl) (sy_inP (List.mem_of_getElem? (i := 17) (by decide +kernel)) rfl) rfl
def mX8_leastToNought : sy_M := (yX8_leastToNought, cX8_leastToNought, 4, (some .int), 8, 4, 100)
theorem kX8_leastToNought : sy_mok mX8_leastToNought false 2 := sy_mokV (sy_inT (sy_i3 (List.mem_of_getElem? (i := 203) rfl)) rfl) sy_ini8 ⟨by decide, by decide, by decide +kernel⟩ (by decide +kernel) (sy_inT (sy_i3 (List.mem_of_getElem? (i := 201) (by decide +kernel))) rfl) (sy_inT (sy_i3 (List.mem_of_getElem? (i := 202) (by decide +kernel))) rfl) rfl
def mX8_multiply : sy_M := (yX8_multiply, cX8_multiply, 5, none, 8, 4, 100)
theorem kX8_multiply : sy_mok mX8_multiply false 2 := sy_mokV (sy_inT (sy_i3 (List.mem_of_getElem? (i := 181) rfl)) rfl) sy_ini8 ⟨by decide, by decide, by decide +kernel⟩ (by decide +kernel) (sy_inT (sy_i3 (List.mem_of_getElem? (i := 179) (by decide +kernel))) rfl) (sy_inT (sy_i3 (List.mem_of_getElem? (i := 180) (by decide +kernel))) rfl) rfl
def mX8_negate : sy_M := (yX8_negate, cX8_negate, 3, none, 8, 4, 95)
theorem kX8_negate : sy_mok mX8_negate false 1 := sy_mokV (sy_inT (sy_i3 (List.mem_of_getElem? (i := 195) rfl)) rfl) sy_ini8 ⟨by decide, by decide, by decide +kernel⟩ (by decide +kernel) (sy_inT (sy_i3 (List.mem_of_getElem? (i := 193) (by decide +kernel))) rfl) (sy_inT (sy_i3 (List.mem_of_getElem? (i := 194) (by decide +kernel))) rfl) rfl
def mX8_settleResult : sy_M := (yX8_settleResult, cX8_settleResult, 1, none, 8, 2, 54)
theorem kX8_settleResult : sy_mok mX8_settleResult false 0 := sy_mokV (sy_inT (sy_i3 (List.mem_of_getElem? (i := 161) rfl)) rfl) sy_ini8 ⟨by decide, by decide, by decide +kernel⟩ (by decide +kernel) (sy_inT (sy_i3 (List.mem_of_getElem? (i := 160) (by decide +kernel))) rfl) (sy_inP (List.mem_of_getElem? (i := 18) (by decide +kernel)) rfl) rfl
def mX8_startAtNought : sy_M := (yX8_startAtNought, cX8_startAtNought, 1, none, 8, 3, 75)
theorem kX8_startAtNought : sy_mok mX8_startAtNought false 0 := sy_mokV (sy_inT (sy_i3 (List.mem_of_getElem? (i := 149) rfl)) rfl) sy_ini8 ⟨by decide, by decide, by decide +kernel⟩ (by decide +kernel) (sy_inT (sy_i3 (List.mem_of_getElem? (i := 147) (by decide +kernel))) rfl) (sy_inT (sy_i3 (List.mem_of_getElem? (i := 148) (by decide +kernel))) rfl) rfl
def mX9_add : sy_M := (yX9_add, cX9_add, 3, none, 9, 1, 21)
theorem kX9_add : sy_mok mX9_add false 1 := sy_mokV (sy_inT (sy_i4 (List.mem_of_getElem? (i := 111) rfl)) rfl) sy_ini9 ⟨by decide, by decide, by decide +kernel⟩ (by decide +kernel) (sy_inT (sy_i4 (List.mem_of_getElem? (i := 109) (by decide +kernel))) rfl) (sy_inT (sy_i4 (List.mem_of_getElem? (i := 110) (by decide +kernel))) rfl) rfl
def mX9_clear : sy_M := (yX9_clear, cX9_clear, 1, none, 9, 0, 0)
theorem kX9_clear : sy_mok mX9_clear false 0 := sy_mokV (sy_inT (sy_i4 (List.mem_of_getElem? (i := 103) rfl)) rfl) sy_ini9 ⟨by decide, by decide, by decide +kernel⟩ (by decide +kernel) (sy_inT (sy_i4 (List.mem_of_getElem? (i := 101) (by decide +kernel))) rfl) (sy_inT (sy_i4 (List.mem_of_getElem? (i := 102) (by decide +kernel))) rfl) rfl
def mX9_greatest : sy_M := (yX9_greatest, cX9_greatest, 1, (some .int), 9, 0, 0)
theorem kX9_greatest : sy_mok mX9_greatest false 0 := sy_mokV (sy_inT (sy_i4 (List.mem_of_getElem? (i := 122) rfl)) rfl) sy_ini9 ⟨by decide, by decide, by decide +kernel⟩ (by decide +kernel) (sy_inT (sy_i4 (List.mem_of_getElem? (i := 120) (by decide +kernel))) rfl) (sy_inT (sy_i4 (List.mem_of_getElem? (i := 121) (by decide +kernel))) rfl) rfl
def mX9_init : sy_M := (yX9_init, cX9_init, 1, none, 9, 1, 20)
def mX9_oftenAt : sy_M := (yX9_oftenAt, cX9_oftenAt, 2, (some .int), 9, 0, 0)
theorem kX9_oftenAt : sy_mok mX9_oftenAt false 1 := sy_mokV (sy_inT (sy_i4 (List.mem_of_getElem? (i := 134) rfl)) rfl) sy_ini9 ⟨by decide, by decide, by decide +kernel⟩ (by decide +kernel) (sy_inT (sy_i4 (List.mem_of_getElem? (i := 132) (by decide +kernel))) rfl) (sy_inT (sy_i4 (List.mem_of_getElem? (i := 133) (by decide +kernel))) rfl) rfl
def mX9_sizeAt : sy_M := (yX9_sizeAt, cX9_sizeAt, 2, (some .int), 9, 0, 0)
theorem kX9_sizeAt : sy_mok mX9_sizeAt false 1 := sy_mokV (sy_inT (sy_i4 (List.mem_of_getElem? (i := 130) rfl)) rfl) sy_ini9 ⟨by decide, by decide, by decide +kernel⟩ (by decide +kernel) (sy_inT (sy_i4 (List.mem_of_getElem? (i := 128) (by decide +kernel))) rfl) (sy_inT (sy_i4 (List.mem_of_getElem? (i := 129) (by decide +kernel))) rfl) rfl
def mX9_together : sy_M := (yX9_together, cX9_together, 1, (some .int), 9, 0, 0)
theorem kX9_together : sy_mok mX9_together false 0 := sy_mokV (sy_inT (sy_i4 (List.mem_of_getElem? (i := 118) rfl)) rfl) sy_ini9 ⟨by decide, by decide, by decide +kernel⟩ (by decide +kernel) (sy_inT (sy_i4 (List.mem_of_getElem? (i := 116) (by decide +kernel))) rfl) (sy_inT (sy_i4 (List.mem_of_getElem? (i := 117) (by decide +kernel))) rfl) rfl
def mX9_unlike : sy_M := (yX9_unlike, cX9_unlike, 1, (some .int), 9, 0, 0)
theorem kX9_unlike : sy_mok mX9_unlike false 0 := sy_mokV (sy_inT (sy_i4 (List.mem_of_getElem? (i := 126) rfl)) rfl) sy_ini9 ⟨by decide, by decide, by decide +kernel⟩ (by decide +kernel) (sy_inT (sy_i4 (List.mem_of_getElem? (i := 124) (by decide +kernel))) rfl) (sy_inT (sy_i4 (List.mem_of_getElem? (i := 125) (by decide +kernel))) rfl) rfl
def mX10_accept : sy_M := (yX10_accept, cX10_accept, 3, (some .int), 10, 2, 40)
theorem kX10_accept : sy_mok mX10_accept false 1 := sy_mokV (sy_inT (sy_i2 (List.mem_of_getElem? (i := 196) rfl)) rfl) sy_ini10 ⟨by decide, by decide, by decide +kernel⟩ (by decide +kernel) (sy_inT (sy_i2 (List.mem_of_getElem? (i := 195) (by decide +kernel))) rfl) (sy_inP (List.mem_of_getElem? (i := 4) (by decide +kernel)) rfl) rfl
def mX10_acceptSlash : sy_M := (yX10_acceptSlash, cX10_acceptSlash, 1, (some .int), 10, 1, 20)
theorem kX10_acceptSlash : sy_mok mX10_acceptSlash false 0 := sy_mokV (sy_inT (sy_i2 (List.mem_of_getElem? (i := 200) rfl)) rfl) sy_ini10 ⟨by decide, by decide, by decide +kernel⟩ (by decide +kernel) (sy_inT (sy_i2 (List.mem_of_getElem? (i := 199) (by decide +kernel))) rfl) (sy_inP (List.mem_of_getElem? (i := 5) (by decide +kernel)) rfl) rfl
def mX10_append : sy_M := (yX10_append, cX10_append, 2, (some .int), 10, 0, 0)
theorem kX10_append : sy_mok mX10_append false 1 := sy_mokV (sy_inT (sy_i2 (List.mem_of_getElem? (i := 184) rfl)) rfl) sy_ini10 ⟨by decide, by decide, by decide +kernel⟩ (by decide +kernel) (sy_inT (sy_i2 (List.mem_of_getElem? (i := 182) (by decide +kernel))) rfl) (sy_inT (sy_i2 (List.mem_of_getElem? (i := 183) (by decide +kernel))) rfl) rfl
def mX10_closeRow : sy_M := (yX10_closeRow, cX10_closeRow, 1, none, 10, 0, 0)
theorem kX10_closeRow : sy_mok mX10_closeRow false 0 := sy_mokV (sy_inT (sy_i2 (List.mem_of_getElem? (i := 208) rfl)) rfl) sy_ini10 ⟨by decide, by decide, by decide +kernel⟩ (by decide +kernel) (sy_inT (sy_i2 (List.mem_of_getElem? (i := 207) (by decide +kernel))) rfl) (sy_inP (List.mem_of_getElem? (i := 7) (by decide +kernel)) rfl) rfl
def mX10_codeAt : sy_M := (yX10_codeAt, cX10_codeAt, 2, (some .int), 10, 0, 0)
theorem kX10_codeAt : sy_mok mX10_codeAt false 1 := sy_mokV (sy_inT (sy_i3 (List.mem_of_getElem? (i := 4) rfl)) rfl) sy_ini10 ⟨by decide, by decide, by decide +kernel⟩ (by decide +kernel) (sy_inT (sy_i3 (List.mem_of_getElem? (i := 2) (by decide +kernel))) rfl) (sy_inT (sy_i3 (List.mem_of_getElem? (i := 3) (by decide +kernel))) rfl) rfl
def mX10_codeCount : sy_M := (yX10_codeCount, cX10_codeCount, 1, (some .int), 10, 0, 0)
theorem kX10_codeCount : sy_mok mX10_codeCount false 0 := sy_mokV (sy_inT (sy_i4 (List.mem_of_getElem? (i := 223) rfl)) rfl) sy_ini10 ⟨by decide, by decide, by decide +kernel⟩ (by decide +kernel) (sy_inT (sy_i4 (List.mem_of_getElem? (i := 221) (by decide +kernel))) rfl) (sy_inT (sy_i4 (List.mem_of_getElem? (i := 222) (by decide +kernel))) rfl) rfl
def mX10_columnCount : sy_M := (yX10_columnCount, cX10_columnCount, 1, (some .int), 10, 0, 0)
theorem kX10_columnCount : sy_mok mX10_columnCount false 0 := sy_mokV (sy_inT (sy_i2 (List.mem_of_getElem? (i := 228) rfl)) rfl) sy_ini10 ⟨by decide, by decide, by decide +kernel⟩ (by decide +kernel) (sy_inT (sy_i2 (List.mem_of_getElem? (i := 226) (by decide +kernel))) rfl) (sy_inT (sy_i2 (List.mem_of_getElem? (i := 227) (by decide +kernel))) rfl) rfl
def mX10_init : sy_M := (yX10_init, cX10_init, 1, none, 10, 1, 20)
def mX10_isFull : sy_M := (yX10_isFull, cX10_isFull, 1, (some .boolean), 10, 0, 0)
theorem kX10_isFull : sy_mok mX10_isFull false 0 := sy_mokV (sy_inT (sy_i2 (List.mem_of_getElem? (i := 180) rfl)) rfl) sy_ini10 ⟨by decide, by decide, by decide +kernel⟩ (by decide +kernel) (sy_inT (sy_i2 (List.mem_of_getElem? (i := 178) (by decide +kernel))) rfl) (sy_inT (sy_i2 (List.mem_of_getElem? (i := 179) (by decide +kernel))) rfl) rfl
def mX10_isRowWhole : sy_M := (yX10_isRowWhole, cX10_isRowWhole, 1, (some .boolean), 10, 0, 0)
theorem kX10_isRowWhole : sy_mok mX10_isRowWhole false 0 := sy_mokV (sy_inT (sy_i2 (List.mem_of_getElem? (i := 204) rfl)) rfl) sy_ini10 ⟨by decide, by decide, by decide +kernel⟩ (by decide +kernel) (sy_inT (sy_i2 (List.mem_of_getElem? (i := 203) (by decide +kernel))) rfl) (sy_inP (List.mem_of_getElem? (i := 6) (by decide +kernel)) rfl) rfl
def mX10_length : sy_M := (yX10_length, cX10_length, 1, (some .int), 10, 0, 0)
theorem kX10_length : sy_mok mX10_length false 0 := sy_mokV (sy_inT (sy_i4 (List.mem_of_getElem? (i := 219) rfl)) rfl) sy_ini10 ⟨by decide, by decide, by decide +kernel⟩ (by decide +kernel) (sy_inT (sy_i4 (List.mem_of_getElem? (i := 217) (by decide +kernel))) rfl) (sy_inT (sy_i4 (List.mem_of_getElem? (i := 218) (by decide +kernel))) rfl) rfl
def mX10_mostInRow : sy_M := (yX10_mostInRow, cX10_mostInRow, 1, (some .int), 10, 0, 0)
theorem kX10_mostInRow : sy_mok mX10_mostInRow false 0 := sy_mokV (sy_inT (sy_i2 (List.mem_of_getElem? (i := 212) rfl)) rfl) sy_ini10 ⟨by decide, by decide, by decide +kernel⟩ (by decide +kernel) (sy_inT (sy_i2 (List.mem_of_getElem? (i := 211) (by decide +kernel))) rfl) (sy_inP (List.mem_of_getElem? (i := 8) (by decide +kernel)) rfl) rfl
def mX10_parse : sy_M := (yX10_parse, cX10_parse, 3, (some .int), 10, 3, 62)
theorem kX10_parse : sy_mok mX10_parse false 0 := sy_mokV (sy_inT (sy_i2 (List.mem_of_getElem? (i := 192) rfl)) rfl) sy_ini10 ⟨by decide, by decide, by decide +kernel⟩ (by decide +kernel) (sy_inT (sy_i2 (List.mem_of_getElem? (i := 190) (by decide +kernel))) rfl) (sy_inT (sy_i2 (List.mem_of_getElem? (i := 191) (by decide +kernel))) rfl) rfl
def mX10_refuse : sy_M := (yX10_refuse, cX10_refuse, 3, (some .int), 10, 0, 0)
theorem kX10_refuse : sy_mok mX10_refuse false 2 := sy_mokV (sy_inT (sy_i2 (List.mem_of_getElem? (i := 216) rfl)) rfl) sy_ini10 ⟨by decide, by decide, by decide +kernel⟩ (by decide +kernel) (sy_inT (sy_i2 (List.mem_of_getElem? (i := 215) (by decide +kernel))) rfl) (sy_inP (List.mem_of_getElem? (i := 9) (by decide +kernel)) rfl) rfl
def mX10_rewind : sy_M := (yX10_rewind, cX10_rewind, 1, none, 10, 0, 0)
theorem kX10_rewind : sy_mok mX10_rewind false 0 := sy_mokV (sy_inT (sy_i2 (List.mem_of_getElem? (i := 220) rfl)) rfl) sy_ini10 ⟨by decide, by decide, by decide +kernel⟩ (by decide +kernel) (sy_inT (sy_i2 (List.mem_of_getElem? (i := 218) (by decide +kernel))) rfl) (sy_inT (sy_i2 (List.mem_of_getElem? (i := 219) (by decide +kernel))) rfl) rfl
def mX10_rowCount : sy_M := (yX10_rowCount, cX10_rowCount, 1, (some .int), 10, 0, 0)
theorem kX10_rowCount : sy_mok mX10_rowCount false 0 := sy_mokV (sy_inT (sy_i2 (List.mem_of_getElem? (i := 224) rfl)) rfl) sy_ini10 ⟨by decide, by decide, by decide +kernel⟩ (by decide +kernel) (sy_inT (sy_i2 (List.mem_of_getElem? (i := 222) (by decide +kernel))) rfl) (sy_inT (sy_i2 (List.mem_of_getElem? (i := 223) (by decide +kernel))) rfl) rfl
def mX10_valueAt : sy_M := (yX10_valueAt, cX10_valueAt, 2, (some .int), 10, 0, 0)
theorem kX10_valueAt : sy_mok mX10_valueAt false 1 := sy_mokV (sy_inT (sy_i2 (List.mem_of_getElem? (i := 232) rfl)) rfl) sy_ini10 ⟨by decide, by decide, by decide +kernel⟩ (by decide +kernel) (sy_inT (sy_i2 (List.mem_of_getElem? (i := 230) (by decide +kernel))) rfl) (sy_inT (sy_i2 (List.mem_of_getElem? (i := 231) (by decide +kernel))) rfl) rfl
def mX11_again : sy_M := (yX11_again, cX11_again, 6, (some .int), 11, 2, 54)
theorem kX11_again : sy_mok mX11_again false 2 := sy_mokV (sy_inT (sy_i4 (List.mem_of_getElem? (i := 62) rfl)) rfl) sy_ini11 ⟨by decide, by decide, by decide +kernel⟩ (by decide +kernel) (sy_inT (sy_i4 (List.mem_of_getElem? (i := 60) (by decide +kernel))) rfl) (sy_inT (sy_i4 (List.mem_of_getElem? (i := 61) (by decide +kernel))) rfl) rfl
def mX11_alike : sy_M := (yX11_alike, cX11_alike, 3, (some .boolean), 11, 0, 0)
theorem kX11_alike : sy_mok mX11_alike true 2 := sy_mokS (sy_inT (sy_i3 (List.mem_of_getElem? (i := 206) rfl)) rfl) sy_ini11 ⟨by decide, by decide, by decide +kernel⟩ (by decide +kernel) (sy_inT (sy_i3 (List.mem_of_getElem? (i := 205) (by decide +kernel))) rfl) rfl
def mX11_avalanche : sy_M := (yX11_avalanche, cX11_avalanche, 4, (some .int), 11, 3, 67)
theorem kX11_avalanche : sy_mok mX11_avalanche false 2 := sy_mokV (sy_inT (sy_i4 (List.mem_of_getElem? (i := 46) rfl)) rfl) sy_ini11 ⟨by decide, by decide, by decide +kernel⟩ (by decide +kernel) (sy_inT (sy_i4 (List.mem_of_getElem? (i := 44) (by decide +kernel))) rfl) (sy_inT (sy_i4 (List.mem_of_getElem? (i := 45) (by decide +kernel))) rfl) rfl
def mX11_burn : sy_M := (yX11_burn, cX11_burn, 6, (some .int), 11, 4, 94)
theorem kX11_burn : sy_mok mX11_burn false 2 := sy_mokV (sy_inT (sy_i4 (List.mem_of_getElem? (i := 8) rfl)) rfl) sy_ini11 ⟨by decide, by decide, by decide +kernel⟩ (by decide +kernel) (sy_inT (sy_i4 (List.mem_of_getElem? (i := 6) (by decide +kernel))) rfl) (sy_inT (sy_i4 (List.mem_of_getElem? (i := 7) (by decide +kernel))) rfl) rfl
def mX11_common : sy_M := (yX11_common, cX11_common, 7, (some .int), 11, 4, 87)
theorem kX11_common : sy_mok mX11_common false 2 := sy_mokV (sy_inT (sy_i3 (List.mem_of_getElem? (i := 101) rfl)) rfl) sy_ini11 ⟨by decide, by decide, by decide +kernel⟩ (by decide +kernel) (sy_inT (sy_i3 (List.mem_of_getElem? (i := 99) (by decide +kernel))) rfl) (sy_inT (sy_i3 (List.mem_of_getElem? (i := 100) (by decide +kernel))) rfl) rfl
def mX11_count : sy_M := (yX11_count, cX11_count, 2, (some .int), 11, 1, 23)
theorem kX11_count : sy_mok mX11_count false 1 := sy_mokV (sy_inT (sy_i4 (List.mem_of_getElem? (i := 207) rfl)) rfl) sy_ini11 ⟨by decide, by decide, by decide +kernel⟩ (by decide +kernel) (sy_inT (sy_i4 (List.mem_of_getElem? (i := 205) (by decide +kernel))) rfl) (sy_inT (sy_i4 (List.mem_of_getElem? (i := 206) (by decide +kernel))) rfl) rfl
def mX11_drop : sy_M := (yX11_drop, cX11_drop, 3, (some .int), 11, 2, 48)
theorem kX11_drop : sy_mok mX11_drop false 2 := sy_mokV (sy_inT (sy_i2 (List.mem_of_getElem? (i := 140) rfl)) rfl) sy_ini11 ⟨by decide, by decide, by decide +kernel⟩ (by decide +kernel) (sy_inT (sy_i2 (List.mem_of_getElem? (i := 138) (by decide +kernel))) rfl) (sy_inT (sy_i2 (List.mem_of_getElem? (i := 139) (by decide +kernel))) rfl) rfl
def mX11_feed : sy_M := (yX11_feed, cX11_feed, 2, (some .int), 11, 1, 21)
theorem kX11_feed : sy_mok mX11_feed false 1 := sy_mokV (sy_inT (sy_i2 (List.mem_of_getElem? (i := 176) rfl)) rfl) sy_ini11 ⟨by decide, by decide, by decide +kernel⟩ (by decide +kernel) (sy_inT (sy_i2 (List.mem_of_getElem? (i := 174) (by decide +kernel))) rfl) (sy_inT (sy_i2 (List.mem_of_getElem? (i := 175) (by decide +kernel))) rfl) rfl
def mX11_film : sy_M := (yX11_film, cX11_film, 5, (some .int), 11, 2, 54)
theorem kX11_film : sy_mok mX11_film false 1 := sy_mokV (sy_inT (sy_i4 (List.mem_of_getElem? (i := 166) rfl)) rfl) sy_ini11 ⟨by decide, by decide, by decide +kernel⟩ (by decide +kernel) (sy_inT (sy_i4 (List.mem_of_getElem? (i := 164) (by decide +kernel))) rfl) (sy_inT (sy_i4 (List.mem_of_getElem? (i := 165) (by decide +kernel))) rfl) rfl
def mX11_firstUnsteady : sy_M := (yX11_firstUnsteady, cX11_firstUnsteady, 6, (some .int), 11, 1, 22)
theorem kX11_firstUnsteady : sy_mok mX11_firstUnsteady false 1 := sy_mokV (sy_inT (sy_i4 (List.mem_of_getElem? (i := 159) rfl)) rfl) sy_ini11 ⟨by decide, by decide, by decide +kernel⟩ (by decide +kernel) (sy_inT (sy_i4 (List.mem_of_getElem? (i := 158) (by decide +kernel))) rfl) (sy_inP (List.mem_of_getElem? (i := 27) (by decide +kernel)) rfl) rfl
def mX11_firstUntold : sy_M := (yX11_firstUntold, cX11_firstUntold, 4, (some .int), 11, 1, 20)
theorem kX11_firstUntold : sy_mok mX11_firstUntold false 2 := sy_mokV (sy_inT (sy_i4 (List.mem_of_getElem? (i := 155) rfl)) rfl) sy_ini11 ⟨by decide, by decide, by decide +kernel⟩ (by decide +kernel) (sy_inT (sy_i4 (List.mem_of_getElem? (i := 154) (by decide +kernel))) rfl) (sy_inP (List.mem_of_getElem? (i := 26) (by decide +kernel)) rfl) rfl
def mX11_forgetPilesAndChanges : sy_M := (yX11_forgetPilesAndChanges, cX11_forgetPilesAndChanges, 1, none, 11, 2, 47)
theorem kX11_forgetPilesAndChanges : sy_mok mX11_forgetPilesAndChanges false 0 := sy_mokV (sy_inT (sy_i2 (List.mem_of_getElem? (i := 99) rfl)) rfl) sy_ini11 ⟨by decide, by decide, by decide +kernel⟩ (by decide +kernel) (sy_inT (sy_i2 (List.mem_of_getElem? (i := 98) (by decide +kernel))) rfl) (sy_inP (List.mem_of_getElem? (i := 3) (by decide +kernel)) rfl) rfl
def mX11_get : sy_M := (yX11_get, cX11_get, 3, (some .long), 11, 1, 21)
theorem kX11_get : sy_mok mX11_get false 2 := sy_mokV (sy_inT (sy_i4 (List.mem_of_getElem? (i := 178) rfl)) rfl) sy_ini11 ⟨by decide, by decide, by decide +kernel⟩ (by decide +kernel) (sy_inT (sy_i4 (List.mem_of_getElem? (i := 176) (by decide +kernel))) rfl) (sy_inT (sy_i4 (List.mem_of_getElem? (i := 177) (by decide +kernel))) rfl) rfl
def mX11_group : sy_M := (yX11_group, cX11_group, 1, (some .long), 11, 3, 74)
theorem kX11_group : sy_mok mX11_group false 0 := sy_mokV (sy_inT (sy_i3 (List.mem_of_getElem? (i := 219) rfl)) rfl) sy_ini11 ⟨by decide, by decide, by decide +kernel⟩ (by decide +kernel) (sy_inT (sy_i3 (List.mem_of_getElem? (i := 217) (by decide +kernel))) rfl) (sy_inT (sy_i3 (List.mem_of_getElem? (i := 218) (by decide +kernel))) rfl) rfl
def mX11_height : sy_M := (yX11_height, cX11_height, 2, (some .int), 11, 2, 42)
theorem kX11_height : sy_mok mX11_height false 1 := sy_mokV (sy_inT (sy_i2 (List.mem_of_getElem? (i := 136) rfl)) rfl) sy_ini11 ⟨by decide, by decide, by decide +kernel⟩ (by decide +kernel) (sy_inT (sy_i2 (List.mem_of_getElem? (i := 134) (by decide +kernel))) rfl) (sy_inT (sy_i2 (List.mem_of_getElem? (i := 135) (by decide +kernel))) rfl) rfl
def mX11_holdResult : sy_M := (yX11_holdResult, cX11_holdResult, 3, (some .int), 11, 2, 47)
theorem kX11_holdResult : sy_mok mX11_holdResult false 1 := sy_mokV (sy_inT (sy_i3 (List.mem_of_getElem? (i := 171) rfl)) rfl) sy_ini11 ⟨by decide, by decide, by decide +kernel⟩ (by decide +kernel) (sy_inT (sy_i3 (List.mem_of_getElem? (i := 170) (by decide +kernel))) rfl) (sy_inP (List.mem_of_getElem? (i := 19) (by decide +kernel)) rfl) rfl
def mX11_init : sy_M := (yX11_init, cX11_init, 1, none, 11, 5, 112)
def mX11_isOrder : sy_M := (yX11_isOrder, cX11_isOrder, 1, (some .boolean), 11, 0, 0)
theorem kX11_isOrder : sy_mok mX11_isOrder true 1 := sy_mokS (sy_inT (sy_i3 (List.mem_of_getElem? (i := 56) rfl)) rfl) sy_ini11 ⟨by decide, by decide, by decide +kernel⟩ (by decide +kernel) (sy_inT (sy_i3 (List.mem_of_getElem? (i := 55) (by decide +kernel))) rfl) rfl
def mX11_judge : sy_M := (yX11_judge, cX11_judge, 4, (some .int), 11, 3, 63)
theorem kX11_judge : sy_mok mX11_judge false 1 := sy_mokV (sy_inT (sy_i4 (List.mem_of_getElem? (i := 138) rfl)) rfl) sy_ini11 ⟨by decide, by decide, by decide +kernel⟩ (by decide +kernel) (sy_inT (sy_i4 (List.mem_of_getElem? (i := 136) (by decide +kernel))) rfl) (sy_inT (sy_i4 (List.mem_of_getElem? (i := 137) (by decide +kernel))) rfl) rfl
def mX11_keep : sy_M := (yX11_keep, cX11_keep, 3, (some .int), 11, 2, 54)
theorem kX11_keep : sy_mok mX11_keep false 1 := sy_mokV (sy_inT (sy_i3 (List.mem_of_getElem? (i := 105) rfl)) rfl) sy_ini11 ⟨by decide, by decide, by decide +kernel⟩ (by decide +kernel) (sy_inT (sy_i3 (List.mem_of_getElem? (i := 103) (by decide +kernel))) rfl) (sy_inT (sy_i3 (List.mem_of_getElem? (i := 104) (by decide +kernel))) rfl) rfl
def mX11_lay : sy_M := (yX11_lay, cX11_lay, 3, none, 11, 4, 90)
theorem kX11_lay : sy_mok mX11_lay false 2 := sy_mokV (sy_inT (sy_i2 (List.mem_of_getElem? (i := 236) rfl)) rfl) sy_ini11 ⟨by decide, by decide, by decide +kernel⟩ (by decide +kernel) (sy_inT (sy_i2 (List.mem_of_getElem? (i := 235) (by decide +kernel))) rfl) (sy_inP (List.mem_of_getElem? (i := 10) (by decide +kernel)) rfl) rfl
def mX11_list : sy_M := (yX11_list, cX11_list, 3, (some .int), 11, 1, 23)
theorem kX11_list : sy_mok mX11_list false 2 := sy_mokV (sy_inT (sy_i4 (List.mem_of_getElem? (i := 170) rfl)) rfl) sy_ini11 ⟨by decide, by decide, by decide +kernel⟩ (by decide +kernel) (sy_inT (sy_i4 (List.mem_of_getElem? (i := 168) (by decide +kernel))) rfl) (sy_inT (sy_i4 (List.mem_of_getElem? (i := 169) (by decide +kernel))) rfl) rfl
def mX11_load : sy_M := (yX11_load, cX11_load, 2, (some .int), 11, 2, 48)
theorem kX11_load : sy_mok mX11_load false 1 := sy_mokV (sy_inT (sy_i3 (List.mem_of_getElem? (i := 117) rfl)) rfl) sy_ini11 ⟨by decide, by decide, by decide +kernel⟩ (by decide +kernel) (sy_inT (sy_i3 (List.mem_of_getElem? (i := 115) (by decide +kernel))) rfl) (sy_inT (sy_i3 (List.mem_of_getElem? (i := 116) (by decide +kernel))) rfl) rfl
def mX11_lots : sy_M := (yX11_lots, cX11_lots, 4, (some .int), 11, 3, 80)
theorem kX11_lots : sy_mok mX11_lots false 3 := sy_mokV (sy_inT (sy_i4 (List.mem_of_getElem? (i := 91) rfl)) rfl) sy_ini11 ⟨by decide, by decide, by decide +kernel⟩ (by decide +kernel) (sy_inT (sy_i4 (List.mem_of_getElem? (i := 89) (by decide +kernel))) rfl) (sy_inT (sy_i4 (List.mem_of_getElem? (i := 90) (by decide +kernel))) rfl) rfl
def mX11_nought : sy_M := (yX11_nought, cX11_nought, 2, (some .int), 11, 4, 95)
theorem kX11_nought : sy_mok mX11_nought false 1 := sy_mokV (sy_inT (sy_i3 (List.mem_of_getElem? (i := 145) rfl)) rfl) sy_ini11 ⟨by decide, by decide, by decide +kernel⟩ (by decide +kernel) (sy_inT (sy_i3 (List.mem_of_getElem? (i := 143) (by decide +kernel))) rfl) (sy_inT (sy_i3 (List.mem_of_getElem? (i := 144) (by decide +kernel))) rfl) rfl
def mX11_one : sy_M := (yX11_one, cX11_one, 3, (some .int), 11, 5, 122)
theorem kX11_one : sy_mok mX11_one false 2 := sy_mokV (sy_inT (sy_i3 (List.mem_of_getElem? (i := 210) rfl)) rfl) sy_ini11 ⟨by decide, by decide, by decide +kernel⟩ (by decide +kernel) (sy_inT (sy_i3 (List.mem_of_getElem? (i := 208) (by decide +kernel))) rfl) (sy_inT (sy_i3 (List.mem_of_getElem? (i := 209) (by decide +kernel))) rfl) rfl
def mX11_opposite : sy_M := (yX11_opposite, cX11_opposite, 3, (some .int), 11, 5, 117)
theorem kX11_opposite : sy_mok mX11_opposite false 2 := sy_mokV (sy_inT (sy_i3 (List.mem_of_getElem? (i := 191) rfl)) rfl) sy_ini11 ⟨by decide, by decide, by decide +kernel⟩ (by decide +kernel) (sy_inT (sy_i3 (List.mem_of_getElem? (i := 189) (by decide +kernel))) rfl) (sy_inT (sy_i3 (List.mem_of_getElem? (i := 190) (by decide +kernel))) rfl) rfl
def mX11_order : sy_M := (yX11_order, cX11_order, 3, (some .int), 11, 5, 123)
theorem kX11_order : sy_mok mX11_order false 1 := sy_mokV (sy_inT (sy_i3 (List.mem_of_getElem? (i := 199) rfl)) rfl) sy_ini11 ⟨by decide, by decide, by decide +kernel⟩ (by decide +kernel) (sy_inT (sy_i3 (List.mem_of_getElem? (i := 197) (by decide +kernel))) rfl) (sy_inT (sy_i3 (List.mem_of_getElem? (i := 198) (by decide +kernel))) rfl) rfl
def mX11_pile : sy_M := (yX11_pile, cX11_pile, 3, (some .int), 11, 2, 42)
theorem kX11_pile : sy_mok mX11_pile false 2 := sy_mokV (sy_inT (sy_i3 (List.mem_of_getElem? (i := 131) rfl)) rfl) sy_ini11 ⟨by decide, by decide, by decide +kernel⟩ (by decide +kernel) (sy_inT (sy_i3 (List.mem_of_getElem? (i := 129) (by decide +kernel))) rfl) (sy_inT (sy_i3 (List.mem_of_getElem? (i := 130) (by decide +kernel))) rfl) rfl
def mX11_put : sy_M := (yX11_put, cX11_put, 4, (some .int), 11, 1, 21)
theorem kX11_put : sy_mok mX11_put false 3 := sy_mokV (sy_inT (sy_i4 (List.mem_of_getElem? (i := 174) rfl)) rfl) sy_ini11 ⟨by decide, by decide, by decide +kernel⟩ (by decide +kernel) (sy_inT (sy_i4 (List.mem_of_getElem? (i := 172) (by decide +kernel))) rfl) (sy_inT (sy_i4 (List.mem_of_getElem? (i := 173) (by decide +kernel))) rfl) rfl
def mX11_read : sy_M := (yX11_read, cX11_read, 3, (some .int), 11, 5, 112)
theorem kX11_read : sy_mok mX11_read false 0 := sy_mokV (sy_inT (sy_i2 (List.mem_of_getElem? (i := 188) rfl)) rfl) sy_ini11 ⟨by decide, by decide, by decide +kernel⟩ (by decide +kernel) (sy_inT (sy_i2 (List.mem_of_getElem? (i := 186) (by decide +kernel))) rfl) (sy_inT (sy_i2 (List.mem_of_getElem? (i := 187) (by decide +kernel))) rfl) rfl
def mX11_redo : sy_M := (yX11_redo, cX11_redo, 1, (some .int), 11, 2, 47)
theorem kX11_redo : sy_mok mX11_redo false 0 := sy_mokV (sy_inT (sy_i4 (List.mem_of_getElem? (i := 195) rfl)) rfl) sy_ini11 ⟨by decide, by decide, by decide +kernel⟩ (by decide +kernel) (sy_inT (sy_i4 (List.mem_of_getElem? (i := 193) (by decide +kernel))) rfl) (sy_inT (sy_i4 (List.mem_of_getElem? (i := 194) (by decide +kernel))) rfl) rfl
def mX11_scatter : sy_M := (yX11_scatter, cX11_scatter, 7, none, 11, 2, 54)
theorem kX11_scatter : sy_mok mX11_scatter false 2 := sy_mokV (sy_inT (sy_i4 (List.mem_of_getElem? (i := 95) rfl)) rfl) sy_ini11 ⟨by decide, by decide, by decide +kernel⟩ (by decide +kernel) (sy_inT (sy_i4 (List.mem_of_getElem? (i := 94) (by decide +kernel))) rfl) (sy_inP (List.mem_of_getElem? (i := 25) (by decide +kernel)) rfl) rfl
def mX11_set : sy_M := (yX11_set, cX11_set, 4, (some .int), 11, 2, 48)
theorem kX11_set : sy_mok mX11_set false 2 := sy_mokV (sy_inT (sy_i2 (List.mem_of_getElem? (i := 128) rfl)) rfl) sy_ini11 ⟨by decide, by decide, by decide +kernel⟩ (by decide +kernel) (sy_inT (sy_i2 (List.mem_of_getElem? (i := 126) (by decide +kernel))) rfl) (sy_inT (sy_i2 (List.mem_of_getElem? (i := 127) (by decide +kernel))) rfl) rfl
def mX11_settle : sy_M := (yX11_settle, cX11_settle, 2, (some .int), 11, 2, 54)
theorem kX11_settle : sy_mok mX11_settle false 0 := sy_mokV (sy_inT (sy_i2 (List.mem_of_getElem? (i := 156) rfl)) rfl) sy_ini11 ⟨by decide, by decide, by decide +kernel⟩ (by decide +kernel) (sy_inT (sy_i2 (List.mem_of_getElem? (i := 154) (by decide +kernel))) rfl) (sy_inT (sy_i2 (List.mem_of_getElem? (i := 155) (by decide +kernel))) rfl) rfl
def mX11_settled : sy_M := (yX11_settled, cX11_settled, 5, (some .int), 11, 3, 67)
theorem kX11_settled : sy_mok mX11_settled false 1 := sy_mokV (sy_inT (sy_i3 (List.mem_of_getElem? (i := 8) rfl)) rfl) sy_ini11 ⟨by decide, by decide, by decide +kernel⟩ (by decide +kernel) (sy_inT (sy_i3 (List.mem_of_getElem? (i := 6) (by decide +kernel))) rfl) (sy_inT (sy_i3 (List.mem_of_getElem? (i := 7) (by decide +kernel))) rfl) rfl
def mX11_size : sy_M := (yX11_size, cX11_size, 4, (some .int), 11, 4, 90)
theorem kX11_size : sy_mok mX11_size false 2 := sy_mokV (sy_inT (sy_i2 (List.mem_of_getElem? (i := 89) rfl)) rfl) sy_ini11 ⟨by decide, by decide, by decide +kernel⟩ (by decide +kernel) (sy_inT (sy_i2 (List.mem_of_getElem? (i := 87) (by decide +kernel))) rfl) (sy_inT (sy_i2 (List.mem_of_getElem? (i := 88) (by decide +kernel))) rfl) rfl
def mX11_steadies : sy_M := (yX11_steadies, cX11_steadies, 4, (some .int), 11, 2, 47)
theorem kX11_steadies : sy_mok mX11_steadies false 1 := sy_mokV (sy_inT (sy_i4 (List.mem_of_getElem? (i := 151) rfl)) rfl) sy_ini11 ⟨by decide, by decide, by decide +kernel⟩ (by decide +kernel) (sy_inT (sy_i4 (List.mem_of_getElem? (i := 149) (by decide +kernel))) rfl) (sy_inT (sy_i4 (List.mem_of_getElem? (i := 150) (by decide +kernel))) rfl) rfl
def mX11_sum : sy_M := (yX11_sum, cX11_sum, 5, (some .int), 11, 3, 77)
theorem kX11_sum : sy_mok mX11_sum false 3 := sy_mokV (sy_inT (sy_i3 (List.mem_of_getElem? (i := 135) rfl)) rfl) sy_ini11 ⟨by decide, by decide, by decide +kernel⟩ (by decide +kernel) (sy_inT (sy_i3 (List.mem_of_getElem? (i := 133) (by decide +kernel))) rfl) (sy_inT (sy_i3 (List.mem_of_getElem? (i := 134) (by decide +kernel))) rfl) rfl
def mX11_through : sy_M := (yX11_through, cX11_through, 4, (some .int), 11, 4, 94)
theorem kX11_through : sy_mok mX11_through false 0 := sy_mokV (sy_inT (sy_i4 (List.mem_of_getElem? (i := 37) rfl)) rfl) sy_ini11 ⟨by decide, by decide, by decide +kernel⟩ (by decide +kernel) (sy_inT (sy_i4 (List.mem_of_getElem? (i := 35) (by decide +kernel))) rfl) (sy_inT (sy_i4 (List.mem_of_getElem? (i := 36) (by decide +kernel))) rfl) rfl
def mX11_times : sy_M := (yX11_times, cX11_times, 4, (some .int), 11, 5, 124)
theorem kX11_times : sy_mok mX11_times false 3 := sy_mokV (sy_inT (sy_i3 (List.mem_of_getElem? (i := 176) rfl)) rfl) sy_ini11 ⟨by decide, by decide, by decide +kernel⟩ (by decide +kernel) (sy_inT (sy_i3 (List.mem_of_getElem? (i := 174) (by decide +kernel))) rfl) (sy_inT (sy_i3 (List.mem_of_getElem? (i := 175) (by decide +kernel))) rfl) rfl
def mX11_topple : sy_M := (yX11_topple, cX11_topple, 2, (some .int), 11, 2, 48)
theorem kX11_topple : sy_mok mX11_topple false 1 := sy_mokV (sy_inT (sy_i2 (List.mem_of_getElem? (i := 144) rfl)) rfl) sy_ini11 ⟨by decide, by decide, by decide +kernel⟩ (by decide +kernel) (sy_inT (sy_i2 (List.mem_of_getElem? (i := 142) (by decide +kernel))) rfl) (sy_inT (sy_i2 (List.mem_of_getElem? (i := 143) (by decide +kernel))) rfl) rfl
def mX11_trace : sy_M := (yX11_trace, cX11_trace, 5, (some .int), 11, 4, 87)
theorem kX11_trace : sy_mok mX11_trace false 2 := sy_mokV (sy_inT (sy_i3 (List.mem_of_getElem? (i := 53) rfl)) rfl) sy_ini11 ⟨by decide, by decide, by decide +kernel⟩ (by decide +kernel) (sy_inT (sy_i3 (List.mem_of_getElem? (i := 51) (by decide +kernel))) rfl) (sy_inT (sy_i3 (List.mem_of_getElem? (i := 52) (by decide +kernel))) rfl) rfl
def mX11_undo : sy_M := (yX11_undo, cX11_undo, 1, (some .int), 11, 2, 47)
theorem kX11_undo : sy_mok mX11_undo false 0 := sy_mokV (sy_inT (sy_i4 (List.mem_of_getElem? (i := 183) rfl)) rfl) sy_ini11 ⟨by decide, by decide, by decide +kernel⟩ (by decide +kernel) (sy_inT (sy_i4 (List.mem_of_getElem? (i := 181) (by decide +kernel))) rfl) (sy_inT (sy_i4 (List.mem_of_getElem? (i := 182) (by decide +kernel))) rfl) rfl
def mX11_wall : sy_M := (yX11_wall, cX11_wall, 4, (some .int), 11, 4, 90)
theorem kX11_wall : sy_mok mX11_wall false 2 := sy_mokV (sy_inT (sy_i2 (List.mem_of_getElem? (i := 111) rfl)) rfl) sy_ini11 ⟨by decide, by decide, by decide +kernel⟩ (by decide +kernel) (sy_inT (sy_i2 (List.mem_of_getElem? (i := 109) (by decide +kernel))) rfl) (sy_inT (sy_i2 (List.mem_of_getElem? (i := 110) (by decide +kernel))) rfl) rfl
def mX11_why : sy_M := (yX11_why, cX11_why, 2, (some .int), 11, 1, 21)
theorem kX11_why : sy_mok mX11_why false 1 := sy_mokV (sy_inT (sy_i3 (List.mem_of_getElem? (i := 0) rfl)) rfl) sy_ini11 ⟨by decide, by decide, by decide +kernel⟩ (by decide +kernel) (sy_inT (sy_i2 (List.mem_of_getElem? (i := 238) (by decide +kernel))) rfl) (sy_inT (sy_i2 (List.mem_of_getElem? (i := 239) (by decide +kernel))) rfl) rfl
def mX12_addsTo : sy_M := (yX12_addsTo, cX12_addsTo, 4, (some .int), 12, 3, 67)
theorem kX12_addsTo : sy_mok mX12_addsTo false 2 := sy_mokV (sy_inT (sy_i6 (List.mem_of_getElem? (i := 87) rfl)) rfl) sy_ini12 ⟨by decide, by decide, by decide +kernel⟩ (by decide +kernel) (sy_inT (sy_i6 (List.mem_of_getElem? (i := 86) (by decide +kernel))) rfl) (sy_inP (List.mem_of_getElem? (i := 56) (by decide +kernel)) rfl) rfl
def mX12_again : sy_M := (yX12_again, cX12_again, 6, (some .int), 12, 3, 67)
theorem kX12_again : sy_mok mX12_again false 2 := sy_mokV (sy_inT (sy_i6 (List.mem_of_getElem? (i := 157) rfl)) rfl) sy_ini12 ⟨by decide, by decide, by decide +kernel⟩ (by decide +kernel) (sy_inT (sy_i6 (List.mem_of_getElem? (i := 155) (by decide +kernel))) rfl) (sy_inT (sy_i6 (List.mem_of_getElem? (i := 156) (by decide +kernel))) rfl) rfl
def mX12_ahead : sy_M := (yX12_ahead, cX12_ahead, 3, (some .int), 12, 0, 0)
theorem kX12_ahead : sy_mok mX12_ahead false 1 := sy_mokV (sy_inT (sy_i6 (List.mem_of_getElem? (i := 165) rfl)) rfl) sy_ini12 ⟨by decide, by decide, by decide +kernel⟩ (by decide +kernel) (sy_inT (sy_i6 (List.mem_of_getElem? (i := 164) (by decide +kernel))) rfl) (sy_inP (List.mem_of_getElem? (i := 65) (by decide +kernel)) rfl) rfl
def mX12_avalanche : sy_M := (yX12_avalanche, cX12_avalanche, 4, (some .int), 12, 3, 68)
theorem kX12_avalanche : sy_mok mX12_avalanche false 2 := sy_mokV (sy_inT (sy_i6 (List.mem_of_getElem? (i := 153) rfl)) rfl) sy_ini12 ⟨by decide, by decide, by decide +kernel⟩ (by decide +kernel) (sy_inT (sy_i6 (List.mem_of_getElem? (i := 151) (by decide +kernel))) rfl) (sy_inT (sy_i6 (List.mem_of_getElem? (i := 152) (by decide +kernel))) rfl) rfl
def mX12_begins : sy_M := (yX12_begins, cX12_begins, 2, none, 12, 0, 0)
theorem kX12_begins : sy_mok mX12_begins false 0 := sy_mokV (sy_inT (sy_i5 (List.mem_of_getElem? (i := 197) rfl)) rfl) sy_ini12 ⟨by decide, by decide, by decide +kernel⟩ (by decide +kernel) (sy_inT (sy_i5 (List.mem_of_getElem? (i := 196) (by decide +kernel))) rfl) (sy_inP (List.mem_of_getElem? (i := 38) (by decide +kernel)) rfl) rfl
def mX12_beginsOrder : sy_M := (yX12_beginsOrder, cX12_beginsOrder, 3, none, 12, 2, 44)
theorem kX12_beginsOrder : sy_mok mX12_beginsOrder false 1 := sy_mokV (sy_inT (sy_i6 (List.mem_of_getElem? (i := 27) rfl)) rfl) sy_ini12 ⟨by decide, by decide, by decide +kernel⟩ (by decide +kernel) (sy_inT (sy_i6 (List.mem_of_getElem? (i := 26) (by decide +kernel))) rfl) (sy_inP (List.mem_of_getElem? (i := 47) (by decide +kernel)) rfl) rfl
def mX12_burn : sy_M := (yX12_burn, cX12_burn, 4, (some .int), 12, 2, 47)
theorem kX12_burn : sy_mok mX12_burn false 2 := sy_mokV (sy_inT (sy_i6 (List.mem_of_getElem? (i := 129) rfl)) rfl) sy_ini12 ⟨by decide, by decide, by decide +kernel⟩ (by decide +kernel) (sy_inT (sy_i6 (List.mem_of_getElem? (i := 127) (by decide +kernel))) rfl) (sy_inT (sy_i6 (List.mem_of_getElem? (i := 128) (by decide +kernel))) rfl) rfl
def mX12_burns : sy_M := (yX12_burns, cX12_burns, 5, (some .int), 12, 1, 23)
theorem kX12_burns : sy_mok mX12_burns false 1 := sy_mokV (sy_inT (sy_i6 (List.mem_of_getElem? (i := 133) rfl)) rfl) sy_ini12 ⟨by decide, by decide, by decide +kernel⟩ (by decide +kernel) (sy_inT (sy_i6 (List.mem_of_getElem? (i := 132) (by decide +kernel))) rfl) (sy_inP (List.mem_of_getElem? (i := 60) (by decide +kernel)) rfl) rfl
def mX12_cells : sy_M := (yX12_cells, cX12_cells, 1, (some .int), 12, 0, 0)
theorem kX12_cells : sy_mok mX12_cells false 0 := sy_mokV (sy_inT (sy_i4 (List.mem_of_getElem? (i := 237) rfl)) rfl) sy_ini12 ⟨by decide, by decide, by decide +kernel⟩ (by decide +kernel) (sy_inT (sy_i4 (List.mem_of_getElem? (i := 236) (by decide +kernel))) rfl) (sy_inP (List.mem_of_getElem? (i := 29) (by decide +kernel)) rfl) rfl
def mX12_changes : sy_M := (yX12_changes, cX12_changes, 1, none, 12, 1, 21)
theorem kX12_changes : sy_mok mX12_changes false 0 := sy_mokV (sy_inT (sy_i5 (List.mem_of_getElem? (i := 164) rfl)) rfl) sy_ini12 ⟨by decide, by decide, by decide +kernel⟩ (by decide +kernel) (sy_inT (sy_i5 (List.mem_of_getElem? (i := 163) (by decide +kernel))) rfl) (sy_inP (List.mem_of_getElem? (i := 34) (by decide +kernel)) rfl) rfl
def mX12_codeOf : sy_M := (yX12_codeOf, cX12_codeOf, 4, (some .int), 12, 1, 20)
theorem kX12_codeOf : sy_mok mX12_codeOf false 1 := sy_mokV (sy_inT (sy_i6 (List.mem_of_getElem? (i := 161) rfl)) rfl) sy_ini12 ⟨by decide, by decide, by decide +kernel⟩ (by decide +kernel) (sy_inT (sy_i6 (List.mem_of_getElem? (i := 160) (by decide +kernel))) rfl) (sy_inP (List.mem_of_getElem? (i := 64) (by decide +kernel)) rfl) rfl
def mX12_comesBehind : sy_M := (yX12_comesBehind, cX12_comesBehind, 3, none, 12, 1, 22)
theorem kX12_comesBehind : sy_mok mX12_comesBehind false 2 := sy_mokV (sy_inT (sy_i6 (List.mem_of_getElem? (i := 31) rfl)) rfl) sy_ini12 ⟨by decide, by decide, by decide +kernel⟩ (by decide +kernel) (sy_inT (sy_i6 (List.mem_of_getElem? (i := 30) (by decide +kernel))) rfl) (sy_inP (List.mem_of_getElem? (i := 48) (by decide +kernel)) rfl) rfl
def mX12_common : sy_M := (yX12_common, cX12_common, 6, (some .int), 12, 4, 92)
theorem kX12_common : sy_mok mX12_common false 2 := sy_mokV (sy_inT (sy_i6 (List.mem_of_getElem? (i := 51) rfl)) rfl) sy_ini12 ⟨by decide, by decide, by decide +kernel⟩ (by decide +kernel) (sy_inT (sy_i6 (List.mem_of_getElem? (i := 49) (by decide +kernel))) rfl) (sy_inT (sy_i6 (List.mem_of_getElem? (i := 50) (by decide +kernel))) rfl) rfl
def mX12_copies : sy_M := (yX12_copies, cX12_copies, 3, none, 12, 0, 0)
theorem kX12_copies : sy_mok mX12_copies true 2 := sy_mokS (sy_inT (sy_i5 (List.mem_of_getElem? (i := 239) rfl)) rfl) sy_ini12 ⟨by decide, by decide, by decide +kernel⟩ (by decide +kernel) (sy_inT (sy_i5 (List.mem_of_getElem? (i := 238) (by decide +kernel))) rfl) rfl
def mX12_count : sy_M := (yX12_count, cX12_count, 2, (some .int), 12, 2, 43)
theorem kX12_count : sy_mok mX12_count false 1 := sy_mokV (sy_inT (sy_i6 (List.mem_of_getElem? (i := 227) rfl)) rfl) sy_ini12 ⟨by decide, by decide, by decide +kernel⟩ (by decide +kernel) (sy_inT (sy_i6 (List.mem_of_getElem? (i := 225) (by decide +kernel))) rfl) (sy_inT (sy_i6 (List.mem_of_getElem? (i := 226) (by decide +kernel))) rfl) rfl
def mX12_countsSize : sy_M := (yX12_countsSize, cX12_countsSize, 3, none, 12, 0, 0)
theorem kX12_countsSize : sy_mok mX12_countsSize false 1 := sy_mokV (sy_inT (sy_i6 (List.mem_of_getElem? (i := 182) rfl)) rfl) sy_ini12 ⟨by decide, by decide, by decide +kernel⟩ (by decide +kernel) (sy_inT (sy_i6 (List.mem_of_getElem? (i := 181) (by decide +kernel))) rfl) (sy_inP (List.mem_of_getElem? (i := 67) (by decide +kernel)) rfl) rfl
def mX12_drop : sy_M := (yX12_drop, cX12_drop, 3, (some .int), 12, 2, 46)
theorem kX12_drop : sy_mok mX12_drop false 2 := sy_mokV (sy_inT (sy_i5 (List.mem_of_getElem? (i := 172) rfl)) rfl) sy_ini12 ⟨by decide, by decide, by decide +kernel⟩ (by decide +kernel) (sy_inT (sy_i5 (List.mem_of_getElem? (i := 170) (by decide +kernel))) rfl) (sy_inT (sy_i5 (List.mem_of_getElem? (i := 171) (by decide +kernel))) rfl) rfl
def mX12_feed : sy_M := (yX12_feed, cX12_feed, 2, (some .int), 12, 1, 25)
theorem kX12_feed : sy_mok mX12_feed false 1 := sy_mokV (sy_inT (sy_i5 (List.mem_of_getElem? (i := 209) rfl)) rfl) sy_ini12 ⟨by decide, by decide, by decide +kernel⟩ (by decide +kernel) (sy_inT (sy_i5 (List.mem_of_getElem? (i := 207) (by decide +kernel))) rfl) (sy_inT (sy_i5 (List.mem_of_getElem? (i := 208) (by decide +kernel))) rfl) rfl
def mX12_film : sy_M := (yX12_film, cX12_film, 5, (some .int), 12, 3, 67)
theorem kX12_film : sy_mok mX12_film false 1 := sy_mokV (sy_inT (sy_i6 (List.mem_of_getElem? (i := 210) rfl)) rfl) sy_ini12 ⟨by decide, by decide, by decide +kernel⟩ (by decide +kernel) (sy_inT (sy_i6 (List.mem_of_getElem? (i := 208) (by decide +kernel))) rfl) (sy_inT (sy_i6 (List.mem_of_getElem? (i := 209) (by decide +kernel))) rfl) rfl
def mX12_firstUntold : sy_M := (yX12_firstUntold, cX12_firstUntold, 4, (some .int), 12, 1, 25)
theorem kX12_firstUntold : sy_mok mX12_firstUntold false 1 := sy_mokV (sy_inT (sy_i6 (List.mem_of_getElem? (i := 201) rfl)) rfl) sy_ini12 ⟨by decide, by decide, by decide +kernel⟩ (by decide +kernel) (sy_inT (sy_i6 (List.mem_of_getElem? (i := 200) (by decide +kernel))) rfl) (sy_inP (List.mem_of_getElem? (i := 69) (by decide +kernel)) rfl) rfl
def mX12_firstsBy : sy_M := (yX12_firstsBy, cX12_firstsBy, 4, (some .int), 12, 3, 69)
theorem kX12_firstsBy : sy_mok mX12_firstsBy false 1 := sy_mokV (sy_inT (sy_i6 (List.mem_of_getElem? (i := 55) rfl)) rfl) sy_ini12 ⟨by decide, by decide, by decide +kernel⟩ (by decide +kernel) (sy_inT (sy_i6 (List.mem_of_getElem? (i := 54) (by decide +kernel))) rfl) (sy_inP (List.mem_of_getElem? (i := 53) (by decide +kernel)) rfl) rfl
def mX12_forgets : sy_M := (yX12_forgets, cX12_forgets, 2, none, 12, 3, 69)
theorem kX12_forgets : sy_mok mX12_forgets false 0 := sy_mokV (sy_inT (sy_i5 (List.mem_of_getElem? (i := 147) rfl)) rfl) sy_ini12 ⟨by decide, by decide, by decide +kernel⟩ (by decide +kernel) (sy_inT (sy_i5 (List.mem_of_getElem? (i := 146) (by decide +kernel))) rfl) (sy_inP (List.mem_of_getElem? (i := 32) (by decide +kernel)) rfl) rfl
def mX12_get : sy_M := (yX12_get, cX12_get, 3, (some .long), 12, 2, 45)
theorem kX12_get : sy_mok mX12_get false 2 := sy_mokV (sy_inT (sy_i6 (List.mem_of_getElem? (i := 222) rfl)) rfl) sy_ini12 ⟨by decide, by decide, by decide +kernel⟩ (by decide +kernel) (sy_inT (sy_i6 (List.mem_of_getElem? (i := 220) (by decide +kernel))) rfl) (sy_inT (sy_i6 (List.mem_of_getElem? (i := 221) (by decide +kernel))) rfl) rfl
def mX12_goes : sy_M := (yX12_goes, cX12_goes, 5, (some .int), 12, 2, 45)
theorem kX12_goes : sy_mok mX12_goes false 2 := sy_mokV (sy_inT (sy_i6 (List.mem_of_getElem? (i := 35) rfl)) rfl) sy_ini12 ⟨by decide, by decide, by decide +kernel⟩ (by decide +kernel) (sy_inT (sy_i6 (List.mem_of_getElem? (i := 34) (by decide +kernel))) rfl) (sy_inP (List.mem_of_getElem? (i := 49) (by decide +kernel)) rfl) rfl
def mX12_grains : sy_M := (yX12_grains, cX12_grains, 4, (some .int), 12, 1, 20)
theorem kX12_grains : sy_mok mX12_grains false 1 := sy_mokV (sy_inT (sy_i6 (List.mem_of_getElem? (i := 15) rfl)) rfl) sy_ini12 ⟨by decide, by decide, by decide +kernel⟩ (by decide +kernel) (sy_inT (sy_i6 (List.mem_of_getElem? (i := 14) (by decide +kernel))) rfl) (sy_inP (List.mem_of_getElem? (i := 46) (by decide +kernel)) rfl) rfl
def mX12_group : sy_M := (yX12_group, cX12_group, 8, (some .long), 12, 2, 43)
theorem kX12_group : sy_mok mX12_group false 0 := sy_mokV (sy_inT (sy_i6 (List.mem_of_getElem? (i := 120) rfl)) rfl) sy_ini12 ⟨by decide, by decide, by decide +kernel⟩ (by decide +kernel) (sy_inT (sy_i6 (List.mem_of_getElem? (i := 118) (by decide +kernel))) rfl) (sy_inT (sy_i6 (List.mem_of_getElem? (i := 119) (by decide +kernel))) rfl) rfl
def mX12_height : sy_M := (yX12_height, cX12_height, 2, (some .int), 12, 2, 46)
theorem kX12_height : sy_mok mX12_height false 1 := sy_mokV (sy_inT (sy_i5 (List.mem_of_getElem? (i := 168) rfl)) rfl) sy_ini12 ⟨by decide, by decide, by decide +kernel⟩ (by decide +kernel) (sy_inT (sy_i5 (List.mem_of_getElem? (i := 166) (by decide +kernel))) rfl) (sy_inT (sy_i5 (List.mem_of_getElem? (i := 167) (by decide +kernel))) rfl) rfl
def mX12_holding : sy_M := (yX12_holding, cX12_holding, 3, (some .int), 12, 0, 0)
theorem kX12_holding : sy_mok mX12_holding false 0 := sy_mokV (sy_inT (sy_i6 (List.mem_of_getElem? (i := 231) rfl)) rfl) sy_ini12 ⟨by decide, by decide, by decide +kernel⟩ (by decide +kernel) (sy_inT (sy_i6 (List.mem_of_getElem? (i := 230) (by decide +kernel))) rfl) (sy_inP (List.mem_of_getElem? (i := 71) (by decide +kernel)) rfl) rfl
def mX12_in : sy_M := (yX12_in, cX12_in, 6, (some .boolean), 12, 0, 0)
theorem kX12_in : sy_mok mX12_in true 3 := sy_mokS (sy_inT (sy_i5 (List.mem_of_getElem? (i := 4) rfl)) rfl) sy_ini12 ⟨by decide, by decide, by decide +kernel⟩ (by decide +kernel) (sy_inT (sy_i5 (List.mem_of_getElem? (i := 3) (by decide +kernel))) rfl) rfl
def mX12_init : sy_M := (yX12_init, cX12_init, 1, none, 12, 3, 69)
def mX12_isCell : sy_M := (yX12_isCell, cX12_isCell, 1, (some .boolean), 12, 1, 25)
theorem kX12_isCell : sy_mok mX12_isCell true 1 := sy_mokS (sy_inT (sy_i5 (List.mem_of_getElem? (i := 225) rfl)) rfl) sy_ini12 ⟨by decide, by decide, by decide +kernel⟩ (by decide +kernel) (sy_inT (sy_i5 (List.mem_of_getElem? (i := 224) (by decide +kernel))) rfl) rfl
def mX12_isLike : sy_M := (yX12_isLike, cX12_isLike, 5, (some .boolean), 12, 1, 20)
theorem kX12_isLike : sy_mok mX12_isLike false 2 := sy_mokV (sy_inT (sy_i6 (List.mem_of_getElem? (i := 112) rfl)) rfl) sy_ini12 ⟨by decide, by decide, by decide +kernel⟩ (by decide +kernel) (sy_inT (sy_i6 (List.mem_of_getElem? (i := 111) (by decide +kernel))) rfl) (sy_inP (List.mem_of_getElem? (i := 58) (by decide +kernel)) rfl) rfl
def mX12_isList : sy_M := (yX12_isList, cX12_isList, 1, (some .boolean), 12, 1, 25)
theorem kX12_isList : sy_mok mX12_isList true 1 := sy_mokS (sy_inT (sy_i6 (List.mem_of_getElem? (i := 193) rfl)) rfl) sy_ini12 ⟨by decide, by decide, by decide +kernel⟩ (by decide +kernel) (sy_inT (sy_i6 (List.mem_of_getElem? (i := 192) (by decide +kernel))) rfl) rfl
def mX12_isOrder : sy_M := (yX12_isOrder, cX12_isOrder, 1, (some .boolean), 12, 1, 25)
theorem kX12_isOrder : sy_mok mX12_isOrder true 1 := sy_mokS (sy_inT (sy_i6 (List.mem_of_getElem? (i := 22) rfl)) rfl) sy_ini12 ⟨by decide, by decide, by decide +kernel⟩ (by decide +kernel) (sy_inT (sy_i6 (List.mem_of_getElem? (i := 21) (by decide +kernel))) rfl) rfl
def mX12_isPile : sy_M := (yX12_isPile, cX12_isPile, 1, (some .boolean), 12, 1, 25)
theorem kX12_isPile : sy_mok mX12_isPile true 1 := sy_mokS (sy_inT (sy_i6 (List.mem_of_getElem? (i := 62) rfl)) rfl) sy_ini12 ⟨by decide, by decide, by decide +kernel⟩ (by decide +kernel) (sy_inT (sy_i6 (List.mem_of_getElem? (i := 61) (by decide +kernel))) rfl) rfl
def mX12_isPlace : sy_M := (yX12_isPlace, cX12_isPlace, 2, (some .boolean), 12, 1, 25)
theorem kX12_isPlace : sy_mok mX12_isPlace false 1 := sy_mokV (sy_inT (sy_i5 (List.mem_of_getElem? (i := 159) rfl)) rfl) sy_ini12 ⟨by decide, by decide, by decide +kernel⟩ (by decide +kernel) (sy_inT (sy_i5 (List.mem_of_getElem? (i := 158) (by decide +kernel))) rfl) (sy_inP (List.mem_of_getElem? (i := 33) (by decide +kernel)) rfl) rfl
def mX12_isStable : sy_M := (yX12_isStable, cX12_isStable, 4, (some .boolean), 12, 1, 22)
theorem kX12_isStable : sy_mok mX12_isStable false 1 := sy_mokV (sy_inT (sy_i5 (List.mem_of_getElem? (i := 201) rfl)) rfl) sy_ini12 ⟨by decide, by decide, by decide +kernel⟩ (by decide +kernel) (sy_inT (sy_i5 (List.mem_of_getElem? (i := 200) (by decide +kernel))) rfl) (sy_inP (List.mem_of_getElem? (i := 39) (by decide +kernel)) rfl) rfl
def mX12_judge : sy_M := (yX12_judge, cX12_judge, 4, (some .int), 12, 2, 46)
theorem kX12_judge : sy_mok mX12_judge false 1 := sy_mokV (sy_inT (sy_i6 (List.mem_of_getElem? (i := 190) rfl)) rfl) sy_ini12 ⟨by decide, by decide, by decide +kernel⟩ (by decide +kernel) (sy_inT (sy_i6 (List.mem_of_getElem? (i := 188) (by decide +kernel))) rfl) (sy_inT (sy_i6 (List.mem_of_getElem? (i := 189) (by decide +kernel))) rfl) rfl
def mX12_keep : sy_M := (yX12_keep, cX12_keep, 4, (some .int), 12, 3, 67)
theorem kX12_keep : sy_mok mX12_keep false 1 := sy_mokV (sy_inT (sy_i6 (List.mem_of_getElem? (i := 59) rfl)) rfl) sy_ini12 ⟨by decide, by decide, by decide +kernel⟩ (by decide +kernel) (sy_inT (sy_i6 (List.mem_of_getElem? (i := 57) (by decide +kernel))) rfl) (sy_inT (sy_i6 (List.mem_of_getElem? (i := 58) (by decide +kernel))) rfl) rfl
def mX12_lays : sy_M := (yX12_lays, cX12_lays, 4, (some .int), 12, 2, 43)
theorem kX12_lays : sy_mok mX12_lays false 2 := sy_mokV (sy_inT (sy_i6 (List.mem_of_getElem? (i := 67) rfl)) rfl) sy_ini12 ⟨by decide, by decide, by decide +kernel⟩ (by decide +kernel) (sy_inT (sy_i6 (List.mem_of_getElem? (i := 66) (by decide +kernel))) rfl) (sy_inP (List.mem_of_getElem? (i := 54) (by decide +kernel)) rfl) rfl
def mX12_laysMatrix : sy_M := (yX12_laysMatrix, cX12_laysMatrix, 4, none, 12, 1, 20)
theorem kX12_laysMatrix : sy_mok mX12_laysMatrix false 0 := sy_mokV (sy_inT (sy_i6 (List.mem_of_getElem? (i := 124) rfl)) rfl) sy_ini12 ⟨by decide, by decide, by decide +kernel⟩ (by decide +kernel) (sy_inT (sy_i6 (List.mem_of_getElem? (i := 123) (by decide +kernel))) rfl) (sy_inP (List.mem_of_getElem? (i := 59) (by decide +kernel)) rfl) rfl
def mX12_laysNought : sy_M := (yX12_laysNought, cX12_laysNought, 3, none, 12, 3, 67)
theorem kX12_laysNought : sy_mok mX12_laysNought false 0 := sy_mokV (sy_inT (sy_i6 (List.mem_of_getElem? (i := 95) rfl)) rfl) sy_ini12 ⟨by decide, by decide, by decide +kernel⟩ (by decide +kernel) (sy_inT (sy_i6 (List.mem_of_getElem? (i := 94) (by decide +kernel))) rfl) (sy_inP (List.mem_of_getElem? (i := 57) (by decide +kernel)) rfl) rfl
def mX12_least : sy_M := (yX12_least, cX12_least, 3, (some .int), 12, 1, 22)
theorem kX12_least : sy_mok mX12_least false 1 := sy_mokV (sy_inT (sy_i6 (List.mem_of_getElem? (i := 39) rfl)) rfl) sy_ini12 ⟨by decide, by decide, by decide +kernel⟩ (by decide +kernel) (sy_inT (sy_i6 (List.mem_of_getElem? (i := 38) (by decide +kernel))) rfl) (sy_inP (List.mem_of_getElem? (i := 50) (by decide +kernel)) rfl) rfl
def mX12_leaves : sy_M := (yX12_leaves, cX12_leaves, 4, (some .int), 12, 0, 0)
theorem kX12_leaves : sy_mok mX12_leaves false 1 := sy_mokV (sy_inT (sy_i6 (List.mem_of_getElem? (i := 47) rfl)) rfl) sy_ini12 ⟨by decide, by decide, by decide +kernel⟩ (by decide +kernel) (sy_inT (sy_i6 (List.mem_of_getElem? (i := 46) (by decide +kernel))) rfl) (sy_inP (List.mem_of_getElem? (i := 52) (by decide +kernel)) rfl) rfl
def mX12_link : sy_M := (yX12_link, cX12_link, 4, none, 12, 1, 25)
theorem kX12_link : sy_mok mX12_link false 3 := sy_mokV (sy_inT (sy_i5 (List.mem_of_getElem? (i := 1) rfl)) rfl) sy_ini12 ⟨by decide, by decide, by decide +kernel⟩ (by decide +kernel) (sy_inT (sy_i5 (List.mem_of_getElem? (i := 0) (by decide +kernel))) rfl) (sy_inP (List.mem_of_getElem? (i := 30) (by decide +kernel)) rfl) rfl
def mX12_links : sy_M := (yX12_links, cX12_links, 2, none, 12, 2, 48)
theorem kX12_links : sy_mok mX12_links false 0 := sy_mokV (sy_inT (sy_i4 (List.mem_of_getElem? (i := 233) rfl)) rfl) sy_ini12 ⟨by decide, by decide, by decide +kernel⟩ (by decide +kernel) (sy_inT (sy_i4 (List.mem_of_getElem? (i := 232) (by decide +kernel))) rfl) (sy_inP (List.mem_of_getElem? (i := 28) (by decide +kernel)) rfl) rfl
def mX12_list : sy_M := (yX12_list, cX12_list, 4, (some .int), 12, 2, 45)
theorem kX12_list : sy_mok mX12_list false 2 := sy_mokV (sy_inT (sy_i6 (List.mem_of_getElem? (i := 214) rfl)) rfl) sy_ini12 ⟨by decide, by decide, by decide +kernel⟩ (by decide +kernel) (sy_inT (sy_i6 (List.mem_of_getElem? (i := 212) (by decide +kernel))) rfl) (sy_inT (sy_i6 (List.mem_of_getElem? (i := 213) (by decide +kernel))) rfl) rfl
def mX12_load : sy_M := (yX12_load, cX12_load, 2, (some .int), 12, 2, 45)
theorem kX12_load : sy_mok mX12_load false 1 := sy_mokV (sy_inT (sy_i6 (List.mem_of_getElem? (i := 71) rfl)) rfl) sy_ini12 ⟨by decide, by decide, by decide +kernel⟩ (by decide +kernel) (sy_inT (sy_i6 (List.mem_of_getElem? (i := 69) (by decide +kernel))) rfl) (sy_inT (sy_i6 (List.mem_of_getElem? (i := 70) (by decide +kernel))) rfl) rfl
def mX12_lots : sy_M := (yX12_lots, cX12_lots, 11, (some .int), 12, 3, 67)
theorem kX12_lots : sy_mok mX12_lots false 3 := sy_mokV (sy_inT (sy_i6 (List.mem_of_getElem? (i := 169) rfl)) rfl) sy_ini12 ⟨by decide, by decide, by decide +kernel⟩ (by decide +kernel) (sy_inT (sy_i6 (List.mem_of_getElem? (i := 167) (by decide +kernel))) rfl) (sy_inT (sy_i6 (List.mem_of_getElem? (i := 168) (by decide +kernel))) rfl) rfl
def mX12_lotsThen : sy_M := (yX12_lotsThen, cX12_lotsThen, 5, (some .int), 12, 0, 0)
theorem kX12_lotsThen : sy_mok mX12_lotsThen false 4 := sy_mokV (sy_inT (sy_i6 (List.mem_of_getElem? (i := 186) rfl)) rfl) sy_ini12 ⟨by decide, by decide, by decide +kernel⟩ (by decide +kernel) (sy_inT (sy_i6 (List.mem_of_getElem? (i := 185) (by decide +kernel))) rfl) (sy_inP (List.mem_of_getElem? (i := 68) (by decide +kernel)) rfl) rfl
def mX12_may : sy_M := (yX12_may, cX12_may, 3, (some .boolean), 12, 0, 0)
theorem kX12_may : sy_mok mX12_may false 2 := sy_mokV (sy_inT (sy_i5 (List.mem_of_getElem? (i := 181) rfl)) rfl) sy_ini12 ⟨by decide, by decide, by decide +kernel⟩ (by decide +kernel) (sy_inT (sy_i5 (List.mem_of_getElem? (i := 180) (by decide +kernel))) rfl) (sy_inP (List.mem_of_getElem? (i := 35) (by decide +kernel)) rfl) rfl
def mX12_notBurnt : sy_M := (yX12_notBurnt, cX12_notBurnt, 3, (some .int), 12, 1, 20)
theorem kX12_notBurnt : sy_mok mX12_notBurnt false 0 := sy_mokV (sy_inT (sy_i6 (List.mem_of_getElem? (i := 141) rfl)) rfl) sy_ini12 ⟨by decide, by decide, by decide +kernel⟩ (by decide +kernel) (sy_inT (sy_i6 (List.mem_of_getElem? (i := 140) (by decide +kernel))) rfl) (sy_inP (List.mem_of_getElem? (i := 62) (by decide +kernel)) rfl) rfl
def mX12_nought : sy_M := (yX12_nought, cX12_nought, 2, (some .int), 12, 4, 89)
theorem kX12_nought : sy_mok mX12_nought false 1 := sy_mokV (sy_inT (sy_i6 (List.mem_of_getElem? (i := 91) rfl)) rfl) sy_ini12 ⟨by decide, by decide, by decide +kernel⟩ (by decide +kernel) (sy_inT (sy_i6 (List.mem_of_getElem? (i := 89) (by decide +kernel))) rfl) (sy_inT (sy_i6 (List.mem_of_getElem? (i := 90) (by decide +kernel))) rfl) rfl
def mX12_one : sy_M := (yX12_one, cX12_one, 4, (some .int), 12, 4, 90)
theorem kX12_one : sy_mok mX12_one false 2 := sy_mokV (sy_inT (sy_i6 (List.mem_of_getElem? (i := 116) rfl)) rfl) sy_ini12 ⟨by decide, by decide, by decide +kernel⟩ (by decide +kernel) (sy_inT (sy_i6 (List.mem_of_getElem? (i := 114) (by decide +kernel))) rfl) (sy_inT (sy_i6 (List.mem_of_getElem? (i := 115) (by decide +kernel))) rfl) rfl
def mX12_opposite : sy_M := (yX12_opposite, cX12_opposite, 4, (some .int), 12, 4, 89)
theorem kX12_opposite : sy_mok mX12_opposite false 2 := sy_mokV (sy_inT (sy_i6 (List.mem_of_getElem? (i := 104) rfl)) rfl) sy_ini12 ⟨by decide, by decide, by decide +kernel⟩ (by decide +kernel) (sy_inT (sy_i6 (List.mem_of_getElem? (i := 102) (by decide +kernel))) rfl) (sy_inT (sy_i6 (List.mem_of_getElem? (i := 103) (by decide +kernel))) rfl) rfl
def mX12_order : sy_M := (yX12_order, cX12_order, 4, (some .int), 12, 4, 90)
theorem kX12_order : sy_mok mX12_order false 1 := sy_mokV (sy_inT (sy_i6 (List.mem_of_getElem? (i := 108) rfl)) rfl) sy_ini12 ⟨by decide, by decide, by decide +kernel⟩ (by decide +kernel) (sy_inT (sy_i6 (List.mem_of_getElem? (i := 106) (by decide +kernel))) rfl) (sy_inT (sy_i6 (List.mem_of_getElem? (i := 107) (by decide +kernel))) rfl) rfl
def mX12_pile : sy_M := (yX12_pile, cX12_pile, 3, (some .int), 12, 2, 46)
theorem kX12_pile : sy_mok mX12_pile false 2 := sy_mokV (sy_inT (sy_i6 (List.mem_of_getElem? (i := 79) rfl)) rfl) sy_ini12 ⟨by decide, by decide, by decide +kernel⟩ (by decide +kernel) (sy_inT (sy_i6 (List.mem_of_getElem? (i := 77) (by decide +kernel))) rfl) (sy_inT (sy_i6 (List.mem_of_getElem? (i := 78) (by decide +kernel))) rfl) rfl
def mX12_placeOf : sy_M := (yX12_placeOf, cX12_placeOf, 4, (some .int), 12, 1, 20)
theorem kX12_placeOf : sy_mok mX12_placeOf false 1 := sy_mokV (sy_inT (sy_i6 (List.mem_of_getElem? (i := 177) rfl)) rfl) sy_ini12 ⟨by decide, by decide, by decide +kernel⟩ (by decide +kernel) (sy_inT (sy_i6 (List.mem_of_getElem? (i := 176) (by decide +kernel))) rfl) (sy_inP (List.mem_of_getElem? (i := 66) (by decide +kernel)) rfl) rfl
def mX12_places : sy_M := (yX12_places, cX12_places, 3, (some .int), 12, 1, 20)
theorem kX12_places : sy_mok mX12_places false 0 := sy_mokV (sy_inT (sy_i6 (List.mem_of_getElem? (i := 149) rfl)) rfl) sy_ini12 ⟨by decide, by decide, by decide +kernel⟩ (by decide +kernel) (sy_inT (sy_i6 (List.mem_of_getElem? (i := 148) (by decide +kernel))) rfl) (sy_inP (List.mem_of_getElem? (i := 63) (by decide +kernel)) rfl) rfl
def mX12_pushesBefore : sy_M := (yX12_pushesBefore, cX12_pushesBefore, 2, none, 12, 0, 0)
theorem kX12_pushesBefore : sy_mok mX12_pushesBefore false 0 := sy_mokV (sy_inT (sy_i5 (List.mem_of_getElem? (i := 138) rfl)) rfl) sy_ini12 ⟨by decide, by decide, by decide +kernel⟩ (by decide +kernel) (sy_inT (sy_i5 (List.mem_of_getElem? (i := 137) (by decide +kernel))) rfl) (sy_inP (List.mem_of_getElem? (i := 31) (by decide +kernel)) rfl) rfl
def mX12_put : sy_M := (yX12_put, cX12_put, 4, (some .int), 12, 2, 45)
theorem kX12_put : sy_mok mX12_put false 3 := sy_mokV (sy_inT (sy_i6 (List.mem_of_getElem? (i := 218) rfl)) rfl) sy_ini12 ⟨by decide, by decide, by decide +kernel⟩ (by decide +kernel) (sy_inT (sy_i6 (List.mem_of_getElem? (i := 216) (by decide +kernel))) rfl) (sy_inT (sy_i6 (List.mem_of_getElem? (i := 217) (by decide +kernel))) rfl) rfl
def mX12_read : sy_M := (yX12_read, cX12_read, 5, (some .int), 12, 4, 90)
theorem kX12_read : sy_mok mX12_read false 0 := sy_mokV (sy_inT (sy_i5 (List.mem_of_getElem? (i := 214) rfl)) rfl) sy_ini12 ⟨by decide, by decide, by decide +kernel⟩ (by decide +kernel) (sy_inT (sy_i5 (List.mem_of_getElem? (i := 212) (by decide +kernel))) rfl) (sy_inT (sy_i5 (List.mem_of_getElem? (i := 213) (by decide +kernel))) rfl) rfl
def mX12_redo : sy_M := (yX12_redo, cX12_redo, 2, (some .int), 12, 1, 21)
theorem kX12_redo : sy_mok mX12_redo false 0 := sy_mokV (sy_inT (sy_i5 (List.mem_of_getElem? (i := 134) rfl)) rfl) sy_ini12 ⟨by decide, by decide, by decide +kernel⟩ (by decide +kernel) (sy_inT (sy_i5 (List.mem_of_getElem? (i := 132) (by decide +kernel))) rfl) (sy_inT (sy_i5 (List.mem_of_getElem? (i := 133) (by decide +kernel))) rfl) rfl
def mX12_roundsOf : sy_M := (yX12_roundsOf, cX12_roundsOf, 4, (some .int), 12, 2, 45)
theorem kX12_roundsOf : sy_mok mX12_roundsOf false 1 := sy_mokV (sy_inT (sy_i6 (List.mem_of_getElem? (i := 3) rfl)) rfl) sy_ini12 ⟨by decide, by decide, by decide +kernel⟩ (by decide +kernel) (sy_inT (sy_i6 (List.mem_of_getElem? (i := 2) (by decide +kernel))) rfl) (sy_inP (List.mem_of_getElem? (i := 43) (by decide +kernel)) rfl) rfl
def mX12_set : sy_M := (yX12_set, cX12_set, 4, (some .int), 12, 2, 46)
theorem kX12_set : sy_mok mX12_set false 2 := sy_mokV (sy_inT (sy_i5 (List.mem_of_getElem? (i := 155) rfl)) rfl) sy_ini12 ⟨by decide, by decide, by decide +kernel⟩ (by decide +kernel) (sy_inT (sy_i5 (List.mem_of_getElem? (i := 153) (by decide +kernel))) rfl) (sy_inT (sy_i5 (List.mem_of_getElem? (i := 154) (by decide +kernel))) rfl) rfl
def mX12_settle : sy_M := (yX12_settle, cX12_settle, 1, (some .int), 12, 3, 67)
theorem kX12_settle : sy_mok mX12_settle false 0 := sy_mokV (sy_inT (sy_i5 (List.mem_of_getElem? (i := 189) rfl)) rfl) sy_ini12 ⟨by decide, by decide, by decide +kernel⟩ (by decide +kernel) (sy_inT (sy_i5 (List.mem_of_getElem? (i := 187) (by decide +kernel))) rfl) (sy_inT (sy_i5 (List.mem_of_getElem? (i := 188) (by decide +kernel))) rfl) rfl
def mX12_settled : sy_M := (yX12_settled, cX12_settled, 2, (some .int), 12, 4, 89)
theorem kX12_settled : sy_mok mX12_settled false 1 := sy_mokV (sy_inT (sy_i5 (List.mem_of_getElem? (i := 236) rfl)) rfl) sy_ini12 ⟨by decide, by decide, by decide +kernel⟩ (by decide +kernel) (sy_inT (sy_i5 (List.mem_of_getElem? (i := 234) (by decide +kernel))) rfl) (sy_inT (sy_i5 (List.mem_of_getElem? (i := 235) (by decide +kernel))) rfl) rfl
def mX12_settledThen : sy_M := (yX12_settledThen, cX12_settledThen, 3, (some .int), 12, 3, 67)
theorem kX12_settledThen : sy_mok mX12_settledThen false 1 := sy_mokV (sy_inT (sy_i6 (List.mem_of_getElem? (i := 7) rfl)) rfl) sy_ini12 ⟨by decide, by decide, by decide +kernel⟩ (by decide +kernel) (sy_inT (sy_i6 (List.mem_of_getElem? (i := 6) (by decide +kernel))) rfl) (sy_inP (List.mem_of_getElem? (i := 44) (by decide +kernel)) rfl) rfl
def mX12_settles : sy_M := (yX12_settles, cX12_settles, 3, (some .int), 12, 2, 45)
theorem kX12_settles : sy_mok mX12_settles false 1 := sy_mokV (sy_inT (sy_i5 (List.mem_of_getElem? (i := 193) rfl)) rfl) sy_ini12 ⟨by decide, by decide, by decide +kernel⟩ (by decide +kernel) (sy_inT (sy_i5 (List.mem_of_getElem? (i := 192) (by decide +kernel))) rfl) (sy_inP (List.mem_of_getElem? (i := 37) (by decide +kernel)) rfl) rfl
def mX12_size : sy_M := (yX12_size, cX12_size, 5, (some .int), 12, 4, 90)
theorem kX12_size : sy_mok mX12_size false 2 := sy_mokV (sy_inT (sy_i5 (List.mem_of_getElem? (i := 142) rfl)) rfl) sy_ini12 ⟨by decide, by decide, by decide +kernel⟩ (by decide +kernel) (sy_inT (sy_i5 (List.mem_of_getElem? (i := 140) (by decide +kernel))) rfl) (sy_inT (sy_i5 (List.mem_of_getElem? (i := 141) (by decide +kernel))) rfl) rfl
def mX12_sizeCounted : sy_M := (yX12_sizeCounted, cX12_sizeCounted, 3, (some .int), 12, 0, 0)
theorem kX12_sizeCounted : sy_mok mX12_sizeCounted false 0 := sy_mokV (sy_inT (sy_i5 (List.mem_of_getElem? (i := 205) rfl)) rfl) sy_ini12 ⟨by decide, by decide, by decide +kernel⟩ (by decide +kernel) (sy_inT (sy_i5 (List.mem_of_getElem? (i := 204) (by decide +kernel))) rfl) (sy_inP (List.mem_of_getElem? (i := 40) (by decide +kernel)) rfl) rfl
def mX12_steadies : sy_M := (yX12_steadies, cX12_steadies, 5, (some .int), 12, 2, 48)
theorem kX12_steadies : sy_mok mX12_steadies false 1 := sy_mokV (sy_inT (sy_i6 (List.mem_of_getElem? (i := 197) rfl)) rfl) sy_ini12 ⟨by decide, by decide, by decide +kernel⟩ (by decide +kernel) (sy_inT (sy_i6 (List.mem_of_getElem? (i := 195) (by decide +kernel))) rfl) (sy_inT (sy_i6 (List.mem_of_getElem? (i := 196) (by decide +kernel))) rfl) rfl
def mX12_sum : sy_M := (yX12_sum, cX12_sum, 6, (some .int), 12, 4, 90)
theorem kX12_sum : sy_mok mX12_sum false 3 := sy_mokV (sy_inT (sy_i6 (List.mem_of_getElem? (i := 83) rfl)) rfl) sy_ini12 ⟨by decide, by decide, by decide +kernel⟩ (by decide +kernel) (sy_inT (sy_i6 (List.mem_of_getElem? (i := 81) (by decide +kernel))) rfl) (sy_inT (sy_i6 (List.mem_of_getElem? (i := 82) (by decide +kernel))) rfl) rfl
def mX12_takes : sy_M := (yX12_takes, cX12_takes, 4, none, 12, 0, 0)
theorem kX12_takes : sy_mok mX12_takes false 2 := sy_mokV (sy_inT (sy_i6 (List.mem_of_getElem? (i := 75) rfl)) rfl) sy_ini12 ⟨by decide, by decide, by decide +kernel⟩ (by decide +kernel) (sy_inT (sy_i6 (List.mem_of_getElem? (i := 74) (by decide +kernel))) rfl) (sy_inP (List.mem_of_getElem? (i := 55) (by decide +kernel)) rfl) rfl
def mX12_tallest : sy_M := (yX12_tallest, cX12_tallest, 4, (some .int), 12, 1, 22)
theorem kX12_tallest : sy_mok mX12_tallest false 1 := sy_mokV (sy_inT (sy_i6 (List.mem_of_getElem? (i := 43) rfl)) rfl) sy_ini12 ⟨by decide, by decide, by decide +kernel⟩ (by decide +kernel) (sy_inT (sy_i6 (List.mem_of_getElem? (i := 42) (by decide +kernel))) rfl) (sy_inP (List.mem_of_getElem? (i := 51) (by decide +kernel)) rfl) rfl
def mX12_then : sy_M := (yX12_then, cX12_then, 5, (some .long), 12, 0, 0)
theorem kX12_then : sy_mok mX12_then false 1 := sy_mokV (sy_inT (sy_i6 (List.mem_of_getElem? (i := 206) rfl)) rfl) sy_ini12 ⟨by decide, by decide, by decide +kernel⟩ (by decide +kernel) (sy_inT (sy_i6 (List.mem_of_getElem? (i := 205) (by decide +kernel))) rfl) (sy_inP (List.mem_of_getElem? (i := 70) (by decide +kernel)) rfl) rfl
def mX12_through : sy_M := (yX12_through, cX12_through, 6, (some .int), 12, 2, 47)
theorem kX12_through : sy_mok mX12_through false 0 := sy_mokV (sy_inT (sy_i6 (List.mem_of_getElem? (i := 145) rfl)) rfl) sy_ini12 ⟨by decide, by decide, by decide +kernel⟩ (by decide +kernel) (sy_inT (sy_i6 (List.mem_of_getElem? (i := 143) (by decide +kernel))) rfl) (sy_inT (sy_i6 (List.mem_of_getElem? (i := 144) (by decide +kernel))) rfl) rfl
def mX12_times : sy_M := (yX12_times, cX12_times, 6, (some .int), 12, 4, 90)
theorem kX12_times : sy_mok mX12_times false 3 := sy_mokV (sy_inT (sy_i6 (List.mem_of_getElem? (i := 99) rfl)) rfl) sy_ini12 ⟨by decide, by decide, by decide +kernel⟩ (by decide +kernel) (sy_inT (sy_i6 (List.mem_of_getElem? (i := 97) (by decide +kernel))) rfl) (sy_inT (sy_i6 (List.mem_of_getElem? (i := 98) (by decide +kernel))) rfl) rfl
def mX12_topple : sy_M := (yX12_topple, cX12_topple, 2, (some .int), 12, 2, 46)
theorem kX12_topple : sy_mok mX12_topple false 1 := sy_mokV (sy_inT (sy_i5 (List.mem_of_getElem? (i := 177) rfl)) rfl) sy_ini12 ⟨by decide, by decide, by decide +kernel⟩ (by decide +kernel) (sy_inT (sy_i5 (List.mem_of_getElem? (i := 175) (by decide +kernel))) rfl) (sy_inT (sy_i5 (List.mem_of_getElem? (i := 176) (by decide +kernel))) rfl) rfl
def mX12_toppled : sy_M := (yX12_toppled, cX12_toppled, 3, (some .int), 12, 1, 20)
theorem kX12_toppled : sy_mok mX12_toppled false 0 := sy_mokV (sy_inT (sy_i6 (List.mem_of_getElem? (i := 11) rfl)) rfl) sy_ini12 ⟨by decide, by decide, by decide +kernel⟩ (by decide +kernel) (sy_inT (sy_i6 (List.mem_of_getElem? (i := 10) (by decide +kernel))) rfl) (sy_inP (List.mem_of_getElem? (i := 45) (by decide +kernel)) rfl) rfl
def mX12_topples : sy_M := (yX12_topples, cX12_topples, 5, none, 12, 0, 0)
theorem kX12_topples : sy_mok mX12_topples false 3 := sy_mokV (sy_inT (sy_i5 (List.mem_of_getElem? (i := 185) rfl)) rfl) sy_ini12 ⟨by decide, by decide, by decide +kernel⟩ (by decide +kernel) (sy_inT (sy_i5 (List.mem_of_getElem? (i := 184) (by decide +kernel))) rfl) (sy_inP (List.mem_of_getElem? (i := 36) (by decide +kernel)) rfl) rfl
def mX12_trace : sy_M := (yX12_trace, cX12_trace, 5, (some .int), 12, 3, 69)
theorem kX12_trace : sy_mok mX12_trace false 2 := sy_mokV (sy_inT (sy_i6 (List.mem_of_getElem? (i := 19) rfl)) rfl) sy_ini12 ⟨by decide, by decide, by decide +kernel⟩ (by decide +kernel) (sy_inT (sy_i6 (List.mem_of_getElem? (i := 17) (by decide +kernel))) rfl) (sy_inT (sy_i6 (List.mem_of_getElem? (i := 18) (by decide +kernel))) rfl) rfl
def mX12_unburnt : sy_M := (yX12_unburnt, cX12_unburnt, 4, (some .int), 12, 0, 0)
theorem kX12_unburnt : sy_mok mX12_unburnt false 1 := sy_mokV (sy_inT (sy_i6 (List.mem_of_getElem? (i := 137) rfl)) rfl) sy_ini12 ⟨by decide, by decide, by decide +kernel⟩ (by decide +kernel) (sy_inT (sy_i6 (List.mem_of_getElem? (i := 136) (by decide +kernel))) rfl) (sy_inP (List.mem_of_getElem? (i := 61) (by decide +kernel)) rfl) rfl
def mX12_undo : sy_M := (yX12_undo, cX12_undo, 2, (some .int), 12, 0, 0)
theorem kX12_undo : sy_mok mX12_undo false 0 := sy_mokV (sy_inT (sy_i5 (List.mem_of_getElem? (i := 130) rfl)) rfl) sy_ini12 ⟨by decide, by decide, by decide +kernel⟩ (by decide +kernel) (sy_inT (sy_i5 (List.mem_of_getElem? (i := 128) (by decide +kernel))) rfl) (sy_inT (sy_i5 (List.mem_of_getElem? (i := 129) (by decide +kernel))) rfl) rfl
def mX12_wall : sy_M := (yX12_wall, cX12_wall, 4, (some .int), 12, 4, 90)
theorem kX12_wall : sy_mok mX12_wall false 2 := sy_mokV (sy_inT (sy_i5 (List.mem_of_getElem? (i := 151) rfl)) rfl) sy_ini12 ⟨by decide, by decide, by decide +kernel⟩ (by decide +kernel) (sy_inT (sy_i5 (List.mem_of_getElem? (i := 149) (by decide +kernel))) rfl) (sy_inT (sy_i5 (List.mem_of_getElem? (i := 150) (by decide +kernel))) rfl) rfl
def mX12_why : sy_M := (yX12_why, cX12_why, 2, (some .int), 12, 1, 25)
theorem kX12_why : sy_mok mX12_why false 1 := sy_mokV (sy_inT (sy_i5 (List.mem_of_getElem? (i := 231) rfl)) rfl) sy_ini12 ⟨by decide, by decide, by decide +kernel⟩ (by decide +kernel) (sy_inT (sy_i5 (List.mem_of_getElem? (i := 229) (by decide +kernel))) rfl) (sy_inT (sy_i5 (List.mem_of_getElem? (i := 230) (by decide +kernel))) rfl) rfl
def mX12_wrongAt : sy_M := (yX12_wrongAt, cX12_wrongAt, 3, (some .int), 12, 2, 45)
theorem kX12_wrongAt : sy_mok mX12_wrongAt false 1 := sy_mokV (sy_inT (sy_i5 (List.mem_of_getElem? (i := 222) rfl)) rfl) sy_ini12 ⟨by decide, by decide, by decide +kernel⟩ (by decide +kernel) (sy_inT (sy_i5 (List.mem_of_getElem? (i := 221) (by decide +kernel))) rfl) (sy_inP (List.mem_of_getElem? (i := 42) (by decide +kernel)) rfl) rfl
def mX12_wrongPlace : sy_M := (yX12_wrongPlace, cX12_wrongPlace, 2, (some .int), 12, 3, 67)
theorem kX12_wrongPlace : sy_mok mX12_wrongPlace false 0 := sy_mokV (sy_inT (sy_i5 (List.mem_of_getElem? (i := 218) rfl)) rfl) sy_ini12 ⟨by decide, by decide, by decide +kernel⟩ (by decide +kernel) (sy_inT (sy_i5 (List.mem_of_getElem? (i := 217) (by decide +kernel))) rfl) (sy_inP (List.mem_of_getElem? (i := 41) (by decide +kernel)) rfl) rfl
def mJ7_fill_53178 : sy_M := (yJ7_fill_53178, cJ7_fill_53178, 4, none, 13, 0, 0)
theorem kJ7_fill_53178 : sy_mok mJ7_fill_53178 true 2 := sy_mokS (sy_inT (sy_i1 (List.mem_of_getElem? (i := 37) rfl)) rfl) sy_ini13 ⟨by decide, by decide, by decide +kernel⟩ (by decide +kernel) (sy_inT (sy_i1 (List.mem_of_getElem? (i := 36) (by decide +kernel))) rfl) rfl
def mJ7_fill_d0a16 : sy_M := (yJ7_fill_d0a16, cJ7_fill_d0a16, 5, none, 13, 0, 0)
theorem kJ7_fill_d0a16 : sy_mok mJ7_fill_d0a16 true 2 := sy_mokS (sy_inT (sy_i3 (List.mem_of_getElem? (i := 231) rfl)) rfl) sy_ini13 ⟨by decide, by decide, by decide +kernel⟩ (by decide +kernel) (sy_inT (sy_i3 (List.mem_of_getElem? (i := 230) (by decide +kernel))) rfl) rfl
def mJ9_max_7cf53 : sy_M := (yJ9_max_7cf53, cJ9_max_7cf53, 2, (some .int), 14, 0, 0)
theorem jX11_107 : Cond.methodLink RX11 107 yX3_cellCount ∈ sy_T := sy_inT (sy_i2 (List.mem_of_getElem? (i := 90) (by decide +kernel))) rfl
theorem jX11_111 : Cond.methodLink RX11 111 yX3_shape ∈ sy_T := sy_inT (sy_i2 (List.mem_of_getElem? (i := 94) (by decide +kernel))) rfl
theorem jX11_114 : Cond.methodLink RX11 114 yJ7_fill_53178 ∈ sy_T := sy_inT (sy_i2 (List.mem_of_getElem? (i := 95) (by decide +kernel))) rfl
theorem jX11_120 : Cond.methodLink RX11 120 yX11_forgetPilesAndChanges ∈ sy_T := sy_inT (sy_i2 (List.mem_of_getElem? (i := 96) (by decide +kernel))) rfl
theorem jX11_123 : Cond.methodLink RX11 123 yX3_isCell ∈ sy_T := sy_inT (sy_i2 (List.mem_of_getElem? (i := 112) (by decide +kernel))) rfl
theorem jX11_127 : Cond.methodLink RX11 127 yX3_isPlace ∈ sy_T := sy_inT (sy_i2 (List.mem_of_getElem? (i := 116) (by decide +kernel))) rfl
theorem jX11_130 : Cond.methodLink RX11 130 yX3_build ∈ sy_T := sy_inT (sy_i2 (List.mem_of_getElem? (i := 121) (by decide +kernel))) rfl
theorem jX11_134 : Cond.methodLink RX11 134 yX0_note ∈ sy_T := sy_inT (sy_i2 (List.mem_of_getElem? (i := 129) (by decide +kernel))) rfl
theorem jX11_138 : Cond.methodLink RX11 138 yX3_spill ∈ sy_T := sy_inT (sy_i2 (List.mem_of_getElem? (i := 145) (by decide +kernel))) rfl
theorem jX11_142 : Cond.methodLink RX11 142 yX3_lossAt ∈ sy_T := sy_inT (sy_i2 (List.mem_of_getElem? (i := 149) (by decide +kernel))) rfl
theorem jX11_146 : Cond.methodLink RX11 146 yX1_begin ∈ sy_T := sy_inT (sy_i2 (List.mem_of_getElem? (i := 157) (by decide +kernel))) rfl
theorem jX11_149 : Cond.methodLink RX11 149 yX1_level ∈ sy_T := sy_inT (sy_i2 (List.mem_of_getElem? (i := 163) (by decide +kernel))) rfl
theorem jX11_152 : Cond.methodLink RX11 152 yX1_copyTo ∈ sy_T := sy_inT (sy_i2 (List.mem_of_getElem? (i := 169) (by decide +kernel))) rfl
theorem jX11_155 : Cond.methodLink RX11 155 yX10_isFull ∈ sy_T := sy_inT (sy_i2 (List.mem_of_getElem? (i := 177) (by decide +kernel))) rfl
theorem jX11_159 : Cond.methodLink RX11 159 yX10_append ∈ sy_T := sy_inT (sy_i2 (List.mem_of_getElem? (i := 181) (by decide +kernel))) rfl
theorem jX11_162 : Cond.methodLink RX11 162 yX10_parse ∈ sy_T := sy_inT (sy_i2 (List.mem_of_getElem? (i := 189) (by decide +kernel))) rfl
theorem jX11_165 : Cond.methodLink RX11 165 yX10_rewind ∈ sy_T := sy_inT (sy_i2 (List.mem_of_getElem? (i := 217) (by decide +kernel))) rfl
theorem jX11_168 : Cond.methodLink RX11 168 yX10_rowCount ∈ sy_T := sy_inT (sy_i2 (List.mem_of_getElem? (i := 221) (by decide +kernel))) rfl
theorem jX11_171 : Cond.methodLink RX11 171 yX10_columnCount ∈ sy_T := sy_inT (sy_i2 (List.mem_of_getElem? (i := 225) (by decide +kernel))) rfl
theorem jX11_174 : Cond.methodLink RX11 174 yX10_valueAt ∈ sy_T := sy_inT (sy_i2 (List.mem_of_getElem? (i := 229) (by decide +kernel))) rfl
theorem jX11_177 : Cond.methodLink RX11 177 yX11_lay ∈ sy_T := sy_inT (sy_i2 (List.mem_of_getElem? (i := 233) (by decide +kernel))) rfl
theorem jX11_180 : Cond.methodLink RX11 180 yX10_codeAt ∈ sy_T := sy_inT (sy_i3 (List.mem_of_getElem? (i := 1) (by decide +kernel))) rfl
theorem jX11_183 : Cond.methodLink RX11 183 yX1_inRounds ∈ sy_T := sy_inT (sy_i3 (List.mem_of_getElem? (i := 9) (by decide +kernel))) rfl
theorem jX11_186 : Cond.methodLink RX11 186 yX1_countAt ∈ sy_T := sy_inT (sy_i3 (List.mem_of_getElem? (i := 25) (by decide +kernel))) rfl
theorem jX11_189 : Cond.methodLink RX11 189 yX1_heightAt ∈ sy_T := sy_inT (sy_i3 (List.mem_of_getElem? (i := 29) (by decide +kernel))) rfl
theorem jX11_192 : Cond.methodLink RX11 192 yX1_lost ∈ sy_T := sy_inT (sy_i3 (List.mem_of_getElem? (i := 33) (by decide +kernel))) rfl
theorem jX11_195 : Cond.methodLink RX11 195 yX1_area ∈ sy_T := sy_inT (sy_i3 (List.mem_of_getElem? (i := 38) (by decide +kernel))) rfl
theorem jX11_198 : Cond.methodLink RX11 198 yX1_grains ∈ sy_T := sy_inT (sy_i3 (List.mem_of_getElem? (i := 42) (by decide +kernel))) rfl
theorem jX11_201 : Cond.methodLink RX11 201 yX11_isOrder ∈ sy_T := sy_inT (sy_i3 (List.mem_of_getElem? (i := 54) (by decide +kernel))) rfl
theorem jX11_205 : Cond.methodLink RX11 205 yX4_begin ∈ sy_T := sy_inT (sy_i3 (List.mem_of_getElem? (i := 58) (by decide +kernel))) rfl
theorem jX11_207 : Cond.methodLink RX11 207 yX4_step ∈ sy_T := sy_inT (sy_i3 (List.mem_of_getElem? (i := 69) (by decide +kernel))) rfl
theorem jX11_210 : Cond.methodLink RX11 210 yX7_has ∈ sy_T := sy_inT (sy_i3 (List.mem_of_getElem? (i := 106) (by decide +kernel))) rfl
theorem jX11_213 : Cond.methodLink RX11 213 yX7_hold ∈ sy_T := sy_inT (sy_i3 (List.mem_of_getElem? (i := 110) (by decide +kernel))) rfl
theorem jX11_217 : Cond.methodLink RX11 217 yX7_holds ∈ sy_T := sy_inT (sy_i3 (List.mem_of_getElem? (i := 118) (by decide +kernel))) rfl
theorem jX11_220 : Cond.methodLink RX11 220 yX7_rowAt ∈ sy_T := sy_inT (sy_i3 (List.mem_of_getElem? (i := 122) (by decide +kernel))) rfl
theorem jX11_230 : Cond.methodLink RX11 230 yX3_grainsOf ∈ sy_T := sy_inT (sy_i3 (List.mem_of_getElem? (i := 127) (by decide +kernel))) rfl
theorem jX11_234 : Cond.methodLink RX11 234 yX8_add ∈ sy_T := sy_inT (sy_i3 (List.mem_of_getElem? (i := 136) (by decide +kernel))) rfl
theorem jX11_238 : Cond.methodLink RX11 238 yX8_startAtNought ∈ sy_T := sy_inT (sy_i3 (List.mem_of_getElem? (i := 146) (by decide +kernel))) rfl
theorem jX11_241 : Cond.methodLink RX11 241 yX11_holdResult ∈ sy_T := sy_inT (sy_i3 (List.mem_of_getElem? (i := 168) (by decide +kernel))) rfl
theorem jX11_245 : Cond.methodLink RX11 245 yX8_multiply ∈ sy_T := sy_inT (sy_i3 (List.mem_of_getElem? (i := 178) (by decide +kernel))) rfl
theorem jX11_248 : Cond.methodLink RX11 248 yX8_negate ∈ sy_T := sy_inT (sy_i3 (List.mem_of_getElem? (i := 192) (by decide +kernel))) rfl
theorem jX11_251 : Cond.methodLink RX11 251 yX8_leastToNought ∈ sy_T := sy_inT (sy_i3 (List.mem_of_getElem? (i := 200) (by decide +kernel))) rfl
theorem jX11_255 : Cond.methodLink RX11 255 yX11_alike ∈ sy_T := sy_inT (sy_i3 (List.mem_of_getElem? (i := 211) (by decide +kernel))) rfl
theorem jX11_259 : Cond.methodLink RX11 259 yX8_areOne ∈ sy_T := sy_inT (sy_i3 (List.mem_of_getElem? (i := 212) (by decide +kernel))) rfl
theorem jX11_262 : Cond.methodLink RX11 262 yX5_determinant ∈ sy_T := sy_inT (sy_i3 (List.mem_of_getElem? (i := 220) (by decide +kernel))) rfl
theorem jX11_266 : Cond.methodLink RX11 266 yX2_spread ∈ sy_T := sy_inT (sy_i4 (List.mem_of_getElem? (i := 9) (by decide +kernel))) rfl
theorem jX11_269 : Cond.methodLink RX11 269 yX2_roundAt ∈ sy_T := sy_inT (sy_i4 (List.mem_of_getElem? (i := 26) (by decide +kernel))) rfl
theorem jX11_272 : Cond.methodLink RX11 272 yX2_unburnt ∈ sy_T := sy_inT (sy_i4 (List.mem_of_getElem? (i := 30) (by decide +kernel))) rfl
theorem jX11_275 : Cond.methodLink RX11 275 yX3_placeCount ∈ sy_T := sy_inT (sy_i4 (List.mem_of_getElem? (i := 38) (by decide +kernel))) rfl
theorem jX11_278 : Cond.methodLink RX11 278 yX3_unpack ∈ sy_T := sy_inT (sy_i4 (List.mem_of_getElem? (i := 39) (by decide +kernel))) rfl
theorem jX11_282 : Cond.methodLink RX11 282 yX3_isStable ∈ sy_T := sy_inT (sy_i4 (List.mem_of_getElem? (i := 47) (by decide +kernel))) rfl
theorem jX11_286 : Cond.methodLink RX11 286 yX1_addGrain ∈ sy_T := sy_inT (sy_i4 (List.mem_of_getElem? (i := 51) (by decide +kernel))) rfl
theorem jX11_290 : Cond.methodLink RX11 290 yX1_toppled ∈ sy_T := sy_inT (sy_i4 (List.mem_of_getElem? (i := 55) (by decide +kernel))) rfl
theorem jX11_293 : Cond.methodLink RX11 293 yX6_clear ∈ sy_T := sy_inT (sy_i4 (List.mem_of_getElem? (i := 63) (by decide +kernel))) rfl
theorem jX11_296 : Cond.methodLink RX11 296 yX1_code ∈ sy_T := sy_inT (sy_i4 (List.mem_of_getElem? (i := 68) (by decide +kernel))) rfl
theorem jX11_299 : Cond.methodLink RX11 299 yX6_add ∈ sy_T := sy_inT (sy_i4 (List.mem_of_getElem? (i := 76) (by decide +kernel))) rfl
theorem jX11_301 : Cond.methodLink RX11 301 yX6_find ∈ sy_T := sy_inT (sy_i4 (List.mem_of_getElem? (i := 84) (by decide +kernel))) rfl
theorem jX11_304 : Cond.methodLink RX11 304 yX11_scatter ∈ sy_T := sy_inT (sy_i4 (List.mem_of_getElem? (i := 92) (by decide +kernel))) rfl
theorem jX11_307 : Cond.methodLink RX11 307 yX9_together ∈ sy_T := sy_inT (sy_i4 (List.mem_of_getElem? (i := 115) (by decide +kernel))) rfl
theorem jX11_310 : Cond.methodLink RX11 310 yX9_greatest ∈ sy_T := sy_inT (sy_i4 (List.mem_of_getElem? (i := 119) (by decide +kernel))) rfl
theorem jX11_313 : Cond.methodLink RX11 313 yX9_unlike ∈ sy_T := sy_inT (sy_i4 (List.mem_of_getElem? (i := 123) (by decide +kernel))) rfl
theorem jX11_316 : Cond.methodLink RX11 316 yX9_sizeAt ∈ sy_T := sy_inT (sy_i4 (List.mem_of_getElem? (i := 127) (by decide +kernel))) rfl
theorem jX11_319 : Cond.methodLink RX11 319 yX9_oftenAt ∈ sy_T := sy_inT (sy_i4 (List.mem_of_getElem? (i := 131) (by decide +kernel))) rfl
theorem jX11_322 : Cond.methodLink RX11 322 yX7_lengthOf ∈ sy_T := sy_inT (sy_i4 (List.mem_of_getElem? (i := 139) (by decide +kernel))) rfl
theorem jX11_325 : Cond.methodLink RX11 325 yX1_toppleOnce ∈ sy_T := sy_inT (sy_i4 (List.mem_of_getElem? (i := 143) (by decide +kernel))) rfl
theorem jX11_328 : Cond.methodLink RX11 328 yX11_firstUntold ∈ sy_T := sy_inT (sy_i4 (List.mem_of_getElem? (i := 152) (by decide +kernel))) rfl
theorem jX11_331 : Cond.methodLink RX11 331 yX11_firstUnsteady ∈ sy_T := sy_inT (sy_i4 (List.mem_of_getElem? (i := 156) (by decide +kernel))) rfl
theorem jX11_334 : Cond.methodLink RX11 334 yX3_placeAt ∈ sy_T := sy_inT (sy_i4 (List.mem_of_getElem? (i := 107) (by decide +kernel))) rfl
theorem jX11_339 : Cond.methodLink RX11 339 yX0_undoable ∈ sy_T := sy_inT (sy_i4 (List.mem_of_getElem? (i := 184) (by decide +kernel))) rfl
theorem jX11_342 : Cond.methodLink RX11 342 yX0_back ∈ sy_T := sy_inT (sy_i4 (List.mem_of_getElem? (i := 188) (by decide +kernel))) rfl
theorem jX11_345 : Cond.methodLink RX11 345 yX0_redoable ∈ sy_T := sy_inT (sy_i4 (List.mem_of_getElem? (i := 196) (by decide +kernel))) rfl
theorem jX11_348 : Cond.methodLink RX11 348 yX0_forth ∈ sy_T := sy_inT (sy_i4 (List.mem_of_getElem? (i := 200) (by decide +kernel))) rfl
theorem jX11_351 : Cond.methodLink RX11 351 yX3_columnCount ∈ sy_T := sy_inT (sy_i4 (List.mem_of_getElem? (i := 208) (by decide +kernel))) rfl
theorem jX11_352 : Cond.methodLink RX11 352 yX7_heldCount ∈ sy_T := sy_inT (sy_i4 (List.mem_of_getElem? (i := 212) (by decide +kernel))) rfl
theorem jX11_355 : Cond.methodLink RX11 355 yX10_length ∈ sy_T := sy_inT (sy_i4 (List.mem_of_getElem? (i := 216) (by decide +kernel))) rfl
theorem jX11_358 : Cond.methodLink RX11 358 yX10_codeCount ∈ sy_T := sy_inT (sy_i4 (List.mem_of_getElem? (i := 220) (by decide +kernel))) rfl
theorem jX11_361 : Cond.methodLink RX11 361 yX7_clear ∈ sy_T := sy_inT (sy_i2 (List.mem_of_getElem? (i := 100) (by decide +kernel))) rfl
theorem jX11_362 : Cond.methodLink RX11 362 yX0_restart ∈ sy_T := sy_inT (sy_i2 (List.mem_of_getElem? (i := 101) (by decide +kernel))) rfl
theorem jX11_365 : Cond.methodLink RX11 365 yX8_copyResultTo ∈ sy_T := sy_inT (sy_i3 (List.mem_of_getElem? (i := 172) (by decide +kernel))) rfl
theorem jX11_368 : Cond.methodLink RX11 368 yX1_forgetCounts ∈ sy_T := sy_inT (sy_i4 (List.mem_of_getElem? (i := 96) (by decide +kernel))) rfl
theorem jX11_371 : Cond.methodLink RX11 371 yX9_clear ∈ sy_T := sy_inT (sy_i4 (List.mem_of_getElem? (i := 100) (by decide +kernel))) rfl
theorem jX11_375 : Cond.methodLink RX11 375 yX9_add ∈ sy_T := sy_inT (sy_i4 (List.mem_of_getElem? (i := 108) (by decide +kernel))) rfl
theorem jX11_376 : Cond.methodLink RX11 376 yX3_nextCount ∈ sy_T := sy_inT (sy_i4 (List.mem_of_getElem? (i := 160) (by decide +kernel))) rfl
theorem jX11_379 : Cond.methodLink RX11 379 yX3_nextAt ∈ sy_T := sy_inT (sy_i4 (List.mem_of_getElem? (i := 161) (by decide +kernel))) rfl
theorem jX11_383 : Cond.methodLink RX11 383 yX3_numberOf ∈ sy_T := sy_inT (sy_i4 (List.mem_of_getElem? (i := 162) (by decide +kernel))) rfl
theorem jX1_28 : Cond.methodLink RX1 28 yJ7_fill_53178 ∈ sy_T := sy_inT (sy_i2 (List.mem_of_getElem? (i := 162) (by decide +kernel))) rfl
theorem jX1_44 : Cond.methodLink RX1 44 yX3_spill ∈ sy_T := sy_inT (sy_i2 (List.mem_of_getElem? (i := 168) (by decide +kernel))) rfl
theorem jX1_48 : Cond.methodLink RX1 48 yX1_readyBits ∈ sy_T := sy_inT (sy_i3 (List.mem_of_getElem? (i := 13) (by decide +kernel))) rfl
theorem jX1_52 : Cond.methodLink RX1 52 yX3_placeCount ∈ sy_T := sy_inT (sy_i3 (List.mem_of_getElem? (i := 17) (by decide +kernel))) rfl
theorem jX1_54 : Cond.methodLink RX1 54 yX3_placeAt ∈ sy_T := sy_inT (sy_i3 (List.mem_of_getElem? (i := 21) (by decide +kernel))) rfl
theorem jX1_58 : Cond.methodLink RX1 58 yX3_isPlace ∈ sy_T := sy_inT (sy_i4 (List.mem_of_getElem? (i := 147) (by decide +kernel))) rfl
theorem jX1_62 : Cond.methodLink RX1 62 yX3_pack ∈ sy_T := sy_inT (sy_i4 (List.mem_of_getElem? (i := 72) (by decide +kernel))) rfl
theorem jX1_66 : Cond.methodLink RX1 66 yX3_grainsOf ∈ sy_T := sy_inT (sy_i3 (List.mem_of_getElem? (i := 46) (by decide +kernel))) rfl
theorem jX1_69 : Cond.methodLink RX1 69 yX3_lossAt ∈ sy_T := sy_inT (sy_i3 (List.mem_of_getElem? (i := 37) (by decide +kernel))) rfl
theorem jX2_19 : Cond.methodLink RX2 19 yJ7_fill_53178 ∈ sy_T := sy_inT (sy_i4 (List.mem_of_getElem? (i := 13) (by decide +kernel))) rfl
theorem jX2_25 : Cond.methodLink RX2 25 yX2_burnOnce ∈ sy_T := sy_inT (sy_i4 (List.mem_of_getElem? (i := 14) (by decide +kernel))) rfl
theorem jX2_29 : Cond.methodLink RX2 29 yX3_placeCount ∈ sy_T := sy_inT (sy_i4 (List.mem_of_getElem? (i := 18) (by decide +kernel))) rfl
theorem jX2_35 : Cond.methodLink RX2 35 yX3_placeAt ∈ sy_T := sy_inT (sy_i4 (List.mem_of_getElem? (i := 19) (by decide +kernel))) rfl
theorem jX2_39 : Cond.methodLink RX2 39 yX2_unburntNextTo ∈ sy_T := sy_inT (sy_i4 (List.mem_of_getElem? (i := 20) (by decide +kernel))) rfl
theorem jX2_43 : Cond.methodLink RX2 43 yX3_nextCount ∈ sy_T := sy_inT (sy_i4 (List.mem_of_getElem? (i := 24) (by decide +kernel))) rfl
theorem jX2_46 : Cond.methodLink RX2 46 yX3_nextAt ∈ sy_T := sy_inT (sy_i4 (List.mem_of_getElem? (i := 25) (by decide +kernel))) rfl
theorem jX3_27 : Cond.methodLink RX3 27 yX3_shape ∈ sy_T := sy_inT (sy_i1 (List.mem_of_getElem? (i := 31) (by decide +kernel))) rfl
theorem jX3_38 : Cond.methodLink RX3 38 yJ7_fill_53178 ∈ sy_T := sy_inT (sy_i1 (List.mem_of_getElem? (i := 35) (by decide +kernel))) rfl
theorem jX3_44 : Cond.methodLink RX3 44 yX3_link ∈ sy_T := sy_inT (sy_i1 (List.mem_of_getElem? (i := 38) (by decide +kernel))) rfl
theorem jX3_50 : Cond.methodLink RX3 50 yX3_linkCell ∈ sy_T := sy_inT (sy_i1 (List.mem_of_getElem? (i := 42) (by decide +kernel))) rfl
theorem jX3_54 : Cond.methodLink RX3 54 yX3_join ∈ sy_T := sy_inT (sy_i1 (List.mem_of_getElem? (i := 46) (by decide +kernel))) rfl
theorem jX3_57 : Cond.methodLink RX3 57 yX3_isCell ∈ sy_T := sy_inT (sy_i2 (List.mem_of_getElem? (i := 120) (by decide +kernel))) rfl
theorem jX4_41 : Cond.methodLink RX4 41 yX3_placeCount ∈ sy_T := sy_inT (sy_i3 (List.mem_of_getElem? (i := 63) (by decide +kernel))) rfl
theorem jX4_47 : Cond.methodLink RX4 47 yX3_placeAt ∈ sy_T := sy_inT (sy_i3 (List.mem_of_getElem? (i := 64) (by decide +kernel))) rfl
theorem jX4_51 : Cond.methodLink RX4 51 yX4_lineUp ∈ sy_T := sy_inT (sy_i3 (List.mem_of_getElem? (i := 65) (by decide +kernel))) rfl
theorem jX4_55 : Cond.methodLink RX4 55 yX4_chosen ∈ sy_T := sy_inT (sy_i3 (List.mem_of_getElem? (i := 73) (by decide +kernel))) rfl
theorem jX4_58 : Cond.methodLink RX4 58 yX3_spill ∈ sy_T := sy_inT (sy_i3 (List.mem_of_getElem? (i := 89) (by decide +kernel))) rfl
theorem jX4_62 : Cond.methodLink RX4 62 yX3_nextCount ∈ sy_T := sy_inT (sy_i3 (List.mem_of_getElem? (i := 90) (by decide +kernel))) rfl
theorem jX4_65 : Cond.methodLink RX4 65 yX3_nextAt ∈ sy_T := sy_inT (sy_i3 (List.mem_of_getElem? (i := 94) (by decide +kernel))) rfl
theorem jX4_69 : Cond.methodLink RX4 69 yX4_leastCell ∈ sy_T := sy_inT (sy_i3 (List.mem_of_getElem? (i := 77) (by decide +kernel))) rfl
theorem jX4_72 : Cond.methodLink RX4 72 yX4_leave ∈ sy_T := sy_inT (sy_i3 (List.mem_of_getElem? (i := 81) (by decide +kernel))) rfl
theorem jX4_76 : Cond.methodLink RX4 76 yX4_tallestCell ∈ sy_T := sy_inT (sy_i3 (List.mem_of_getElem? (i := 85) (by decide +kernel))) rfl
theorem jX5_15 : Cond.methodLink RX5 15 yX3_placeCount ∈ sy_T := sy_inT (sy_i3 (List.mem_of_getElem? (i := 224) (by decide +kernel))) rfl
theorem jX5_21 : Cond.methodLink RX5 21 yX5_fillFrom ∈ sy_T := sy_inT (sy_i3 (List.mem_of_getElem? (i := 225) (by decide +kernel))) rfl
theorem jX5_25 : Cond.methodLink RX5 25 yX5_eliminate ∈ sy_T := sy_inT (sy_i4 (List.mem_of_getElem? (i := 1) (by decide +kernel))) rfl
theorem jX5_29 : Cond.methodLink RX5 29 yJ7_fill_d0a16 ∈ sy_T := sy_inT (sy_i3 (List.mem_of_getElem? (i := 229) (by decide +kernel))) rfl
theorem jX5_35 : Cond.methodLink RX5 35 yX3_placeAt ∈ sy_T := sy_inT (sy_i3 (List.mem_of_getElem? (i := 232) (by decide +kernel))) rfl
theorem jX5_41 : Cond.methodLink RX5 41 yX3_nextCount ∈ sy_T := sy_inT (sy_i3 (List.mem_of_getElem? (i := 234) (by decide +kernel))) rfl
theorem jX5_44 : Cond.methodLink RX5 44 yX3_nextAt ∈ sy_T := sy_inT (sy_i3 (List.mem_of_getElem? (i := 235) (by decide +kernel))) rfl
theorem jX5_48 : Cond.methodLink RX5 48 yX3_numberOf ∈ sy_T := sy_inT (sy_i3 (List.mem_of_getElem? (i := 236) (by decide +kernel))) rfl
theorem jX6_21 : Cond.methodLink RX6 21 yJ7_fill_53178 ∈ sy_T := sy_inT (sy_i4 (List.mem_of_getElem? (i := 67) (by decide +kernel))) rfl
theorem jX6_31 : Cond.methodLink RX6 31 yX6_chainOf ∈ sy_T := sy_inT (sy_i4 (List.mem_of_getElem? (i := 80) (by decide +kernel))) rfl
theorem jX7_18 : Cond.methodLink RX7 18 yX7_clear ∈ sy_T := sy_inT (sy_i1 (List.mem_of_getElem? (i := 134) (by decide +kernel))) rfl
theorem jX7_21 : Cond.methodLink RX7 21 yJ7_fill_53178 ∈ sy_T := sy_inT (sy_i1 (List.mem_of_getElem? (i := 138) (by decide +kernel))) rfl
theorem jX8_32 : Cond.methodLink RX8 32 yX1_begin ∈ sy_T := sy_inT (sy_i3 (List.mem_of_getElem? (i := 140) (by decide +kernel))) rfl
theorem jX8_38 : Cond.methodLink RX8 38 yX1_level ∈ sy_T := sy_inT (sy_i3 (List.mem_of_getElem? (i := 141) (by decide +kernel))) rfl
theorem jX8_42 : Cond.methodLink RX8 42 yX8_add ∈ sy_T := sy_inT (sy_i3 (List.mem_of_getElem? (i := 187) (by decide +kernel))) rfl
theorem jX8_46 : Cond.methodLink RX8 46 yX1_copyTo ∈ sy_T := sy_inT (sy_i3 (List.mem_of_getElem? (i := 162) (by decide +kernel))) rfl
theorem jX8_55 : Cond.methodLink RX8 55 yX8_layFullZero ∈ sy_T := sy_inT (sy_i3 (List.mem_of_getElem? (i := 150) (by decide +kernel))) rfl
theorem jX8_58 : Cond.methodLink RX8 58 yX8_settleResult ∈ sy_T := sy_inT (sy_i3 (List.mem_of_getElem? (i := 158) (by decide +kernel))) rfl
theorem jX8_61 : Cond.methodLink RX8 61 yX8_copyResultTo ∈ sy_T := sy_inT (sy_i3 (List.mem_of_getElem? (i := 163) (by decide +kernel))) rfl
theorem jX8_64 : Cond.methodLink RX8 64 yJ7_fill_53178 ∈ sy_T := sy_inT (sy_i3 (List.mem_of_getElem? (i := 154) (by decide +kernel))) rfl
theorem jX8_70 : Cond.methodLink RX8 70 yX3_placeCount ∈ sy_T := sy_inT (sy_i3 (List.mem_of_getElem? (i := 155) (by decide +kernel))) rfl
theorem jX8_75 : Cond.methodLink RX8 75 yX3_placeAt ∈ sy_T := sy_inT (sy_i3 (List.mem_of_getElem? (i := 156) (by decide +kernel))) rfl
theorem jX8_79 : Cond.methodLink RX8 79 yX1_heightAt ∈ sy_T := sy_inT (sy_i3 (List.mem_of_getElem? (i := 157) (by decide +kernel))) rfl
theorem jX8_82 : Cond.methodLink RX8 82 yX8_startAtNought ∈ sy_T := sy_inT (sy_i3 (List.mem_of_getElem? (i := 182) (by decide +kernel))) rfl
theorem jX8_85 : Cond.methodLink RX8 85 yX8_addInto ∈ sy_T := sy_inT (sy_i3 (List.mem_of_getElem? (i := 183) (by decide +kernel))) rfl
theorem jX9_28 : Cond.methodLink RX9 28 yJ9_max_7cf53 ∈ sy_T := sy_inT (sy_i4 (List.mem_of_getElem? (i := 112) (by decide +kernel))) rfl
theorem jX10_37 : Cond.methodLink RX10 37 yX10_accept ∈ sy_T := sy_inT (sy_i2 (List.mem_of_getElem? (i := 193) (by decide +kernel))) rfl
theorem jX10_41 : Cond.methodLink RX10 41 yX10_refuse ∈ sy_T := sy_inT (sy_i2 (List.mem_of_getElem? (i := 213) (by decide +kernel))) rfl
theorem jX10_45 : Cond.methodLink RX10 45 yX10_isRowWhole ∈ sy_T := sy_inT (sy_i2 (List.mem_of_getElem? (i := 201) (by decide +kernel))) rfl
theorem jX10_49 : Cond.methodLink RX10 49 yX10_closeRow ∈ sy_T := sy_inT (sy_i2 (List.mem_of_getElem? (i := 205) (by decide +kernel))) rfl
theorem jX10_52 : Cond.methodLink RX10 52 yX10_acceptSlash ∈ sy_T := sy_inT (sy_i2 (List.mem_of_getElem? (i := 197) (by decide +kernel))) rfl
theorem jX10_56 : Cond.methodLink RX10 56 yX10_mostInRow ∈ sy_T := sy_inT (sy_i2 (List.mem_of_getElem? (i := 209) (by decide +kernel))) rfl
theorem jX12_102 : Cond.methodLink RX12 102 yX12_links ∈ sy_T := sy_inT (sy_i4 (List.mem_of_getElem? (i := 230) (by decide +kernel))) rfl
theorem jX12_105 : Cond.methodLink RX12 105 yX12_cells ∈ sy_T := sy_inT (sy_i4 (List.mem_of_getElem? (i := 234) (by decide +kernel))) rfl
theorem jX12_109 : Cond.methodLink RX12 109 yX12_in ∈ sy_T := sy_inT (sy_i5 (List.mem_of_getElem? (i := 2) (by decide +kernel))) rfl
theorem jX12_113 : Cond.methodLink RX12 113 yX12_link ∈ sy_T := sy_inT (sy_i4 (List.mem_of_getElem? (i := 238) (by decide +kernel))) rfl
theorem jX12_120 : Cond.methodLink RX12 120 yX12_may ∈ sy_T := sy_inT (sy_i5 (List.mem_of_getElem? (i := 178) (by decide +kernel))) rfl
theorem jX12_124 : Cond.methodLink RX12 124 yX12_begins ∈ sy_T := sy_inT (sy_i5 (List.mem_of_getElem? (i := 194) (by decide +kernel))) rfl
theorem jX12_127 : Cond.methodLink RX12 127 yX12_isStable ∈ sy_T := sy_inT (sy_i5 (List.mem_of_getElem? (i := 198) (by decide +kernel))) rfl
theorem jX12_131 : Cond.methodLink RX12 131 yX12_topples ∈ sy_T := sy_inT (sy_i5 (List.mem_of_getElem? (i := 182) (by decide +kernel))) rfl
theorem jX12_135 : Cond.methodLink RX12 135 yX12_sizeCounted ∈ sy_T := sy_inT (sy_i5 (List.mem_of_getElem? (i := 202) (by decide +kernel))) rfl
theorem jX12_144 : Cond.methodLink RX12 144 yX12_pushesBefore ∈ sy_T := sy_inT (sy_i5 (List.mem_of_getElem? (i := 135) (by decide +kernel))) rfl
theorem jX12_149 : Cond.methodLink RX12 149 yX12_forgets ∈ sy_T := sy_inT (sy_i5 (List.mem_of_getElem? (i := 144) (by decide +kernel))) rfl
theorem jX12_152 : Cond.methodLink RX12 152 yX12_isPlace ∈ sy_T := sy_inT (sy_i5 (List.mem_of_getElem? (i := 156) (by decide +kernel))) rfl
theorem jX12_158 : Cond.methodLink RX12 158 yX12_changes ∈ sy_T := sy_inT (sy_i5 (List.mem_of_getElem? (i := 161) (by decide +kernel))) rfl
theorem jX12_163 : Cond.methodLink RX12 163 yX12_settles ∈ sy_T := sy_inT (sy_i5 (List.mem_of_getElem? (i := 190) (by decide +kernel))) rfl
theorem jX12_176 : Cond.methodLink RX12 176 yX12_isCell ∈ sy_T := sy_inT (sy_i5 (List.mem_of_getElem? (i := 223) (by decide +kernel))) rfl
theorem jX12_188 : Cond.methodLink RX12 188 yX12_wrongAt ∈ sy_T := sy_inT (sy_i5 (List.mem_of_getElem? (i := 219) (by decide +kernel))) rfl
theorem jX12_195 : Cond.methodLink RX12 195 yX12_wrongPlace ∈ sy_T := sy_inT (sy_i5 (List.mem_of_getElem? (i := 215) (by decide +kernel))) rfl
theorem jX12_203 : Cond.methodLink RX12 203 yX12_toppled ∈ sy_T := sy_inT (sy_i6 (List.mem_of_getElem? (i := 8) (by decide +kernel))) rfl
theorem jX12_206 : Cond.methodLink RX12 206 yX12_grains ∈ sy_T := sy_inT (sy_i6 (List.mem_of_getElem? (i := 12) (by decide +kernel))) rfl
theorem jX12_209 : Cond.methodLink RX12 209 yX12_copies ∈ sy_T := sy_inT (sy_i5 (List.mem_of_getElem? (i := 237) (by decide +kernel))) rfl
theorem jX12_213 : Cond.methodLink RX12 213 yX12_roundsOf ∈ sy_T := sy_inT (sy_i6 (List.mem_of_getElem? (i := 0) (by decide +kernel))) rfl
theorem jX12_216 : Cond.methodLink RX12 216 yX12_settledThen ∈ sy_T := sy_inT (sy_i6 (List.mem_of_getElem? (i := 4) (by decide +kernel))) rfl
theorem jX12_222 : Cond.methodLink RX12 222 yX12_comesBehind ∈ sy_T := sy_inT (sy_i6 (List.mem_of_getElem? (i := 28) (by decide +kernel))) rfl
theorem jX12_226 : Cond.methodLink RX12 226 yX12_least ∈ sy_T := sy_inT (sy_i6 (List.mem_of_getElem? (i := 36) (by decide +kernel))) rfl
theorem jX12_229 : Cond.methodLink RX12 229 yX12_tallest ∈ sy_T := sy_inT (sy_i6 (List.mem_of_getElem? (i := 40) (by decide +kernel))) rfl
theorem jX12_232 : Cond.methodLink RX12 232 yX12_leaves ∈ sy_T := sy_inT (sy_i6 (List.mem_of_getElem? (i := 44) (by decide +kernel))) rfl
theorem jX12_238 : Cond.methodLink RX12 238 yX12_isOrder ∈ sy_T := sy_inT (sy_i6 (List.mem_of_getElem? (i := 20) (by decide +kernel))) rfl
theorem jX12_241 : Cond.methodLink RX12 241 yX12_beginsOrder ∈ sy_T := sy_inT (sy_i6 (List.mem_of_getElem? (i := 24) (by decide +kernel))) rfl
theorem jX12_245 : Cond.methodLink RX12 245 yX12_goes ∈ sy_T := sy_inT (sy_i6 (List.mem_of_getElem? (i := 32) (by decide +kernel))) rfl
theorem jX12_249 : Cond.methodLink RX12 249 yX12_firstsBy ∈ sy_T := sy_inT (sy_i6 (List.mem_of_getElem? (i := 52) (by decide +kernel))) rfl
theorem jX12_254 : Cond.methodLink RX12 254 yX12_isPile ∈ sy_T := sy_inT (sy_i6 (List.mem_of_getElem? (i := 60) (by decide +kernel))) rfl
theorem jX12_257 : Cond.methodLink RX12 257 yX12_lays ∈ sy_T := sy_inT (sy_i6 (List.mem_of_getElem? (i := 64) (by decide +kernel))) rfl
theorem jX12_261 : Cond.methodLink RX12 261 yX12_takes ∈ sy_T := sy_inT (sy_i6 (List.mem_of_getElem? (i := 72) (by decide +kernel))) rfl
theorem jX12_265 : Cond.methodLink RX12 265 yX12_addsTo ∈ sy_T := sy_inT (sy_i6 (List.mem_of_getElem? (i := 84) (by decide +kernel))) rfl
theorem jX12_269 : Cond.methodLink RX12 269 yX12_laysNought ∈ sy_T := sy_inT (sy_i6 (List.mem_of_getElem? (i := 92) (by decide +kernel))) rfl
theorem jX12_274 : Cond.methodLink RX12 274 yX12_isLike ∈ sy_T := sy_inT (sy_i6 (List.mem_of_getElem? (i := 109) (by decide +kernel))) rfl
theorem jX12_280 : Cond.methodLink RX12 280 yX12_laysMatrix ∈ sy_T := sy_inT (sy_i6 (List.mem_of_getElem? (i := 121) (by decide +kernel))) rfl
theorem jX12_283 : Cond.methodLink RX12 283 yX12_unburnt ∈ sy_T := sy_inT (sy_i6 (List.mem_of_getElem? (i := 134) (by decide +kernel))) rfl
theorem jX12_286 : Cond.methodLink RX12 286 yX12_burns ∈ sy_T := sy_inT (sy_i6 (List.mem_of_getElem? (i := 130) (by decide +kernel))) rfl
theorem jX12_289 : Cond.methodLink RX12 289 yX12_notBurnt ∈ sy_T := sy_inT (sy_i6 (List.mem_of_getElem? (i := 138) (by decide +kernel))) rfl
theorem jX12_292 : Cond.methodLink RX12 292 yX12_places ∈ sy_T := sy_inT (sy_i6 (List.mem_of_getElem? (i := 146) (by decide +kernel))) rfl
theorem jX12_295 : Cond.methodLink RX12 295 yX12_codeOf ∈ sy_T := sy_inT (sy_i6 (List.mem_of_getElem? (i := 158) (by decide +kernel))) rfl
theorem jX12_298 : Cond.methodLink RX12 298 yX12_ahead ∈ sy_T := sy_inT (sy_i6 (List.mem_of_getElem? (i := 162) (by decide +kernel))) rfl
theorem jX12_309 : Cond.methodLink RX12 309 yX12_placeOf ∈ sy_T := sy_inT (sy_i6 (List.mem_of_getElem? (i := 174) (by decide +kernel))) rfl
theorem jX12_312 : Cond.methodLink RX12 312 yJ9_max_7cf53 ∈ sy_T := sy_inT (sy_i6 (List.mem_of_getElem? (i := 178) (by decide +kernel))) rfl
theorem jX12_318 : Cond.methodLink RX12 318 yX12_countsSize ∈ sy_T := sy_inT (sy_i6 (List.mem_of_getElem? (i := 179) (by decide +kernel))) rfl
theorem jX12_322 : Cond.methodLink RX12 322 yX12_lotsThen ∈ sy_T := sy_inT (sy_i6 (List.mem_of_getElem? (i := 183) (by decide +kernel))) rfl
theorem jX12_326 : Cond.methodLink RX12 326 yX12_isList ∈ sy_T := sy_inT (sy_i6 (List.mem_of_getElem? (i := 191) (by decide +kernel))) rfl
theorem jX12_331 : Cond.methodLink RX12 331 yX12_firstUntold ∈ sy_T := sy_inT (sy_i6 (List.mem_of_getElem? (i := 198) (by decide +kernel))) rfl
theorem jX12_334 : Cond.methodLink RX12 334 yX12_then ∈ sy_T := sy_inT (sy_i6 (List.mem_of_getElem? (i := 203) (by decide +kernel))) rfl
theorem jX12_340 : Cond.methodLink RX12 340 yX12_holding ∈ sy_T := sy_inT (sy_i6 (List.mem_of_getElem? (i := 228) (by decide +kernel))) rfl
theorem jX11_224 : Cond.methodLink RX11 224 arraycopyName ∈ sy_T := sy_inT (sy_i3 (List.mem_of_getElem? (i := 126) (by decide +kernel))) rfl
theorem jX0_23 : Cond.methodLink RX0 23 arraycopyName ∈ sy_T := sy_inT (sy_i2 (List.mem_of_getElem? (i := 105) (by decide +kernel))) rfl
theorem jX1_22 : Cond.methodLink RX1 22 arraycopyName ∈ sy_T := sy_inT (sy_i2 (List.mem_of_getElem? (i := 161) (by decide +kernel))) rfl
theorem jX4_22 : Cond.methodLink RX4 22 arraycopyName ∈ sy_T := sy_inT (sy_i3 (List.mem_of_getElem? (i := 62) (by decide +kernel))) rfl
theorem jX8_49 : Cond.methodLink RX8 49 arraycopyName ∈ sy_T := sy_inT (sy_i3 (List.mem_of_getElem? (i := 167) (by decide +kernel))) rfl
theorem sy_acN : Cond.native arraycopyName ∈ sy_T := sy_inT (sy_i2 (List.mem_of_getElem? (i := 107) (by decide +kernel))) rfl
theorem sy_acS : Cond.static arraycopyName ∈ sy_T := sy_inT (sy_i2 (List.mem_of_getElem? (i := 106) (by decide +kernel))) rfl
theorem sy_acI : Cond.initialized "java/lang/System" ∈ sy_T := sy_inT (sy_i1 (List.mem_of_getElem? (i := 15) (by decide +kernel))) rfl
end
section
/-! one instruction over shape and store; the judgement sy_E; its soundness (by program: wip/whole/gen/exec.py) -/
def sy_n1 : Cond := .fieldLinkNest "SandGroup$Fall" 34 "SandGroup$Grid" "places" "[I" "SandGroup"
def sy_n2 : Cond := .fieldLinkNest "SandGroup$Fall" 39 "SandGroup$Grid" "placeCount" "I" "SandGroup"
def sy_n3 : Cond := .methodLinkNest "SandGroup$Sums" 89 ⟨"SandGroup", "alike", "([I[I)Z"⟩ "SandGroup"
def sy_K (X : sy_X) (s : State) : Prop := va_K X.1 vwCl (sy_tys X) s ∧ va_Nw sy_n1 s ∧ va_Nw sy_n2 s ∧ va_Nw sy_n3 s
abbrev sy_I : Type := Instr × Nat × Nat × Int32 × Int64
def sy_cc (c : Jvm.ClassFile.Cond) (x y : Int32) : Prop := match c with
  | .eq => x = y
  | .ne => ¬ x = y
  | .lt => x < y
  | .ge => y ≤ x
  | .gt => y < x
  | .le => x ≤ y
def sy_okA (sh : sy_Z) (t k : Nat) (j : Int32) : Prop := ∃ (n : Nat) (fs : List (Option Nat)), sh[k]? = some (t, n, fs) ∧ vp_in j n
def sy_okR (sh : sy_Z) (k : Nat) (j : Int32) : Prop := ∃ (n : Nat) (fs : List (Option Nat)) (r : Nat), sh[k]? = some (3, n, fs) ∧ vp_in j n ∧ fs[j.toNatClampNeg]? = some (some r)
def sy_rf (sh : sy_Z) (k i : Nat) : Nat := match sh[k]? with
  | some (_, _, fs) => (fs.getD i none).getD 0
  | none => 0
def sy_okL (sh : sy_Z) (k : Nat) : Prop := ∃ (t n : Nat) (fs : List (Option Nat)), sh[k]? = some (t, n, fs) ∧ t < 4
def sy_len (sh : sy_Z) (k : Nat) : Int32 := match sh[k]? with
  | some (_, n, _) => Int32.ofNat n
  | none => 0
def sy_ln (i : Instr) : Nat := match i with
  | .aload _ | .iload _ | .lload _ | .istore _ | .astore _ | .lstore _ | .bipush _ | .ldc _ => 2
  | .iinc _ _ | .sipush _ | .ldc_w _ | .ldc2_w _ | .getfield _ | .putfield _ | .goto _ | .ifCond _ _ | .if_icmp _ _ | .invokevirtual _ | .invokestatic _ | .invokespecial _ => 3
  | _ => 1
def sy_isT (i : Instr) : Bool := match i with
  | .tableswitch _ _ _ _ => true
  | _ => false
/-- one instruction that is no call and no return: what comes, and what must hold for it -/
def sy_x1 (sh : sy_Z) (en : sy_I) (cf : sy_Cf) : Option (sy_Cf × List Prop) :=
  match cf with
  | (pc, loc, st, σ) => match en with
    | (i, a, b, v, w) => match i with
      | .aload_n k => match loc[k.val]? with
        | some (some (.ref x)) => some ((pc + 1, loc, .ref x :: st, σ), [])
        | _ => none
      | .aload k => match loc[k]? with
        | some (some (.ref x)) => some ((pc + 2, loc, .ref x :: st, σ), [])
        | _ => none
      | .iload_n k => match loc[k.val]? with
        | some (some (.int x)) => some ((pc + 1, loc, .int x :: st, σ), [])
        | _ => none
      | .iload k => match loc[k]? with
        | some (some (.int x)) => some ((pc + 2, loc, .int x :: st, σ), [])
        | _ => none
      | .lload_n k => match loc[k.val]? with
        | some (some (.long x)) => some ((pc + 1, loc, .long x :: st, σ), [])
        | _ => none
      | .lload k => match loc[k]? with
        | some (some (.long x)) => some ((pc + 2, loc, .long x :: st, σ), [])
        | _ => none
      | .istore_n k => match st with
        | .int x :: r => if k.val < loc.length then some ((pc + 1, sy_st1 loc (k.val) (.int x), r, σ), []) else none
        | _ => none
      | .istore k => match st with
        | .int x :: r => if k < loc.length then some ((pc + 2, sy_st1 loc k (.int x), r, σ), []) else none
        | _ => none
      | .astore_n k => match st with
        | .ref x :: r => if k.val < loc.length then some ((pc + 1, sy_st1 loc (k.val) (.ref x), r, σ), []) else none
        | _ => none
      | .astore k => match st with
        | .ref x :: r => if k < loc.length then some ((pc + 2, sy_st1 loc k (.ref x), r, σ), []) else none
        | _ => none
      | .lstore_n k => match st with
        | .long x :: r => if k.val + 1 < loc.length then some ((pc + 1, sy_st2 loc (k.val) (.long x), r, σ), []) else none
        | _ => none
      | .lstore k => match st with
        | .long x :: r => if k + 1 < loc.length then some ((pc + 2, sy_st2 loc k (.long x), r, σ), []) else none
        | _ => none
      | .iinc k _ => match loc[k]? with
        | some (some (.int x)) => some ((pc + 3, sy_st1 loc k (.int (x + v)), st, σ), [])
        | _ => none
      | .iconst _ => some ((pc + 1, loc, .int v :: st, σ), [])
      | .bipush _ => some ((pc + 2, loc, .int v :: st, σ), [])
      | .sipush _ => some ((pc + 3, loc, .int v :: st, σ), [])
      | .lconst _ => some ((pc + 1, loc, .long w :: st, σ), [])
      | .ldc _ => some ((pc + 2, loc, .int v :: st, σ), [])
      | .ldc_w _ => some ((pc + 3, loc, .int v :: st, σ), [])
      | .ldc2_w _ => some ((pc + 3, loc, .long w :: st, σ), [])
      | .iadd => match st with
        | .int y :: .int x :: r => some ((pc + 1, loc, .int (x + y) :: r, σ), [])
        | _ => none
      | .isub => match st with
        | .int y :: .int x :: r => some ((pc + 1, loc, .int (x - y) :: r, σ), [])
        | _ => none
      | .imul => match st with
        | .int y :: .int x :: r => some ((pc + 1, loc, .int (x * y) :: r, σ), [])
        | _ => none
      | .iand => match st with
        | .int y :: .int x :: r => some ((pc + 1, loc, .int (x &&& y) :: r, σ), [])
        | _ => none
      | .ior => match st with
        | .int y :: .int x :: r => some ((pc + 1, loc, .int (x ||| y) :: r, σ), [])
        | _ => none
      | .ixor => match st with
        | .int y :: .int x :: r => some ((pc + 1, loc, .int (x ^^^ y) :: r, σ), [])
        | _ => none
      | .ishl => match st with
        | .int y :: .int x :: r => some ((pc + 1, loc, .int (x <<< (y &&& 31)) :: r, σ), [])
        | _ => none
      | .ishr => match st with
        | .int y :: .int x :: r => some ((pc + 1, loc, .int (x >>> (y &&& 31)) :: r, σ), [])
        | _ => none
      | .iushr => match st with
        | .int y :: .int x :: r => some ((pc + 1, loc, .int ((x.toUInt32 >>> (y.toUInt32 &&& Int32.toUInt32 31)).toInt32) :: r, σ), [])
        | _ => none
      | .idiv => match st with
        | .int y :: .int x :: r => some ((pc + 1, loc, .int (x / y) :: r, σ), [¬ y = 0])
        | _ => none
      | .irem => match st with
        | .int y :: .int x :: r => some ((pc + 1, loc, .int (x - x / y * y) :: r, σ), [¬ y = 0])
        | _ => none
      | .ladd => match st with
        | .long y :: .long x :: r => some ((pc + 1, loc, .long (x + y) :: r, σ), [])
        | _ => none
      | .lsub => match st with
        | .long y :: .long x :: r => some ((pc + 1, loc, .long (x - y) :: r, σ), [])
        | _ => none
      | .lmul => match st with
        | .long y :: .long x :: r => some ((pc + 1, loc, .long (x * y) :: r, σ), [])
        | _ => none
      | .ldiv => match st with
        | .long y :: .long x :: r => some ((pc + 1, loc, .long (x / y) :: r, σ), [¬ y = 0])
        | _ => none
      | .lcmp => match st with
        | .long y :: .long x :: r => some ((pc + 1, loc, .int (lg_cmp x y) :: r, σ), [])
        | _ => none
      | .i2l => match st with
        | .int x :: r => some ((pc + 1, loc, .long x.toInt64 :: r, σ), [])
        | _ => none
      | .dup => match st with
        | .int x :: r => some ((pc + 1, loc, .int x :: .int x :: r, σ), [])
        | .ref x :: r => some ((pc + 1, loc, .ref x :: .ref x :: r, σ), [])
        | _ => none
      | .dup2 => match st with
        | .int y :: .ref x :: r => some ((pc + 1, loc, .int y :: .ref x :: .int y :: .ref x :: r, σ), [])
        | _ => none
      | .pop => match st with
        | .int _ :: r => some ((pc + 1, loc, r, σ), [])
        | _ => none
      | .iaload => match st with
        | .int j :: .ref k :: r => some ((pc + 1, loc, .int (σ.1 k j.toNatClampNeg) :: r, σ), [sy_okA sh 0 k j])
        | _ => none
      | .baload => match st with
        | .int j :: .ref k :: r => some ((pc + 1, loc, .int (σ.1 k j.toNatClampNeg) :: r, σ), [sy_okA sh 1 k j])
        | _ => none
      | .laload => match st with
        | .int j :: .ref k :: r => some ((pc + 1, loc, .long (σ.2 k j.toNatClampNeg) :: r, σ), [sy_okA sh 2 k j])
        | _ => none
      | .aaload => match st with
        | .int j :: .ref k :: r => some ((pc + 1, loc, .ref (sy_rf sh k j.toNatClampNeg) :: r, σ), [sy_okR sh k j])
        | _ => none
      | .iastore => match st with
        | .int x :: .int j :: .ref k :: r => some ((pc + 1, loc, r, (sy_up σ.1 k j.toNatClampNeg x, σ.2)), [sy_okA sh 0 k j])
        | _ => none
      | .bastore => match st with
        | .int x :: .int j :: .ref k :: r => some ((pc + 1, loc, r, (sy_up σ.1 k j.toNatClampNeg (vp_nar .boolean x), σ.2)), [sy_okA sh 1 k j])
        | _ => none
      | .lastore => match st with
        | .long x :: .int j :: .ref k :: r => some ((pc + 1, loc, r, (σ.1, sy_upL σ.2 k j.toNatClampNeg x)), [sy_okA sh 2 k j])
        | _ => none
      | .arraylength => match st with
        | .ref k :: r => some ((pc + 1, loc, .int (sy_len sh k) :: r, σ), [sy_okL sh k])
        | _ => none
      | .getfield _ => match st with
        | .ref k :: r => match sh[k]? with
          | some (t, _, fs) => if t = a + 4 then (match fs[b]? with
            | some none => some ((pc + 3, loc, .int (σ.1 k b) :: r, σ), [])
            | some (some q) => some ((pc + 3, loc, .ref q :: r, σ), [])
            | none => none) else none
          | none => none
        | _ => none
      | .putfield _ => match st with
        | .int x :: .ref k :: r => match sh[k]? with
          | some (t, _, fs) => if t = a + 4 then (match fs[b]? with
            | some none => some ((pc + 3, loc, r, (sy_up σ.1 k b x, σ.2)), [])
            | _ => none) else none
          | none => none
        | _ => none
      | .goto _ => some ((b, loc, st, σ), [])
      | .ifCond c _ => match st with
        | .int x :: r => if a = 1 then some ((b, loc, r, σ), [sy_cc c x 0]) else some ((pc + 3, loc, r, σ), [¬ sy_cc c x 0])
        | _ => none
      | .if_icmp c _ => match st with
        | .int y :: .int x :: r => if a = 1 then some ((b, loc, r, σ), [sy_cc c x y]) else some ((pc + 3, loc, r, σ), [¬ sy_cc c x y])
        | _ => none
      | .tableswitch _ lo hi _ => match st with
        | .int x :: r => if a = 1 then some ((b, loc, r, σ), [x = v]) else some ((b, loc, r, σ), [x.toInt < lo ∨ hi < x.toInt])
        | _ => none
      | _ => none
def sy_nonfinal (a b : Nat) : Bool := match vwCl[a]? with
  | some (_, t, n) => !(t b).2.2.2 && decide (b < n) && decide ((t b).2.2.1 = "I")
  | none => false
def sy_inN (a b : Nat) : Bool := match vwCl[a]? with
  | some (_, _, n) => decide (b < n)
  | none => false
/-- an entry's pool entries and targets are as the entry says -/
def sy_ok2 (y : sy_M) (pc : Nat) (en : sy_I) : Bool := match en with
  | (i, a, b, v, w) => match i with
    | .getfield idx => sy_inN a b && (sy_FL.contains (y.2.2.2.2.1, idx, a, b) || (decide (y.1.cls = "SandGroup$Fall") && decide (a = 3) && ((decide (idx = 34) && decide (b = 1)) || (decide (idx = 39) && decide (b = 7)))))
    | .putfield idx => sy_FL.contains (y.2.2.2.2.1, idx, a, b) && sy_nonfinal a b
    | .iconst n => decide (Int32.ofInt n = v)
    | .bipush n => decide ((Int8.ofInt n).toInt32 = v)
    | .sipush n => decide ((Int16.ofInt n).toInt32 = v)
    | .lconst n => decide (Int64.ofNat n.val = w)
    | .iinc _ n => decide (Int32.ofInt n = v)
    | .ldc idx => sy_CI.any fun q => decide (q.1 = y.2.2.2.2.1 ∧ q.2.1 = idx ∧ Int32.ofInt q.2.2 = v)
    | .ldc_w idx => sy_CI.any fun q => decide (q.1 = y.2.2.2.2.1 ∧ q.2.1 = idx ∧ Int32.ofInt q.2.2 = v)
    | .ldc2_w idx => sy_CJ.any fun q => decide (q.1 = y.2.2.2.2.1 ∧ q.2.1 = idx ∧ Int64.ofInt q.2.2 = w)
    | .goto off => decide ((pc : Int) + off = (b : Int))
    | .ifCond _ off => decide ((pc : Int) + off = (b : Int))
    | .if_icmp _ off => decide ((pc : Int) + off = (b : Int))
    | .tableswitch dflt lo hi offs => if a = 1 then (match offs[(v.toInt - lo).toNat]? with
        | some off => decide ((pc : Int) + off = (b : Int)) && decide (lo ≤ v.toInt) && decide (v.toInt ≤ hi)
        | none => false) else decide ((pc : Int) + dflt = (b : Int))
    | _ => true
/-- the instruction stands there -/
def sy_ok1 (y : sy_M) (pc : Nat) (en : sy_I) : Bool := (match decode y.2.1 pc with
  | .ok (i, n) => decide (i = en.1) && (decide (n = sy_ln i) || sy_isT i)
  | _ => false) && sy_ok2 y pc en
def sy_all : List Prop → Prop
  | [] => True
  | p :: r => p ∧ sy_all r
def sy_Q (X : sy_X) (sh : sy_Z) (Q : Option Value → sy_S → Prop) (sz : Nat) : Array Value → State → Outcome → State → Prop := fun _ st o t => (∃ (r : Option Value) (σ : sy_S), o = .returned (r.map (sy_v X)) ∧ Q r σ ∧ va_P X.1 vwCl (sy_w X sh σ) t.heap) ∧ va_F (sy_A X sh sz) st t
def sy_ws (y : sy_M) : List Cond := Cond.code y.1 y.2.1 y.2.2.1 y.2.2.2.1 :: sy_T
def sy_rm (y : sy_M) : Room := { frames := y.2.2.2.2.2.1, cells := 0, slots := 0, locals := y.2.2.2.2.2.2 }
def sy_ctx (y : sy_M) (X : sy_X) (p : Program) (s : State) (m : MethodId) (args : Array Value) (meth : Method) (c : Code) : Prop :=
  p.tables.exec = Jvm.exec ∧ c.code = y.2.1 ∧ meth.sig.returnType = y.2.2.2.1 ∧ meth.locks = false ∧ c.maxLocals = y.2.2.1 ∧ s.vm.findClass y.1.cls = some m.cls ∧ (∀ w ∈ sy_T, w.before args s = true) ∧ sy_K X s ∧ y.1.cls = sy_cn y.2.2.2.2.1
def sy_at (sh : sy_Z) (y : sy_M) (Q : Option Value → sy_S → Prop) (l : Launch) (X : sy_X) (p : Program) (e : Env) (s : State) (m : MethodId) (args : Array Value) (below : List Frame) (meth : Method) (c : Code) (cf : sy_Cf) : Prop :=
  ∀ (H : Heap) (locs : List Loc) (ls : Array Slot), va_P X.1 vwCl (sy_w X sh cf.2.2.2) H → va_D (sy_A X sh s.heap.size) (sy_w X sh cf.2.2.2) → va_S (sy_A X sh s.heap.size) s.heap H locs → sy_has X ls y.2.2.1 cf.2.1 →
    W p l e (sy_rm y) s m args below meth c H locs 0 0 (MQ below (sy_Q X sh Q s.heap.size) args s 0 0 (sy_A X sh s.heap.size)) (F0 m cf.1 ls (cf.2.2.1.map (sy_v X)))
/-- from cf on, the method y comes to its end, with an answer and a store that Q holds of -/
def sy_E (sh : sy_Z) (y : sy_M) (cf : sy_Cf) (Q : Option Value → sy_S → Prop) : Prop :=
  ∀ (l : Launch) (X : sy_X) (p : Program) (e : Env) (s : State) (m : MethodId) (args : Array Value) (below : List Frame) (meth : Method) (c : Code), sy_ctx y X p s m args meth c → sy_at sh y Q l X p e s m args below meth c cf
theorem sy_ok1_d {y : sy_M} {pc : Nat} {i : Instr} {a b : Nat} {v : Int32} {w : Int64} (h : sy_ok1 y pc (i, a, b, v, w) = true) (hT : sy_isT i = false) : decode y.2.1 pc = .ok (i, sy_ln i) := by
  unfold sy_ok1 at h
  rw [Bool.and_eq_true] at h
  have h := h.1
  split at h
  · rename_i i' n hd
    simp only [Bool.and_eq_true, decide_eq_true_eq, Bool.or_eq_true] at h
    obtain ⟨rfl, h2⟩ := h
    rcases h2 with h2 | h2
    · rw [hd, h2]
    · rw [hT] at h2; cases h2
  · cases h
theorem sy_has.st1 {X : sy_X} {ls ls' : Array Slot} {nL i : Nat} {loc : List (Option Value)} {v : Value} (h : sy_has X ls nL loc) (hn : i < nL) (h' : lv_has ls' nL ((i, sy_v X v) :: (sy_al X loc).filter (fun q => !(q.1 == i) && !(q.1 + 1 == i && q.2.category == 2)))) : sy_has X ls' nL (sy_st1 loc i v) := by
  refine ⟨by rw [sy_st1_len]; exact h.1, h'.1, h'.2.1, fun j w hw => ?_⟩
  rcases sy_st1_at hw with ⟨rfl, rfl⟩ | ⟨h1, h2, h3⟩
  · exact h'.2.2 (j, sy_v X w) List.mem_cons_self
  · refine h'.2.2 (j, sy_v X w) (List.mem_cons_of_mem _ (List.mem_filter.mpr ⟨sy_al_mem h2, ?_⟩))
    simp only [Bool.and_eq_true, Bool.not_eq_true', beq_eq_false_iff_ne, Bool.and_eq_false_iff]
    refine ⟨h1, ?_⟩
    by_cases q : j + 1 = i
    · right
      rw [sy_cat]
      exact fun z => h3 ⟨q, z⟩
    · left
      exact q
theorem sy_has.st2 {X : sy_X} {ls ls' : Array Slot} {nL i : Nat} {loc : List (Option Value)} {v : Value} (h : sy_has X ls nL loc) (hn : i + 1 < nL) (h' : lv_has ls' nL ((i, sy_v X v) :: (sy_al X loc).filter (fun q => !(q.1 == i) && (!(q.1 == i + 1) && !(q.1 + 1 == i && q.2.category == 2))))) : sy_has X ls' nL (sy_st2 loc i v) := by
  refine ⟨by unfold sy_st2; rw [List.length_set, sy_st1_len]; exact h.1, h'.1, h'.2.1, fun j w hw => ?_⟩
  unfold sy_st2 at hw
  by_cases hj : j = i + 1
  · subst hj
    rw [List.getElem?_set_self'] at hw
    cases hz : (sy_st1 loc i v)[i + 1]? <;> simp_all
  · rw [List.getElem?_set_ne (Ne.symm hj)] at hw
    rcases sy_st1_at hw with ⟨rfl, rfl⟩ | ⟨h1, h2, h3⟩
    · exact h'.2.2 (j, sy_v X w) List.mem_cons_self
    · refine h'.2.2 (j, sy_v X w) (List.mem_cons_of_mem _ (List.mem_filter.mpr ⟨sy_al_mem h2, ?_⟩))
      simp only [Bool.and_eq_true, Bool.not_eq_true', beq_eq_false_iff_ne, Bool.and_eq_false_iff]
      refine ⟨h1, hj, ?_⟩
      by_cases q : j + 1 = i
      · right
        rw [sy_cat]
        exact fun z => h3 ⟨q, z⟩
      · left
        exact q
theorem sy_FLm {q : Nat × Nat × Nat × Nat} (h : sy_FL.contains q = true) : sy_fw q ∈ sy_T := by
  have h1 : q ∈ sy_FL := by simpa using h
  have h2 := List.all_eq_true.mp sy_FL_ok q h1
  simp only [Bool.and_eq_true, decide_eq_true_eq] at h2
  exact sy_inT h2.1 h2.2
theorem sy_CIm {o n : Nat} {v : Int32} (h : (sy_CI.any fun q => decide (q.1 = o ∧ q.2.1 = n ∧ Int32.ofInt q.2.2 = v)) = true) : Cond.constant (sy_cn o) n v ∈ sy_T := by
  obtain ⟨q, h1, h0⟩ := List.any_eq_true.mp h
  obtain ⟨rfl, rfl, rfl⟩ := of_decide_eq_true h0
  have h2 := List.all_eq_true.mp sy_CI_ok q h1
  simp only [Bool.and_eq_true, decide_eq_true_eq] at h2
  exact sy_inT h2.1 h2.2
theorem sy_CJm {o n : Nat} {v : Int64} (h : (sy_CJ.any fun q => decide (q.1 = o ∧ q.2.1 = n ∧ Int64.ofInt q.2.2 = v)) = true) : Cond.constantLong (sy_cn o) n v ∈ sy_T := by
  obtain ⟨q, h1, h0⟩ := List.any_eq_true.mp h
  obtain ⟨rfl, rfl, rfl⟩ := of_decide_eq_true h0
  have h2 := List.all_eq_true.mp sy_CJ_ok q h1
  simp only [Bool.and_eq_true, decide_eq_true_eq] at h2
  exact sy_inT h2.1 h2.2
theorem sy_allT {ws : List Cond} (h : (ws.all fun w => decide (w ∈ tables_1) && goodWord w) = true) : ∀ w ∈ ws, w ∈ sy_T := by
  intro w hw
  have h2 := List.all_eq_true.mp h w hw
  simp only [Bool.and_eq_true, decide_eq_true_eq] at h2
  exact sy_inT h2.1 h2.2
/-- what is known of a class of the worlds -/
theorem sy_cls {a : Nat} {C : String} {T : u_T} {N : Nat} (h : vwCl[a]? = some (C, T, N)) : (∀ w ∈ u_ws C T N, w ∈ sy_T) ∧ (∀ k, k < N → parseFieldDescriptor (T k).2.2.1 = some (sy_ty a k)) ∧ (∀ i, i < N → ∀ j, j < N → i ≠ j → (T i).2.1 ≠ (T j).2.1) := by
  match a, h with
  | 0, h => cases h; exact ⟨sy_allT sy_cw0, tyX0_ok, nmX0⟩
  | 1, h => cases h; exact ⟨sy_allT sy_cw1, tyX1_ok, nmX1⟩
  | 2, h => cases h; exact ⟨sy_allT sy_cw2, tyX2_ok, nmX2⟩
  | 3, h => cases h; exact ⟨sy_allT sy_cw3, tyX3_ok, nmX3⟩
  | 4, h => cases h; exact ⟨sy_allT sy_cw4, tyX4_ok, nmX4⟩
  | 5, h => cases h; exact ⟨sy_allT sy_cw5, tyX5_ok, nmX5⟩
  | 6, h => cases h; exact ⟨sy_allT sy_cw6, tyX6_ok, nmX6⟩
  | 7, h => cases h; exact ⟨sy_allT sy_cw7, tyX7_ok, nmX7⟩
  | 8, h => cases h; exact ⟨sy_allT sy_cw8, tyX8_ok, nmX8⟩
  | 9, h => cases h; exact ⟨sy_allT sy_cw9, tyX9_ok, nmX9⟩
  | 10, h => cases h; exact ⟨sy_allT sy_cw10, tyX10_ok, nmX10⟩
  | 11, h => cases h; exact ⟨sy_allT sy_cw11, tyX11_ok, nmX11⟩
  | 12, h => cases h; exact ⟨sy_allT sy_cw12, tyX12_ok, nmX12⟩
  | a + 13, h => simp [vwCl] at h
end
section
/-! soundness of one instruction (by program: wip/whole/gen/sound.py) -/
theorem sy_setI {X : sy_X} {sh : sy_Z} {σ : sy_S} {k n i : Nat} {fs : List (Option Nat)} {x : Int32} (hz : sh[k]? = some (0, n, fs)) : (sy_w X sh σ).set k (X.2.2 k, .inl (X.2.1 0, n, .inl (upd (σ.1 k) i x))) = sy_w X sh (sy_up σ.1 k i x, σ.2) := by
  rw [← sy_w_set (σ := σ) (σ' := (sy_up σ.1 k i x, σ.2)) hz (fun j z' hj => sy_e_up j z' hj)]
  congr 2
  show _ = Sum.inl (X.2.1 0, n, Sum.inl (sy_up σ.1 k i x k))
  rw [sy_up_self]
theorem sy_setB {X : sy_X} {sh : sy_Z} {σ : sy_S} {k n i : Nat} {fs : List (Option Nat)} {x : Int32} (hz : sh[k]? = some (1, n, fs)) : (sy_w X sh σ).set k (X.2.2 k, .inl (X.2.1 1, n, .inl (upd (σ.1 k) i x))) = sy_w X sh (sy_up σ.1 k i x, σ.2) := by
  rw [← sy_w_set (σ := σ) (σ' := (sy_up σ.1 k i x, σ.2)) hz (fun j z' hj => sy_e_up j z' hj)]
  congr 2
  show _ = Sum.inl (X.2.1 1, n, Sum.inl (sy_up σ.1 k i x k))
  rw [sy_up_self]
theorem sy_setL {X : sy_X} {sh : sy_Z} {σ : sy_S} {k n i : Nat} {fs : List (Option Nat)} {x : Int64} (hz : sh[k]? = some (2, n, fs)) : (sy_w X sh σ).set k (X.2.2 k, .inl (X.2.1 2, n, .inr (.inl (vp_updL (σ.2 k) i x)))) = sy_w X sh (σ.1, sy_upL σ.2 k i x) := by
  rw [← sy_w_set (σ := σ) (σ' := (σ.1, sy_upL σ.2 k i x)) hz (fun j z' hj => sy_e_upL j z' hj)]
  congr 2
  show _ = Sum.inl (X.2.1 2, n, Sum.inr (Sum.inl (sy_upL σ.2 k i x k)))
  rw [sy_upL_self]
theorem sy_setF {X : sy_X} {sh : sy_Z} {σ : sy_S} {k n b a : Nat} {fs : List (Option Nat)} {x : Int32} (hz : sh[k]? = some (a + 4, n, fs)) (hf : fs[b]? = some none) : (sy_w X sh σ).set k (X.2.2 k, .inr (a, (fs.mapIdx (sy_fv X σ k)).set b (.int x))) = sy_w X sh (sy_up σ.1 k b x, σ.2) := by
  rw [← sy_w_set (σ := σ) (σ' := (sy_up σ.1 k b x, σ.2)) hz (fun j z' hj => sy_e_up j z' hj)]
  congr 2
  show _ = Sum.inr (a, fs.mapIdx (sy_fv X (sy_up σ.1 k b x, σ.2) k))
  congr 2
  apply List.ext_getElem?
  intro j
  by_cases hj : j = b
  · subst hj
    rw [List.getElem?_set_self (by rw [List.length_mapIdx]; exact (List.getElem?_eq_some_iff.mp hf).1), List.getElem?_mapIdx, hf]
    show _ = some (Value.int (sy_up σ.1 k j x k j))
    rw [sy_up_self]
    simp [upd]
  · rw [List.getElem?_set_ne (Ne.symm hj), List.getElem?_mapIdx, List.getElem?_mapIdx]
    cases fs[j]? with
    | none => rfl
    | some f =>
      cases f with
      | none =>
        show some (Value.int (σ.1 k j)) = some (Value.int (sy_up σ.1 k b x k j))
        rw [sy_up_self]
        simp [upd, hj]
      | some r => rfl
theorem sy_ok1_2 {y : sy_M} {pc : Nat} {en : sy_I} (h : sy_ok1 y pc en = true) : sy_ok2 y pc en = true := by
  unfold sy_ok1 at h
  rw [Bool.and_eq_true] at h
  exact h.2
theorem sy_ok1_t {y : sy_M} {pc : Nat} {i : Instr} {a b : Nat} {v : Int32} {w : Int64} (h : sy_ok1 y pc (i, a, b, v, w) = true) : ∃ n, decode y.2.1 pc = .ok (i, n) := by
  unfold sy_ok1 at h
  rw [Bool.and_eq_true] at h
  have h := h.1
  split at h
  · rename_i i' n hd
    simp only [Bool.and_eq_true, decide_eq_true_eq, Bool.or_eq_true] at h
    obtain ⟨rfl, h2⟩ := h
    exact ⟨n, hd⟩
  · cases h
section SOUND
variable {sh : sy_Z} {y : sy_M} {Q : Option Value → sy_S → Prop} {l : Launch} {X : sy_X} {p : Program} {e : Env} {s : State} {m : MethodId} {args : Array Value} {below : List Frame} {meth : Method} {c : Code} {cf' : sy_Cf} {P : List Prop} {pc a b : Nat} {v : Int32} {w : Int64} {loc : List (Option Value)} {st : List Value} {σ : sy_S}
theorem sy_getf (C : sy_ctx y X p s m args meth c) {idx k n : Nat} {fs : List (Option Nat)} {f : Option Nat} {r : List Value} (hk : sy_ok1 y pc (.getfield idx, a, b, v, w) = true) (hz : sh[k]? = some (a + 4, n, fs)) (hf : fs[b]? = some f) {H : Heap} {locs : List Loc} {ls : Array Slot} {R : Room} {q : State → Prop} (hW : va_P X.1 vwCl (sy_w X sh σ) H)
    (kk : W p l e R s m args below meth c H locs 0 0 q (F0 m (pc + 3) ls (sy_fv X σ k b f :: r))) : W p l e R s m args below meth c H locs 0 0 q (F0 m pc ls (.ref (X.2.2 k) :: r)) := by
  obtain ⟨hx, hb, hr, hlocks, hml, hown, hts, hK, hcn⟩ := C
  have h2 := sy_ok1_2 hk
  have hd := sy_ok1_d hk rfl
  dsimp only [sy_ok2] at h2
  simp only [Bool.and_eq_true, Bool.or_eq_true, decide_eq_true_eq] at h2
  have he := sy_w_at (X := X) (σ := σ) hz
  obtain ⟨⟨C, T, N⟩, hc, -⟩ := hW k _ he
  have hc : vwCl[a]? = some (C, T, N) := hc
  have hin := (sy_cls hc).1
  have hN : b < N := by
    have h3 := h2.1
    unfold sy_inN at h3
    rw [hc] at h3
    simpa using h3
  have hv : (fs.mapIdx (sy_fv X σ k))[b]? = some (sy_fv X σ k b f) := by rw [List.getElem?_mapIdx, hf]; rfl
  rcases h2.2 with h3 | ⟨⟨h3, h4⟩, h5⟩
  · have hw := hts _ (sy_FLm h3)
    unfold sy_fw at hw
    simp only [hc] at hw
    rw [← hcn] at hw
    exact va_get hx hb hts hin hown hK.1 hW k he hc b hN hw (fun _ h9 => h9) hv hd kk
  · subst h4
    cases hc
    rw [h3] at hown
    rcases h5 with ⟨rfl, rfl⟩ | ⟨rfl, rfl⟩
    · exact va_getN hx hb hts hin hown hK.1 hW k he rfl 1 hN (va_Nw.use rfl hK.2.1) (fun _ h9 => h9) hv hd kk
    · exact va_getN hx hb hts hin hown hK.1 hW k he rfl 7 hN (va_Nw.use rfl hK.2.2.1) (fun _ h9 => h9) hv hd kk
set_option maxHeartbeats 4000000 in
theorem sy_one (C : sy_ctx y X p s m args meth c) {en : sy_I} {cf : sy_Cf} (hk : sy_ok1 y cf.1 en = true) (h : sy_x1 sh en cf = some (cf', P)) (hP : sy_all P) (kk : sy_at sh y Q l X p e s m args below meth c cf') : sy_at sh y Q l X p e s m args below meth c cf := by
  obtain ⟨hx, hb, hr, hlocks, hml, hown, hts, hK, hcn⟩ := id C
  obtain ⟨pc, loc, st, σ⟩ := cf
  obtain ⟨i, a, b, v, w⟩ := en
  intro H locs ls hW hD hS hl
  cases i with
  | aload_n k =>
    dsimp only [sy_x1] at h
    split at h
    · rename_i x hv
      cases h
      exact lv_aload_n hx hb (sy_ok1_d hk rfl) rfl (hl.2.2.2 _ _ hv) (kk H locs ls hW hD hS hl)
    · cases h
  | iload_n k =>
    dsimp only [sy_x1] at h
    split at h
    · rename_i x hv
      cases h
      exact lv_iload_n hx hb (sy_ok1_d hk rfl) rfl (hl.2.2.2 _ _ hv) (kk H locs ls hW hD hS hl)
    · cases h
  | lload_n k =>
    dsimp only [sy_x1] at h
    split at h
    · rename_i x hv
      cases h
      exact lv_lload_n hx hb (sy_ok1_d hk rfl) rfl (hl.2.2.2 _ _ hv) (kk H locs ls hW hD hS hl)
    · cases h
  | aload k =>
    dsimp only [sy_x1] at h
    split at h
    · rename_i x hv
      cases h
      exact lv_aload hx hb (sy_ok1_d hk rfl) (hl.2.2.2 _ _ hv) (kk H locs ls hW hD hS hl)
    · cases h
  | iload k =>
    dsimp only [sy_x1] at h
    split at h
    · rename_i x hv
      cases h
      exact lv_iload hx hb (sy_ok1_d hk rfl) (hl.2.2.2 _ _ hv) (kk H locs ls hW hD hS hl)
    · cases h
  | lload k =>
    dsimp only [sy_x1] at h
    split at h
    · rename_i x hv
      cases h
      exact lv_lload hx hb (sy_ok1_d hk rfl) (hl.2.2.2 _ _ hv) (kk H locs ls hW hD hS hl)
    · cases h
  | istore k =>
    dsimp only [sy_x1] at h
    split at h
    · split at h
      · rename_i hn
        cases h
        rw [hl.1] at hn
        exact lv_istore hx hb (sy_ok1_d hk rfl) hl.al hn rfl (fun ls hl' => kk H locs ls hW hD hS (hl.st1 (v := .int _) hn hl'))
      · cases h
    · cases h
  | istore_n k =>
    dsimp only [sy_x1] at h
    split at h
    · split at h
      · rename_i hn
        cases h
        rw [hl.1] at hn
        exact lv_istore_n hx hb (sy_ok1_d hk rfl) rfl hl.al hn rfl (fun ls hl' => kk H locs ls hW hD hS (hl.st1 (v := .int _) hn hl'))
      · cases h
    · cases h
  | astore k =>
    dsimp only [sy_x1] at h
    split at h
    · split at h
      · rename_i hn
        cases h
        rw [hl.1] at hn
        exact lv_astore hx hb (sy_ok1_d hk rfl) hl.al hn rfl (fun ls hl' => kk H locs ls hW hD hS (hl.st1 (v := .ref _) hn hl'))
      · cases h
    · cases h
  | astore_n k =>
    dsimp only [sy_x1] at h
    split at h
    · split at h
      · rename_i hn
        cases h
        rw [hl.1] at hn
        exact lv_astore_n hx hb (sy_ok1_d hk rfl) rfl hl.al hn rfl (fun ls hl' => kk H locs ls hW hD hS (hl.st1 (v := .ref _) hn hl'))
      · cases h
    · cases h
  | lstore k =>
    dsimp only [sy_x1] at h
    split at h
    · split at h
      · rename_i hn
        cases h
        rw [hl.1] at hn
        exact lv_lstore hx hb (sy_ok1_d hk rfl) hl.al hn rfl (fun ls hl' => kk H locs ls hW hD hS (hl.st2 (v := .long _) hn hl'))
      · cases h
    · cases h
  | lstore_n k =>
    dsimp only [sy_x1] at h
    split at h
    · split at h
      · rename_i hn
        cases h
        rw [hl.1] at hn
        exact lv_lstore_n hx hb (sy_ok1_d hk rfl) rfl hl.al hn rfl (fun ls hl' => kk H locs ls hW hD hS (hl.st2 (v := .long _) hn hl'))
      · cases h
    · cases h
  | iinc k n =>
    dsimp only [sy_x1] at h
    split at h
    · rename_i x hv
      cases h
      have hn : k < y.2.2.1 := by rw [← hl.1]; exact (List.getElem?_eq_some_iff.mp hv).1
      obtain ⟨k9, hk9⟩ := List.getElem?_of_mem (sy_al_mem (X := X) hv)
      exact lv_iinc hx hb (sy_ok1_d hk rfl) hl.al hk9 (by have h9 := sy_ok1_2 hk; dsimp only [sy_ok2] at h9; rw [of_decide_eq_true h9]) hn rfl (fun ls hl' => kk H locs ls hW hD hS (hl.st1 (v := .int _) hn hl'))
    · cases h
  | iconst n => cases h; exact lv_iconst hx hb (sy_ok1_d hk rfl) (by have h9 := sy_ok1_2 hk; dsimp only [sy_ok2] at h9; exact of_decide_eq_true h9) (kk H locs ls hW hD hS hl)
  | bipush n => cases h; exact lv_bipush hx hb (sy_ok1_d hk rfl) (by have h9 := sy_ok1_2 hk; dsimp only [sy_ok2] at h9; exact of_decide_eq_true h9) (kk H locs ls hW hD hS hl)
  | sipush n => cases h; exact lv_sipush hx hb (sy_ok1_d hk rfl) (by have h9 := sy_ok1_2 hk; dsimp only [sy_ok2] at h9; exact of_decide_eq_true h9) (kk H locs ls hW hD hS hl)
  | lconst n => cases h; exact lv_lconst hx hb (sy_ok1_d hk rfl) (by have h9 := sy_ok1_2 hk; dsimp only [sy_ok2] at h9; exact of_decide_eq_true h9) (kk H locs ls hW hD hS hl)
  | ldc n => cases h; exact lv_ldc hx hb hown (by rw [hcn]; exact hts _ (sy_CIm (sy_ok1_2 hk))) (sy_ok1_d hk rfl) (kk H locs ls hW hD hS hl)
  | ldc_w n => cases h; exact lv_ldcw hx hb hown (by rw [hcn]; exact hts _ (sy_CIm (sy_ok1_2 hk))) (sy_ok1_d hk rfl) (kk H locs ls hW hD hS hl)
  | ldc2_w n => cases h; exact lv_ldc2 hx hb hown (by rw [hcn]; exact hts _ (sy_CJm (sy_ok1_2 hk))) (sy_ok1_d hk rfl) (kk H locs ls hW hD hS hl)
  | iadd =>
    dsimp only [sy_x1] at h
    split at h
    · cases h
      exact lv_iadd hx hb (sy_ok1_d hk rfl) (kk H locs ls hW hD hS hl)
    · cases h
  | isub =>
    dsimp only [sy_x1] at h
    split at h
    · cases h
      exact lv_isub hx hb (sy_ok1_d hk rfl) (kk H locs ls hW hD hS hl)
    · cases h
  | imul =>
    dsimp only [sy_x1] at h
    split at h
    · cases h
      exact lv_imul hx hb (sy_ok1_d hk rfl) (kk H locs ls hW hD hS hl)
    · cases h
  | iand =>
    dsimp only [sy_x1] at h
    split at h
    · cases h
      exact lv_iand hx hb (sy_ok1_d hk rfl) (kk H locs ls hW hD hS hl)
    · cases h
  | ior =>
    dsimp only [sy_x1] at h
    split at h
    · cases h
      exact lv_ior hx hb (sy_ok1_d hk rfl) (kk H locs ls hW hD hS hl)
    · cases h
  | ixor =>
    dsimp only [sy_x1] at h
    split at h
    · cases h
      exact lv_ixor hx hb (sy_ok1_d hk rfl) (kk H locs ls hW hD hS hl)
    · cases h
  | ishl =>
    dsimp only [sy_x1] at h
    split at h
    · cases h
      exact lv_ishl hx hb (sy_ok1_d hk rfl) (kk H locs ls hW hD hS hl)
    · cases h
  | ishr =>
    dsimp only [sy_x1] at h
    split at h
    · cases h
      exact lv_ishr hx hb (sy_ok1_d hk rfl) (kk H locs ls hW hD hS hl)
    · cases h
  | ladd =>
    dsimp only [sy_x1] at h
    split at h
    · cases h
      exact lv_ladd hx hb (sy_ok1_d hk rfl) (kk H locs ls hW hD hS hl)
    · cases h
  | lsub =>
    dsimp only [sy_x1] at h
    split at h
    · cases h
      exact lv_lsub hx hb (sy_ok1_d hk rfl) (kk H locs ls hW hD hS hl)
    · cases h
  | lmul =>
    dsimp only [sy_x1] at h
    split at h
    · cases h
      exact lv_lmul hx hb (sy_ok1_d hk rfl) (kk H locs ls hW hD hS hl)
    · cases h
  | iushr =>
    dsimp only [sy_x1] at h
    split at h
    · cases h
      exact lv_iushr hx hb (sy_ok1_d hk rfl) rfl (kk H locs ls hW hD hS hl)
    · cases h
  | i2l =>
    dsimp only [sy_x1] at h
    split at h
    · cases h
      exact lv_i2l hx hb (sy_ok1_d hk rfl) rfl (kk H locs ls hW hD hS hl)
    · cases h
  | idiv =>
    dsimp only [sy_x1] at h
    split at h
    · cases h
      exact lv_idiv hx hb (sy_ok1_d hk rfl) hP.1 (kk H locs ls hW hD hS hl)
    · cases h
  | irem =>
    dsimp only [sy_x1] at h
    split at h
    · cases h
      exact lv_irem hx hb (sy_ok1_d hk rfl) hP.1 (kk H locs ls hW hD hS hl)
    · cases h
  | ldiv =>
    dsimp only [sy_x1] at h
    split at h
    · cases h
      exact lv_ldiv hx hb (sy_ok1_d hk rfl) hP.1 (kk H locs ls hW hD hS hl)
    · cases h
  | lcmp =>
    dsimp only [sy_x1] at h
    split at h
    · cases h
      exact W.lcmp hx hb (sy_ok1_d hk rfl) (kk H locs ls hW hD hS hl)
    · cases h
  | dup =>
    dsimp only [sy_x1] at h
    split at h
    · cases h
      exact lv_dup hx hb (sy_ok1_d hk rfl) rfl (kk H locs ls hW hD hS hl)
    · cases h
      exact lv_dup hx hb (sy_ok1_d hk rfl) rfl (kk H locs ls hW hD hS hl)
    · cases h
  | dup2 =>
    dsimp only [sy_x1] at h
    split at h
    · cases h
      exact lv_dup2_11 hx hb (sy_ok1_d hk rfl) rfl rfl (kk H locs ls hW hD hS hl)
    · cases h
  | pop =>
    dsimp only [sy_x1] at h
    split at h
    · cases h
      exact lv_pop hx hb (sy_ok1_d hk rfl) rfl (kk H locs ls hW hD hS hl)
    · cases h
  | iaload =>
    dsimp only [sy_x1] at h
    split at h
    · rename_i j k r
      cases h
      obtain ⟨⟨n, fs, hz, hin⟩, -⟩ := hP
      exact va_iald hx hb hK.1 hW k 0 (sy_w_at hz) rfl hin (sy_ok1_d hk rfl) (kk H locs ls hW hD hS hl)
    · cases h
  | baload =>
    dsimp only [sy_x1] at h
    split at h
    · rename_i j k r
      cases h
      obtain ⟨⟨n, fs, hz, hin⟩, -⟩ := hP
      exact va_zald hx hb hK.1 hW k 1 (sy_w_at hz) rfl hin (sy_ok1_d hk rfl) (kk H locs ls hW hD hS hl)
    · cases h
  | laload =>
    dsimp only [sy_x1] at h
    split at h
    · rename_i j k r
      cases h
      obtain ⟨⟨n, fs, hz, hin⟩, -⟩ := hP
      exact va_lald hx hb hK.1 hW k 2 (sy_w_at hz) rfl hin (sy_ok1_d hk rfl) (kk H locs ls hW hD hS hl)
    · cases h
  | iastore =>
    dsimp only [sy_x1] at h
    split at h
    · rename_i x j k r
      cases h
      obtain ⟨⟨n, fs, hz, hin⟩, -⟩ := hP
      exact va_iast hx hb hK.1 hW hD hS k 0 (sy_w_at hz) rfl hin (sy_ok1_d hk rfl) (fun H1 locs1 h1 h2 h3 => kk H1 locs1 ls (by rw [sy_setI hz] at h1; exact h1) (sy_D hD) h3 hl)
    · cases h
  | bastore =>
    dsimp only [sy_x1] at h
    split at h
    · rename_i x j k r
      cases h
      obtain ⟨⟨n, fs, hz, hin⟩, -⟩ := hP
      exact va_zast hx hb hK.1 hW hD hS k 1 (sy_w_at hz) rfl hin (sy_ok1_d hk rfl) (fun H1 locs1 h1 h2 h3 => kk H1 locs1 ls (by rw [sy_setB hz] at h1; exact h1) (sy_D hD) h3 hl)
    · cases h
  | lastore =>
    dsimp only [sy_x1] at h
    split at h
    · rename_i x j k r
      cases h
      obtain ⟨⟨n, fs, hz, hin⟩, -⟩ := hP
      exact va_last hx hb hK.1 hW hD hS k 2 (sy_w_at hz) rfl hin (sy_ok1_d hk rfl) (fun H1 locs1 h1 h2 h3 => kk H1 locs1 ls (by rw [sy_setL hz] at h1; exact h1) (sy_D hD) h3 hl)
    · cases h
  | aaload =>
    dsimp only [sy_x1] at h
    split at h
    · rename_i j k r
      cases h
      obtain ⟨⟨n, fs, q, hz, hin, hq⟩, -⟩ := hP
      have hlt : j.toNatClampNeg < n := Nat.not_le.mp fun q => hin (Or.inr q)
      have ha := hW k _ (sy_w_at hz)
      have e2 : (fs.getD j.toNatClampNeg none).map X.2.2 = some (X.2.2 q) := by rw [List.getD_eq_getElem?_getD, hq]; rfl
      have e3 : sy_rf sh k j.toNatClampNeg = q := by unfold sy_rf; rw [hz]; show (fs.getD j.toNatClampNeg none).getD 0 = q; rw [List.getD_eq_getElem?_getD, hq]; rfl
      have k2 := kk H locs ls hW hD hS hl
      rw [show (pc + 1, loc, Value.ref (sy_rf sh k j.toNatClampNeg) :: r, σ) = (pc + 1, loc, Value.ref q :: r, σ) by rw [e3]] at k2
      refine W.aald (v := .ref (X.2.2 q)) (ty := .array .int) hx hb ha ((hK.1.2 3 _ rfl).1 n (fun j => va_rf ((fs.getD j none).map X.2.2))) rfl (fun q => by cases q) ?_ ?_ rfl rfl (sy_ok1_d hk rfl) k2
      · show ¬ (j < 0 ∨ (arrV _ _ _).slots.size ≤ _)
        rw [arrV_size]
        exact hin
      · show (arrV _ n (fun j => va_rf ((fs.getD j none).map X.2.2))).slots[_]? = _
        rw [arrV_read _ _ hlt, e2]
        rfl
    · cases h
  | arraylength =>
    dsimp only [sy_x1] at h
    split at h
    · rename_i k r
      cases h
      obtain ⟨⟨t, n, fs, hz, ht⟩, -⟩ := hP
      have k2 := kk H locs ls hW hD hS hl
      have e3 : sy_len sh k = Int32.ofNat n := by unfold sy_len; rw [hz]
      rw [show (pc + 1, loc, Value.int (sy_len sh k) :: r, σ) = (pc + 1, loc, Value.int (Int32.ofNat n) :: r, σ) by rw [e3]] at k2
      match t, ht, hz with
      | 0, _, hz => exact va_alen hx hb hK.1 hW k 0 (sy_w_at hz) rfl rfl (sy_ok1_d hk rfl) k2
      | 1, _, hz => exact va_alen hx hb hK.1 hW k 1 (sy_w_at hz) rfl rfl (sy_ok1_d hk rfl) k2
      | 2, _, hz => exact va_alen hx hb hK.1 hW k 2 (sy_w_at hz) rfl rfl (sy_ok1_d hk rfl) k2
      | 3, _, hz => exact va_alen hx hb hK.1 hW k 3 (sy_w_at hz) rfl rfl (sy_ok1_d hk rfl) k2
    · cases h
  | getfield idx =>
    dsimp only [sy_x1] at h
    split at h
    · rename_i k r
      split at h
      · rename_i t n fs hz
        split at h
        · rename_i ht
          subst ht
          split at h
          · rename_i hf
            cases h
            exact sy_getf C hk hz hf hW (kk H locs ls hW hD hS hl)
          · rename_i q hf
            cases h
            exact sy_getf C hk hz hf hW (kk H locs ls hW hD hS hl)
          · cases h
        · cases h
      · cases h
    · cases h
  | putfield idx =>
    dsimp only [sy_x1] at h
    split at h
    · rename_i x k r
      split at h
      · rename_i t n fs hz
        split at h
        · rename_i ht
          subst ht
          split at h
          · rename_i hf
            cases h
            have h2 := sy_ok1_2 hk
            dsimp only [sy_ok2] at h2
            simp only [Bool.and_eq_true] at h2
            have he := sy_w_at (X := X) (σ := σ) hz
            obtain ⟨⟨C9, T, N⟩, hc, -⟩ := hW k _ he
            have hc : vwCl[a]? = some (C9, T, N) := hc
            obtain ⟨hin, hty, hnm⟩ := sy_cls hc
            have h3 := h2.2
            unfold sy_nonfinal at h3
            rw [hc] at h3
            simp only [Bool.and_eq_true, Bool.not_eq_true', decide_eq_true_eq] at h3
            have hw := hts _ (sy_FLm h2.1)
            unfold sy_fw at hw
            simp only [hc] at hw
            rw [← hcn] at hw
            refine va_put (ty := .int) hx hb hts hin (sy_ty a) hty hnm hown hK.1 hW hD hS k he hc b h3.1.2 hw (fun _ h9 => h9) h3.1.1 (by rw [h3.2]; decide +kernel) rfl rfl (by rw [List.length_mapIdx]; exact (List.getElem?_eq_some_iff.mp hf).1) (sy_ok1_d hk rfl) (fun H1 locs1 h1 h2 h3 => kk H1 locs1 ls (show va_P X.1 vwCl (sy_w X sh (sy_up σ.1 k b x, σ.2)) H1 by rw [← sy_setF (σ := σ) hz hf]; exact h1) (sy_D hD) h3 hl)
          · cases h
        · cases h
      · cases h
    · cases h
  | goto off => cases h; exact lv_goto hx hb (sy_ok1_d hk rfl) (by simpa [sy_ok2] using sy_ok1_2 hk) (kk H locs ls hW hD hS hl)
  | ifCond c0 off =>
    have ht : (pc : Int) + off = (b : Int) := by simpa [sy_ok2] using sy_ok1_2 hk
    dsimp only [sy_x1] at h
    split at h
    · split at h
      · cases h
        cases c0
        · exact lv_if_eq hx hb (sy_ok1_d hk rfl) ht (fun _ => kk H locs ls hW hD hS hl) (fun q => absurd hP.1 q)
        · exact lv_if_ne hx hb (sy_ok1_d hk rfl) ht (fun _ => kk H locs ls hW hD hS hl) (fun q => absurd q hP.1)
        · exact lv_if_lt hx hb (sy_ok1_d hk rfl) ht (fun _ => kk H locs ls hW hD hS hl) (fun q => absurd hP.1 q)
        · exact lv_if_ge hx hb (sy_ok1_d hk rfl) ht (fun _ => kk H locs ls hW hD hS hl) (fun q => absurd hP.1 q)
        · exact lv_if_gt hx hb (sy_ok1_d hk rfl) ht (fun _ => kk H locs ls hW hD hS hl) (fun q => absurd hP.1 q)
        · exact lv_if_le hx hb (sy_ok1_d hk rfl) ht (fun _ => kk H locs ls hW hD hS hl) (fun q => absurd hP.1 q)
      · cases h
        cases c0
        · exact lv_if_eq hx hb (sy_ok1_d hk rfl) ht (fun q => absurd q hP.1) (fun _ => kk H locs ls hW hD hS hl)
        · exact lv_if_ne hx hb (sy_ok1_d hk rfl) ht (fun q => absurd q hP.1) (fun _ => kk H locs ls hW hD hS hl)
        · exact lv_if_lt hx hb (sy_ok1_d hk rfl) ht (fun q => absurd q hP.1) (fun _ => kk H locs ls hW hD hS hl)
        · exact lv_if_ge hx hb (sy_ok1_d hk rfl) ht (fun q => absurd q hP.1) (fun _ => kk H locs ls hW hD hS hl)
        · exact lv_if_gt hx hb (sy_ok1_d hk rfl) ht (fun q => absurd q hP.1) (fun _ => kk H locs ls hW hD hS hl)
        · exact lv_if_le hx hb (sy_ok1_d hk rfl) ht (fun q => absurd q hP.1) (fun _ => kk H locs ls hW hD hS hl)
    · cases h
  | if_icmp c0 off =>
    have ht : (pc : Int) + off = (b : Int) := by simpa [sy_ok2] using sy_ok1_2 hk
    dsimp only [sy_x1] at h
    split at h
    · split at h
      · cases h
        cases c0
        · exact lv_icmp_eq hx hb (sy_ok1_d hk rfl) ht (fun _ => kk H locs ls hW hD hS hl) (fun q => absurd hP.1 q)
        · exact lv_icmp_ne hx hb (sy_ok1_d hk rfl) ht (fun _ => kk H locs ls hW hD hS hl) (fun q => absurd q hP.1)
        · exact lv_icmp_lt hx hb (sy_ok1_d hk rfl) ht (fun _ => kk H locs ls hW hD hS hl) (fun q => absurd hP.1 q)
        · exact lv_icmp_ge hx hb (sy_ok1_d hk rfl) ht (fun _ => kk H locs ls hW hD hS hl) (fun q => absurd hP.1 q)
        · exact lv_icmp_gt hx hb (sy_ok1_d hk rfl) ht (fun _ => kk H locs ls hW hD hS hl) (fun q => absurd hP.1 q)
        · exact lv_icmp_le hx hb (sy_ok1_d hk rfl) ht (fun _ => kk H locs ls hW hD hS hl) (fun q => absurd hP.1 q)
      · cases h
        cases c0
        · exact lv_icmp_eq hx hb (sy_ok1_d hk rfl) ht (fun q => absurd q hP.1) (fun _ => kk H locs ls hW hD hS hl)
        · exact lv_icmp_ne hx hb (sy_ok1_d hk rfl) ht (fun q => absurd q hP.1) (fun _ => kk H locs ls hW hD hS hl)
        · exact lv_icmp_lt hx hb (sy_ok1_d hk rfl) ht (fun q => absurd q hP.1) (fun _ => kk H locs ls hW hD hS hl)
        · exact lv_icmp_ge hx hb (sy_ok1_d hk rfl) ht (fun q => absurd q hP.1) (fun _ => kk H locs ls hW hD hS hl)
        · exact lv_icmp_gt hx hb (sy_ok1_d hk rfl) ht (fun q => absurd q hP.1) (fun _ => kk H locs ls hW hD hS hl)
        · exact lv_icmp_le hx hb (sy_ok1_d hk rfl) ht (fun q => absurd q hP.1) (fun _ => kk H locs ls hW hD hS hl)
    · cases h
  | tableswitch dflt lo hi offs =>
    obtain ⟨n9, hd⟩ := sy_ok1_t hk
    have h2 := sy_ok1_2 hk
    dsimp only [sy_x1] at h
    dsimp only [sy_ok2] at h2
    split at h
    · split at h
      · rename_i ha
        cases h
        rw [if_pos ha] at h2
        split at h2
        · rename_i off ho
          simp only [Bool.and_eq_true, decide_eq_true_eq] at h2
          have hv := hP.1
          rw [← hv] at h2 ho
          exact lv_tableIn hx hb hd (by omega) (by omega) (off := off) ho h2.1.1 (kk H locs ls hW hD hS hl)
        · cases h2
      · rename_i ha
        cases h
        rw [if_neg ha] at h2
        exact lv_tableOut hx hb hd hP.1 (by simpa using h2) (kk H locs ls hW hD hS hl)
    · cases h
  | _ => exact nomatch (show (none : Option (sy_Cf × List Prop)) = some _ from h)
end SOUND
end
section
/-! the rules of the judgement: a stretch of instructions, the returns, the entry, the calls -/
def sy_np (pc : Nat) (en : sy_I) : Nat := match en with
  | (i, a, b, _, _) => match i with
    | .goto _ => b
    | .ifCond _ _ => if a = 1 then b else pc + 3
    | .if_icmp _ _ => if a = 1 then b else pc + 3
    | .tableswitch _ _ _ _ => b
    | i => pc + sy_ln i
set_option maxHeartbeats 4000000 in
theorem sy_x1_pc {sh : sy_Z} {en : sy_I} {cf cf' : sy_Cf} {P : List Prop} (h : sy_x1 sh en cf = some (cf', P)) : cf'.1 = sy_np cf.1 en := by
  obtain ⟨pc, loc, st, σ⟩ := cf
  obtain ⟨i, a, b, v, w⟩ := en
  cases i <;> dsimp only [sy_x1] at h <;> (repeat' split at h) <;> first | (cases h; done) | (cases h; simp_all [sy_np, sy_ln])
def sy_xL (sh : sy_Z) : List sy_I → sy_Cf → Option (sy_Cf × List Prop)
  | [], cf => some (cf, [])
  | en :: r, cf => match sy_x1 sh en cf with
    | some (cf1, P1) => match sy_xL sh r cf1 with
      | some (cf2, P2) => some (cf2, P1 ++ P2)
      | none => none
    | none => none
def sy_ck (y : sy_M) : Nat → List sy_I → Bool
  | _, [] => true
  | pc, en :: r => sy_ok1 y pc en && sy_ck y (sy_np pc en) r
theorem sy_all_app {P1 P2 : List Prop} (h : sy_all (P1 ++ P2)) : sy_all P1 ∧ sy_all P2 := by
  induction P1 with
  | nil => exact ⟨trivial, h⟩
  | cons p r ih =>
    obtain ⟨h1, h2⟩ := h
    exact ⟨⟨h1, (ih h2).1⟩, (ih h2).2⟩
theorem sy_blk {sh : sy_Z} {y : sy_M} {Q : Option Value → sy_S → Prop} (seg : List sy_I) {cf : sy_Cf} (cf' : sy_Cf) (P : List Prop) (hk : sy_ck y cf.1 seg = true) (h : sy_xL sh seg cf = some (cf', P)) (hP : sy_all P) (k : sy_E sh y cf' Q) : sy_E sh y cf Q := by
  induction seg generalizing cf P with
  | nil =>
    cases h
    exact k
  | cons en r ih =>
    rw [sy_ck, Bool.and_eq_true] at hk
    rw [sy_xL] at h
    split at h
    · rename_i cf1 P1 h1
      split at h
      · rename_i cf2 P2 h2
        cases h
        obtain ⟨hp1, hp2⟩ := sy_all_app hP
        have k1 := ih P2 (by rw [sy_x1_pc h1]; exact hk.2) h2 hp2
        intro l X p e s m args below meth c C
        exact sy_one C hk.1 h1 hp1 (k1 l X p e s m args below meth c C)
      · cases h
    · cases h
section RET
variable {sh : sy_Z} {y : sy_M} {Q : Option Value → sy_S → Prop} {pc : Nat} {loc : List (Option Value)} {σ : sy_S}
theorem sy_reti {v : Int32} (hr : y.2.2.2.1 = some .int) (hd : decode y.2.1 pc = .ok (.ireturn, 1)) (hq : Q (some (.int v)) σ) : sy_E sh y (pc, loc, [.int v], σ) Q := by
  intro l X p e s m args below meth c C H locs ls hW hD hS hl
  obtain ⟨hx, hb, hr1, hlocks, hml, hown, hts, hK, hcn⟩ := C
  exact W.iret hx hb (hr1.trans hr) (fun t ht hWm => ⟨⟨_, σ, rfl, hq, by rw [ht]; exact hW⟩, hS.F ht⟩) hS.2.2 hd hlocks
theorem sy_retz {v : Int32} (hr : y.2.2.2.1 = some .boolean) (hd : decode y.2.1 pc = .ok (.ireturn, 1)) (hv : v = 0 ∨ v = 1) (hq : Q (some (.int v)) σ) : sy_E sh y (pc, loc, [.int v], σ) Q := by
  intro l X p e s m args below meth c C H locs ls hW hD hS hl
  obtain ⟨hx, hb, hr1, hlocks, hml, hown, hts, hK, hcn⟩ := C
  exact W.zret hx hb (hr1.trans hr) (by rcases hv with rfl | rfl <;> rfl) (fun t ht hWm => ⟨⟨_, σ, rfl, hq, by rw [ht]; exact hW⟩, hS.F ht⟩) hS.2.2 hd hlocks
theorem sy_retl {v : Int64} (hr : y.2.2.2.1 = some .long) (hd : decode y.2.1 pc = .ok (.lreturn, 1)) (hq : Q (some (.long v)) σ) : sy_E sh y (pc, loc, [.long v], σ) Q := by
  intro l X p e s m args below meth c C H locs ls hW hD hS hl
  obtain ⟨hx, hb, hr1, hlocks, hml, hown, hts, hK, hcn⟩ := C
  exact W.lret hx hb (hr1.trans hr) (fun t ht hWm => ⟨⟨_, σ, rfl, hq, by rw [ht]; exact hW⟩, hS.F ht⟩) hS.2.2 hd hlocks
theorem sy_reta {k : Nat} (hr : y.2.2.2.1 = some (.array .int)) (hd : decode y.2.1 pc = .ok (.areturn, 1)) (hq : Q (some (.ref k)) σ) : sy_E sh y (pc, loc, [.ref k], σ) Q := by
  intro l X p e s m args below meth c C H locs ls hW hD hS hl
  obtain ⟨hx, hb, hr1, hlocks, hml, hown, hts, hK, hcn⟩ := C
  exact W.aret hx hb (hr1.trans hr) (Or.inr ⟨_, rfl⟩) (Or.inr ⟨_, rfl⟩) (fun t ht hWm => ⟨⟨some (.ref k), σ, rfl, hq, by rw [ht]; exact hW⟩, hS.F ht⟩) hS.2.2 hd hlocks
theorem sy_retv (hr : y.2.2.2.1 = none) (hd : decode y.2.1 pc = .ok (.return_, 1)) (hq : Q none σ) : sy_E sh y (pc, loc, [], σ) Q := by
  intro l X p e s m args below meth c C H locs ls hW hD hS hl
  obtain ⟨hx, hb, hr1, hlocks, hml, hown, hts, hK, hcn⟩ := C
  exact W.vret hx hb (hr1.trans hr) (fun t ht hWm => ⟨⟨none, σ, rfl, hq, by rw [ht]; exact hW⟩, hS.F ht⟩) hS.2.2 hd hlocks
theorem sy_post {cf : sy_Cf} {Q' : Option Value → sy_S → Prop} (h : sy_E sh y cf Q') (hq : ∀ r σ, Q' r σ → Q r σ) : sy_E sh y cf Q := by
  intro l X p e s m args below meth c C H locs ls hW hD hS hl T hT St
  obtain ⟨t, h1, o, h2, h3, ⟨⟨r, σ', e1, h4, h5⟩, h6⟩, h7⟩ := h l X p e s m args below meth c C H locs ls hW hD hS hl T hT St
  exact ⟨t, h1, o, h2, h3, ⟨⟨r, σ', e1, hq r σ' h4, h5⟩, h6⟩, h7⟩
end RET
/-! the entry -/
def sy_en : List Value → List (Option Value)
  | [] => []
  | .long x :: r => some (.long x) :: none :: sy_en r
  | .double x :: r => some (.double x) :: none :: sy_en r
  | v :: r => some v :: sy_en r
def sy_ent (as : List Value) (n : Nat) : List (Option Value) := sy_en as ++ List.replicate (n - (sy_en as).length) none
theorem sy_en_args (X : sy_X) (as : List Value) : ∀ (i o : Nat) (v : Value), (sy_en as)[i]? = some (some v) → (o + i, sy_v X v) ∈ lv_args o (as.map (sy_v X)) := by
  induction as with
  | nil => intro i o v h; simp [sy_en] at h
  | cons a r ih =>
    intro i o v h
    rw [List.map_cons, lv_args, sy_cat]
    have one : a.category ≠ 2 → (some a :: sy_en r)[i]? = some (some v) → (o + i, sy_v X v) ∈ (o, sy_v X a) :: lv_args (if a.category = 2 then o + 2 else o + 1) (r.map (sy_v X)) := by
      intro hc h
      match i, h with
      | 0, h => cases h; exact List.mem_cons_self
      | i + 1, h =>
        refine List.mem_cons_of_mem _ ?_
        rw [if_neg hc, show o + (i + 1) = (o + 1) + i by omega]
        exact ih i (o + 1) v h
    have two : a.category = 2 → (some a :: none :: sy_en r)[i]? = some (some v) → (o + i, sy_v X v) ∈ (o, sy_v X a) :: lv_args (if a.category = 2 then o + 2 else o + 1) (r.map (sy_v X)) := by
      intro hc h
      match i, h with
      | 0, h => cases h; exact List.mem_cons_self
      | 1, h => cases h
      | i + 2, h =>
        refine List.mem_cons_of_mem _ ?_
        rw [if_pos hc, show o + (i + 2) = (o + 2) + i by omega]
        exact ih i (o + 2) v h
    cases a with
    | long x => exact two rfl h
    | double x => exact two rfl h
    | int x => exact one (by simp [Value.category]) h
    | float x => exact one (by simp [Value.category]) h
    | null => exact one (by simp [Value.category]) h
    | ref x => exact one (by simp [Value.category]) h
    | retAddr x => exact one (by simp [Value.category]) h
theorem sy_en_len (X : sy_X) (as : List Value) : (lg_sl (as.map (sy_v X))).length = (sy_en as).length := by
  induction as with
  | nil => rfl
  | cons a r ih =>
    unfold lg_sl at ih ⊢
    rw [List.map_cons, List.flatMap_cons, List.length_append, ih, sy_cat]
    cases a <;> simp [sy_en, Value.category] <;> omega
theorem sy_entry (X : sy_X) {as : List Value} {n : Nat} (h : (sy_en as).length ≤ n) : sy_has X ((lg_sl (as.map (sy_v X)) ++ List.replicate (n - (lg_sl (as.map (sy_v X))).length) Slot.unset).toArray) n (sy_ent as n) := by
  have h0 := lv_entry (as.map (sy_v X)) (n := n) (by rw [sy_en_len]; exact h)
  refine ⟨by unfold sy_ent; rw [List.length_append, List.length_replicate]; omega, h0.1, h0.2.1, fun i v hv => ?_⟩
  have h1 : (sy_en as)[i]? = some (some v) := by
    unfold sy_ent at hv
    rw [List.getElem?_append] at hv
    split at hv
    · exact hv
    · rw [List.getElem?_replicate] at hv
      split at hv <;> cases hv
  have h2 := h0.2.2 _ (sy_en_args X as i 0 v h1)
  simpa using h2
def sy_B (X : sy_X) (sh : sy_Z) (σ : sy_S) (sz : Nat) (U : State) : Prop := U.heap.size = sz ∧ va_P X.1 vwCl (sy_w X sh σ) U.heap ∧ sy_K X U ∧ va_D (fun _ => True) (sy_w X sh σ)
theorem sy_AD {X : sy_X} {sh : sy_Z} {σ : sy_S} {sz : Nat} {A : Nat → Prop} (h : va_D A (sy_w X sh σ)) : va_D (sy_A X sh sz) (sy_w X sh σ) := by
  refine ⟨h.1, fun k q hq => ?_⟩
  simp only [sy_w, List.getElem?_mapIdx] at hq
  cases hz : sh[k]? with
  | none => rw [hz] at hq; cases hq
  | some z =>
    rw [hz] at hq
    cases hq
    exact Or.inl ⟨k, (List.getElem?_eq_some_iff.mp hz).1, rfl⟩
theorem sy_met {sh : sy_Z} {y : sy_M} {as : List Value} {σ : sy_S} {Q : Option Value → sy_S → Prop} (hp : plainName y.1.cls = true) (hcn : y.1.cls = sy_cn y.2.2.2.2.1) (hn : (sy_en as).length ≤ y.2.2.1) (h : sy_E sh y (0, sy_ent as y.2.2.1, [], σ) Q) (l : Launch) (X : sy_X) (sz : Nat) :
    Met l y.1 (sy_ws y) (sy_rm y) (va_Pc (as.map (sy_v X)) (sy_B X sh σ sz)) (sy_Q X sh Q sz) 0 0 (sy_A X sh sz) := by
  refine Met.ofW (cc := y.2.1) (maxL := y.2.2.1) (ret := y.2.2.2.1) hp rfl ?_
  intro p e s m args below meth c s₁ B hml hv
  obtain ⟨rfl, hsz, hP, hK, hD0⟩ := hv
  have hts := atoms_spec (ws := sy_ws y) B.pre
  subst hsz
  rw [lg_entry_eq]
  exact h l X p e s m _ below meth c ⟨B.exec, B.bytes, B.returns, B.notSynchronized, hml, findClass_of_methodNamed B.named, fun w hw => hts w (List.mem_cons_of_mem _ hw), hK, hcn⟩ s.heap [] _ hP (sy_AD hD0) va_S.rf (sy_entry X hn)
theorem sy_K.warm {X : sy_X} {s U : State} (h : sy_K X s) (hW : s.WarmedH U.vm) : sy_K X U := ⟨va_K.moved hW.alike h.1, va_Nw.warmF hW h.2.1, va_Nw.warmF hW h.2.2.1, va_Nw.warmM hW h.2.2.2⟩
theorem sy_blind {X : sy_X} {sh : sy_Z} {σ : sy_S} {sz : Nat} {av : List Value} : FrameBlind (va_Pc av (sy_B X sh σ sz)) := by
  intro a U g mk q
  obtain ⟨q0, q1, qP, qK, qD⟩ := q
  exact ⟨q0, q1, qP, ⟨va_K.moved (u := U) (U := U.calling g mk a) (Vm.Alike.refl U.vm) qK.1, va_Nw.same rfl rfl qK.2.1, va_Nw.same rfl rfl qK.2.2.1, va_Nw.same rfl rfl qK.2.2.2⟩, qD⟩
theorem sy_goodT {y : sy_M} (h : Cond.code y.1 y.2.1 y.2.2.1 y.2.2.2.1 ∈ sy_T) : GoodIn sy_T (sy_ws y) := by
  have g : ∀ w ∈ sy_T, (w.onTables && w.keeps) = true ∨ ∃ ty, w = .arrayClass ty := fun w hw => good_of_word (List.mem_filter.mp hw).2
  intro w hw
  rcases List.mem_cons.mp hw with rfl | hw
  · exact ⟨h, g _ h⟩
  · exact ⟨hw, g _ hw⟩
/-- behind a call: the machine goes on with what the callee left -/
theorem sy_after {p : Program} {l : Launch} {e : Env} {R : Room} {s : State} {m : MethodId} {args : Array Value} {below : List Frame} {meth : Method} {c : Code} {H : Heap} {locs : List Loc} {X : sy_X} {sh : sy_Z} {Q1 : Option Value → sy_S → Prop} {a : Array Value} {q : State → Prop} {pc : Nat} {ls : Array Slot} {st rest : List Value}
    (hr : va_Run p l e R s m args below meth c H locs 0 0 0 0 (F0 m pc ls st) rest (sy_Q X sh Q1 H.size a) (sy_A X sh H.size)) (hS : va_S (sy_A X sh s.heap.size) s.heap H locs)
    (kk : ∀ (r : Option Value) (σ : sy_S) (H1 : Heap) (locs1 : List Loc), Q1 r σ → va_P X.1 vwCl (sy_w X sh σ) H1 → va_S (sy_A X sh s.heap.size) s.heap H1 locs1 → W p l e R s m args below meth c H1 locs1 0 0 q (F0 m (pc + 3) ls ((r.map (sy_v X)).toList ++ rest))) : W p l e R s m args below meth c H locs 0 0 q (F0 m pc ls st) := by
  intro T hT St
  obtain ⟨v, st₀, t, T', L, h0, X', hL, e1, e2, ⟨⟨r, σ, hv, hq, hP⟩, hz, hk⟩, go⟩ := hr T hT St
  cases hv
  rw [h0] at hz hk
  have hup : ∀ q, sy_A X sh H.size q → sy_A X sh s.heap.size q := fun q h => h.elim Or.inl (fun h => Or.inr (Nat.le_trans hS.1 h))
  obtain ⟨t2, a1, b1⟩ := kk r σ T'.heap (locs ++ L) hq (by rw [e1]; exact hP)
    ⟨Nat.le_trans hS.1 (by rw [e1]; exact hz), fun q h1 h2 => by rw [e1, hk q (Nat.lt_of_lt_of_le h1 hS.1) (fun z => h2 (hup q z))]; exact hS.2.1 q h1 h2, fun q hq => by
      rcases List.mem_append.mp hq with h | h
      · exact hS.2.2 q h
      · exact hup _ (hL q h)⟩ T' rfl X'
  exact ⟨t2, go t2 a1, b1⟩
theorem sy_toList (X : sy_X) (r : Option Value) (rest : List Value) : (r.map (sy_v X)).toList ++ rest.map (sy_v X) = (r.toList ++ rest).map (sy_v X) := by cases r <;> rfl
theorem sy_sum (X : sy_X) (st : List Value) : ((st.map (sy_v X)).map fun v => v.category).sum = (st.map fun v => v.category).sum := by
  induction st with
  | nil => rfl
  | cons a r ih => simp only [List.map_cons, List.sum_cons, ih, sy_cat]
section CALL
variable {sh : sy_Z} {y y1 : sy_M} {Q : Option Value → sy_S → Prop} {pc idx n k : Nat} {loc : List (Option Value)} {σ : sy_S} {As rest st : List Value}
theorem sy_vn {a : Nat} {q : vw_C} (h : vwCl[a]? = some q) : sy_cn a = q.1 := by
  match a, h with
  | 0, h => cases h; rfl
  | 1, h => cases h; rfl
  | 2, h => cases h; rfl
  | 3, h => cases h; rfl
  | 4, h => cases h; rfl
  | 5, h => cases h; rfl
  | 6, h => cases h; rfl
  | 7, h => cases h; rfl
  | 8, h => cases h; rfl
  | 9, h => cases h; rfl
  | 10, h => cases h; rfl
  | 11, h => cases h; rfl
  | 12, h => cases h; rfl
  | a + 13, h => simp [vwCl] at h
/-- a call of an instance method -/
theorem sy_callV (y1 : sy_M) (k : Nat) (As rest : List Value) (hm : sy_mok y1 false n) (hj : Cond.methodLink y.1.cls idx y1.1 ∈ sy_T) (hd : decode y.2.1 pc = .ok (.invokevirtual idx, 3)) (hst : st = As.reverse ++ .ref k :: rest) (hn : As.length = n) (hsum : (rest.map fun v => v.category).sum ≤ 8) (hl1 : (sy_en (.ref k :: As)).length ≤ y1.2.2.1) (hrm : y1.2.2.2.2.2.1 + 1 ≤ y.2.2.2.2.2.1 ∧ 8 + (y1.2.2.1 + 11) + y1.2.2.2.2.2.2 ≤ y.2.2.2.2.2.2)
    {z : Nat × List (Option Nat)} (hz : sh[k]? = some (y1.2.2.2.2.1 + 4, z)) (h1 : sy_E sh y1 (0, sy_ent (.ref k :: As) y1.2.2.1, [], σ) (fun r σ' => sy_E sh y (pc + 3, loc, r.toList ++ rest, σ') Q)) : sy_E sh y (pc, loc, st, σ) Q := by
  intro l X p e s m args below meth c C H locs ls hW hD hS hl
  obtain ⟨hx, hb, hr1, hlocks, hml, hown, hts, hK, hcn⟩ := id C
  obtain ⟨m1, m2, m3, m4, -, m6, m7⟩ := hm
  obtain ⟨m8, m9⟩ := m6 rfl
  have hM := sy_met m4 m7 hl1 h1 l X H.size
  obtain ⟨q, hc, -⟩ := hW k _ (sy_w_at hz)
  have hc : vwCl[y1.2.2.2.2.1]? = some q := hc
  have hrecv := va_recv hK.1 hW hc (sy_w_at hz)
  rw [← sy_vn hc, ← m7] at hrecv
  have cw : CallW (sy_rm y) s args y.1.cls y1.1.cls idx y1.1 y1.2.1 y1.2.2.1 y1.2.2.2.1 (sy_ws y1) (sy_rm y1) 0 0 n := ⟨callB_of n hts (sy_goodT m1) rfl rfl rfl (hts _ m2) (hts _ hj) m3 hrm, hts _ m8, hts _ m9⟩
  have hstk : st.map (sy_v X) = (As.map (sy_v X)).reverse ++ .ref (X.2.2 k) :: rest.map (sy_v X) := by
    rw [hst, List.map_append, List.map_reverse]
    rfl
  refine sy_after (Q1 := fun r σ' => sy_E sh y (pc + 3, loc, r.toList ++ rest, σ') Q) (va_runV (As := As.map (sy_v X)) (rest := rest.map (sy_v X)) ⟨hx, hb, hml, hown, hts⟩ hM cw ⟨sy_blind, hrecv, fun U hU hWm => ⟨rfl, by rw [hU], by rw [hU]; exact hW, hK.warm hWm, hD.weaken (fun _ _ _ _ => trivial)⟩⟩ rfl (by rw [List.length_map]; exact hn) hl.2.1 hstk (lv_room (by rw [sy_sum]; exact hsum)) hd ⟨Nat.zero_le _, Nat.zero_le _⟩) hS ?_
  intro r σ' H1 locs1 hq hP1 hS1
  rw [sy_toList]
  exact hq l X p e s m args below meth c C H1 locs1 ls hP1 (sy_D hD) hS1 hl
/-- a call of a static method -/
theorem sy_callS (y1 : sy_M) (As rest : List Value) (hm : sy_mok y1 true n) (hj : Cond.methodLink y.1.cls idx y1.1 ∈ sy_T) (hd : decode y.2.1 pc = .ok (.invokestatic idx, 3)) (hst : st = As.reverse ++ rest) (hn : As.length = n) (hsum : (rest.map fun v => v.category).sum ≤ 8) (hl1 : (sy_en As).length ≤ y1.2.2.1) (hrm : y1.2.2.2.2.2.1 + 1 ≤ y.2.2.2.2.2.1 ∧ 8 + (y1.2.2.1 + 11) + y1.2.2.2.2.2.2 ≤ y.2.2.2.2.2.2)
    (h1 : sy_E sh y1 (0, sy_ent As y1.2.2.1, [], σ) (fun r σ' => sy_E sh y (pc + 3, loc, r.toList ++ rest, σ') Q)) : sy_E sh y (pc, loc, st, σ) Q := by
  intro l X p e s m args below meth c C H locs ls hW hD hS hl
  obtain ⟨hx, hb, hr1, hlocks, hml, hown, hts, hK, hcn⟩ := id C
  obtain ⟨m1, m2, m3, m4, m5, -, m7⟩ := hm
  have hM := sy_met m4 m7 hl1 h1 l X H.size
  have hstk : st.map (sy_v X) = (As.map (sy_v X)).reverse ++ rest.map (sy_v X) := by
    rw [hst, List.map_append, List.map_reverse]
  refine sy_after (Q1 := fun r σ' => sy_E sh y (pc + 3, loc, r.toList ++ rest, σ') Q) (va_runS (As := As.map (sy_v X)) (rest := rest.map (sy_v X)) ⟨hx, hb, hml, hown, hts⟩ hM ⟨callB_of n hts (sy_goodT m1) rfl rfl rfl (hts _ m2) (hts _ hj) m3 hrm, hts _ (m5 rfl)⟩ ⟨sy_blind, fun U hU hWm => ⟨rfl, by rw [hU], by rw [hU]; exact hW, hK.warm hWm, hD.weaken (fun _ _ _ _ => trivial)⟩⟩ rfl (by rw [List.length_map]; exact hn) hl.2.1 hstk (lv_room (by rw [sy_sum]; exact hsum)) hd ⟨Nat.zero_le _, Nat.zero_le _⟩) hS ?_
  intro r σ' H1 locs1 hq hP1 hS1
  rw [sy_toList]
  exact hq l X p e s m args below meth c C H1 locs1 ls hP1 (sy_D hD) hS1 hl
/-- the one call of a nest mate's private method: SandGroup.alike, out of Sums -/
theorem sy_callN (As rest : List Value) (hy : y.1.cls = "SandGroup$Sums") (hd : decode y.2.1 pc = .ok (.invokestatic 89, 3)) (hst : st = As.reverse ++ rest) (hn : As.length = 2) (hsum : (rest.map fun v => v.category).sum ≤ 8) (hl1 : (sy_en As).length ≤ mX11_alike.2.2.1) (hrm : mX11_alike.2.2.2.2.2.1 + 1 ≤ y.2.2.2.2.2.1 ∧ 8 + (mX11_alike.2.2.1 + 11) + mX11_alike.2.2.2.2.2.2 ≤ y.2.2.2.2.2.2)
    (h1 : sy_E sh mX11_alike (0, sy_ent As mX11_alike.2.2.1, [], σ) (fun r σ' => sy_E sh y (pc + 3, loc, r.toList ++ rest, σ') Q)) : sy_E sh y (pc, loc, st, σ) Q := by
  intro l X p e s m args below meth c C H locs ls hW hD hS hl
  obtain ⟨hx, hb, hr1, hlocks, hml, hown, hts, hK, hcn⟩ := id C
  obtain ⟨m1, m2, m3, m4, m5, -, m7⟩ := kX11_alike
  have hM := sy_met m4 m7 hl1 h1 l X H.size
  have hstk : st.map (sy_v X) = (As.map (sy_v X)).reverse ++ rest.map (sy_v X) := by
    rw [hst, List.map_append, List.map_reverse]
  rw [hy] at hown
  refine sy_after (Q1 := fun r σ' => sy_E sh y (pc + 3, loc, r.toList ++ rest, σ') Q) (va_runSN (As := As.map (sy_v X)) (rest := rest.map (sy_v X)) (host := "SandGroup") ⟨hx, hb, hml, hown, hts⟩ hM ⟨va_cnB 2 hts (sy_goodT m1) rfl rfl rfl hK.2.2.2 (hts _ m2) m3 hrm, hts _ (m5 rfl), trivial⟩ ⟨sy_blind, fun U hU hWm => ⟨rfl, by rw [hU], by rw [hU]; exact hW, hK.warm hWm, hD.weaken (fun _ _ _ _ => trivial)⟩⟩ rfl (by rw [List.length_map]; exact hn) hl.2.1 hstk (lv_room (by rw [sy_sum]; exact hsum)) hd ⟨Nat.zero_le _, Nat.zero_le _⟩) hS ?_
  intro r σ' H1 locs1 hq hP1 hS1
  rw [sy_toList]
  exact hq l X p e s m args below meth c C H1 locs1 ls hP1 (sy_D hD) hS1 hl
/-- the store with one row made a copy of another's first n places -/
def sy_cp (f : Nat → Nat → Int32) (a0 a n : Nat) : Nat → Nat → Int32 := fun q => if q = a then va_cpy (f a0) (f a) 0 0 n else f q
theorem sy_cp_self (f : Nat → Nat → Int32) (a0 a n : Nat) : sy_cp f a0 a n a = va_cpy (f a0) (f a) 0 0 n := by simp [sy_cp]
theorem sy_cp_ne (f : Nat → Nat → Int32) (a0 : Nat) {a q : Nat} (n : Nat) (h : q ≠ a) : sy_cp f a0 a n q = f q := by simp [sy_cp, h]
theorem sy_e_cp {X : sy_X} {σ : sy_S} {a0 a n : Nat} (j : Nat) (z : sy_Y) (h : j ≠ a) : sy_e X (sy_cp σ.1 a0 a n, σ.2) j z = sy_e X σ j z := by
  unfold sy_e
  have e : sy_fv X (sy_cp σ.1 a0 a n, σ.2) j = sy_fv X σ j := by
    funext b f
    unfold sy_fv
    cases f with
    | none => simp [sy_cp_ne _ _ _ h]
    | some r => rfl
  simp only [sy_cp_ne _ _ _ h, e]
/-- System.arraycopy(a0, 0, a, 0, 16) -/
theorem sy_copy {a0 a n0 n1 : Nat} {f0 f1 : List (Option Nat)} (rest : List Value) (hj : Cond.methodLink y.1.cls idx arraycopyName ∈ sy_T) (hd : decode y.2.1 pc = .ok (.invokestatic idx, 3)) (hst : st = .int 16 :: .int 0 :: .ref a :: .int 0 :: .ref a0 :: rest) (hz0 : sh[a0]? = some (0, n0, f0)) (hz1 : sh[a]? = some (0, n1, f1)) (h0 : 16 ≤ n0) (h1 : 16 ≤ n1) (hsum : (rest.map fun v => v.category).sum ≤ 8) (hfr : 1 ≤ y.2.2.2.2.2.1) (hlo : 26 ≤ y.2.2.2.2.2.2)
    (kk : sy_E sh y (pc + 3, loc, rest, (sy_cp σ.1 a0 a 16, σ.2)) Q) : sy_E sh y (pc, loc, st, σ) Q := by
  intro l X p e s m args below meth c C H locs ls hW hD hS hl
  obtain ⟨hx, hb, hr1, hlocks, hml, hown, hts, hK, hcn⟩ := id C
  subst hst
  refine va_copyi hx hb (hml.trans hl.2.1.symm) hown (hts _ hj) (hts _ sy_acN) (hts _ sy_acS) (hts _ sy_acI) hK.1 hW hD hS a0 a 0 0 (sy_w_at hz0) (sy_w_at hz1) (ty := .int) rfl rfl rfl (by decide) (by decide) (by decide) (Nat.le_trans (by decide) h0) (Nat.le_trans (by decide) h1) (fun _ _ => rfl) hfr ?_ hd (fun H1 locs1 p1 p2 p3 => ?_)
  · rw [sy_sum]
    show _ + (7 + 11) ≤ y.2.2.2.2.2.2
    omega
  · refine kk l X p e s m args below meth c C H1 locs1 ls ?_ (sy_D hD) p3 hl
    show va_P X.1 vwCl (sy_w X sh (sy_cp σ.1 a0 a 16, σ.2)) H1
    rw [← sy_w_set (σ := σ) (σ' := (sy_cp σ.1 a0 a 16, σ.2)) hz1 (fun j z' hj => sy_e_cp j z' hj)]
    have e1 : sy_e X (sy_cp σ.1 a0 a 16, σ.2) a (0, n1, f1) = Sum.inl (X.2.1 0, n1, Sum.inl (va_cpy (σ.1 a0) (σ.1 a) 0 0 16)) := by
      show Sum.inl (X.2.1 0, n1, Sum.inl (sy_cp σ.1 a0 a 16 a)) = _
      rw [sy_cp_self]
    rw [e1]
    exact p1
end CALL
end
section
/-! more rules -/
theorem sy_bk {sh : sy_Z} {y : sy_M} {Q : Option Value → sy_S → Prop} (seg : List sy_I) {pc : Nat} {loc : List (Option Value)} {st : List Value} {σ : sy_S} (cf' : sy_Cf) (P : List Prop) (hk : sy_ck y pc seg = true) (h : sy_xL sh seg (pc, loc, st, σ) = some (cf', P)) (hP : sy_all P) (k : sy_E sh y cf' Q) : sy_E sh y (pc, loc, st, σ) Q := sy_blk seg cf' P hk h hP k
theorem sy_lc (x y : Int64) : (lg_cmp x y = -1 ∧ x < y) ∨ (lg_cmp x y = 0 ∧ x = y) ∨ (lg_cmp x y = 1 ∧ y < x) := by
  unfold lg_cmp
  rcases Int.lt_trichotomy x.toInt y.toInt with h | h | h
  · left
    have h1 : x < y := Int64.lt_iff_toInt_lt.mpr h
    have h2 : ¬ y < x := fun q => by have := Int64.lt_iff_toInt_lt.mp q; omega
    have h3 : ¬ x = y := fun q => by subst q; omega
    simp [h1, h2, h3]
  · right; left
    have h1 : x = y := Int64.toInt_inj.mp h
    subst h1
    simp
  · right; right
    have h1 : y < x := Int64.lt_iff_toInt_lt.mpr h
    have h2 : ¬ x < y := fun q => by have := Int64.lt_iff_toInt_lt.mp q; omega
    have h3 : ¬ x = y := fun q => by subst q; omega
    simp [h1, h2, h3]
theorem sy_l_lt {x y : Int64} : x < y ↔ x.toInt < y.toInt := Int64.lt_iff_toInt_lt
theorem sy_l_le {x y : Int64} : x ≤ y ↔ x.toInt ≤ y.toInt := Int64.le_iff_toInt_le
theorem sy_lc_lt {x y : Int64} : lg_cmp x y < 0 ↔ x < y := by
  rcases sy_lc x y with ⟨h, h1⟩ | ⟨h, h1⟩ | ⟨h, h1⟩ <;> rw [h, sy_l_lt] <;> (try rw [sy_l_lt] at h1) <;> (try rw [h1]) <;> constructor <;> intro q <;> first | omega | exact absurd q (by decide) | decide
theorem sy_lc_ge {x y : Int64} : 0 ≤ lg_cmp x y ↔ y ≤ x := by
  rcases sy_lc x y with ⟨h, h1⟩ | ⟨h, h1⟩ | ⟨h, h1⟩ <;> rw [h, sy_l_le] <;> (try rw [sy_l_lt] at h1) <;> (try rw [h1]) <;> constructor <;> intro q <;> first | omega | exact absurd q (by decide) | decide
theorem sy_lc_gt {x y : Int64} : 0 < lg_cmp x y ↔ y < x := by
  rcases sy_lc x y with ⟨h, h1⟩ | ⟨h, h1⟩ | ⟨h, h1⟩ <;> rw [h, sy_l_lt] <;> (try rw [sy_l_lt] at h1) <;> (try rw [h1]) <;> constructor <;> intro q <;> first | omega | exact absurd q (by decide) | decide
theorem sy_lc_le {x y : Int64} : lg_cmp x y ≤ 0 ↔ x ≤ y := by
  rcases sy_lc x y with ⟨h, h1⟩ | ⟨h, h1⟩ | ⟨h, h1⟩ <;> rw [h, sy_l_le] <;> (try rw [sy_l_lt] at h1) <;> (try rw [h1]) <;> constructor <;> intro q <;> first | omega | exact absurd q (by decide) | decide
theorem sy_lc_ne {x y : Int64} : ¬ lg_cmp x y = 0 ↔ ¬ x = y := by
  rcases sy_lc x y with ⟨h, h1⟩ | ⟨h, h1⟩ | ⟨h, h1⟩
  · rw [h]
    exact ⟨fun _ q => by subst q; rw [sy_l_lt] at h1; omega, fun _ => by decide⟩
  · rw [h]
    exact ⟨fun q => absurd rfl q, fun q => absurd h1 q⟩
  · rw [h]
    exact ⟨fun _ q => by subst q; rw [sy_l_lt] at h1; omega, fun _ => by decide⟩
theorem sy_ti {x : Int32} {n : Int} (h : x.toInt = n) : x = Int32.ofInt n := by rw [← h, Int32.ofInt_toInt]
theorem sy_sw9 {x : Int32} (h0 : ¬ x = 0) (h1 : ¬ x = 1) (h2 : ¬ x = 2) (h3 : ¬ x = 3) (h4 : ¬ x = 4) (h5 : ¬ x = 5) (h6 : ¬ x = 6) (h7 : ¬ x = 7) (h8 : ¬ x = 8) : x.toInt < 0 ∨ 8 < x.toInt := by
  by_cases q : x.toInt < 0
  · exact Or.inl q
  by_cases q2 : 8 < x.toInt
  · exact Or.inr q2
  exfalso
  have : x.toInt = 0 ∨ x.toInt = 1 ∨ x.toInt = 2 ∨ x.toInt = 3 ∨ x.toInt = 4 ∨ x.toInt = 5 ∨ x.toInt = 6 ∨ x.toInt = 7 ∨ x.toInt = 8 := by omega
  rcases this with h | h | h | h | h | h | h | h | h
  · exact h0 (sy_ti h)
  · exact h1 (sy_ti h)
  · exact h2 (sy_ti h)
  · exact h3 (sy_ti h)
  · exact h4 (sy_ti h)
  · exact h5 (sy_ti h)
  · exact h6 (sy_ti h)
  · exact h7 (sy_ti h)
  · exact h8 (sy_ti h)
theorem sy_sw4 {x : Int32} (h0 : ¬ x = 0) (h1 : ¬ x = 1) (h2 : ¬ x = 2) (h3 : ¬ x = 3) : x.toInt < 0 ∨ 3 < x.toInt := by
  by_cases q : x.toInt < 0
  · exact Or.inl q
  by_cases q2 : 3 < x.toInt
  · exact Or.inr q2
  exfalso
  have : x.toInt = 0 ∨ x.toInt = 1 ∨ x.toInt = 2 ∨ x.toInt = 3 := by omega
  rcases this with h | h | h | h
  · exact h0 (sy_ti h)
  · exact h1 (sy_ti h)
  · exact h2 (sy_ti h)
  · exact h3 (sy_ti h)
theorem sy_sw3 {x : Int32} (h0 : ¬ x = 0) (h1 : ¬ x = 1) (h2 : ¬ x = 2) : x.toInt < 0 ∨ 2 < x.toInt := by
  by_cases q : x = 3
  · subst q; right; decide
  · rcases sy_sw4 h0 h1 h2 q with h | h
    · exact Or.inl h
    · right; omega
/-- locals that are forgotten -/
def sy_le : List (Option Value) → List (Option Value) → Prop
  | [], [] => True
  | none :: r, _ :: r' => sy_le r r'
  | some v :: r, w :: r' => w = some v ∧ sy_le r r'
  | _, _ => False
theorem sy_le_at : ∀ (a b : List (Option Value)), sy_le a b → a.length = b.length ∧ ∀ (i : Nat) (v : Value), a[i]? = some (some v) → b[i]? = some (some v)
  | [], [], _ => ⟨rfl, fun _ _ h => h⟩
  | none :: r, w :: r', h => by
    obtain ⟨h1, h2⟩ := sy_le_at r r' h
    refine ⟨by simp [h1], fun i v hv => ?_⟩
    match i, hv with
    | 0, hv => cases hv
    | i + 1, hv => exact h2 i v hv
  | some u :: r, w :: r', h => by
    obtain ⟨h1, h2⟩ := sy_le_at r r' h.2
    refine ⟨by simp [h1], fun i v hv => ?_⟩
    match i, hv with
    | 0, hv => cases hv; rw [h.1]; rfl
    | i + 1, hv => exact h2 i v hv
  | [], _ :: _, h => h.elim
  | none :: _, [], h => h.elim
  | some _ :: _, [], h => h.elim
theorem sy_drop {sh : sy_Z} {y : sy_M} {Q : Option Value → sy_S → Prop} {pc : Nat} {loc : List (Option Value)} {st : List Value} {σ : sy_S} (loc' : List (Option Value)) (h : sy_le loc' loc) (k : sy_E sh y (pc, loc', st, σ) Q) : sy_E sh y (pc, loc, st, σ) Q := by
  intro l X p e s m args below meth c C H locs ls hW hD hS hl
  obtain ⟨h1, h2⟩ := sy_le_at loc' loc h
  exact k l X p e s m args below meth c C H locs ls hW hD hS ⟨by show loc'.length = _; rw [h1]; exact hl.1, hl.2.1, hl.2.2.1, fun i v hv => hl.2.2.2 i v (h2 i v hv)⟩
/-- a loop that counts up -/
theorem sy_loop {sh : sy_Z} {y : sy_M} {Q : Option Value → sy_S → Prop} (cf : Nat → sy_S → sy_Cf) (I : Nat → sy_S → Prop) (N : Nat)
    (step : ∀ i σ, i < N → I i σ → (∀ σ', I (i + 1) σ' → sy_E sh y (cf (i + 1) σ') Q) → sy_E sh y (cf i σ) Q) (exit : ∀ σ, I N σ → sy_E sh y (cf N σ) Q) : ∀ i σ, i ≤ N → I i σ → sy_E sh y (cf i σ) Q := by
  have key : ∀ d i σ, i + d = N → I i σ → sy_E sh y (cf i σ) Q := by
    intro d
    induction d with
    | zero =>
      intro i σ h hI
      have h : i = N := h
      subst h
      exact exit σ hI
    | succ d ih =>
      intro i σ h hI
      exact step i σ (by omega) hI (fun σ' h' => ih (i + 1) σ' (by omega) h')
  intro i σ h hI
  exact key (N - i) i σ (by omega) hI
/-- a loop whose measure falls -/
theorem sy_while {α : Type} {sh : sy_Z} {y : sy_M} {Q : Option Value → sy_S → Prop} (cf : α → sy_S → sy_Cf) (I : α → sy_S → Prop) (μ : α → sy_S → Nat)
    (step : ∀ a σ, I a σ → (∀ a' σ', I a' σ' → μ a' σ' < μ a σ → sy_E sh y (cf a' σ') Q) → sy_E sh y (cf a σ) Q) : ∀ a σ, I a σ → sy_E sh y (cf a σ) Q := by
  have key : ∀ n a σ, μ a σ < n → I a σ → sy_E sh y (cf a σ) Q := by
    intro n
    induction n with
    | zero => intro a σ h; exact absurd h (Nat.not_lt_zero _)
    | succ n ih =>
      intro a σ h hI
      exact step a σ hI (fun a' σ' h' hm => ih a' σ' (by omega) h')
  intro a σ hI
  exact key (μ a σ + 1) a σ (by omega) hI
end
section
/-! the shapes of the worlds (by program: wip/whole/gen/shapes.py): shG the Grid alone, shX a SandGroup, shM a SandGroupModel -/
def shG : sy_Z := [(7, 8, [some 1, some 2, some 3, some 4, some 5, none, none, none]), (0, 16, []), (0, 16, []), (0, 16, []), (0, 64, []), (0, 16, [])]
def shX : sy_Z := [(7, 8, [some 1, some 2, some 3, some 4, some 5, none, none, none]), (0, 16, []), (0, 16, []), (0, 16, []), (0, 64, []), (0, 16, []), (15, 15, [some 0, some 7, some 8, some 19, some 23, some 32, some 39, some 42, some 45, some 48, some 53, some 55, some 57, some 61, some 64]), (0, 16, []), (4, 3, [some 9, none, none]), (3, 9, [some 10, some 11, some 12, some 13, some 14, some 15, some 16, some 17, some 18]), (0, 16, []), (0, 16, []), (0, 16, []), (0, 16, []), (0, 16, []), (0, 16, []), (0, 16, []), (0, 16, []), (0, 16, []), (14, 8, [some 20, some 21, some 22, none, none, none, none, none]), (0, 40, []), (0, 16, []), (0, 3, []), (11, 2, [some 24, some 31]), (3, 6, [some 25, some 26, some 27, some 28, some 29, some 30]), (0, 16, []), (0, 16, []), (0, 16, []), (0, 16, []), (0, 16, []), (0, 16, []), (0, 6, []), (11, 2, [some 33, some 38]), (3, 4, [some 34, some 35, some 36, some 37]), (0, 40, []), (0, 40, []), (0, 40, []), (0, 40, []), (0, 4, []), (5, 3, [some 0, some 40, some 41]), (0, 16, []), (0, 16, []), (8, 7, [some 0, some 43, some 44, none, none, none, none]), (0, 16, []), (0, 16, []), (8, 7, [some 0, some 46, some 47, none, none, none, none]), (0, 16, []), (0, 16, []), (12, 6, [some 0, some 39, some 49, some 50, some 51, some 52]), (0, 16, []), (0, 16, []), (0, 16, []), (0, 16, []), (6, 2, [some 0, some 54]), (0, 16, []), (9, 1, [some 56]), (2, 256, []), (10, 4, [some 58, some 59, some 60, none]), (0, 2001, []), (0, 2001, []), (0, 256, []), (13, 5, [some 62, some 63, none, none, none]), (0, 200, []), (0, 200, []), (0, 16, [])]
def shM : sy_Z := [(16, 40, [none, none, some 1, some 2, some 3, some 4, some 5, none, some 6, some 7, some 8, some 9, some 10, none, none, some 11, none, none, none, none, none, none, some 12, some 13, none, some 14, some 15, some 16, some 17, some 18, some 19, some 20, some 21, some 22, some 23, some 24, none, some 25, some 26, some 27]), (1, 16, []), (0, 16, []), (0, 64, []), (0, 16, []), (0, 16, []), (1, 16, []), (0, 96, []), (1, 6, []), (0, 128, []), (0, 128, []), (0, 40, []), (0, 16, []), (0, 16, []), (1, 16, []), (0, 60, []), (0, 16, []), (0, 16, []), (0, 16, []), (0, 16, []), (2, 256, []), (0, 16, []), (0, 2001, []), (0, 200, []), (0, 200, []), (0, 4, []), (0, 160, []), (2, 16, [])]
end
section
/-! walks of the Grid (by program: wip/whole/gen/p10.py) -/
set_option maxRecDepth 20000 in
theorem w_x_join {Q : Option Value → sy_S → Prop} {σ : sy_S} {cell : Int32} {oth : Int32}  (b1 : vp_in oth 16) (b2 : ¬ (¬ (σ.1 1 oth.toNatClampNeg) = 0) → vp_in cell 16) (b3 : ¬ (¬ (σ.1 1 oth.toNatClampNeg) = 0) → vp_in ((cell * 4) + (σ.1 5 cell.toNatClampNeg)) 64) (k1 : ¬ (σ.1 1 oth.toNatClampNeg) = 0 → Q none σ) (k2 : ¬ (¬ (σ.1 1 oth.toNatClampNeg) = 0) → Q none (sy_up (sy_up σ.1 4 (((cell * 4) + (σ.1 5 cell.toNatClampNeg)).toNatClampNeg) oth) 5 cell.toNatClampNeg ((σ.1 5 cell.toNatClampNeg) + 1), σ.2)) : sy_E shX mX3_join (0, sy_ent [.ref 0, .int cell, .int oth] 3, [], σ) Q := by
  show sy_E shX mX3_join (0, [some (.ref 0), some (.int cell), some (.int oth)], [], σ) _
  refine sy_bk [(.aload_n 0, 0, 0, 0, 0), (.getfield 9, 3, 0, 0, 0), (.iload_n 2, 0, 0, 0, 0), (.iaload, 0, 0, 0, 0)] (6, [some (.ref 0), some (.int cell), some (.int oth)], [.int (σ.1 1 oth.toNatClampNeg)], σ) [sy_okA shX 0 1 oth] (by decide +kernel) rfl ⟨⟨16, _, rfl, b1⟩, trivial⟩ ?_
  by_cases c1 : ¬ (σ.1 1 oth.toNatClampNeg) = 0
  · refine sy_bk [(.ifCond .ne 29, 1, 35, 0, 0)] (35, [some (.ref 0), some (.int cell), some (.int oth)], [], σ) [sy_cc .ne (σ.1 1 oth.toNatClampNeg) 0] (by decide +kernel) rfl ⟨c1, trivial⟩ ?_
    exact sy_retv rfl (by decide +kernel) (k1 c1)
  · refine sy_bk [(.ifCond .ne 29, 0, 35, 0, 0)] (9, [some (.ref 0), some (.int cell), some (.int oth)], [], σ) [¬ sy_cc .ne (σ.1 1 oth.toNatClampNeg) 0] (by decide +kernel) rfl ⟨c1, trivial⟩ ?_
    refine sy_bk [(.aload_n 0, 0, 0, 0, 0), (.getfield 21, 3, 3, 0, 0), (.iload_n 1, 0, 0, 0, 0), (.iconst 4, 0, 0, 4, 0), (.imul, 0, 0, 0, 0), (.aload_n 0, 0, 0, 0, 0), (.getfield 24, 3, 4, 0, 0), (.iload_n 1, 0, 0, 0, 0), (.iaload, 0, 0, 0, 0), (.iadd, 0, 0, 0, 0), (.iload_n 2, 0, 0, 0, 0), (.iastore, 0, 0, 0, 0), (.aload_n 0, 0, 0, 0, 0), (.getfield 24, 3, 4, 0, 0), (.iload_n 1, 0, 0, 0, 0), (.dup2, 0, 0, 0, 0), (.iaload, 0, 0, 0, 0), (.iconst 1, 0, 0, 1, 0), (.iadd, 0, 0, 0, 0), (.iastore, 0, 0, 0, 0)] (35, [some (.ref 0), some (.int cell), some (.int oth)], [], (sy_up (sy_up σ.1 4 (((cell * 4) + (σ.1 5 cell.toNatClampNeg)).toNatClampNeg) oth) 5 cell.toNatClampNeg ((σ.1 5 cell.toNatClampNeg) + 1), σ.2)) [sy_okA shX 0 5 cell, sy_okA shX 0 4 ((cell * 4) + (σ.1 5 cell.toNatClampNeg)), sy_okA shX 0 5 cell, sy_okA shX 0 5 cell] (by decide +kernel) rfl ⟨⟨16, _, rfl, (b2 c1)⟩, ⟨64, _, rfl, (b3 c1)⟩, ⟨16, _, rfl, (b2 c1)⟩, ⟨16, _, rfl, (b2 c1)⟩, trivial⟩ ?_
    exact sy_retv rfl (by decide +kernel) (k2 c1)

set_option maxRecDepth 20000 in
theorem w_x_linkCell_0 {Q : Option Value → sy_S → Prop} {σ : sy_S} {cell : Int32} {r : Int32} {c : Int32}  (b1 : vp_in cell 16) (k1 : r ≤ 0 → sy_E shX mX3_linkCell (22, [some (.ref 0), some (.int cell), some (.int r), some (.int c)], [], (sy_up σ.1 5 cell.toNatClampNeg 0, σ.2)) Q) (k2 : ¬ (r ≤ 0) → sy_E shX mX3_join (0, sy_ent [.ref 0, .int cell, .int (cell - (σ.1 0 6))] 3, [], (sy_up σ.1 5 cell.toNatClampNeg 0, σ.2)) (fun r9 σ9 => sy_E shX mX3_linkCell (22, [some (.ref 0), some (.int cell), some (.int r), some (.int c)], r9.toList ++ [], σ9) Q)) : sy_E shX mX3_linkCell (0, sy_ent [.ref 0, .int cell, .int r, .int c] 4, [], σ) Q := by
  show sy_E shX mX3_linkCell (0, [some (.ref 0), some (.int cell), some (.int r), some (.int c)], [], σ) _
  refine sy_bk [(.aload_n 0, 0, 0, 0, 0), (.getfield 24, 3, 4, 0, 0), (.iload_n 1, 0, 0, 0, 0), (.iconst 0, 0, 0, 0, 0), (.iastore, 0, 0, 0, 0), (.iload_n 2, 0, 0, 0, 0)] (8, [some (.ref 0), some (.int cell), some (.int r), some (.int c)], [.int r], (sy_up σ.1 5 cell.toNatClampNeg 0, σ.2)) [sy_okA shX 0 5 cell] (by decide +kernel) rfl ⟨⟨16, _, rfl, b1⟩, trivial⟩ ?_
  by_cases c1 : r ≤ 0
  · refine sy_bk [(.ifCond .le 14, 1, 22, 0, 0)] (22, [some (.ref 0), some (.int cell), some (.int r), some (.int c)], [], (sy_up σ.1 5 cell.toNatClampNeg 0, σ.2)) [sy_cc .le r 0] (by decide +kernel) rfl ⟨c1, trivial⟩ ?_
    exact k1 c1
  · refine sy_bk [(.ifCond .le 14, 0, 22, 0, 0)] (11, [some (.ref 0), some (.int cell), some (.int r), some (.int c)], [], (sy_up σ.1 5 cell.toNatClampNeg 0, σ.2)) [¬ sy_cc .le r 0] (by decide +kernel) rfl ⟨c1, trivial⟩ ?_
    refine sy_bk [(.aload_n 0, 0, 0, 0, 0), (.iload_n 1, 0, 0, 0, 0), (.iload_n 1, 0, 0, 0, 0), (.aload_n 0, 0, 0, 0, 0), (.getfield 35, 3, 6, 0, 0), (.isub, 0, 0, 0, 0)] (19, [some (.ref 0), some (.int cell), some (.int r), some (.int c)], [.int (cell - (σ.1 0 6)), .int cell, .ref 0], (sy_up σ.1 5 cell.toNatClampNeg 0, σ.2)) [] (by decide +kernel) rfl trivial ?_
    refine sy_callV mX3_join 0 [.int cell, .int (cell - (σ.1 0 6))] [] kX3_join jX3_54 (by decide +kernel) rfl rfl (Nat.le_of_ble_eq_true rfl) (Nat.le_of_ble_eq_true rfl) (by decide) rfl ?_
    exact k2 c1

set_option maxRecDepth 20000 in
theorem w_x_linkCell_22 {Q : Option Value → sy_S → Prop} {σ : sy_S} {cell : Int32} {r : Int32} {c : Int32}   (k1 : c ≤ 0 → sy_E shX mX3_linkCell (34, [some (.ref 0), some (.int cell), some (.int r), some (.int c)], [], σ) Q) (k2 : ¬ (c ≤ 0) → sy_E shX mX3_join (0, sy_ent [.ref 0, .int cell, .int (cell - 1)] 3, [], σ) (fun r9 σ9 => sy_E shX mX3_linkCell (34, [some (.ref 0), some (.int cell), some (.int r), some (.int c)], r9.toList ++ [], σ9) Q)) : sy_E shX mX3_linkCell (22, [some (.ref 0), some (.int cell), some (.int r), some (.int c)], [], σ) Q := by
  refine sy_bk [(.iload_n 3, 0, 0, 0, 0)] (23, [some (.ref 0), some (.int cell), some (.int r), some (.int c)], [.int c], σ) [] (by decide +kernel) rfl trivial ?_
  by_cases c1 : c ≤ 0
  · refine sy_bk [(.ifCond .le 11, 1, 34, 0, 0)] (34, [some (.ref 0), some (.int cell), some (.int r), some (.int c)], [], σ) [sy_cc .le c 0] (by decide +kernel) rfl ⟨c1, trivial⟩ ?_
    exact k1 c1
  · refine sy_bk [(.ifCond .le 11, 0, 34, 0, 0)] (26, [some (.ref 0), some (.int cell), some (.int r), some (.int c)], [], σ) [¬ sy_cc .le c 0] (by decide +kernel) rfl ⟨c1, trivial⟩ ?_
    refine sy_bk [(.aload_n 0, 0, 0, 0, 0), (.iload_n 1, 0, 0, 0, 0), (.iload_n 1, 0, 0, 0, 0), (.iconst 1, 0, 0, 1, 0), (.isub, 0, 0, 0, 0)] (31, [some (.ref 0), some (.int cell), some (.int r), some (.int c)], [.int (cell - 1), .int cell, .ref 0], σ) [] (by decide +kernel) rfl trivial ?_
    refine sy_callV mX3_join 0 [.int cell, .int (cell - 1)] [] kX3_join jX3_54 (by decide +kernel) rfl rfl (Nat.le_of_ble_eq_true rfl) (Nat.le_of_ble_eq_true rfl) (by decide) rfl ?_
    exact k2 c1

set_option maxRecDepth 20000 in
theorem w_x_linkCell_34 {Q : Option Value → sy_S → Prop} {σ : sy_S} {cell : Int32} {r : Int32} {c : Int32}   (k1 : (σ.1 0 6) ≤ (c + 1) → sy_E shX mX3_linkCell (52, [some (.ref 0), some (.int cell), some (.int r), none], [], σ) Q) (k2 : ¬ ((σ.1 0 6) ≤ (c + 1)) → sy_E shX mX3_join (0, sy_ent [.ref 0, .int cell, .int (cell + 1)] 3, [], σ) (fun r9 σ9 => sy_E shX mX3_linkCell (52, [some (.ref 0), some (.int cell), some (.int r), none], r9.toList ++ [], σ9) Q)) : sy_E shX mX3_linkCell (34, [some (.ref 0), some (.int cell), some (.int r), some (.int c)], [], σ) Q := by
  refine sy_bk [(.iload_n 3, 0, 0, 0, 0), (.iconst 1, 0, 0, 1, 0), (.iadd, 0, 0, 0, 0), (.aload_n 0, 0, 0, 0, 0), (.getfield 35, 3, 6, 0, 0)] (41, [some (.ref 0), some (.int cell), some (.int r), some (.int c)], [.int (σ.1 0 6), .int (c + 1)], σ) [] (by decide +kernel) rfl trivial ?_
  by_cases c1 : (σ.1 0 6) ≤ (c + 1)
  · refine sy_bk [(.if_icmp .ge 11, 1, 52, 0, 0)] (52, [some (.ref 0), some (.int cell), some (.int r), some (.int c)], [], σ) [sy_cc .ge (c + 1) (σ.1 0 6)] (by decide +kernel) rfl ⟨c1, trivial⟩ ?_
    refine sy_drop [some (.ref 0), some (.int cell), some (.int r), none] ⟨rfl, rfl, rfl, trivial⟩ ?_
    exact k1 c1
  · refine sy_bk [(.if_icmp .ge 11, 0, 52, 0, 0)] (44, [some (.ref 0), some (.int cell), some (.int r), some (.int c)], [], σ) [¬ sy_cc .ge (c + 1) (σ.1 0 6)] (by decide +kernel) rfl ⟨c1, trivial⟩ ?_
    refine sy_bk [(.aload_n 0, 0, 0, 0, 0), (.iload_n 1, 0, 0, 0, 0), (.iload_n 1, 0, 0, 0, 0), (.iconst 1, 0, 0, 1, 0), (.iadd, 0, 0, 0, 0)] (49, [some (.ref 0), some (.int cell), some (.int r), some (.int c)], [.int (cell + 1), .int cell, .ref 0], σ) [] (by decide +kernel) rfl trivial ?_
    refine sy_drop [some (.ref 0), some (.int cell), some (.int r), none] ⟨rfl, rfl, rfl, trivial⟩ ?_
    refine sy_callV mX3_join 0 [.int cell, .int (cell + 1)] [] kX3_join jX3_54 (by decide +kernel) rfl rfl (Nat.le_of_ble_eq_true rfl) (Nat.le_of_ble_eq_true rfl) (by decide) rfl ?_
    exact k2 c1

set_option maxRecDepth 20000 in
theorem w_x_linkCell_52 {Q : Option Value → sy_S → Prop} {σ : sy_S} {cell : Int32} {r : Int32}   (k1 : (σ.1 0 5) ≤ (r + 1) → Q none σ) (k2 : ¬ ((σ.1 0 5) ≤ (r + 1)) → sy_E shX mX3_join (0, sy_ent [.ref 0, .int cell, .int (cell + (σ.1 0 6))] 3, [], σ) (fun r9 σ9 => sy_E shX mX3_linkCell (73, [none, none, none, none], r9.toList ++ [], σ9) Q)) : sy_E shX mX3_linkCell (52, [some (.ref 0), some (.int cell), some (.int r), none], [], σ) Q := by
  refine sy_bk [(.iload_n 2, 0, 0, 0, 0), (.iconst 1, 0, 0, 1, 0), (.iadd, 0, 0, 0, 0), (.aload_n 0, 0, 0, 0, 0), (.getfield 31, 3, 5, 0, 0)] (59, [some (.ref 0), some (.int cell), some (.int r), none], [.int (σ.1 0 5), .int (r + 1)], σ) [] (by decide +kernel) rfl trivial ?_
  by_cases c1 : (σ.1 0 5) ≤ (r + 1)
  · refine sy_bk [(.if_icmp .ge 14, 1, 73, 0, 0)] (73, [some (.ref 0), some (.int cell), some (.int r), none], [], σ) [sy_cc .ge (r + 1) (σ.1 0 5)] (by decide +kernel) rfl ⟨c1, trivial⟩ ?_
    exact sy_retv rfl (by decide +kernel) (k1 c1)
  · refine sy_bk [(.if_icmp .ge 14, 0, 73, 0, 0)] (62, [some (.ref 0), some (.int cell), some (.int r), none], [], σ) [¬ sy_cc .ge (r + 1) (σ.1 0 5)] (by decide +kernel) rfl ⟨c1, trivial⟩ ?_
    refine sy_bk [(.aload_n 0, 0, 0, 0, 0), (.iload_n 1, 0, 0, 0, 0), (.iload_n 1, 0, 0, 0, 0), (.aload_n 0, 0, 0, 0, 0), (.getfield 35, 3, 6, 0, 0), (.iadd, 0, 0, 0, 0)] (70, [some (.ref 0), some (.int cell), some (.int r), none], [.int (cell + (σ.1 0 6)), .int cell, .ref 0], σ) [] (by decide +kernel) rfl trivial ?_
    refine sy_drop [none, none, none, none] trivial ?_
    refine sy_callV mX3_join 0 [.int cell, .int (cell + (σ.1 0 6))] [] kX3_join jX3_54 (by decide +kernel) rfl rfl (Nat.le_of_ble_eq_true rfl) (Nat.le_of_ble_eq_true rfl) (by decide) rfl ?_
    exact k2 c1

set_option maxRecDepth 20000 in
theorem w_x_linkCell_73 {Q : Option Value → sy_S → Prop} {σ : sy_S}    (k1 : Q none σ) : sy_E shX mX3_linkCell (73, [none, none, none, none], [], σ) Q := by
  exact sy_retv rfl (by decide +kernel) (k1)

set_option maxRecDepth 20000 in
theorem w_x_link_0 {Q : Option Value → sy_S → Prop} {σ : sy_S}    (k1 : sy_E shX mX3_link (7, [some (.ref 0), some (.int 0), none, none], [], (sy_up σ.1 0 7 0, σ.2)) Q) : sy_E shX mX3_link (0, sy_ent [.ref 0] 4, [], σ) Q := by
  show sy_E shX mX3_link (0, [some (.ref 0), none, none, none], [], σ) _
  refine sy_bk [(.aload_n 0, 0, 0, 0, 0), (.iconst 0, 0, 0, 0, 0), (.putfield 47, 3, 7, 0, 0), (.iconst 0, 0, 0, 0, 0), (.istore_n 1, 0, 0, 0, 0)] (7, [some (.ref 0), some (.int 0), none, none], [], (sy_up σ.1 0 7 0, σ.2)) [] (by decide +kernel) rfl trivial ?_
  exact k1

set_option maxRecDepth 20000 in
theorem w_x_link_7 {Q : Option Value → sy_S → Prop} {σ : sy_S} {r : Int32}   (k1 : (σ.1 0 5) ≤ r → Q none σ) (k2 : ¬ ((σ.1 0 5) ≤ r) → sy_E shX mX3_link (17, [some (.ref 0), some (.int r), some (.int 0), none], [], σ) Q) : sy_E shX mX3_link (7, [some (.ref 0), some (.int r), none, none], [], σ) Q := by
  refine sy_bk [(.iload_n 1, 0, 0, 0, 0), (.aload_n 0, 0, 0, 0, 0), (.getfield 31, 3, 5, 0, 0)] (12, [some (.ref 0), some (.int r), none, none], [.int (σ.1 0 5), .int r], σ) [] (by decide +kernel) rfl trivial ?_
  by_cases c1 : (σ.1 0 5) ≤ r
  · refine sy_bk [(.if_icmp .ge 80, 1, 92, 0, 0)] (92, [some (.ref 0), some (.int r), none, none], [], σ) [sy_cc .ge r (σ.1 0 5)] (by decide +kernel) rfl ⟨c1, trivial⟩ ?_
    exact sy_retv rfl (by decide +kernel) (k1 c1)
  · refine sy_bk [(.if_icmp .ge 80, 0, 92, 0, 0)] (15, [some (.ref 0), some (.int r), none, none], [], σ) [¬ sy_cc .ge r (σ.1 0 5)] (by decide +kernel) rfl ⟨c1, trivial⟩ ?_
    refine sy_bk [(.iconst 0, 0, 0, 0, 0), (.istore_n 2, 0, 0, 0, 0)] (17, [some (.ref 0), some (.int r), some (.int 0), none], [], σ) [] (by decide +kernel) rfl trivial ?_
    exact k2 c1

set_option maxRecDepth 20000 in
theorem w_x_link_17 {Q : Option Value → sy_S → Prop} {σ : sy_S} {r : Int32} {c : Int32}  (b1 : ¬ ((σ.1 0 6) ≤ c) → vp_in ((r * (σ.1 0 6)) + c) 16) (b2 : ¬ ((σ.1 0 6) ≤ c) → ¬ (¬ (σ.1 1 (((r * (σ.1 0 6)) + c).toNatClampNeg)) = 0) → vp_in (σ.1 0 7) 16) (k1 : (σ.1 0 6) ≤ c → sy_E shX mX3_link (7, [some (.ref 0), some (.int (r + 1)), none, none], [], σ) Q) (k2 : ¬ ((σ.1 0 6) ≤ c) → ¬ (σ.1 1 (((r * (σ.1 0 6)) + c).toNatClampNeg)) = 0 → sy_E shX mX3_linkCell (0, sy_ent [.ref 0, .int ((r * (σ.1 0 6)) + c), .int r, .int c] 4, [], (sy_up σ.1 3 (((r * (σ.1 0 6)) + c).toNatClampNeg) (σ.1 0 7), σ.2)) (fun r9 σ9 => sy_E shX mX3_link (80, [some (.ref 0), some (.int r), some (.int c), none], r9.toList ++ [], σ9) Q)) (k3 : ¬ ((σ.1 0 6) ≤ c) → ¬ (¬ (σ.1 1 (((r * (σ.1 0 6)) + c).toNatClampNeg)) = 0) → sy_E shX mX3_linkCell (0, sy_ent [.ref 0, .int ((r * (σ.1 0 6)) + c), .int r, .int c] 4, [], (sy_up (sy_up (sy_up σ.1 3 (((r * (σ.1 0 6)) + c).toNatClampNeg) (σ.1 0 7)) 2 ((σ.1 0 7).toNatClampNeg) ((r * (σ.1 0 6)) + c)) 0 7 ((σ.1 0 7) + 1), σ.2)) (fun r9 σ9 => sy_E shX mX3_link (80, [some (.ref 0), some (.int r), some (.int c), none], r9.toList ++ [], σ9) Q)) : sy_E shX mX3_link (17, [some (.ref 0), some (.int r), some (.int c), none], [], σ) Q := by
  refine sy_bk [(.iload_n 2, 0, 0, 0, 0), (.aload_n 0, 0, 0, 0, 0), (.getfield 35, 3, 6, 0, 0)] (22, [some (.ref 0), some (.int r), some (.int c), none], [.int (σ.1 0 6), .int c], σ) [] (by decide +kernel) rfl trivial ?_
  by_cases c1 : (σ.1 0 6) ≤ c
  · refine sy_bk [(.if_icmp .ge 64, 1, 86, 0, 0)] (86, [some (.ref 0), some (.int r), some (.int c), none], [], σ) [sy_cc .ge c (σ.1 0 6)] (by decide +kernel) rfl ⟨c1, trivial⟩ ?_
    refine sy_bk [(.iinc 1 1, 0, 0, 1, 0), (.goto (-82), 0, 7, 0, 0)] (7, [some (.ref 0), some (.int (r + 1)), some (.int c), none], [], σ) [] (by decide +kernel) rfl trivial ?_
    refine sy_drop [some (.ref 0), some (.int (r + 1)), none, none] ⟨rfl, rfl, trivial⟩ ?_
    exact k1 c1
  · refine sy_bk [(.if_icmp .ge 64, 0, 86, 0, 0)] (25, [some (.ref 0), some (.int r), some (.int c), none], [], σ) [¬ sy_cc .ge c (σ.1 0 6)] (by decide +kernel) rfl ⟨c1, trivial⟩ ?_
    refine sy_bk [(.iload_n 1, 0, 0, 0, 0), (.aload_n 0, 0, 0, 0, 0), (.getfield 35, 3, 6, 0, 0), (.imul, 0, 0, 0, 0), (.iload_n 2, 0, 0, 0, 0), (.iadd, 0, 0, 0, 0), (.istore_n 3, 0, 0, 0, 0), (.aload_n 0, 0, 0, 0, 0), (.getfield 18, 3, 2, 0, 0), (.iload_n 3, 0, 0, 0, 0), (.aload_n 0, 0, 0, 0, 0), (.getfield 47, 3, 7, 0, 0), (.iastore, 0, 0, 0, 0), (.aload_n 0, 0, 0, 0, 0), (.getfield 9, 3, 0, 0, 0), (.iload_n 3, 0, 0, 0, 0), (.iaload, 0, 0, 0, 0)] (50, [some (.ref 0), some (.int r), some (.int c), some (.int ((r * (σ.1 0 6)) + c))], [.int (σ.1 1 (((r * (σ.1 0 6)) + c).toNatClampNeg))], (sy_up σ.1 3 (((r * (σ.1 0 6)) + c).toNatClampNeg) (σ.1 0 7), σ.2)) [sy_okA shX 0 3 ((r * (σ.1 0 6)) + c), sy_okA shX 0 1 ((r * (σ.1 0 6)) + c)] (by decide +kernel) rfl ⟨⟨16, _, rfl, (b1 c1)⟩, ⟨16, _, rfl, (b1 c1)⟩, trivial⟩ ?_
    by_cases c2 : ¬ (σ.1 1 (((r * (σ.1 0 6)) + c).toNatClampNeg)) = 0
    · refine sy_bk [(.ifCond .ne 23, 1, 73, 0, 0)] (73, [some (.ref 0), some (.int r), some (.int c), some (.int ((r * (σ.1 0 6)) + c))], [], (sy_up σ.1 3 (((r * (σ.1 0 6)) + c).toNatClampNeg) (σ.1 0 7), σ.2)) [sy_cc .ne (σ.1 1 (((r * (σ.1 0 6)) + c).toNatClampNeg)) 0] (by decide +kernel) rfl ⟨c2, trivial⟩ ?_
      refine sy_bk [(.aload_n 0, 0, 0, 0, 0), (.iload_n 3, 0, 0, 0, 0), (.iload_n 1, 0, 0, 0, 0), (.iload_n 2, 0, 0, 0, 0)] (77, [some (.ref 0), some (.int r), some (.int c), some (.int ((r * (σ.1 0 6)) + c))], [.int c, .int r, .int ((r * (σ.1 0 6)) + c), .ref 0], (sy_up σ.1 3 (((r * (σ.1 0 6)) + c).toNatClampNeg) (σ.1 0 7), σ.2)) [] (by decide +kernel) rfl trivial ?_
      refine sy_drop [some (.ref 0), some (.int r), some (.int c), none] ⟨rfl, rfl, rfl, trivial⟩ ?_
      refine sy_callV mX3_linkCell 0 [.int ((r * (σ.1 0 6)) + c), .int r, .int c] [] kX3_linkCell jX3_50 (by decide +kernel) rfl rfl (Nat.le_of_ble_eq_true rfl) (Nat.le_of_ble_eq_true rfl) (by decide) rfl ?_
      exact k2 c1 c2
    · refine sy_bk [(.ifCond .ne 23, 0, 73, 0, 0)] (53, [some (.ref 0), some (.int r), some (.int c), some (.int ((r * (σ.1 0 6)) + c))], [], (sy_up σ.1 3 (((r * (σ.1 0 6)) + c).toNatClampNeg) (σ.1 0 7), σ.2)) [¬ sy_cc .ne (σ.1 1 (((r * (σ.1 0 6)) + c).toNatClampNeg)) 0] (by decide +kernel) rfl ⟨c2, trivial⟩ ?_
      refine sy_bk [(.aload_n 0, 0, 0, 0, 0), (.getfield 15, 3, 1, 0, 0), (.aload_n 0, 0, 0, 0, 0), (.getfield 47, 3, 7, 0, 0), (.iload_n 3, 0, 0, 0, 0), (.iastore, 0, 0, 0, 0), (.aload_n 0, 0, 0, 0, 0), (.dup, 0, 0, 0, 0), (.getfield 47, 3, 7, 0, 0), (.iconst 1, 0, 0, 1, 0), (.iadd, 0, 0, 0, 0), (.putfield 47, 3, 7, 0, 0), (.aload_n 0, 0, 0, 0, 0), (.iload_n 3, 0, 0, 0, 0), (.iload_n 1, 0, 0, 0, 0), (.iload_n 2, 0, 0, 0, 0)] (77, [some (.ref 0), some (.int r), some (.int c), some (.int ((r * (σ.1 0 6)) + c))], [.int c, .int r, .int ((r * (σ.1 0 6)) + c), .ref 0], (sy_up (sy_up (sy_up σ.1 3 (((r * (σ.1 0 6)) + c).toNatClampNeg) (σ.1 0 7)) 2 ((σ.1 0 7).toNatClampNeg) ((r * (σ.1 0 6)) + c)) 0 7 ((σ.1 0 7) + 1), σ.2)) [sy_okA shX 0 2 (σ.1 0 7)] (by decide +kernel) rfl ⟨⟨16, _, rfl, (b2 c1 c2)⟩, trivial⟩ ?_
      refine sy_drop [some (.ref 0), some (.int r), some (.int c), none] ⟨rfl, rfl, rfl, trivial⟩ ?_
      refine sy_callV mX3_linkCell 0 [.int ((r * (σ.1 0 6)) + c), .int r, .int c] [] kX3_linkCell jX3_50 (by decide +kernel) rfl rfl (Nat.le_of_ble_eq_true rfl) (Nat.le_of_ble_eq_true rfl) (by decide) rfl ?_
      exact k3 c1 c2

set_option maxRecDepth 20000 in
theorem w_x_link_80 {Q : Option Value → sy_S → Prop} {σ : sy_S} {r : Int32} {c : Int32}   (k1 : sy_E shX mX3_link (17, [some (.ref 0), some (.int r), some (.int (c + 1)), none], [], σ) Q) : sy_E shX mX3_link (80, [some (.ref 0), some (.int r), some (.int c), none], [], σ) Q := by
  refine sy_bk [(.iinc 2 1, 0, 0, 1, 0), (.goto (-66), 0, 17, 0, 0)] (17, [some (.ref 0), some (.int r), some (.int (c + 1)), none], [], σ) [] (by decide +kernel) rfl trivial ?_
  exact k1

set_option maxRecDepth 20000 in
theorem w_x_shape_0 {Q : Option Value → sy_S → Prop} {σ : sy_S} {r : Int32} {c : Int32}   (k1 : sy_E shX mJ7_fill_53178 (0, sy_ent [.ref 1, .int 0] 4, [], (sy_up (sy_up σ.1 0 5 r) 0 6 c, σ.2)) (fun r9 σ9 => sy_E shX mX3_shape (18, [some (.ref 0), none, none], r9.toList ++ [], σ9) Q)) : sy_E shX mX3_shape (0, sy_ent [.ref 0, .int r, .int c] 3, [], σ) Q := by
  show sy_E shX mX3_shape (0, [some (.ref 0), some (.int r), some (.int c)], [], σ) _
  refine sy_bk [(.aload_n 0, 0, 0, 0, 0), (.iload_n 1, 0, 0, 0, 0), (.putfield 31, 3, 5, 0, 0), (.aload_n 0, 0, 0, 0, 0), (.iload_n 2, 0, 0, 0, 0), (.putfield 35, 3, 6, 0, 0), (.aload_n 0, 0, 0, 0, 0), (.getfield 9, 3, 0, 0, 0), (.iconst 0, 0, 0, 0, 0)] (15, [some (.ref 0), some (.int r), some (.int c)], [.int 0, .ref 1], (sy_up (sy_up σ.1 0 5 r) 0 6 c, σ.2)) [] (by decide +kernel) rfl trivial ?_
  refine sy_drop [some (.ref 0), none, none] ⟨rfl, trivial⟩ ?_
  refine sy_callS mJ7_fill_53178 [.ref 1, .int 0] [] kJ7_fill_53178 jX3_38 (by decide +kernel) rfl rfl (Nat.le_of_ble_eq_true rfl) (Nat.le_of_ble_eq_true rfl) (by decide) ?_
  exact k1

set_option maxRecDepth 20000 in
theorem w_x_shape_18 {Q : Option Value → sy_S → Prop} {σ : sy_S}    (k1 : sy_E shX mX3_link (0, sy_ent [.ref 0] 4, [], σ) (fun r9 σ9 => sy_E shX mX3_shape (22, [none, none, none], r9.toList ++ [], σ9) Q)) : sy_E shX mX3_shape (18, [some (.ref 0), none, none], [], σ) Q := by
  refine sy_bk [(.aload_n 0, 0, 0, 0, 0)] (19, [some (.ref 0), none, none], [.ref 0], σ) [] (by decide +kernel) rfl trivial ?_
  refine sy_drop [none, none, none] trivial ?_
  refine sy_callV mX3_link 0 [] [] kX3_link jX3_44 (by decide +kernel) rfl rfl (Nat.le_of_ble_eq_true rfl) (Nat.le_of_ble_eq_true rfl) (by decide) rfl ?_
  exact k1

set_option maxRecDepth 20000 in
theorem w_x_shape_22 {Q : Option Value → sy_S → Prop} {σ : sy_S}    (k1 : Q none σ) : sy_E shX mX3_shape (22, [none, none, none], [], σ) Q := by
  exact sy_retv rfl (by decide +kernel) (k1)

set_option maxRecDepth 20000 in
theorem w_x_fill_0 {Q : Option Value → sy_S → Prop} {σ : sy_S} {k : Nat} {n : Nat} {v : Int32} (hk : shX[k]? = some (0, n, []))  (k1 : sy_E shX mJ7_fill_53178 (5, [some (.ref k), some (.int v), some (.int 0), some (.int (sy_len shX k))], [], σ) Q) : sy_E shX mJ7_fill_53178 (0, sy_ent [.ref k, .int v] 4, [], σ) Q := by
  show sy_E shX mJ7_fill_53178 (0, [some (.ref k), some (.int v), none, none], [], σ) _
  refine sy_bk [(.iconst 0, 0, 0, 0, 0), (.istore_n 2, 0, 0, 0, 0), (.aload_n 0, 0, 0, 0, 0), (.arraylength, 0, 0, 0, 0), (.istore_n 3, 0, 0, 0, 0)] (5, [some (.ref k), some (.int v), some (.int 0), some (.int (sy_len shX k))], [], σ) [sy_okL shX k] (by decide +kernel) rfl ⟨⟨0, _, _, hk, by decide⟩, trivial⟩ ?_
  exact k1

set_option maxRecDepth 20000 in
theorem w_x_fill_5 {Q : Option Value → sy_S → Prop} {σ : sy_S} {k : Nat} {n : Nat} {v : Int32} {i : Int32} {len : Int32} (hk : shX[k]? = some (0, n, [])) (b1 : ¬ (len ≤ i) → vp_in i n) (k1 : len ≤ i → Q none σ) (k2 : ¬ (len ≤ i) → sy_E shX mJ7_fill_53178 (5, [some (.ref k), some (.int v), some (.int (i + 1)), some (.int len)], [], (sy_up σ.1 k i.toNatClampNeg v, σ.2)) Q) : sy_E shX mJ7_fill_53178 (5, [some (.ref k), some (.int v), some (.int i), some (.int len)], [], σ) Q := by
  refine sy_bk [(.iload_n 2, 0, 0, 0, 0), (.iload_n 3, 0, 0, 0, 0)] (7, [some (.ref k), some (.int v), some (.int i), some (.int len)], [.int len, .int i], σ) [] (by decide +kernel) rfl trivial ?_
  by_cases c1 : len ≤ i
  · refine sy_bk [(.if_icmp .ge 13, 1, 20, 0, 0)] (20, [some (.ref k), some (.int v), some (.int i), some (.int len)], [], σ) [sy_cc .ge i len] (by decide +kernel) rfl ⟨c1, trivial⟩ ?_
    exact sy_retv rfl (by decide +kernel) (k1 c1)
  · refine sy_bk [(.if_icmp .ge 13, 0, 20, 0, 0)] (10, [some (.ref k), some (.int v), some (.int i), some (.int len)], [], σ) [¬ sy_cc .ge i len] (by decide +kernel) rfl ⟨c1, trivial⟩ ?_
    refine sy_bk [(.aload_n 0, 0, 0, 0, 0), (.iload_n 2, 0, 0, 0, 0), (.iload_n 1, 0, 0, 0, 0), (.iastore, 0, 0, 0, 0), (.iinc 2 1, 0, 0, 1, 0), (.goto (-12), 0, 5, 0, 0)] (5, [some (.ref k), some (.int v), some (.int (i + 1)), some (.int len)], [], (sy_up σ.1 k i.toNatClampNeg v, σ.2)) [sy_okA shX 0 k i] (by decide +kernel) rfl ⟨⟨n, _, hk, (b1 c1)⟩, trivial⟩ ?_
    exact k2 c1

set_option maxRecDepth 20000 in
theorem w_g_join {Q : Option Value → sy_S → Prop} {σ : sy_S} {cell : Int32} {oth : Int32}  (b1 : vp_in oth 16) (b2 : ¬ (¬ (σ.1 1 oth.toNatClampNeg) = 0) → vp_in cell 16) (b3 : ¬ (¬ (σ.1 1 oth.toNatClampNeg) = 0) → vp_in ((cell * 4) + (σ.1 5 cell.toNatClampNeg)) 64) (k1 : ¬ (σ.1 1 oth.toNatClampNeg) = 0 → Q none σ) (k2 : ¬ (¬ (σ.1 1 oth.toNatClampNeg) = 0) → Q none (sy_up (sy_up σ.1 4 (((cell * 4) + (σ.1 5 cell.toNatClampNeg)).toNatClampNeg) oth) 5 cell.toNatClampNeg ((σ.1 5 cell.toNatClampNeg) + 1), σ.2)) : sy_E shG mX3_join (0, sy_ent [.ref 0, .int cell, .int oth] 3, [], σ) Q := by
  show sy_E shG mX3_join (0, [some (.ref 0), some (.int cell), some (.int oth)], [], σ) _
  refine sy_bk [(.aload_n 0, 0, 0, 0, 0), (.getfield 9, 3, 0, 0, 0), (.iload_n 2, 0, 0, 0, 0), (.iaload, 0, 0, 0, 0)] (6, [some (.ref 0), some (.int cell), some (.int oth)], [.int (σ.1 1 oth.toNatClampNeg)], σ) [sy_okA shG 0 1 oth] (by decide +kernel) rfl ⟨⟨16, _, rfl, b1⟩, trivial⟩ ?_
  by_cases c1 : ¬ (σ.1 1 oth.toNatClampNeg) = 0
  · refine sy_bk [(.ifCond .ne 29, 1, 35, 0, 0)] (35, [some (.ref 0), some (.int cell), some (.int oth)], [], σ) [sy_cc .ne (σ.1 1 oth.toNatClampNeg) 0] (by decide +kernel) rfl ⟨c1, trivial⟩ ?_
    exact sy_retv rfl (by decide +kernel) (k1 c1)
  · refine sy_bk [(.ifCond .ne 29, 0, 35, 0, 0)] (9, [some (.ref 0), some (.int cell), some (.int oth)], [], σ) [¬ sy_cc .ne (σ.1 1 oth.toNatClampNeg) 0] (by decide +kernel) rfl ⟨c1, trivial⟩ ?_
    refine sy_bk [(.aload_n 0, 0, 0, 0, 0), (.getfield 21, 3, 3, 0, 0), (.iload_n 1, 0, 0, 0, 0), (.iconst 4, 0, 0, 4, 0), (.imul, 0, 0, 0, 0), (.aload_n 0, 0, 0, 0, 0), (.getfield 24, 3, 4, 0, 0), (.iload_n 1, 0, 0, 0, 0), (.iaload, 0, 0, 0, 0), (.iadd, 0, 0, 0, 0), (.iload_n 2, 0, 0, 0, 0), (.iastore, 0, 0, 0, 0), (.aload_n 0, 0, 0, 0, 0), (.getfield 24, 3, 4, 0, 0), (.iload_n 1, 0, 0, 0, 0), (.dup2, 0, 0, 0, 0), (.iaload, 0, 0, 0, 0), (.iconst 1, 0, 0, 1, 0), (.iadd, 0, 0, 0, 0), (.iastore, 0, 0, 0, 0)] (35, [some (.ref 0), some (.int cell), some (.int oth)], [], (sy_up (sy_up σ.1 4 (((cell * 4) + (σ.1 5 cell.toNatClampNeg)).toNatClampNeg) oth) 5 cell.toNatClampNeg ((σ.1 5 cell.toNatClampNeg) + 1), σ.2)) [sy_okA shG 0 5 cell, sy_okA shG 0 4 ((cell * 4) + (σ.1 5 cell.toNatClampNeg)), sy_okA shG 0 5 cell, sy_okA shG 0 5 cell] (by decide +kernel) rfl ⟨⟨16, _, rfl, (b2 c1)⟩, ⟨64, _, rfl, (b3 c1)⟩, ⟨16, _, rfl, (b2 c1)⟩, ⟨16, _, rfl, (b2 c1)⟩, trivial⟩ ?_
    exact sy_retv rfl (by decide +kernel) (k2 c1)

set_option maxRecDepth 20000 in
theorem w_g_linkCell_0 {Q : Option Value → sy_S → Prop} {σ : sy_S} {cell : Int32} {r : Int32} {c : Int32}  (b1 : vp_in cell 16) (k1 : r ≤ 0 → sy_E shG mX3_linkCell (22, [some (.ref 0), some (.int cell), some (.int r), some (.int c)], [], (sy_up σ.1 5 cell.toNatClampNeg 0, σ.2)) Q) (k2 : ¬ (r ≤ 0) → sy_E shG mX3_join (0, sy_ent [.ref 0, .int cell, .int (cell - (σ.1 0 6))] 3, [], (sy_up σ.1 5 cell.toNatClampNeg 0, σ.2)) (fun r9 σ9 => sy_E shG mX3_linkCell (22, [some (.ref 0), some (.int cell), some (.int r), some (.int c)], r9.toList ++ [], σ9) Q)) : sy_E shG mX3_linkCell (0, sy_ent [.ref 0, .int cell, .int r, .int c] 4, [], σ) Q := by
  show sy_E shG mX3_linkCell (0, [some (.ref 0), some (.int cell), some (.int r), some (.int c)], [], σ) _
  refine sy_bk [(.aload_n 0, 0, 0, 0, 0), (.getfield 24, 3, 4, 0, 0), (.iload_n 1, 0, 0, 0, 0), (.iconst 0, 0, 0, 0, 0), (.iastore, 0, 0, 0, 0), (.iload_n 2, 0, 0, 0, 0)] (8, [some (.ref 0), some (.int cell), some (.int r), some (.int c)], [.int r], (sy_up σ.1 5 cell.toNatClampNeg 0, σ.2)) [sy_okA shG 0 5 cell] (by decide +kernel) rfl ⟨⟨16, _, rfl, b1⟩, trivial⟩ ?_
  by_cases c1 : r ≤ 0
  · refine sy_bk [(.ifCond .le 14, 1, 22, 0, 0)] (22, [some (.ref 0), some (.int cell), some (.int r), some (.int c)], [], (sy_up σ.1 5 cell.toNatClampNeg 0, σ.2)) [sy_cc .le r 0] (by decide +kernel) rfl ⟨c1, trivial⟩ ?_
    exact k1 c1
  · refine sy_bk [(.ifCond .le 14, 0, 22, 0, 0)] (11, [some (.ref 0), some (.int cell), some (.int r), some (.int c)], [], (sy_up σ.1 5 cell.toNatClampNeg 0, σ.2)) [¬ sy_cc .le r 0] (by decide +kernel) rfl ⟨c1, trivial⟩ ?_
    refine sy_bk [(.aload_n 0, 0, 0, 0, 0), (.iload_n 1, 0, 0, 0, 0), (.iload_n 1, 0, 0, 0, 0), (.aload_n 0, 0, 0, 0, 0), (.getfield 35, 3, 6, 0, 0), (.isub, 0, 0, 0, 0)] (19, [some (.ref 0), some (.int cell), some (.int r), some (.int c)], [.int (cell - (σ.1 0 6)), .int cell, .ref 0], (sy_up σ.1 5 cell.toNatClampNeg 0, σ.2)) [] (by decide +kernel) rfl trivial ?_
    refine sy_callV mX3_join 0 [.int cell, .int (cell - (σ.1 0 6))] [] kX3_join jX3_54 (by decide +kernel) rfl rfl (Nat.le_of_ble_eq_true rfl) (Nat.le_of_ble_eq_true rfl) (by decide) rfl ?_
    exact k2 c1

set_option maxRecDepth 20000 in
theorem w_g_linkCell_22 {Q : Option Value → sy_S → Prop} {σ : sy_S} {cell : Int32} {r : Int32} {c : Int32}   (k1 : c ≤ 0 → sy_E shG mX3_linkCell (34, [some (.ref 0), some (.int cell), some (.int r), some (.int c)], [], σ) Q) (k2 : ¬ (c ≤ 0) → sy_E shG mX3_join (0, sy_ent [.ref 0, .int cell, .int (cell - 1)] 3, [], σ) (fun r9 σ9 => sy_E shG mX3_linkCell (34, [some (.ref 0), some (.int cell), some (.int r), some (.int c)], r9.toList ++ [], σ9) Q)) : sy_E shG mX3_linkCell (22, [some (.ref 0), some (.int cell), some (.int r), some (.int c)], [], σ) Q := by
  refine sy_bk [(.iload_n 3, 0, 0, 0, 0)] (23, [some (.ref 0), some (.int cell), some (.int r), some (.int c)], [.int c], σ) [] (by decide +kernel) rfl trivial ?_
  by_cases c1 : c ≤ 0
  · refine sy_bk [(.ifCond .le 11, 1, 34, 0, 0)] (34, [some (.ref 0), some (.int cell), some (.int r), some (.int c)], [], σ) [sy_cc .le c 0] (by decide +kernel) rfl ⟨c1, trivial⟩ ?_
    exact k1 c1
  · refine sy_bk [(.ifCond .le 11, 0, 34, 0, 0)] (26, [some (.ref 0), some (.int cell), some (.int r), some (.int c)], [], σ) [¬ sy_cc .le c 0] (by decide +kernel) rfl ⟨c1, trivial⟩ ?_
    refine sy_bk [(.aload_n 0, 0, 0, 0, 0), (.iload_n 1, 0, 0, 0, 0), (.iload_n 1, 0, 0, 0, 0), (.iconst 1, 0, 0, 1, 0), (.isub, 0, 0, 0, 0)] (31, [some (.ref 0), some (.int cell), some (.int r), some (.int c)], [.int (cell - 1), .int cell, .ref 0], σ) [] (by decide +kernel) rfl trivial ?_
    refine sy_callV mX3_join 0 [.int cell, .int (cell - 1)] [] kX3_join jX3_54 (by decide +kernel) rfl rfl (Nat.le_of_ble_eq_true rfl) (Nat.le_of_ble_eq_true rfl) (by decide) rfl ?_
    exact k2 c1

set_option maxRecDepth 20000 in
theorem w_g_linkCell_34 {Q : Option Value → sy_S → Prop} {σ : sy_S} {cell : Int32} {r : Int32} {c : Int32}   (k1 : (σ.1 0 6) ≤ (c + 1) → sy_E shG mX3_linkCell (52, [some (.ref 0), some (.int cell), some (.int r), none], [], σ) Q) (k2 : ¬ ((σ.1 0 6) ≤ (c + 1)) → sy_E shG mX3_join (0, sy_ent [.ref 0, .int cell, .int (cell + 1)] 3, [], σ) (fun r9 σ9 => sy_E shG mX3_linkCell (52, [some (.ref 0), some (.int cell), some (.int r), none], r9.toList ++ [], σ9) Q)) : sy_E shG mX3_linkCell (34, [some (.ref 0), some (.int cell), some (.int r), some (.int c)], [], σ) Q := by
  refine sy_bk [(.iload_n 3, 0, 0, 0, 0), (.iconst 1, 0, 0, 1, 0), (.iadd, 0, 0, 0, 0), (.aload_n 0, 0, 0, 0, 0), (.getfield 35, 3, 6, 0, 0)] (41, [some (.ref 0), some (.int cell), some (.int r), some (.int c)], [.int (σ.1 0 6), .int (c + 1)], σ) [] (by decide +kernel) rfl trivial ?_
  by_cases c1 : (σ.1 0 6) ≤ (c + 1)
  · refine sy_bk [(.if_icmp .ge 11, 1, 52, 0, 0)] (52, [some (.ref 0), some (.int cell), some (.int r), some (.int c)], [], σ) [sy_cc .ge (c + 1) (σ.1 0 6)] (by decide +kernel) rfl ⟨c1, trivial⟩ ?_
    refine sy_drop [some (.ref 0), some (.int cell), some (.int r), none] ⟨rfl, rfl, rfl, trivial⟩ ?_
    exact k1 c1
  · refine sy_bk [(.if_icmp .ge 11, 0, 52, 0, 0)] (44, [some (.ref 0), some (.int cell), some (.int r), some (.int c)], [], σ) [¬ sy_cc .ge (c + 1) (σ.1 0 6)] (by decide +kernel) rfl ⟨c1, trivial⟩ ?_
    refine sy_bk [(.aload_n 0, 0, 0, 0, 0), (.iload_n 1, 0, 0, 0, 0), (.iload_n 1, 0, 0, 0, 0), (.iconst 1, 0, 0, 1, 0), (.iadd, 0, 0, 0, 0)] (49, [some (.ref 0), some (.int cell), some (.int r), some (.int c)], [.int (cell + 1), .int cell, .ref 0], σ) [] (by decide +kernel) rfl trivial ?_
    refine sy_drop [some (.ref 0), some (.int cell), some (.int r), none] ⟨rfl, rfl, rfl, trivial⟩ ?_
    refine sy_callV mX3_join 0 [.int cell, .int (cell + 1)] [] kX3_join jX3_54 (by decide +kernel) rfl rfl (Nat.le_of_ble_eq_true rfl) (Nat.le_of_ble_eq_true rfl) (by decide) rfl ?_
    exact k2 c1

set_option maxRecDepth 20000 in
theorem w_g_linkCell_52 {Q : Option Value → sy_S → Prop} {σ : sy_S} {cell : Int32} {r : Int32}   (k1 : (σ.1 0 5) ≤ (r + 1) → Q none σ) (k2 : ¬ ((σ.1 0 5) ≤ (r + 1)) → sy_E shG mX3_join (0, sy_ent [.ref 0, .int cell, .int (cell + (σ.1 0 6))] 3, [], σ) (fun r9 σ9 => sy_E shG mX3_linkCell (73, [none, none, none, none], r9.toList ++ [], σ9) Q)) : sy_E shG mX3_linkCell (52, [some (.ref 0), some (.int cell), some (.int r), none], [], σ) Q := by
  refine sy_bk [(.iload_n 2, 0, 0, 0, 0), (.iconst 1, 0, 0, 1, 0), (.iadd, 0, 0, 0, 0), (.aload_n 0, 0, 0, 0, 0), (.getfield 31, 3, 5, 0, 0)] (59, [some (.ref 0), some (.int cell), some (.int r), none], [.int (σ.1 0 5), .int (r + 1)], σ) [] (by decide +kernel) rfl trivial ?_
  by_cases c1 : (σ.1 0 5) ≤ (r + 1)
  · refine sy_bk [(.if_icmp .ge 14, 1, 73, 0, 0)] (73, [some (.ref 0), some (.int cell), some (.int r), none], [], σ) [sy_cc .ge (r + 1) (σ.1 0 5)] (by decide +kernel) rfl ⟨c1, trivial⟩ ?_
    exact sy_retv rfl (by decide +kernel) (k1 c1)
  · refine sy_bk [(.if_icmp .ge 14, 0, 73, 0, 0)] (62, [some (.ref 0), some (.int cell), some (.int r), none], [], σ) [¬ sy_cc .ge (r + 1) (σ.1 0 5)] (by decide +kernel) rfl ⟨c1, trivial⟩ ?_
    refine sy_bk [(.aload_n 0, 0, 0, 0, 0), (.iload_n 1, 0, 0, 0, 0), (.iload_n 1, 0, 0, 0, 0), (.aload_n 0, 0, 0, 0, 0), (.getfield 35, 3, 6, 0, 0), (.iadd, 0, 0, 0, 0)] (70, [some (.ref 0), some (.int cell), some (.int r), none], [.int (cell + (σ.1 0 6)), .int cell, .ref 0], σ) [] (by decide +kernel) rfl trivial ?_
    refine sy_drop [none, none, none, none] trivial ?_
    refine sy_callV mX3_join 0 [.int cell, .int (cell + (σ.1 0 6))] [] kX3_join jX3_54 (by decide +kernel) rfl rfl (Nat.le_of_ble_eq_true rfl) (Nat.le_of_ble_eq_true rfl) (by decide) rfl ?_
    exact k2 c1

set_option maxRecDepth 20000 in
theorem w_g_linkCell_73 {Q : Option Value → sy_S → Prop} {σ : sy_S}    (k1 : Q none σ) : sy_E shG mX3_linkCell (73, [none, none, none, none], [], σ) Q := by
  exact sy_retv rfl (by decide +kernel) (k1)

set_option maxRecDepth 20000 in
theorem w_g_link_0 {Q : Option Value → sy_S → Prop} {σ : sy_S}    (k1 : sy_E shG mX3_link (7, [some (.ref 0), some (.int 0), none, none], [], (sy_up σ.1 0 7 0, σ.2)) Q) : sy_E shG mX3_link (0, sy_ent [.ref 0] 4, [], σ) Q := by
  show sy_E shG mX3_link (0, [some (.ref 0), none, none, none], [], σ) _
  refine sy_bk [(.aload_n 0, 0, 0, 0, 0), (.iconst 0, 0, 0, 0, 0), (.putfield 47, 3, 7, 0, 0), (.iconst 0, 0, 0, 0, 0), (.istore_n 1, 0, 0, 0, 0)] (7, [some (.ref 0), some (.int 0), none, none], [], (sy_up σ.1 0 7 0, σ.2)) [] (by decide +kernel) rfl trivial ?_
  exact k1

set_option maxRecDepth 20000 in
theorem w_g_link_7 {Q : Option Value → sy_S → Prop} {σ : sy_S} {r : Int32}   (k1 : (σ.1 0 5) ≤ r → Q none σ) (k2 : ¬ ((σ.1 0 5) ≤ r) → sy_E shG mX3_link (17, [some (.ref 0), some (.int r), some (.int 0), none], [], σ) Q) : sy_E shG mX3_link (7, [some (.ref 0), some (.int r), none, none], [], σ) Q := by
  refine sy_bk [(.iload_n 1, 0, 0, 0, 0), (.aload_n 0, 0, 0, 0, 0), (.getfield 31, 3, 5, 0, 0)] (12, [some (.ref 0), some (.int r), none, none], [.int (σ.1 0 5), .int r], σ) [] (by decide +kernel) rfl trivial ?_
  by_cases c1 : (σ.1 0 5) ≤ r
  · refine sy_bk [(.if_icmp .ge 80, 1, 92, 0, 0)] (92, [some (.ref 0), some (.int r), none, none], [], σ) [sy_cc .ge r (σ.1 0 5)] (by decide +kernel) rfl ⟨c1, trivial⟩ ?_
    exact sy_retv rfl (by decide +kernel) (k1 c1)
  · refine sy_bk [(.if_icmp .ge 80, 0, 92, 0, 0)] (15, [some (.ref 0), some (.int r), none, none], [], σ) [¬ sy_cc .ge r (σ.1 0 5)] (by decide +kernel) rfl ⟨c1, trivial⟩ ?_
    refine sy_bk [(.iconst 0, 0, 0, 0, 0), (.istore_n 2, 0, 0, 0, 0)] (17, [some (.ref 0), some (.int r), some (.int 0), none], [], σ) [] (by decide +kernel) rfl trivial ?_
    exact k2 c1

set_option maxRecDepth 20000 in
theorem w_g_link_17 {Q : Option Value → sy_S → Prop} {σ : sy_S} {r : Int32} {c : Int32}  (b1 : ¬ ((σ.1 0 6) ≤ c) → vp_in ((r * (σ.1 0 6)) + c) 16) (b2 : ¬ ((σ.1 0 6) ≤ c) → ¬ (¬ (σ.1 1 (((r * (σ.1 0 6)) + c).toNatClampNeg)) = 0) → vp_in (σ.1 0 7) 16) (k1 : (σ.1 0 6) ≤ c → sy_E shG mX3_link (7, [some (.ref 0), some (.int (r + 1)), none, none], [], σ) Q) (k2 : ¬ ((σ.1 0 6) ≤ c) → ¬ (σ.1 1 (((r * (σ.1 0 6)) + c).toNatClampNeg)) = 0 → sy_E shG mX3_linkCell (0, sy_ent [.ref 0, .int ((r * (σ.1 0 6)) + c), .int r, .int c] 4, [], (sy_up σ.1 3 (((r * (σ.1 0 6)) + c).toNatClampNeg) (σ.1 0 7), σ.2)) (fun r9 σ9 => sy_E shG mX3_link (80, [some (.ref 0), some (.int r), some (.int c), none], r9.toList ++ [], σ9) Q)) (k3 : ¬ ((σ.1 0 6) ≤ c) → ¬ (¬ (σ.1 1 (((r * (σ.1 0 6)) + c).toNatClampNeg)) = 0) → sy_E shG mX3_linkCell (0, sy_ent [.ref 0, .int ((r * (σ.1 0 6)) + c), .int r, .int c] 4, [], (sy_up (sy_up (sy_up σ.1 3 (((r * (σ.1 0 6)) + c).toNatClampNeg) (σ.1 0 7)) 2 ((σ.1 0 7).toNatClampNeg) ((r * (σ.1 0 6)) + c)) 0 7 ((σ.1 0 7) + 1), σ.2)) (fun r9 σ9 => sy_E shG mX3_link (80, [some (.ref 0), some (.int r), some (.int c), none], r9.toList ++ [], σ9) Q)) : sy_E shG mX3_link (17, [some (.ref 0), some (.int r), some (.int c), none], [], σ) Q := by
  refine sy_bk [(.iload_n 2, 0, 0, 0, 0), (.aload_n 0, 0, 0, 0, 0), (.getfield 35, 3, 6, 0, 0)] (22, [some (.ref 0), some (.int r), some (.int c), none], [.int (σ.1 0 6), .int c], σ) [] (by decide +kernel) rfl trivial ?_
  by_cases c1 : (σ.1 0 6) ≤ c
  · refine sy_bk [(.if_icmp .ge 64, 1, 86, 0, 0)] (86, [some (.ref 0), some (.int r), some (.int c), none], [], σ) [sy_cc .ge c (σ.1 0 6)] (by decide +kernel) rfl ⟨c1, trivial⟩ ?_
    refine sy_bk [(.iinc 1 1, 0, 0, 1, 0), (.goto (-82), 0, 7, 0, 0)] (7, [some (.ref 0), some (.int (r + 1)), some (.int c), none], [], σ) [] (by decide +kernel) rfl trivial ?_
    refine sy_drop [some (.ref 0), some (.int (r + 1)), none, none] ⟨rfl, rfl, trivial⟩ ?_
    exact k1 c1
  · refine sy_bk [(.if_icmp .ge 64, 0, 86, 0, 0)] (25, [some (.ref 0), some (.int r), some (.int c), none], [], σ) [¬ sy_cc .ge c (σ.1 0 6)] (by decide +kernel) rfl ⟨c1, trivial⟩ ?_
    refine sy_bk [(.iload_n 1, 0, 0, 0, 0), (.aload_n 0, 0, 0, 0, 0), (.getfield 35, 3, 6, 0, 0), (.imul, 0, 0, 0, 0), (.iload_n 2, 0, 0, 0, 0), (.iadd, 0, 0, 0, 0), (.istore_n 3, 0, 0, 0, 0), (.aload_n 0, 0, 0, 0, 0), (.getfield 18, 3, 2, 0, 0), (.iload_n 3, 0, 0, 0, 0), (.aload_n 0, 0, 0, 0, 0), (.getfield 47, 3, 7, 0, 0), (.iastore, 0, 0, 0, 0), (.aload_n 0, 0, 0, 0, 0), (.getfield 9, 3, 0, 0, 0), (.iload_n 3, 0, 0, 0, 0), (.iaload, 0, 0, 0, 0)] (50, [some (.ref 0), some (.int r), some (.int c), some (.int ((r * (σ.1 0 6)) + c))], [.int (σ.1 1 (((r * (σ.1 0 6)) + c).toNatClampNeg))], (sy_up σ.1 3 (((r * (σ.1 0 6)) + c).toNatClampNeg) (σ.1 0 7), σ.2)) [sy_okA shG 0 3 ((r * (σ.1 0 6)) + c), sy_okA shG 0 1 ((r * (σ.1 0 6)) + c)] (by decide +kernel) rfl ⟨⟨16, _, rfl, (b1 c1)⟩, ⟨16, _, rfl, (b1 c1)⟩, trivial⟩ ?_
    by_cases c2 : ¬ (σ.1 1 (((r * (σ.1 0 6)) + c).toNatClampNeg)) = 0
    · refine sy_bk [(.ifCond .ne 23, 1, 73, 0, 0)] (73, [some (.ref 0), some (.int r), some (.int c), some (.int ((r * (σ.1 0 6)) + c))], [], (sy_up σ.1 3 (((r * (σ.1 0 6)) + c).toNatClampNeg) (σ.1 0 7), σ.2)) [sy_cc .ne (σ.1 1 (((r * (σ.1 0 6)) + c).toNatClampNeg)) 0] (by decide +kernel) rfl ⟨c2, trivial⟩ ?_
      refine sy_bk [(.aload_n 0, 0, 0, 0, 0), (.iload_n 3, 0, 0, 0, 0), (.iload_n 1, 0, 0, 0, 0), (.iload_n 2, 0, 0, 0, 0)] (77, [some (.ref 0), some (.int r), some (.int c), some (.int ((r * (σ.1 0 6)) + c))], [.int c, .int r, .int ((r * (σ.1 0 6)) + c), .ref 0], (sy_up σ.1 3 (((r * (σ.1 0 6)) + c).toNatClampNeg) (σ.1 0 7), σ.2)) [] (by decide +kernel) rfl trivial ?_
      refine sy_drop [some (.ref 0), some (.int r), some (.int c), none] ⟨rfl, rfl, rfl, trivial⟩ ?_
      refine sy_callV mX3_linkCell 0 [.int ((r * (σ.1 0 6)) + c), .int r, .int c] [] kX3_linkCell jX3_50 (by decide +kernel) rfl rfl (Nat.le_of_ble_eq_true rfl) (Nat.le_of_ble_eq_true rfl) (by decide) rfl ?_
      exact k2 c1 c2
    · refine sy_bk [(.ifCond .ne 23, 0, 73, 0, 0)] (53, [some (.ref 0), some (.int r), some (.int c), some (.int ((r * (σ.1 0 6)) + c))], [], (sy_up σ.1 3 (((r * (σ.1 0 6)) + c).toNatClampNeg) (σ.1 0 7), σ.2)) [¬ sy_cc .ne (σ.1 1 (((r * (σ.1 0 6)) + c).toNatClampNeg)) 0] (by decide +kernel) rfl ⟨c2, trivial⟩ ?_
      refine sy_bk [(.aload_n 0, 0, 0, 0, 0), (.getfield 15, 3, 1, 0, 0), (.aload_n 0, 0, 0, 0, 0), (.getfield 47, 3, 7, 0, 0), (.iload_n 3, 0, 0, 0, 0), (.iastore, 0, 0, 0, 0), (.aload_n 0, 0, 0, 0, 0), (.dup, 0, 0, 0, 0), (.getfield 47, 3, 7, 0, 0), (.iconst 1, 0, 0, 1, 0), (.iadd, 0, 0, 0, 0), (.putfield 47, 3, 7, 0, 0), (.aload_n 0, 0, 0, 0, 0), (.iload_n 3, 0, 0, 0, 0), (.iload_n 1, 0, 0, 0, 0), (.iload_n 2, 0, 0, 0, 0)] (77, [some (.ref 0), some (.int r), some (.int c), some (.int ((r * (σ.1 0 6)) + c))], [.int c, .int r, .int ((r * (σ.1 0 6)) + c), .ref 0], (sy_up (sy_up (sy_up σ.1 3 (((r * (σ.1 0 6)) + c).toNatClampNeg) (σ.1 0 7)) 2 ((σ.1 0 7).toNatClampNeg) ((r * (σ.1 0 6)) + c)) 0 7 ((σ.1 0 7) + 1), σ.2)) [sy_okA shG 0 2 (σ.1 0 7)] (by decide +kernel) rfl ⟨⟨16, _, rfl, (b2 c1 c2)⟩, trivial⟩ ?_
      refine sy_drop [some (.ref 0), some (.int r), some (.int c), none] ⟨rfl, rfl, rfl, trivial⟩ ?_
      refine sy_callV mX3_linkCell 0 [.int ((r * (σ.1 0 6)) + c), .int r, .int c] [] kX3_linkCell jX3_50 (by decide +kernel) rfl rfl (Nat.le_of_ble_eq_true rfl) (Nat.le_of_ble_eq_true rfl) (by decide) rfl ?_
      exact k3 c1 c2

set_option maxRecDepth 20000 in
theorem w_g_link_80 {Q : Option Value → sy_S → Prop} {σ : sy_S} {r : Int32} {c : Int32}   (k1 : sy_E shG mX3_link (17, [some (.ref 0), some (.int r), some (.int (c + 1)), none], [], σ) Q) : sy_E shG mX3_link (80, [some (.ref 0), some (.int r), some (.int c), none], [], σ) Q := by
  refine sy_bk [(.iinc 2 1, 0, 0, 1, 0), (.goto (-66), 0, 17, 0, 0)] (17, [some (.ref 0), some (.int r), some (.int (c + 1)), none], [], σ) [] (by decide +kernel) rfl trivial ?_
  exact k1

set_option maxRecDepth 20000 in
theorem w_g_shape_0 {Q : Option Value → sy_S → Prop} {σ : sy_S} {r : Int32} {c : Int32}   (k1 : sy_E shG mJ7_fill_53178 (0, sy_ent [.ref 1, .int 0] 4, [], (sy_up (sy_up σ.1 0 5 r) 0 6 c, σ.2)) (fun r9 σ9 => sy_E shG mX3_shape (18, [some (.ref 0), none, none], r9.toList ++ [], σ9) Q)) : sy_E shG mX3_shape (0, sy_ent [.ref 0, .int r, .int c] 3, [], σ) Q := by
  show sy_E shG mX3_shape (0, [some (.ref 0), some (.int r), some (.int c)], [], σ) _
  refine sy_bk [(.aload_n 0, 0, 0, 0, 0), (.iload_n 1, 0, 0, 0, 0), (.putfield 31, 3, 5, 0, 0), (.aload_n 0, 0, 0, 0, 0), (.iload_n 2, 0, 0, 0, 0), (.putfield 35, 3, 6, 0, 0), (.aload_n 0, 0, 0, 0, 0), (.getfield 9, 3, 0, 0, 0), (.iconst 0, 0, 0, 0, 0)] (15, [some (.ref 0), some (.int r), some (.int c)], [.int 0, .ref 1], (sy_up (sy_up σ.1 0 5 r) 0 6 c, σ.2)) [] (by decide +kernel) rfl trivial ?_
  refine sy_drop [some (.ref 0), none, none] ⟨rfl, trivial⟩ ?_
  refine sy_callS mJ7_fill_53178 [.ref 1, .int 0] [] kJ7_fill_53178 jX3_38 (by decide +kernel) rfl rfl (Nat.le_of_ble_eq_true rfl) (Nat.le_of_ble_eq_true rfl) (by decide) ?_
  exact k1

set_option maxRecDepth 20000 in
theorem w_g_shape_18 {Q : Option Value → sy_S → Prop} {σ : sy_S}    (k1 : sy_E shG mX3_link (0, sy_ent [.ref 0] 4, [], σ) (fun r9 σ9 => sy_E shG mX3_shape (22, [none, none, none], r9.toList ++ [], σ9) Q)) : sy_E shG mX3_shape (18, [some (.ref 0), none, none], [], σ) Q := by
  refine sy_bk [(.aload_n 0, 0, 0, 0, 0)] (19, [some (.ref 0), none, none], [.ref 0], σ) [] (by decide +kernel) rfl trivial ?_
  refine sy_drop [none, none, none] trivial ?_
  refine sy_callV mX3_link 0 [] [] kX3_link jX3_44 (by decide +kernel) rfl rfl (Nat.le_of_ble_eq_true rfl) (Nat.le_of_ble_eq_true rfl) (by decide) rfl ?_
  exact k1

set_option maxRecDepth 20000 in
theorem w_g_shape_22 {Q : Option Value → sy_S → Prop} {σ : sy_S}    (k1 : Q none σ) : sy_E shG mX3_shape (22, [none, none, none], [], σ) Q := by
  exact sy_retv rfl (by decide +kernel) (k1)

set_option maxRecDepth 20000 in
theorem w_g_fill_0 {Q : Option Value → sy_S → Prop} {σ : sy_S} {k : Nat} {n : Nat} {v : Int32} (hk : shG[k]? = some (0, n, []))  (k1 : sy_E shG mJ7_fill_53178 (5, [some (.ref k), some (.int v), some (.int 0), some (.int (sy_len shG k))], [], σ) Q) : sy_E shG mJ7_fill_53178 (0, sy_ent [.ref k, .int v] 4, [], σ) Q := by
  show sy_E shG mJ7_fill_53178 (0, [some (.ref k), some (.int v), none, none], [], σ) _
  refine sy_bk [(.iconst 0, 0, 0, 0, 0), (.istore_n 2, 0, 0, 0, 0), (.aload_n 0, 0, 0, 0, 0), (.arraylength, 0, 0, 0, 0), (.istore_n 3, 0, 0, 0, 0)] (5, [some (.ref k), some (.int v), some (.int 0), some (.int (sy_len shG k))], [], σ) [sy_okL shG k] (by decide +kernel) rfl ⟨⟨0, _, _, hk, by decide⟩, trivial⟩ ?_
  exact k1

set_option maxRecDepth 20000 in
theorem w_g_fill_5 {Q : Option Value → sy_S → Prop} {σ : sy_S} {k : Nat} {n : Nat} {v : Int32} {i : Int32} {len : Int32} (hk : shG[k]? = some (0, n, [])) (b1 : ¬ (len ≤ i) → vp_in i n) (k1 : len ≤ i → Q none σ) (k2 : ¬ (len ≤ i) → sy_E shG mJ7_fill_53178 (5, [some (.ref k), some (.int v), some (.int (i + 1)), some (.int len)], [], (sy_up σ.1 k i.toNatClampNeg v, σ.2)) Q) : sy_E shG mJ7_fill_53178 (5, [some (.ref k), some (.int v), some (.int i), some (.int len)], [], σ) Q := by
  refine sy_bk [(.iload_n 2, 0, 0, 0, 0), (.iload_n 3, 0, 0, 0, 0)] (7, [some (.ref k), some (.int v), some (.int i), some (.int len)], [.int len, .int i], σ) [] (by decide +kernel) rfl trivial ?_
  by_cases c1 : len ≤ i
  · refine sy_bk [(.if_icmp .ge 13, 1, 20, 0, 0)] (20, [some (.ref k), some (.int v), some (.int i), some (.int len)], [], σ) [sy_cc .ge i len] (by decide +kernel) rfl ⟨c1, trivial⟩ ?_
    exact sy_retv rfl (by decide +kernel) (k1 c1)
  · refine sy_bk [(.if_icmp .ge 13, 0, 20, 0, 0)] (10, [some (.ref k), some (.int v), some (.int i), some (.int len)], [], σ) [¬ sy_cc .ge i len] (by decide +kernel) rfl ⟨c1, trivial⟩ ?_
    refine sy_bk [(.aload_n 0, 0, 0, 0, 0), (.iload_n 2, 0, 0, 0, 0), (.iload_n 1, 0, 0, 0, 0), (.iastore, 0, 0, 0, 0), (.iinc 2 1, 0, 0, 1, 0), (.goto (-12), 0, 5, 0, 0)] (5, [some (.ref k), some (.int v), some (.int (i + 1)), some (.int len)], [], (sy_up σ.1 k i.toNatClampNeg v, σ.2)) [sy_okA shG 0 k i] (by decide +kernel) rfl ⟨⟨n, _, hk, (b1 c1)⟩, trivial⟩ ?_
    exact k2 c1

set_option maxRecDepth 20000 in
theorem w_x_build_0 {Q : Option Value → sy_S → Prop} {σ : sy_S} {cell : Int32} {is : Int32}  (b1 : is = 0 → vp_in cell 16) (b2 : ¬ (is = 0) → vp_in cell 16) (k1 : is = 0 → sy_E shX mX3_link (0, sy_ent [.ref 0] 4, [], (sy_up σ.1 1 cell.toNatClampNeg 0, σ.2)) (fun r9 σ9 => sy_E shX mX3_build (19, [none, none, none], r9.toList ++ [], σ9) Q)) (k2 : ¬ (is = 0) → sy_E shX mX3_link (0, sy_ent [.ref 0] 4, [], (sy_up σ.1 1 cell.toNatClampNeg 1, σ.2)) (fun r9 σ9 => sy_E shX mX3_build (19, [none, none, none], r9.toList ++ [], σ9) Q)) : sy_E shX mX3_build (0, sy_ent [.ref 0, .int cell, .int is] 3, [], σ) Q := by
  show sy_E shX mX3_build (0, [some (.ref 0), some (.int cell), some (.int is)], [], σ) _
  refine sy_bk [(.aload_n 0, 0, 0, 0, 0), (.getfield 9, 3, 0, 0, 0), (.iload_n 1, 0, 0, 0, 0), (.iload_n 2, 0, 0, 0, 0)] (6, [some (.ref 0), some (.int cell), some (.int is)], [.int is, .int cell, .ref 1], σ) [] (by decide +kernel) rfl trivial ?_
  by_cases c1 : is = 0
  · refine sy_bk [(.ifCond .eq 7, 1, 13, 0, 0)] (13, [some (.ref 0), some (.int cell), some (.int is)], [.int cell, .ref 1], σ) [sy_cc .eq is 0] (by decide +kernel) rfl ⟨c1, trivial⟩ ?_
    refine sy_bk [(.iconst 0, 0, 0, 0, 0), (.iastore, 0, 0, 0, 0), (.aload_n 0, 0, 0, 0, 0)] (16, [some (.ref 0), some (.int cell), some (.int is)], [.ref 0], (sy_up σ.1 1 cell.toNatClampNeg 0, σ.2)) [sy_okA shX 0 1 cell] (by decide +kernel) rfl ⟨⟨16, _, rfl, (b1 c1)⟩, trivial⟩ ?_
    refine sy_drop [none, none, none] trivial ?_
    refine sy_callV mX3_link 0 [] [] kX3_link jX3_44 (by decide +kernel) rfl rfl (Nat.le_of_ble_eq_true rfl) (Nat.le_of_ble_eq_true rfl) (by decide) rfl ?_
    exact k1 c1
  · refine sy_bk [(.ifCond .eq 7, 0, 13, 0, 0)] (9, [some (.ref 0), some (.int cell), some (.int is)], [.int cell, .ref 1], σ) [¬ sy_cc .eq is 0] (by decide +kernel) rfl ⟨c1, trivial⟩ ?_
    refine sy_bk [(.iconst 1, 0, 0, 1, 0), (.goto 4, 0, 14, 0, 0), (.iastore, 0, 0, 0, 0), (.aload_n 0, 0, 0, 0, 0)] (16, [some (.ref 0), some (.int cell), some (.int is)], [.ref 0], (sy_up σ.1 1 cell.toNatClampNeg 1, σ.2)) [sy_okA shX 0 1 cell] (by decide +kernel) rfl ⟨⟨16, _, rfl, (b2 c1)⟩, trivial⟩ ?_
    refine sy_drop [none, none, none] trivial ?_
    refine sy_callV mX3_link 0 [] [] kX3_link jX3_44 (by decide +kernel) rfl rfl (Nat.le_of_ble_eq_true rfl) (Nat.le_of_ble_eq_true rfl) (by decide) rfl ?_
    exact k2 c1

set_option maxRecDepth 20000 in
theorem w_x_build_19 {Q : Option Value → sy_S → Prop} {σ : sy_S}    (k1 : Q none σ) : sy_E shX mX3_build (19, [none, none, none], [], σ) Q := by
  exact sy_retv rfl (by decide +kernel) (k1)
end
section
/-! the grid as mathematics; contracts of the Grid's methods (by program: wip/whole/gen/p11.py) -/
theorem sy_up2 (f : Nat → Nat → Int32) (k i : Nat) (x : Int32) (a b : Nat) : sy_up f k i x a b = if a = k ∧ b = i then x else f a b := by
  unfold sy_up
  by_cases h : a = k
  · subst h
    by_cases h2 : b = i
    · subst h2; simp [upd]
    · simp [upd, h2]
  · simp [h]
theorem nI_lit4 : (4 : Int32) = nI 4 := rfl
theorem nI_lit1 : (1 : Int32) = nI 1 := rfl
theorem nI_lit0 : (0 : Int32) = nI 0 := rfl
abbrev sg_G : Type := Nat × Nat × (Nat → Bool)
def sg_n (G : sg_G) : Nat := G.1 * G.2.1
def sg_ok (G : sg_G) : Prop := 1 ≤ G.1 ∧ G.1 ≤ 4 ∧ 1 ≤ G.2.1 ∧ G.2.1 ≤ 4
def sg_p (G : sg_G) (k : Nat) : Prop := k < sg_n G ∧ G.2.2 k = false
def sg_if (G : sg_G) (b : Bool) (o : Nat) : List Nat := if b && !G.2.2 o then [o] else []
/-- those next to a cell: above, left, right, below, as far as they are places -/
def sg_nb (G : sg_G) (k : Nat) : List Nat := ((sg_if G (decide (0 < k / G.2.1)) (k - G.2.1) ++ sg_if G (decide (0 < k % G.2.1)) (k - 1)) ++ sg_if G (decide (k % G.2.1 + 1 < G.2.1)) (k + 1)) ++ sg_if G (decide (k / G.2.1 + 1 < G.1)) (k + G.2.1)
/-- the places among the cells below m -/
def sg_pm (G : sg_G) (m : Nat) : List Nat := (List.range m).filter fun k => !G.2.2 k
theorem sg_if_len (G : sg_G) (b : Bool) (o : Nat) : (sg_if G b o).length ≤ 1 := by
  unfold sg_if
  split <;> simp
theorem sg_if_f (G : sg_G) (o : Nat) : sg_if G false o = [] := by simp [sg_if]
theorem sg_n16 {G : sg_G} (h : sg_ok G) : sg_n G ≤ 16 := Nat.le_trans (Nat.mul_le_mul h.2.1 h.2.2.2) (by decide)
theorem sg_pm_len (G : sg_G) (m : Nat) : (sg_pm G m).length ≤ m := by
  unfold sg_pm
  exact Nat.le_trans (List.length_filter_le _ _) (by simp)
theorem sg_pm_s (G : sg_G) (m : Nat) : sg_pm G (m + 1) = sg_pm G m ++ if G.2.2 m then [] else [m] := by
  unfold sg_pm
  rw [List.range_succ, List.filter_append]
  cases h : G.2.2 m <;> simp [h]
theorem sg_nb_len (G : sg_G) (k : Nat) : (sg_nb G k).length ≤ 4 := by
  unfold sg_nb
  have h1 := sg_if_len G (decide (0 < k / G.2.1)) (k - G.2.1)
  have h2 := sg_if_len G (decide (0 < k % G.2.1)) (k - 1)
  have h3 := sg_if_len G (decide (k % G.2.1 + 1 < G.2.1)) (k + 1)
  have h4 := sg_if_len G (decide (k / G.2.1 + 1 < G.1)) (k + G.2.1)
  simp only [List.length_append]
  omega
/-! the class's grid in the store: rows, columns, walls; the tables up to the cell m -/
def gx_w (G : sg_G) (f : Nat → Nat → Int32) : Prop := f 0 5 = nI G.1 ∧ f 0 6 = nI G.2.1 ∧ ∀ k, k < sg_n G → f 1 k = if G.2.2 k then 1 else 0
def gx_k (G : sg_G) (f : Nat → Nat → Int32) (m : Nat) : Prop := f 0 7 = nI (sg_pm G m).length ∧ (∀ j k, (sg_pm G m)[j]? = some k → f 2 j = nI k) ∧ (∀ k, k < m → f 3 k = nI (sg_pm G k).length) ∧ (∀ k, k < m → f 5 k = nI (sg_nb G k).length) ∧ ∀ k, k < m → ∀ j o, (sg_nb G k)[j]? = some o → f 4 (4 * k + j) = nI o
def gx (G : sg_G) (f : Nat → Nat → Int32) : Prop := sg_ok G ∧ gx_w G f ∧ gx_k G f (sg_n G)
theorem gx.frame {G : sg_G} {f f' : Nat → Nat → Int32} (h : gx G f) (e : ∀ q, q < 6 → f' q = f q) : gx G f' := by
  obtain ⟨h1, h2, h3⟩ := h
  refine ⟨h1, ?_, ?_⟩
  · unfold gx_w at *
    rw [e 0 (by decide), e 1 (by decide)]
    exact h2
  · unfold gx_k at *
    rw [e 0 (by decide), e 2 (by decide), e 3 (by decide), e 4 (by decide), e 5 (by decide)]
    exact h3
/-- while the neighbours of the cell m are laid: l are laid already -/
def gx_lc (f0 f : Nat → Nat → Int32) (m : Nat) (l : List Nat) : Prop := (∀ q, q ≠ 4 → q ≠ 5 → f q = f0 q) ∧ (∀ k, k ≠ m → f 5 k = f0 5 k) ∧ (∀ i, (i < 4 * m ∨ 4 * m + 4 ≤ i) → f 4 i = f0 4 i) ∧ f 5 m = nI l.length ∧ ∀ j o, l[j]? = some o → f 4 (4 * m + j) = nI o

theorem e_x_fill {Q : Option Value → sy_S → Prop} {σ : sy_S} {k n : Nat} {v : Int32} (hk : shX[k]? = some (0, n, [])) (hn : n < 2 ^ 31) (kk : ∀ σ' : sy_S, (∀ q, q ≠ k → σ'.1 q = σ.1 q) → (∀ j, j < n → σ'.1 k j = v) → (∀ j, n ≤ j → σ'.1 k j = σ.1 k j) → σ'.2 = σ.2 → Q none σ') : sy_E shX mJ7_fill_53178 (0, sy_ent [.ref k, .int v] 4, [], σ) Q := by
  have el : sy_len shX k = nI n := by unfold sy_len; rw [hk]; rfl
  refine w_x_fill_0 hk ?_
  rw [el]
  have hloop := sy_loop (sh := shX) (y := mJ7_fill_53178) (Q := Q) (fun i σ' => (5, [some (.ref k), some (.int v), some (.int (nI i)), some (.int (nI n))], [], σ')) (fun i σ' => (∀ q, q ≠ k → σ'.1 q = σ.1 q) ∧ (∀ j, j < i → σ'.1 k j = v) ∧ (∀ j, i ≤ j → σ'.1 k j = σ.1 k j) ∧ σ'.2 = σ.2) n ?_ ?_ 0 σ (Nat.zero_le _) ⟨fun _ _ => rfl, fun j h => absurd h (Nat.not_lt_zero _), fun _ _ => rfl, rfl⟩
  · exact hloop
  · intro i σ' hi hI ih
    obtain ⟨h1, h2, h3, h4⟩ := hI
    refine w_x_fill_5 hk (fun _ => vp_in_nI hi hn) (fun c => absurd c (nI_ge hi hn)) (fun _ => ?_)
    have e1 : (nI i).toNatClampNeg = i := nI_clamp (by omega)
    rw [nI_1, e1]
    refine ih _ ⟨fun q hq => ?_, fun j hj => ?_, fun j hj => ?_, h4⟩
    · show sy_up σ'.1 k i v q = σ.1 q
      rw [sy_up_ne _ _ _ hq]
      exact h1 q hq
    · show sy_up σ'.1 k i v k j = v
      rw [sy_up2]
      split
      · rfl
      · rename_i h
        exact h2 j (by rcases Nat.lt_or_ge j i with q | q; exact q; exact absurd ⟨rfl, by omega⟩ h)
    · show sy_up σ'.1 k i v k j = σ.1 k j
      rw [sy_up2, if_neg (by omega)]
      exact h3 j (by omega)
  · intro σ' hI
    obtain ⟨h1, h2, h3, h4⟩ := hI
    refine w_x_fill_5 hk (fun c => absurd (nI_le (Nat.le_refl n) hn) c) (fun _ => kk σ' h1 h2 h3 h4) (fun c => absurd (nI_le (Nat.le_refl n) hn) c)
theorem e_x_join {Q : Option Value → sy_S → Prop} {σ : sy_S} {G : sg_G} {f0 : Nat → Nat → Int32} {m o : Nat} {l : List Nat} (hm : m < 16) (ho : o < 16) (hl : l.length < 4) (hlc : gx_lc f0 σ.1 m l) (hw : f0 1 o = if G.2.2 o then 1 else 0) (k : ∀ σ' : sy_S, gx_lc f0 σ'.1 m (l ++ sg_if G true o) → σ'.2 = σ.2 → Q none σ') : sy_E shX mX3_join (0, sy_ent [.ref 0, .int (nI m), .int (nI o)] 3, [], σ) Q := by
  have em : (nI m).toNatClampNeg = m := nI_clamp (by omega)
  have eo : (nI o).toNatClampNeg = o := nI_clamp (by omega)
  obtain ⟨h1, h2, h3, h4, h5⟩ := hlc
  have e1 : σ.1 1 = f0 1 := h1 1 (by decide) (by decide)
  have ei : nI m * 4 + σ.1 5 m = nI (4 * m + l.length) := by rw [h4, nI_lit4, pk_mul, nI_add, Nat.mul_comm]
  refine w_x_join (vp_in_nI ho (by decide)) (fun _ => vp_in_nI hm (by decide)) (fun _ => ?_) (fun c => ?_) (fun c => ?_)
  · rw [em, ei]; exact vp_in_nI (by omega) (by decide)
  · rw [eo, e1, hw] at c
    have hwo : G.2.2 o = true := by cases h : G.2.2 o <;> simp_all
    refine k σ ?_ rfl
    rw [show sg_if G true o = [] by simp [sg_if, hwo], List.append_nil]
    exact ⟨h1, h2, h3, h4, h5⟩
  · rw [eo, e1, hw] at c
    have hwo : G.2.2 o = false := by cases h : G.2.2 o <;> simp_all
    refine k _ ?_ rfl
    rw [em, ei, nI_clamp (show 4 * m + l.length < 2 ^ 31 by omega), show sg_if G true o = [o] by simp [sg_if, hwo]]
    refine ⟨fun q h4q h5q => ?_, fun j hj => ?_, fun i hi => ?_, ?_, fun j o' hj => ?_⟩
    · show sy_up (sy_up σ.1 4 (4 * m + l.length) (nI o)) 5 m (σ.1 5 m + 1) q = f0 q
      rw [sy_up_ne _ _ _ h5q, sy_up_ne _ _ _ h4q]
      exact h1 q h4q h5q
    · show sy_up (sy_up σ.1 4 (4 * m + l.length) (nI o)) 5 m (σ.1 5 m + 1) 5 j = f0 5 j
      rw [sy_up2, if_neg (by omega), sy_up2, if_neg (by omega)]
      exact h2 j hj
    · show sy_up (sy_up σ.1 4 (4 * m + l.length) (nI o)) 5 m (σ.1 5 m + 1) 4 i = f0 4 i
      rw [sy_up2, if_neg (by omega), sy_up2, if_neg (by omega)]
      exact h3 i hi
    · show sy_up (sy_up σ.1 4 (4 * m + l.length) (nI o)) 5 m (σ.1 5 m + 1) 5 m = nI (l ++ [o]).length
      rw [sy_up2, if_pos ⟨rfl, rfl⟩, h4, nI_1, List.length_append, List.length_singleton]
    · show sy_up (sy_up σ.1 4 (4 * m + l.length) (nI o)) 5 m (σ.1 5 m + 1) 4 (4 * m + j) = nI o'
      rw [sy_up2, if_neg (by omega), sy_up2]
      rw [List.getElem?_append] at hj
      split at hj
      · rename_i hlt
        rw [if_neg (by omega)]
        exact h5 j o' hj
      · rename_i hge
        have hz : j - l.length = 0 := by
          rcases Nat.eq_zero_or_pos (j - l.length) with q | q
          · exact q
          · rw [List.getElem?_eq_none (by simp only [List.length_singleton]; omega)] at hj; cases hj
        rw [hz] at hj
        cases hj
        rw [if_pos ⟨rfl, by omega⟩]
theorem e_x_linkCell {Q : Option Value → sy_S → Prop} {σ : sy_S} {G : sg_G} {m : Nat} (hG : sg_ok G) (hw : gx_w G σ.1) (hm : m < sg_n G) (k : ∀ σ' : sy_S, gx_lc σ.1 σ'.1 m (sg_nb G m) → σ'.2 = σ.2 → Q none σ') : sy_E shX mX3_linkCell (0, sy_ent [.ref 0, .int (nI m), .int (nI (m / G.2.1)), .int (nI (m % G.2.1))] 4, [], σ) Q := by
  have h16 : m < 16 := Nat.lt_of_lt_of_le hm (sg_n16 hG)
  obtain ⟨hr1, hr4, hc1, hc4⟩ := hG
  obtain ⟨w1, w2, w3⟩ := hw
  have hdm : G.2.1 * (m / G.2.1) + m % G.2.1 = m := Nat.div_add_mod m G.2.1
  have hml : m % G.2.1 < G.2.1 := Nat.mod_lt _ (by omega)
  have hdl : m / G.2.1 < G.1 := Nat.div_lt_of_lt_mul (by unfold sg_n at hm; rw [Nat.mul_comm]; exact hm)
  have hd4 : m / G.2.1 < 4 := by omega
  have em : (nI m).toNatClampNeg = m := nI_clamp (by omega)
  have hn : sg_n G = G.2.1 * G.1 := Nat.mul_comm _ _
  have hup : G.2.1 * (m / G.2.1 + 1) ≤ G.2.1 * G.1 := Nat.mul_le_mul_left _ hdl
  rw [Nat.mul_add] at hup
  -- the pieces
  obtain ⟨la, hla⟩ : ∃ l, l = sg_if G (decide (0 < m / G.2.1)) (m - G.2.1) := ⟨_, rfl⟩
  obtain ⟨lb, hlb⟩ : ∃ l, l = sg_if G (decide (0 < m % G.2.1)) (m - 1) := ⟨_, rfl⟩
  obtain ⟨lc, hlc⟩ : ∃ l, l = sg_if G (decide (m % G.2.1 + 1 < G.2.1)) (m + 1) := ⟨_, rfl⟩
  obtain ⟨ld, hld⟩ : ∃ l, l = sg_if G (decide (m / G.2.1 + 1 < G.1)) (m + G.2.1) := ⟨_, rfl⟩
  have hnb : sg_nb G m = ((la ++ lb) ++ lc) ++ ld := by rw [hla, hlb, hlc, hld]; rfl
  have na : la.length ≤ 1 := by rw [hla]; exact sg_if_len _ _ _
  have nb : lb.length ≤ 1 := by rw [hlb]; exact sg_if_len _ _ _
  have nc : lc.length ≤ 1 := by rw [hlc]; exact sg_if_len _ _ _
  have cols : ∀ (f : Nat → Nat → Int32) (l : List Nat), gx_lc σ.1 f m l → f 0 6 = nI G.2.1 := fun f l h => by rw [h.1 0 (by decide) (by decide)]; exact w2
  have rws : ∀ (f : Nat → Nat → Int32) (l : List Nat), gx_lc σ.1 f m l → f 0 5 = nI G.1 := fun f l h => by rw [h.1 0 (by decide) (by decide)]; exact w1
  have s73 : ∀ σ' : sy_S, gx_lc σ.1 σ'.1 m (((la ++ lb) ++ lc) ++ ld) → σ'.2 = σ.2 → sy_E shX mX3_linkCell (73, [none, none, none, none], [], σ') Q := fun σ' h h' => w_x_linkCell_73 (k σ' (by rw [hnb]; exact h) h')
  have s52 : ∀ σ' : sy_S, gx_lc σ.1 σ'.1 m ((la ++ lb) ++ lc) → σ'.2 = σ.2 → sy_E shX mX3_linkCell (52, [some (.ref 0), some (.int (nI m)), some (.int (nI (m / G.2.1))), none], [], σ') Q := by
    intro σ' h h'
    have ec := cols _ _ h
    have er := rws _ _ h
    refine w_x_linkCell_52 (fun c => ?_) (fun c => ?_)
    · rw [er, nI_1, nI_leI (by omega) (by omega)] at c
      have e : ld = [] := by rw [hld, show decide (m / G.2.1 + 1 < G.1) = false from decide_eq_false (by omega)]; exact sg_if_f _ _
      exact k σ' (by rw [hnb, e, List.append_nil]; exact h) h'
    · rw [er, nI_1, nI_leI (by omega) (by omega)] at c
      rw [ec, nI_add]
      have e : ld = sg_if G true (m + G.2.1) := by rw [hld, show decide (m / G.2.1 + 1 < G.1) = true from decide_eq_true (by omega)]
      have hup2 : G.2.1 * (m / G.2.1 + 2) ≤ G.2.1 * G.1 := Nat.mul_le_mul_left _ (by omega)
      rw [Nat.mul_add] at hup2
      have hlt : m + G.2.1 < sg_n G := by rw [hn]; omega
      refine e_x_join h16 (Nat.lt_of_lt_of_le hlt (Nat.le_trans (Nat.mul_le_mul hr4 hc4) (by decide))) (by simp only [List.length_append]; omega) h (w3 _ hlt) (fun σ2 q q' => ?_)
      exact s73 σ2 (by rw [e]; exact q) (q'.trans h')
  have s34 : ∀ σ' : sy_S, gx_lc σ.1 σ'.1 m (la ++ lb) → σ'.2 = σ.2 → sy_E shX mX3_linkCell (34, [some (.ref 0), some (.int (nI m)), some (.int (nI (m / G.2.1))), some (.int (nI (m % G.2.1)))], [], σ') Q := by
    intro σ' h h'
    have ec := cols _ _ h
    refine w_x_linkCell_34 (fun c => ?_) (fun c => ?_)
    · rw [ec, nI_1, nI_leI (by omega) (by omega)] at c
      have e : lc = [] := by rw [hlc, show decide (m % G.2.1 + 1 < G.2.1) = false from decide_eq_false (by omega)]; exact sg_if_f _ _
      exact s52 σ' (by rw [e, List.append_nil]; exact h) h'
    · rw [ec, nI_1, nI_leI (by omega) (by omega)] at c
      rw [nI_1]
      have e : lc = sg_if G true (m + 1) := by rw [hlc, show decide (m % G.2.1 + 1 < G.2.1) = true from decide_eq_true (by omega)]
      have hlt : m + 1 < sg_n G := by rw [hn]; omega
      refine e_x_join h16 (Nat.lt_of_lt_of_le hlt (Nat.le_trans (Nat.mul_le_mul hr4 hc4) (by decide))) (by simp only [List.length_append]; omega) h (w3 _ hlt) (fun σ2 q q' => ?_)
      exact s52 σ2 (by rw [e]; exact q) (q'.trans h')
  have s22 : ∀ σ' : sy_S, gx_lc σ.1 σ'.1 m la → σ'.2 = σ.2 → sy_E shX mX3_linkCell (22, [some (.ref 0), some (.int (nI m)), some (.int (nI (m / G.2.1))), some (.int (nI (m % G.2.1)))], [], σ') Q := by
    intro σ' h h'
    refine w_x_linkCell_22 (fun c => ?_) (fun c => ?_)
    · rw [nI_lit0, nI_leI (by omega) (by omega)] at c
      have e : lb = [] := by rw [hlb, show decide (0 < m % G.2.1) = false from decide_eq_false (by omega)]; exact sg_if_f _ _
      exact s34 σ' (by rw [e, List.append_nil]; exact h) h'
    · rw [nI_lit0, nI_leI (by omega) (by omega)] at c
      rw [nI_lit1, pk_sub (by omega)]
      have e : lb = sg_if G true (m - 1) := by rw [hlb, show decide (0 < m % G.2.1) = true from decide_eq_true (by omega)]
      refine e_x_join h16 (by omega) (by omega) h (w3 _ (by omega)) (fun σ2 q q' => ?_)
      exact s34 σ2 (by rw [e]; exact q) (q'.trans h')
  have h0 : gx_lc σ.1 (sy_up σ.1 5 m 0) m [] := by
    refine ⟨fun q h4q h5q => sy_up_ne _ _ _ h5q, fun j hj => ?_, fun i hi => ?_, ?_, fun j o hj => by simp at hj⟩
    · rw [sy_up2, if_neg (by omega)]
    · rw [sy_up2, if_neg (by omega)]
    · rw [sy_up2, if_pos ⟨rfl, rfl⟩]; rfl
  refine w_x_linkCell_0 (vp_in_nI h16 (by decide)) (fun c => ?_) (fun c => ?_)
  · rw [nI_lit0, nI_leI (by omega) (by omega)] at c
    rw [em]
    have e : la = [] := by rw [hla, show decide (0 < m / G.2.1) = false from decide_eq_false (by omega)]; exact sg_if_f _ _
    exact s22 (sy_up σ.1 5 m 0, σ.2) (by rw [e]; exact h0) rfl
  · rw [nI_lit0, nI_leI (by omega) (by omega)] at c
    have hge : G.2.1 * 1 ≤ G.2.1 * (m / G.2.1) := Nat.mul_le_mul_left _ (by omega)
    rw [w2, pk_sub (by omega), em]
    have e : la = sg_if G true (m - G.2.1) := by rw [hla, show decide (0 < m / G.2.1) = true from decide_eq_true (by omega)]
    refine e_x_join (σ := (sy_up σ.1 5 m 0, σ.2)) (l := []) h16 (by omega) (by simp) h0 (w3 _ (by omega)) (fun σ2 q q' => ?_)
    exact s22 σ2 (by rw [e]; exact q) q'

theorem e_g_fill {Q : Option Value → sy_S → Prop} {σ : sy_S} {k n : Nat} {v : Int32} (hk : shG[k]? = some (0, n, [])) (hn : n < 2 ^ 31) (kk : ∀ σ' : sy_S, (∀ q, q ≠ k → σ'.1 q = σ.1 q) → (∀ j, j < n → σ'.1 k j = v) → (∀ j, n ≤ j → σ'.1 k j = σ.1 k j) → σ'.2 = σ.2 → Q none σ') : sy_E shG mJ7_fill_53178 (0, sy_ent [.ref k, .int v] 4, [], σ) Q := by
  have el : sy_len shG k = nI n := by unfold sy_len; rw [hk]; rfl
  refine w_g_fill_0 hk ?_
  rw [el]
  have hloop := sy_loop (sh := shG) (y := mJ7_fill_53178) (Q := Q) (fun i σ' => (5, [some (.ref k), some (.int v), some (.int (nI i)), some (.int (nI n))], [], σ')) (fun i σ' => (∀ q, q ≠ k → σ'.1 q = σ.1 q) ∧ (∀ j, j < i → σ'.1 k j = v) ∧ (∀ j, i ≤ j → σ'.1 k j = σ.1 k j) ∧ σ'.2 = σ.2) n ?_ ?_ 0 σ (Nat.zero_le _) ⟨fun _ _ => rfl, fun j h => absurd h (Nat.not_lt_zero _), fun _ _ => rfl, rfl⟩
  · exact hloop
  · intro i σ' hi hI ih
    obtain ⟨h1, h2, h3, h4⟩ := hI
    refine w_g_fill_5 hk (fun _ => vp_in_nI hi hn) (fun c => absurd c (nI_ge hi hn)) (fun _ => ?_)
    have e1 : (nI i).toNatClampNeg = i := nI_clamp (by omega)
    rw [nI_1, e1]
    refine ih _ ⟨fun q hq => ?_, fun j hj => ?_, fun j hj => ?_, h4⟩
    · show sy_up σ'.1 k i v q = σ.1 q
      rw [sy_up_ne _ _ _ hq]
      exact h1 q hq
    · show sy_up σ'.1 k i v k j = v
      rw [sy_up2]
      split
      · rfl
      · rename_i h
        exact h2 j (by rcases Nat.lt_or_ge j i with q | q; exact q; exact absurd ⟨rfl, by omega⟩ h)
    · show sy_up σ'.1 k i v k j = σ.1 k j
      rw [sy_up2, if_neg (by omega)]
      exact h3 j (by omega)
  · intro σ' hI
    obtain ⟨h1, h2, h3, h4⟩ := hI
    refine w_g_fill_5 hk (fun c => absurd (nI_le (Nat.le_refl n) hn) c) (fun _ => kk σ' h1 h2 h3 h4) (fun c => absurd (nI_le (Nat.le_refl n) hn) c)
theorem e_g_join {Q : Option Value → sy_S → Prop} {σ : sy_S} {G : sg_G} {f0 : Nat → Nat → Int32} {m o : Nat} {l : List Nat} (hm : m < 16) (ho : o < 16) (hl : l.length < 4) (hlc : gx_lc f0 σ.1 m l) (hw : f0 1 o = if G.2.2 o then 1 else 0) (k : ∀ σ' : sy_S, gx_lc f0 σ'.1 m (l ++ sg_if G true o) → σ'.2 = σ.2 → Q none σ') : sy_E shG mX3_join (0, sy_ent [.ref 0, .int (nI m), .int (nI o)] 3, [], σ) Q := by
  have em : (nI m).toNatClampNeg = m := nI_clamp (by omega)
  have eo : (nI o).toNatClampNeg = o := nI_clamp (by omega)
  obtain ⟨h1, h2, h3, h4, h5⟩ := hlc
  have e1 : σ.1 1 = f0 1 := h1 1 (by decide) (by decide)
  have ei : nI m * 4 + σ.1 5 m = nI (4 * m + l.length) := by rw [h4, nI_lit4, pk_mul, nI_add, Nat.mul_comm]
  refine w_g_join (vp_in_nI ho (by decide)) (fun _ => vp_in_nI hm (by decide)) (fun _ => ?_) (fun c => ?_) (fun c => ?_)
  · rw [em, ei]; exact vp_in_nI (by omega) (by decide)
  · rw [eo, e1, hw] at c
    have hwo : G.2.2 o = true := by cases h : G.2.2 o <;> simp_all
    refine k σ ?_ rfl
    rw [show sg_if G true o = [] by simp [sg_if, hwo], List.append_nil]
    exact ⟨h1, h2, h3, h4, h5⟩
  · rw [eo, e1, hw] at c
    have hwo : G.2.2 o = false := by cases h : G.2.2 o <;> simp_all
    refine k _ ?_ rfl
    rw [em, ei, nI_clamp (show 4 * m + l.length < 2 ^ 31 by omega), show sg_if G true o = [o] by simp [sg_if, hwo]]
    refine ⟨fun q h4q h5q => ?_, fun j hj => ?_, fun i hi => ?_, ?_, fun j o' hj => ?_⟩
    · show sy_up (sy_up σ.1 4 (4 * m + l.length) (nI o)) 5 m (σ.1 5 m + 1) q = f0 q
      rw [sy_up_ne _ _ _ h5q, sy_up_ne _ _ _ h4q]
      exact h1 q h4q h5q
    · show sy_up (sy_up σ.1 4 (4 * m + l.length) (nI o)) 5 m (σ.1 5 m + 1) 5 j = f0 5 j
      rw [sy_up2, if_neg (by omega), sy_up2, if_neg (by omega)]
      exact h2 j hj
    · show sy_up (sy_up σ.1 4 (4 * m + l.length) (nI o)) 5 m (σ.1 5 m + 1) 4 i = f0 4 i
      rw [sy_up2, if_neg (by omega), sy_up2, if_neg (by omega)]
      exact h3 i hi
    · show sy_up (sy_up σ.1 4 (4 * m + l.length) (nI o)) 5 m (σ.1 5 m + 1) 5 m = nI (l ++ [o]).length
      rw [sy_up2, if_pos ⟨rfl, rfl⟩, h4, nI_1, List.length_append, List.length_singleton]
    · show sy_up (sy_up σ.1 4 (4 * m + l.length) (nI o)) 5 m (σ.1 5 m + 1) 4 (4 * m + j) = nI o'
      rw [sy_up2, if_neg (by omega), sy_up2]
      rw [List.getElem?_append] at hj
      split at hj
      · rename_i hlt
        rw [if_neg (by omega)]
        exact h5 j o' hj
      · rename_i hge
        have hz : j - l.length = 0 := by
          rcases Nat.eq_zero_or_pos (j - l.length) with q | q
          · exact q
          · rw [List.getElem?_eq_none (by simp only [List.length_singleton]; omega)] at hj; cases hj
        rw [hz] at hj
        cases hj
        rw [if_pos ⟨rfl, by omega⟩]
theorem e_g_linkCell {Q : Option Value → sy_S → Prop} {σ : sy_S} {G : sg_G} {m : Nat} (hG : sg_ok G) (hw : gx_w G σ.1) (hm : m < sg_n G) (k : ∀ σ' : sy_S, gx_lc σ.1 σ'.1 m (sg_nb G m) → σ'.2 = σ.2 → Q none σ') : sy_E shG mX3_linkCell (0, sy_ent [.ref 0, .int (nI m), .int (nI (m / G.2.1)), .int (nI (m % G.2.1))] 4, [], σ) Q := by
  have h16 : m < 16 := Nat.lt_of_lt_of_le hm (sg_n16 hG)
  obtain ⟨hr1, hr4, hc1, hc4⟩ := hG
  obtain ⟨w1, w2, w3⟩ := hw
  have hdm : G.2.1 * (m / G.2.1) + m % G.2.1 = m := Nat.div_add_mod m G.2.1
  have hml : m % G.2.1 < G.2.1 := Nat.mod_lt _ (by omega)
  have hdl : m / G.2.1 < G.1 := Nat.div_lt_of_lt_mul (by unfold sg_n at hm; rw [Nat.mul_comm]; exact hm)
  have hd4 : m / G.2.1 < 4 := by omega
  have em : (nI m).toNatClampNeg = m := nI_clamp (by omega)
  have hn : sg_n G = G.2.1 * G.1 := Nat.mul_comm _ _
  have hup : G.2.1 * (m / G.2.1 + 1) ≤ G.2.1 * G.1 := Nat.mul_le_mul_left _ hdl
  rw [Nat.mul_add] at hup
  -- the pieces
  obtain ⟨la, hla⟩ : ∃ l, l = sg_if G (decide (0 < m / G.2.1)) (m - G.2.1) := ⟨_, rfl⟩
  obtain ⟨lb, hlb⟩ : ∃ l, l = sg_if G (decide (0 < m % G.2.1)) (m - 1) := ⟨_, rfl⟩
  obtain ⟨lc, hlc⟩ : ∃ l, l = sg_if G (decide (m % G.2.1 + 1 < G.2.1)) (m + 1) := ⟨_, rfl⟩
  obtain ⟨ld, hld⟩ : ∃ l, l = sg_if G (decide (m / G.2.1 + 1 < G.1)) (m + G.2.1) := ⟨_, rfl⟩
  have hnb : sg_nb G m = ((la ++ lb) ++ lc) ++ ld := by rw [hla, hlb, hlc, hld]; rfl
  have na : la.length ≤ 1 := by rw [hla]; exact sg_if_len _ _ _
  have nb : lb.length ≤ 1 := by rw [hlb]; exact sg_if_len _ _ _
  have nc : lc.length ≤ 1 := by rw [hlc]; exact sg_if_len _ _ _
  have cols : ∀ (f : Nat → Nat → Int32) (l : List Nat), gx_lc σ.1 f m l → f 0 6 = nI G.2.1 := fun f l h => by rw [h.1 0 (by decide) (by decide)]; exact w2
  have rws : ∀ (f : Nat → Nat → Int32) (l : List Nat), gx_lc σ.1 f m l → f 0 5 = nI G.1 := fun f l h => by rw [h.1 0 (by decide) (by decide)]; exact w1
  have s73 : ∀ σ' : sy_S, gx_lc σ.1 σ'.1 m (((la ++ lb) ++ lc) ++ ld) → σ'.2 = σ.2 → sy_E shG mX3_linkCell (73, [none, none, none, none], [], σ') Q := fun σ' h h' => w_g_linkCell_73 (k σ' (by rw [hnb]; exact h) h')
  have s52 : ∀ σ' : sy_S, gx_lc σ.1 σ'.1 m ((la ++ lb) ++ lc) → σ'.2 = σ.2 → sy_E shG mX3_linkCell (52, [some (.ref 0), some (.int (nI m)), some (.int (nI (m / G.2.1))), none], [], σ') Q := by
    intro σ' h h'
    have ec := cols _ _ h
    have er := rws _ _ h
    refine w_g_linkCell_52 (fun c => ?_) (fun c => ?_)
    · rw [er, nI_1, nI_leI (by omega) (by omega)] at c
      have e : ld = [] := by rw [hld, show decide (m / G.2.1 + 1 < G.1) = false from decide_eq_false (by omega)]; exact sg_if_f _ _
      exact k σ' (by rw [hnb, e, List.append_nil]; exact h) h'
    · rw [er, nI_1, nI_leI (by omega) (by omega)] at c
      rw [ec, nI_add]
      have e : ld = sg_if G true (m + G.2.1) := by rw [hld, show decide (m / G.2.1 + 1 < G.1) = true from decide_eq_true (by omega)]
      have hup2 : G.2.1 * (m / G.2.1 + 2) ≤ G.2.1 * G.1 := Nat.mul_le_mul_left _ (by omega)
      rw [Nat.mul_add] at hup2
      have hlt : m + G.2.1 < sg_n G := by rw [hn]; omega
      refine e_g_join h16 (Nat.lt_of_lt_of_le hlt (Nat.le_trans (Nat.mul_le_mul hr4 hc4) (by decide))) (by simp only [List.length_append]; omega) h (w3 _ hlt) (fun σ2 q q' => ?_)
      exact s73 σ2 (by rw [e]; exact q) (q'.trans h')
  have s34 : ∀ σ' : sy_S, gx_lc σ.1 σ'.1 m (la ++ lb) → σ'.2 = σ.2 → sy_E shG mX3_linkCell (34, [some (.ref 0), some (.int (nI m)), some (.int (nI (m / G.2.1))), some (.int (nI (m % G.2.1)))], [], σ') Q := by
    intro σ' h h'
    have ec := cols _ _ h
    refine w_g_linkCell_34 (fun c => ?_) (fun c => ?_)
    · rw [ec, nI_1, nI_leI (by omega) (by omega)] at c
      have e : lc = [] := by rw [hlc, show decide (m % G.2.1 + 1 < G.2.1) = false from decide_eq_false (by omega)]; exact sg_if_f _ _
      exact s52 σ' (by rw [e, List.append_nil]; exact h) h'
    · rw [ec, nI_1, nI_leI (by omega) (by omega)] at c
      rw [nI_1]
      have e : lc = sg_if G true (m + 1) := by rw [hlc, show decide (m % G.2.1 + 1 < G.2.1) = true from decide_eq_true (by omega)]
      have hlt : m + 1 < sg_n G := by rw [hn]; omega
      refine e_g_join h16 (Nat.lt_of_lt_of_le hlt (Nat.le_trans (Nat.mul_le_mul hr4 hc4) (by decide))) (by simp only [List.length_append]; omega) h (w3 _ hlt) (fun σ2 q q' => ?_)
      exact s52 σ2 (by rw [e]; exact q) (q'.trans h')
  have s22 : ∀ σ' : sy_S, gx_lc σ.1 σ'.1 m la → σ'.2 = σ.2 → sy_E shG mX3_linkCell (22, [some (.ref 0), some (.int (nI m)), some (.int (nI (m / G.2.1))), some (.int (nI (m % G.2.1)))], [], σ') Q := by
    intro σ' h h'
    refine w_g_linkCell_22 (fun c => ?_) (fun c => ?_)
    · rw [nI_lit0, nI_leI (by omega) (by omega)] at c
      have e : lb = [] := by rw [hlb, show decide (0 < m % G.2.1) = false from decide_eq_false (by omega)]; exact sg_if_f _ _
      exact s34 σ' (by rw [e, List.append_nil]; exact h) h'
    · rw [nI_lit0, nI_leI (by omega) (by omega)] at c
      rw [nI_lit1, pk_sub (by omega)]
      have e : lb = sg_if G true (m - 1) := by rw [hlb, show decide (0 < m % G.2.1) = true from decide_eq_true (by omega)]
      refine e_g_join h16 (by omega) (by omega) h (w3 _ (by omega)) (fun σ2 q q' => ?_)
      exact s34 σ2 (by rw [e]; exact q) (q'.trans h')
  have h0 : gx_lc σ.1 (sy_up σ.1 5 m 0) m [] := by
    refine ⟨fun q h4q h5q => sy_up_ne _ _ _ h5q, fun j hj => ?_, fun i hi => ?_, ?_, fun j o hj => by simp at hj⟩
    · rw [sy_up2, if_neg (by omega)]
    · rw [sy_up2, if_neg (by omega)]
    · rw [sy_up2, if_pos ⟨rfl, rfl⟩]; rfl
  refine w_g_linkCell_0 (vp_in_nI h16 (by decide)) (fun c => ?_) (fun c => ?_)
  · rw [nI_lit0, nI_leI (by omega) (by omega)] at c
    rw [em]
    have e : la = [] := by rw [hla, show decide (0 < m / G.2.1) = false from decide_eq_false (by omega)]; exact sg_if_f _ _
    exact s22 (sy_up σ.1 5 m 0, σ.2) (by rw [e]; exact h0) rfl
  · rw [nI_lit0, nI_leI (by omega) (by omega)] at c
    have hge : G.2.1 * 1 ≤ G.2.1 * (m / G.2.1) := Nat.mul_le_mul_left _ (by omega)
    rw [w2, pk_sub (by omega), em]
    have e : la = sg_if G true (m - G.2.1) := by rw [hla, show decide (0 < m / G.2.1) = true from decide_eq_true (by omega)]
    refine e_g_join (σ := (sy_up σ.1 5 m 0, σ.2)) (l := []) h16 (by omega) (by simp) h0 (w3 _ (by omega)) (fun σ2 q q' => ?_)
    exact s22 σ2 (by rw [e]; exact q) q'
end
section
/-! contracts of Grid.link, shape, build (by program: wip/whole/gen/p12.py) -/
theorem gx_step {G : sg_G} {f f1 f' : Nat → Nat → Int32} {m : Nat} (hk : gx_k G f m) (h7 : f1 0 7 = nI (sg_pm G (m + 1)).length) (h2 : ∀ j k, (sg_pm G (m + 1))[j]? = some k → f1 2 j = nI k) (h3 : f1 3 m = nI (sg_pm G m).length) (h3' : ∀ k, k ≠ m → f1 3 k = f 3 k) (h4 : f1 4 = f 4) (h5 : f1 5 = f 5) (hl : gx_lc f1 f' m (sg_nb G m)) : gx_k G f' (m + 1) := by
  obtain ⟨k1, k2, k3, k4, k5⟩ := hk
  obtain ⟨l1, l2, l3, l4, l5⟩ := hl
  refine ⟨?_, fun j k hj => ?_, fun k hkm => ?_, fun k hkm => ?_, fun k hkm j o hj => ?_⟩
  · rw [l1 0 (by decide) (by decide)]; exact h7
  · rw [l1 2 (by decide) (by decide)]; exact h2 j k hj
  · rw [l1 3 (by decide) (by decide)]
    rcases Nat.lt_or_ge k m with q | q
    · rw [h3' k (by omega)]; exact k3 k q
    · have e : k = m := by omega
      subst e; exact h3
  · rcases Nat.lt_or_ge k m with q | q
    · rw [l2 k (by omega), h5]; exact k4 k q
    · have e : k = m := by omega
      subst e; exact l4
  · rcases Nat.lt_or_ge k m with q | q
    · have hj4 : j < 4 := Nat.lt_of_lt_of_le (List.getElem?_eq_some_iff.mp hj).1 (sg_nb_len G k)
      rw [l3 _ (by omega), h4]; exact k5 k q j o hj
    · have e : k = m := by omega
      subst e; exact l5 j o hj
/-- what link keeps -/
def gx_lk (G : sg_G) (σ σ' : sy_S) (m : Nat) : Prop := gx_w G σ'.1 ∧ gx_k G σ'.1 m ∧ (∀ q, 6 ≤ q → σ'.1 q = σ.1 q) ∧ σ'.1 1 = σ.1 1 ∧ σ'.2 = σ.2

theorem e_x_link {Q : Option Value → sy_S → Prop} {σ : sy_S} {G : sg_G} (hG : sg_ok G) (hw : gx_w G σ.1) (k : ∀ σ' : sy_S, gx G σ'.1 → (∀ q, 6 ≤ q → σ'.1 q = σ.1 q) → σ'.1 1 = σ.1 1 → σ'.2 = σ.2 → Q none σ') : sy_E shX mX3_link (0, sy_ent [.ref 0] 4, [], σ) Q := by
  obtain ⟨hr1, hr4, hc1, hc4⟩ := id hG
  have h16 := sg_n16 hG
  have inner : ∀ i, i < G.1 → ∀ (hnext : ∀ σ' : sy_S, gx_lk G σ σ' ((i + 1) * G.2.1) → sy_E shX mX3_link (7, [some (.ref 0), some (.int (nI (i + 1))), none, none], [], σ') Q), ∀ j σ', j ≤ G.2.1 → gx_lk G σ σ' (i * G.2.1 + j) → sy_E shX mX3_link (17, [some (.ref 0), some (.int (nI i)), some (.int (nI j)), none], [], σ') Q := by
    intro i hi hnext
    refine sy_loop (fun j σ' => (17, [some (.ref 0), some (.int (nI i)), some (.int (nI j)), none], [], σ')) (fun j σ' => gx_lk G σ σ' (i * G.2.1 + j)) G.2.1 ?_ ?_
    · intro j σ' hj hI ih
      obtain ⟨i1, i2, i3, i4, i5⟩ := hI
      obtain ⟨w1, w2, w3⟩ := id i1
      obtain ⟨m, hm⟩ : ∃ m, m = i * G.2.1 + j := ⟨_, rfl⟩
      rw [← hm] at i2
      have hmn : m < sg_n G := by
        have : (i + 1) * G.2.1 ≤ G.1 * G.2.1 := Nat.mul_le_mul_right _ hi
        rw [Nat.add_mul] at this
        unfold sg_n
        omega
      have hdiv : m / G.2.1 = i := by rw [hm, Nat.mul_comm, Nat.mul_add_div (by omega), Nat.div_eq_of_lt hj]; rfl
      have hmod : m % G.2.1 = j := by rw [hm, Nat.mul_comm, Nat.mul_add_mod, Nat.mod_eq_of_lt hj]
      have ecell : nI i * σ'.1 0 6 + nI j = nI m := by rw [w2, pk_mul, nI_add, hm]
      have em : (nI m).toNatClampNeg = m := nI_clamp (by omega)
      have hpl := sg_pm_len G m
      have k7 := i2.1
      have e7 : (σ'.1 0 7).toNatClampNeg = (sg_pm G m).length := by rw [k7]; exact nI_clamp (by omega)
      have go : ∀ f1 : Nat → Nat → Int32, gx_w G f1 → f1 0 7 = nI (sg_pm G (m + 1)).length → (∀ j k, (sg_pm G (m + 1))[j]? = some k → f1 2 j = nI k) → f1 3 m = nI (sg_pm G m).length → (∀ k, k ≠ m → f1 3 k = σ'.1 3 k) → f1 4 = σ'.1 4 → f1 5 = σ'.1 5 → (∀ q, 6 ≤ q → f1 q = σ'.1 q) → f1 1 = σ'.1 1 → sy_E shX mX3_linkCell (0, sy_ent [.ref 0, .int (nI m), .int (nI i), .int (nI j)] 4, [], (f1, σ'.2)) (fun r9 σ9 => sy_E shX mX3_link (80, [some (.ref 0), some (.int (nI i)), some (.int (nI j)), none], r9.toList ++ [], σ9) Q) := by
        intro f1 g1 g2 g3 g4 g5 g6 g7 g8 g9
        have hlc := e_x_linkCell (Q := fun r9 σ9 => sy_E shX mX3_link (80, [some (.ref 0), some (.int (nI i)), some (.int (nI j)), none], r9.toList ++ [], σ9) Q) (σ := (f1, σ'.2)) hG g1 hmn (fun σ2 q q' => ?_)
        · rw [hdiv, hmod] at hlc
          exact hlc
        · refine w_x_link_80 ?_
          rw [nI_1]
          refine ih σ2 ⟨⟨?_, ?_, fun k hk => ?_⟩, ?_, fun q9 h9 => ?_, ?_, q'.trans i5⟩
          · rw [q.1 0 (by decide) (by decide)]; exact g1.1
          · rw [q.1 0 (by decide) (by decide)]; exact g1.2.1
          · rw [q.1 1 (by decide) (by decide)]; exact g1.2.2 k hk
          · rw [← Nat.add_assoc, ← hm]
            exact gx_step i2 g2 g3 g4 g5 g6 g7 q
          · rw [q.1 q9 (by omega) (by omega)]; exact (g8 q9 h9).trans (i3 q9 h9)
          · rw [q.1 1 (by decide) (by decide)]; exact g9.trans i4
      refine w_x_link_17 (fun _ => by rw [ecell]; exact vp_in_nI (by omega) (by decide)) (fun _ _ => by rw [k7]; exact vp_in_nI (by omega) (by decide)) (fun c => ?_) (fun c c2 => ?_) (fun c c2 => ?_)
      · rw [w2, nI_leI (by omega) (by omega)] at c
        exact absurd c (by omega)
      · rw [ecell, em, w3 m hmn] at c2
        have hwm : G.2.2 m = true := by cases h : G.2.2 m <;> simp_all
        rw [ecell, em]
        have es : sg_pm G (m + 1) = sg_pm G m := by rw [sg_pm_s, hwm]; simp
        refine go (sy_up σ'.1 3 m (σ'.1 0 7)) ⟨w1, w2, w3⟩ ?_ ?_ ?_ (fun k hk => ?_) rfl rfl (fun q h9 => ?_) rfl
        · rw [es]; exact k7
        · rw [es]; exact i2.2.1
        · rw [sy_up2, if_pos ⟨rfl, rfl⟩]; exact k7
        · rw [sy_up2, if_neg (by omega)]
        · exact sy_up_ne _ _ _ (by omega)
      · rw [ecell, em, w3 m hmn] at c2
        have hwm : G.2.2 m = false := by cases h : G.2.2 m <;> simp_all
        rw [ecell, em, e7]
        have es : sg_pm G (m + 1) = sg_pm G m ++ [m] := by rw [sg_pm_s, hwm]; simp
        refine go (sy_up (sy_up (sy_up σ'.1 3 m (σ'.1 0 7)) 2 (sg_pm G m).length (nI m)) 0 7 (σ'.1 0 7 + 1)) ⟨?_, ?_, w3⟩ ?_ (fun j k hj => ?_) ?_ (fun k hk => ?_) rfl rfl (fun q h9 => ?_) rfl
        · exact w1
        · exact w2
        · rw [sy_up2, if_pos ⟨rfl, rfl⟩, k7, nI_1, es, List.length_append, List.length_singleton]
        · rw [sy_up2, if_neg (by omega), sy_up2]
          rw [es, List.getElem?_append] at hj
          split at hj
          · rename_i hlt
            rw [if_neg (by omega), sy_up2, if_neg (by omega)]
            exact i2.2.1 j k hj
          · rename_i hge
            have hz : j - (sg_pm G m).length = 0 := by
              rcases Nat.eq_zero_or_pos (j - (sg_pm G m).length) with q | q
              · exact q
              · rw [List.getElem?_eq_none (by simp only [List.length_singleton]; omega)] at hj; cases hj
            rw [hz] at hj
            cases hj
            rw [if_pos ⟨rfl, by omega⟩]
        · rw [sy_up2, if_neg (by omega), sy_up2, if_neg (by omega), sy_up2, if_pos ⟨rfl, rfl⟩]; exact k7
        · rw [sy_up2, if_neg (by omega), sy_up2, if_neg (by omega), sy_up2, if_neg (by omega)]
        · rw [sy_up_ne _ _ _ (by omega), sy_up_ne _ _ _ (by omega), sy_up_ne _ _ _ (by omega)]
    · intro σ' hI
      obtain ⟨w1, w2, w3⟩ := hI.1
      refine w_x_link_17 (fun c => ?_) (fun c => ?_) (fun c => ?_) (fun c => ?_) (fun c => ?_)
      all_goals try (exact absurd (by rw [w2]; exact nI_le (Nat.le_refl _) (by omega)) c)
      rw [nI_1]
      exact hnext σ' (by rw [Nat.add_mul, Nat.one_mul]; exact hI)
  have outer : ∀ i σ', i ≤ G.1 → gx_lk G σ σ' (i * G.2.1) → sy_E shX mX3_link (7, [some (.ref 0), some (.int (nI i)), none, none], [], σ') Q := by
    refine sy_loop (fun i σ' => (7, [some (.ref 0), some (.int (nI i)), none, none], [], σ')) (fun i σ' => gx_lk G σ σ' (i * G.2.1)) G.1 ?_ ?_
    · intro i σ' hi hI ih
      have w1 := hI.1.1
      refine w_x_link_7 (fun c => ?_) (fun _ => ?_)
      · rw [w1, nI_leI (by omega) (by omega)] at c
        exact absurd c (by omega)
      · exact inner i hi (fun σ2 h2 => ih σ2 h2) 0 σ' (Nat.zero_le _) hI
    · intro σ' hI
      have w1 := hI.1.1
      refine w_x_link_7 (fun _ => ?_) (fun c => absurd (by rw [w1]; exact nI_le (Nat.le_refl _) (by omega)) c)
      exact k σ' ⟨hG, hI.1, hI.2.1⟩ hI.2.2.1 hI.2.2.2.1 hI.2.2.2.2
  refine w_x_link_0 ?_
  refine outer 0 _ (Nat.zero_le _) ⟨⟨hw.1, hw.2.1, hw.2.2⟩, ?_, fun q h9 => ?_, rfl, rfl⟩
  · rw [Nat.zero_mul]
    refine ⟨?_, fun j k hj => ?_, fun k hk => absurd hk (Nat.not_lt_zero _), fun k hk => absurd hk (Nat.not_lt_zero _), fun k hk => absurd hk (Nat.not_lt_zero _)⟩
    · show sy_up σ.1 0 7 0 0 7 = _
      rw [sy_up2, if_pos ⟨rfl, rfl⟩]; rfl
    · simp [sg_pm] at hj
  · exact sy_up_ne _ _ _ (by omega)
theorem e_x_shape {Q : Option Value → sy_S → Prop} {σ : sy_S} {r c : Nat} (hG : sg_ok (r, c, fun _ => false)) (k : ∀ σ' : sy_S, gx (r, c, fun _ => false) σ'.1 → (∀ q, 6 ≤ q → σ'.1 q = σ.1 q) → σ'.2 = σ.2 → Q none σ') : sy_E shX mX3_shape (0, sy_ent [.ref 0, .int (nI r), .int (nI c)] 3, [], σ) Q := by
  refine w_x_shape_0 ?_
  refine e_x_fill (n := 16) rfl (by decide) (fun σ1 h1 h2 h3 h4 => ?_)
  refine w_x_shape_18 ?_
  refine e_x_link (G := (r, c, fun _ => false)) hG ⟨?_, ?_, fun j hj => ?_⟩ (fun σ2 g1 g2 g3 g4 => ?_)
  · rw [h1 0 (by decide)]; rfl
  · rw [h1 0 (by decide)]; rfl
  · rw [h2 j (Nat.lt_of_lt_of_le hj (sg_n16 hG))]; rfl
  · refine w_x_shape_22 ?_
    refine k σ2 g1 (fun q hq => ?_) (g4.trans h4)
    rw [g2 q hq, h1 q (by omega)]
    show sy_up (sy_up σ.1 0 5 (nI r)) 0 6 (nI c) q = σ.1 q
    rw [sy_up_ne _ _ _ (by omega), sy_up_ne _ _ _ (by omega)]

theorem e_g_link {Q : Option Value → sy_S → Prop} {σ : sy_S} {G : sg_G} (hG : sg_ok G) (hw : gx_w G σ.1) (k : ∀ σ' : sy_S, gx G σ'.1 → (∀ q, 6 ≤ q → σ'.1 q = σ.1 q) → σ'.1 1 = σ.1 1 → σ'.2 = σ.2 → Q none σ') : sy_E shG mX3_link (0, sy_ent [.ref 0] 4, [], σ) Q := by
  obtain ⟨hr1, hr4, hc1, hc4⟩ := id hG
  have h16 := sg_n16 hG
  have inner : ∀ i, i < G.1 → ∀ (hnext : ∀ σ' : sy_S, gx_lk G σ σ' ((i + 1) * G.2.1) → sy_E shG mX3_link (7, [some (.ref 0), some (.int (nI (i + 1))), none, none], [], σ') Q), ∀ j σ', j ≤ G.2.1 → gx_lk G σ σ' (i * G.2.1 + j) → sy_E shG mX3_link (17, [some (.ref 0), some (.int (nI i)), some (.int (nI j)), none], [], σ') Q := by
    intro i hi hnext
    refine sy_loop (fun j σ' => (17, [some (.ref 0), some (.int (nI i)), some (.int (nI j)), none], [], σ')) (fun j σ' => gx_lk G σ σ' (i * G.2.1 + j)) G.2.1 ?_ ?_
    · intro j σ' hj hI ih
      obtain ⟨i1, i2, i3, i4, i5⟩ := hI
      obtain ⟨w1, w2, w3⟩ := id i1
      obtain ⟨m, hm⟩ : ∃ m, m = i * G.2.1 + j := ⟨_, rfl⟩
      rw [← hm] at i2
      have hmn : m < sg_n G := by
        have : (i + 1) * G.2.1 ≤ G.1 * G.2.1 := Nat.mul_le_mul_right _ hi
        rw [Nat.add_mul] at this
        unfold sg_n
        omega
      have hdiv : m / G.2.1 = i := by rw [hm, Nat.mul_comm, Nat.mul_add_div (by omega), Nat.div_eq_of_lt hj]; rfl
      have hmod : m % G.2.1 = j := by rw [hm, Nat.mul_comm, Nat.mul_add_mod, Nat.mod_eq_of_lt hj]
      have ecell : nI i * σ'.1 0 6 + nI j = nI m := by rw [w2, pk_mul, nI_add, hm]
      have em : (nI m).toNatClampNeg = m := nI_clamp (by omega)
      have hpl := sg_pm_len G m
      have k7 := i2.1
      have e7 : (σ'.1 0 7).toNatClampNeg = (sg_pm G m).length := by rw [k7]; exact nI_clamp (by omega)
      have go : ∀ f1 : Nat → Nat → Int32, gx_w G f1 → f1 0 7 = nI (sg_pm G (m + 1)).length → (∀ j k, (sg_pm G (m + 1))[j]? = some k → f1 2 j = nI k) → f1 3 m = nI (sg_pm G m).length → (∀ k, k ≠ m → f1 3 k = σ'.1 3 k) → f1 4 = σ'.1 4 → f1 5 = σ'.1 5 → (∀ q, 6 ≤ q → f1 q = σ'.1 q) → f1 1 = σ'.1 1 → sy_E shG mX3_linkCell (0, sy_ent [.ref 0, .int (nI m), .int (nI i), .int (nI j)] 4, [], (f1, σ'.2)) (fun r9 σ9 => sy_E shG mX3_link (80, [some (.ref 0), some (.int (nI i)), some (.int (nI j)), none], r9.toList ++ [], σ9) Q) := by
        intro f1 g1 g2 g3 g4 g5 g6 g7 g8 g9
        have hlc := e_g_linkCell (Q := fun r9 σ9 => sy_E shG mX3_link (80, [some (.ref 0), some (.int (nI i)), some (.int (nI j)), none], r9.toList ++ [], σ9) Q) (σ := (f1, σ'.2)) hG g1 hmn (fun σ2 q q' => ?_)
        · rw [hdiv, hmod] at hlc
          exact hlc
        · refine w_g_link_80 ?_
          rw [nI_1]
          refine ih σ2 ⟨⟨?_, ?_, fun k hk => ?_⟩, ?_, fun q9 h9 => ?_, ?_, q'.trans i5⟩
          · rw [q.1 0 (by decide) (by decide)]; exact g1.1
          · rw [q.1 0 (by decide) (by decide)]; exact g1.2.1
          · rw [q.1 1 (by decide) (by decide)]; exact g1.2.2 k hk
          · rw [← Nat.add_assoc, ← hm]
            exact gx_step i2 g2 g3 g4 g5 g6 g7 q
          · rw [q.1 q9 (by omega) (by omega)]; exact (g8 q9 h9).trans (i3 q9 h9)
          · rw [q.1 1 (by decide) (by decide)]; exact g9.trans i4
      refine w_g_link_17 (fun _ => by rw [ecell]; exact vp_in_nI (by omega) (by decide)) (fun _ _ => by rw [k7]; exact vp_in_nI (by omega) (by decide)) (fun c => ?_) (fun c c2 => ?_) (fun c c2 => ?_)
      · rw [w2, nI_leI (by omega) (by omega)] at c
        exact absurd c (by omega)
      · rw [ecell, em, w3 m hmn] at c2
        have hwm : G.2.2 m = true := by cases h : G.2.2 m <;> simp_all
        rw [ecell, em]
        have es : sg_pm G (m + 1) = sg_pm G m := by rw [sg_pm_s, hwm]; simp
        refine go (sy_up σ'.1 3 m (σ'.1 0 7)) ⟨w1, w2, w3⟩ ?_ ?_ ?_ (fun k hk => ?_) rfl rfl (fun q h9 => ?_) rfl
        · rw [es]; exact k7
        · rw [es]; exact i2.2.1
        · rw [sy_up2, if_pos ⟨rfl, rfl⟩]; exact k7
        · rw [sy_up2, if_neg (by omega)]
        · exact sy_up_ne _ _ _ (by omega)
      · rw [ecell, em, w3 m hmn] at c2
        have hwm : G.2.2 m = false := by cases h : G.2.2 m <;> simp_all
        rw [ecell, em, e7]
        have es : sg_pm G (m + 1) = sg_pm G m ++ [m] := by rw [sg_pm_s, hwm]; simp
        refine go (sy_up (sy_up (sy_up σ'.1 3 m (σ'.1 0 7)) 2 (sg_pm G m).length (nI m)) 0 7 (σ'.1 0 7 + 1)) ⟨?_, ?_, w3⟩ ?_ (fun j k hj => ?_) ?_ (fun k hk => ?_) rfl rfl (fun q h9 => ?_) rfl
        · exact w1
        · exact w2
        · rw [sy_up2, if_pos ⟨rfl, rfl⟩, k7, nI_1, es, List.length_append, List.length_singleton]
        · rw [sy_up2, if_neg (by omega), sy_up2]
          rw [es, List.getElem?_append] at hj
          split at hj
          · rename_i hlt
            rw [if_neg (by omega), sy_up2, if_neg (by omega)]
            exact i2.2.1 j k hj
          · rename_i hge
            have hz : j - (sg_pm G m).length = 0 := by
              rcases Nat.eq_zero_or_pos (j - (sg_pm G m).length) with q | q
              · exact q
              · rw [List.getElem?_eq_none (by simp only [List.length_singleton]; omega)] at hj; cases hj
            rw [hz] at hj
            cases hj
            rw [if_pos ⟨rfl, by omega⟩]
        · rw [sy_up2, if_neg (by omega), sy_up2, if_neg (by omega), sy_up2, if_pos ⟨rfl, rfl⟩]; exact k7
        · rw [sy_up2, if_neg (by omega), sy_up2, if_neg (by omega), sy_up2, if_neg (by omega)]
        · rw [sy_up_ne _ _ _ (by omega), sy_up_ne _ _ _ (by omega), sy_up_ne _ _ _ (by omega)]
    · intro σ' hI
      obtain ⟨w1, w2, w3⟩ := hI.1
      refine w_g_link_17 (fun c => ?_) (fun c => ?_) (fun c => ?_) (fun c => ?_) (fun c => ?_)
      all_goals try (exact absurd (by rw [w2]; exact nI_le (Nat.le_refl _) (by omega)) c)
      rw [nI_1]
      exact hnext σ' (by rw [Nat.add_mul, Nat.one_mul]; exact hI)
  have outer : ∀ i σ', i ≤ G.1 → gx_lk G σ σ' (i * G.2.1) → sy_E shG mX3_link (7, [some (.ref 0), some (.int (nI i)), none, none], [], σ') Q := by
    refine sy_loop (fun i σ' => (7, [some (.ref 0), some (.int (nI i)), none, none], [], σ')) (fun i σ' => gx_lk G σ σ' (i * G.2.1)) G.1 ?_ ?_
    · intro i σ' hi hI ih
      have w1 := hI.1.1
      refine w_g_link_7 (fun c => ?_) (fun _ => ?_)
      · rw [w1, nI_leI (by omega) (by omega)] at c
        exact absurd c (by omega)
      · exact inner i hi (fun σ2 h2 => ih σ2 h2) 0 σ' (Nat.zero_le _) hI
    · intro σ' hI
      have w1 := hI.1.1
      refine w_g_link_7 (fun _ => ?_) (fun c => absurd (by rw [w1]; exact nI_le (Nat.le_refl _) (by omega)) c)
      exact k σ' ⟨hG, hI.1, hI.2.1⟩ hI.2.2.1 hI.2.2.2.1 hI.2.2.2.2
  refine w_g_link_0 ?_
  refine outer 0 _ (Nat.zero_le _) ⟨⟨hw.1, hw.2.1, hw.2.2⟩, ?_, fun q h9 => ?_, rfl, rfl⟩
  · rw [Nat.zero_mul]
    refine ⟨?_, fun j k hj => ?_, fun k hk => absurd hk (Nat.not_lt_zero _), fun k hk => absurd hk (Nat.not_lt_zero _), fun k hk => absurd hk (Nat.not_lt_zero _)⟩
    · show sy_up σ.1 0 7 0 0 7 = _
      rw [sy_up2, if_pos ⟨rfl, rfl⟩]; rfl
    · simp [sg_pm] at hj
  · exact sy_up_ne _ _ _ (by omega)
theorem e_g_shape {Q : Option Value → sy_S → Prop} {σ : sy_S} {r c : Nat} (hG : sg_ok (r, c, fun _ => false)) (k : ∀ σ' : sy_S, gx (r, c, fun _ => false) σ'.1 → (∀ q, 6 ≤ q → σ'.1 q = σ.1 q) → σ'.2 = σ.2 → Q none σ') : sy_E shG mX3_shape (0, sy_ent [.ref 0, .int (nI r), .int (nI c)] 3, [], σ) Q := by
  refine w_g_shape_0 ?_
  refine e_g_fill (n := 16) rfl (by decide) (fun σ1 h1 h2 h3 h4 => ?_)
  refine w_g_shape_18 ?_
  refine e_g_link (G := (r, c, fun _ => false)) hG ⟨?_, ?_, fun j hj => ?_⟩ (fun σ2 g1 g2 g3 g4 => ?_)
  · rw [h1 0 (by decide)]; rfl
  · rw [h1 0 (by decide)]; rfl
  · rw [h2 j (Nat.lt_of_lt_of_le hj (sg_n16 hG))]; rfl
  · refine w_g_shape_22 ?_
    refine k σ2 g1 (fun q hq => ?_) (g4.trans h4)
    rw [g2 q hq, h1 q (by omega)]
    show sy_up (sy_up σ.1 0 5 (nI r)) 0 6 (nI c) q = σ.1 q
    rw [sy_up_ne _ _ _ (by omega), sy_up_ne _ _ _ (by omega)]

theorem e_x_build {Q : Option Value → sy_S → Prop} {σ : sy_S} {G : sg_G} {m : Nat} {is : Int32} (b : Bool) (hb : is = if b then 1 else 0) (hg : gx G σ.1) (hm : m < sg_n G) (k : ∀ σ' : sy_S, gx (G.1, G.2.1, fun j => if j = m then b else G.2.2 j) σ'.1 → (∀ q, 6 ≤ q → σ'.1 q = σ.1 q) → σ'.2 = σ.2 → Q none σ') : sy_E shX mX3_build (0, sy_ent [.ref 0, .int (nI m), .int is] 3, [], σ) Q := by
  have h16 := sg_n16 hg.1
  have em : (nI m).toNatClampNeg = m := nI_clamp (by omega)
  have go : ∀ v : Int32, (v = if b then 1 else 0) → sy_E shX mX3_link (0, sy_ent [.ref 0] 4, [], (sy_up σ.1 1 m v, σ.2)) (fun r9 σ9 => sy_E shX mX3_build (19, [none, none, none], r9.toList ++ [], σ9) Q) := by
    intro v hv
    refine e_x_link (G := (G.1, G.2.1, fun j => if j = m then b else G.2.2 j)) hg.1 ⟨hg.2.1.1, hg.2.1.2.1, fun j hj => ?_⟩ (fun σ2 g1 g2 g3 g4 => ?_)
    · show sy_up σ.1 1 m v 1 j = _
      rw [sy_up2]
      by_cases q : j = m
      · subst q
        rw [if_pos ⟨rfl, rfl⟩, hv]
        simp
      · rw [if_neg (by omega), hg.2.1.2.2 j hj]
        simp [q]
    · refine w_x_build_19 ?_
      refine k σ2 g1 (fun q hq => ?_) g4
      rw [g2 q hq]
      exact sy_up_ne _ _ _ (by omega)
  refine w_x_build_0 (fun _ => vp_in_nI (by omega) (by decide)) (fun _ => vp_in_nI (by omega) (by decide)) (fun c => ?_) (fun c => ?_)
  · rw [em]
    refine go 0 ?_
    rw [← hb, c]
  · rw [em]
    refine go 1 ?_
    cases b with
    | true => rfl
    | false => exact absurd hb c
end
section
/-! sums, neighbours, toppling: mathematics alone -/
def ssum : Nat → (Nat → Nat) → Nat
  | 0, _ => 0
  | n + 1, f => ssum n f + f n
theorem ssum_congr {n : Nat} {f g : Nat → Nat} (h : ∀ j, j < n → f j = g j) : ssum n f = ssum n g := by
  induction n with
  | zero => rfl
  | succ n ih => rw [ssum, ssum, ih (fun j hj => h j (by omega)), h n (by omega)]
theorem ssum_add (n : Nat) (f g : Nat → Nat) : ssum n (fun j => f j + g j) = ssum n f + ssum n g := by
  induction n with
  | zero => rfl
  | succ n ih => simp only [ssum]; rw [ih]; omega
theorem ssum_le {n : Nat} {f g : Nat → Nat} (h : ∀ j, j < n → f j ≤ g j) : ssum n f ≤ ssum n g := by
  induction n with
  | zero => exact Nat.le_refl _
  | succ n ih =>
    simp only [ssum]
    have h1 := ih (fun j hj => h j (by omega))
    have h2 := h n (by omega)
    omega
theorem ssum_zero (n : Nat) : ssum n (fun _ => 0) = 0 := by
  induction n with
  | zero => rfl
  | succ n ih => simp only [ssum, ih]
theorem ssum_one (n k t : Nat) : ssum n (fun j => if j = k then t else 0) = if k < n then t else 0 := by
  induction n with
  | zero => rfl
  | succ n ih =>
    simp only [ssum]
    rw [ih]
    by_cases h : k < n
    · rw [if_pos h, if_neg (show ¬ n = k by omega), if_pos (show k < n + 1 by omega)]; omega
    · by_cases h2 : n = k
      · rw [if_neg h, if_pos h2, if_pos (show k < n + 1 by omega)]; omega
      · rw [if_neg h, if_neg h2, if_neg (show ¬ k < n + 1 by omega)]
theorem ssum_mul (n c : Nat) (f : Nat → Nat) : ssum n (fun j => c * f j) = c * ssum n f := by
  induction n with
  | zero => rfl
  | succ n ih => simp only [ssum]; rw [ih, Nat.mul_add]
theorem ssum_ge {n k : Nat} (f : Nat → Nat) (h : k < n) : f k ≤ ssum n f := by
  induction n with
  | zero => omega
  | succ n ih =>
    simp only [ssum]
    by_cases h2 : k = n
    · subst h2; omega
    · have := ih (by omega); omega
theorem ssum_const (n c : Nat) : ssum n (fun _ => c) = n * c := by
  induction n with
  | zero => simp [ssum]
  | succ n ih => simp only [ssum, ih, Nat.add_mul, Nat.one_mul]
/-- k and j are side by side in a grid of r rows and c columns -/
def sg_geo (r c k j : Nat) : Bool := (decide (0 < k / c) && decide (j = k - c)) || (decide (0 < k % c) && decide (j = k - 1)) || (decide (k % c + 1 < c) && decide (j = k + 1)) || (decide (k / c + 1 < r) && decide (j = k + c))
theorem sg_mem_if {G : sg_G} {b : Bool} {o j : Nat} : j ∈ sg_if G b o ↔ G.2.2 j = false ∧ b = true ∧ j = o := by
  unfold sg_if
  constructor
  · intro h
    split at h
    · rename_i hb
      rw [List.mem_singleton] at h
      subst h
      simp only [Bool.and_eq_true, Bool.not_eq_true'] at hb
      exact ⟨hb.2, hb.1, rfl⟩
    · exact absurd h List.not_mem_nil
  · rintro ⟨h1, h2, rfl⟩
    rw [if_pos (by simp [h1, h2])]
    exact List.mem_singleton.mpr rfl
theorem sg_mem {G : sg_G} {k j : Nat} : j ∈ sg_nb G k ↔ G.2.2 j = false ∧ sg_geo G.1 G.2.1 k j = true := by
  unfold sg_nb sg_geo
  simp only [List.mem_append, sg_mem_if, Bool.or_eq_true, Bool.and_eq_true, decide_eq_true_eq]
  constructor
  · rintro (((⟨h1, h2, h3⟩ | ⟨h1, h2, h3⟩) | ⟨h1, h2, h3⟩) | ⟨h1, h2, h3⟩)
    · exact ⟨h1, Or.inl (Or.inl (Or.inl ⟨h2, h3⟩))⟩
    · exact ⟨h1, Or.inl (Or.inl (Or.inr ⟨h2, h3⟩))⟩
    · exact ⟨h1, Or.inl (Or.inr ⟨h2, h3⟩)⟩
    · exact ⟨h1, Or.inr ⟨h2, h3⟩⟩
  · rintro ⟨h1, ((⟨h2, h3⟩ | ⟨h2, h3⟩) | ⟨h2, h3⟩) | ⟨h2, h3⟩⟩
    · exact Or.inl (Or.inl (Or.inl ⟨h1, h2, h3⟩))
    · exact Or.inl (Or.inl (Or.inr ⟨h1, h2, h3⟩))
    · exact Or.inl (Or.inr ⟨h1, h2, h3⟩)
    · exact Or.inr ⟨h1, h2, h3⟩
def sg_wt (c k : Nat) : Nat := [4, 6, 6, 4].getD (k / c) 0
/-- the facts of geometry, for all sizes -/
def sg_geoOK (r c : Nat) : Bool := (List.range (r * c)).all fun k => (List.range 20).all (fun j => (!sg_geo r c k j || decide (j < r * c)) && (!sg_geo r c k j || decide (j ≠ k)) && (decide (r * c ≤ j) || (sg_geo r c k j == sg_geo r c j k))) && decide (ssum 16 (fun j => if sg_geo r c k j then sg_wt c j else 0) + 2 ≤ 4 * sg_wt c k) && decide (4 ≤ sg_wt c k) && decide (sg_wt c k ≤ 6)
theorem sg_geo_ok : ((List.range 4).all fun r => (List.range 4).all fun c => sg_geoOK (r + 1) (c + 1)) = true := by decide +kernel
theorem sg_geo_at {r c : Nat} (h1 : 1 ≤ r) (h2 : r ≤ 4) (h3 : 1 ≤ c) (h4 : c ≤ 4) : sg_geoOK r c = true := by
  have h := List.all_eq_true.mp sg_geo_ok (r - 1) (List.mem_range.mpr (by omega))
  have h := List.all_eq_true.mp h (c - 1) (List.mem_range.mpr (by omega))
  rw [show r - 1 + 1 = r by omega, show c - 1 + 1 = c by omega] at h
  exact h
theorem sg_geo_lt {r c k j : Nat} (hk : k < r * c) (h2 : r ≤ 4) (h4 : c ≤ 4) (h : sg_geo r c k j = true) : j < 20 := by
  have h16 : r * c ≤ 16 := Nat.mul_le_mul h2 h4
  unfold sg_geo at h
  simp only [Bool.or_eq_true, Bool.and_eq_true, decide_eq_true_eq] at h
  omega
theorem sg_geo_f {G : sg_G} (hG : sg_ok G) {k : Nat} (hk : k < sg_n G) : (∀ j, sg_geo G.1 G.2.1 k j = true → j < sg_n G ∧ j ≠ k) ∧ (∀ j, j < sg_n G → sg_geo G.1 G.2.1 k j = sg_geo G.1 G.2.1 j k) ∧ ssum 16 (fun j => if sg_geo G.1 G.2.1 k j then sg_wt G.2.1 j else 0) + 2 ≤ 4 * sg_wt G.2.1 k ∧ 4 ≤ sg_wt G.2.1 k ∧ sg_wt G.2.1 k ≤ 6 := by
  obtain ⟨h1, h2, h3, h4⟩ := id hG
  have h16 := sg_n16 hG
  have h := List.all_eq_true.mp (sg_geo_at h1 h2 h3 h4) k (List.mem_range.mpr hk)
  simp only [Bool.and_eq_true, decide_eq_true_eq] at h
  obtain ⟨⟨⟨ha, hb⟩, hc⟩, hd⟩ := h
  have hj : ∀ j, j < 20 → _ := fun j hj => List.all_eq_true.mp ha j (List.mem_range.mpr hj)
  simp only [Bool.and_eq_true, Bool.or_eq_true, Bool.not_eq_true', decide_eq_true_eq, beq_iff_eq] at hj
  refine ⟨fun j hg => ?_, fun j hlt => ?_, hb, hc, hd⟩
  · obtain ⟨⟨q1, q2⟩, -⟩ := hj j (sg_geo_lt hk h2 h4 hg)
    rw [hg] at q1 q2
    simp at q1 q2
    exact ⟨q1, q2⟩
  · obtain ⟨-, q3⟩ := hj j (by omega)
    rcases q3 with q3 | q3
    · unfold sg_n at hlt; omega
    · exact q3
theorem sg_nb_p {G : sg_G} (hG : sg_ok G) {k j : Nat} (hk : k < sg_n G) (h : j ∈ sg_nb G k) : sg_p G j ∧ j ≠ k := by
  obtain ⟨h1, h2⟩ := sg_mem.mp h
  obtain ⟨h3, h4⟩ := (sg_geo_f hG hk).1 j h2
  exact ⟨⟨h3, h1⟩, h4⟩
theorem sg_nb_sym {G : sg_G} (hG : sg_ok G) {k j : Nat} (hk : sg_p G k) (hj : sg_p G j) : j ∈ sg_nb G k ↔ k ∈ sg_nb G j := by
  rw [sg_mem, sg_mem, (sg_geo_f hG hk.1).2.1 j hj.1]
  exact ⟨fun h => ⟨hk.2, h.2⟩, fun h => ⟨hj.2, h.2⟩⟩
theorem sg_nb_nodup {G : sg_G} (hG : sg_ok G) {k : Nat} (hk : k < sg_n G) : (sg_nb G k).Nodup := by
  obtain ⟨h1, h2, h3, h4⟩ := id hG
  have hm : k % G.2.1 < G.2.1 := Nat.mod_lt _ (by omega)
  have hd : G.2.1 * (k / G.2.1) + k % G.2.1 = k := Nat.div_add_mod k G.2.1
  have hge : 0 < k / G.2.1 → G.2.1 ≤ k := fun h => by
    have : G.2.1 * 1 ≤ G.2.1 * (k / G.2.1) := Nat.mul_le_mul_left _ h
    omega
  unfold sg_nb
  rw [List.nodup_append, List.nodup_append, List.nodup_append]
  have one : ∀ b o, (sg_if G b o).Nodup := fun b o => by unfold sg_if; split <;> simp
  refine ⟨⟨⟨one _ _, one _ _, ?_⟩, one _ _, ?_⟩, one _ _, ?_⟩
  · intro a ha b hb
    obtain ⟨-, a1, a2⟩ := sg_mem_if.mp ha
    obtain ⟨-, b1, b2⟩ := sg_mem_if.mp hb
    simp only [decide_eq_true_eq] at a1 b1
    have := hge a1
    omega
  · intro a ha b hb
    obtain ⟨-, b1, b2⟩ := sg_mem_if.mp hb
    rcases List.mem_append.mp ha with ha | ha
    · obtain ⟨-, a1, a2⟩ := sg_mem_if.mp ha
      omega
    · obtain ⟨-, a1, a2⟩ := sg_mem_if.mp ha
      omega
  · intro a ha b hb
    obtain ⟨-, b1, b2⟩ := sg_mem_if.mp hb
    rcases List.mem_append.mp ha with ha | ha
    · rcases List.mem_append.mp ha with ha | ha
      · obtain ⟨-, a1, a2⟩ := sg_mem_if.mp ha
        omega
      · obtain ⟨-, a1, a2⟩ := sg_mem_if.mp ha
        omega
    · obtain ⟨-, a1, a2⟩ := sg_mem_if.mp ha
      simp only [decide_eq_true_eq] at a1 b1
      omega
/-! toppling -/
def sg_su (G : sg_G) (u : Nat → Nat) (k : Nat) : Nat := ssum 16 fun j => if j ∈ sg_nb G k then u j else 0
def sg_pot (G : sg_G) (H : Nat → Nat) : Nat := ssum 16 fun j => (if j < sg_n G then sg_wt G.2.1 j else 0) * H j
def sg_tp (G : sg_G) (H : Nat → Nat) (k t : Nat) : Nat → Nat := fun j => (if j = k then H j - 4 * t else H j) + if j ∈ sg_nb G k then t else 0
def sg_ad (u : Nat → Nat) (k t : Nat) : Nat → Nat := fun j => if j = k then u j + t else u j
def sg_stz (G : sg_G) (h v : Nat → Nat) : Prop := ∀ k, sg_p G k → h k + sg_su G v k ≤ 3 + 4 * v k
/-- from h, legal topplings have led to H, each place having toppled u times -/
def sg_rc (G : sg_G) (h u H : Nat → Nat) : Prop := (∀ k, sg_p G k → H k + 4 * u k = h k + sg_su G u k) ∧ (∀ v, sg_stz G h v → ∀ k, sg_p G k → u k ≤ v k) ∧ (∀ k, ¬ sg_p G k → u k = 0 ∧ H k = h k) ∧ sg_pot G H + 2 * ssum 16 u ≤ sg_pot G h
theorem sg_rc_0 (G : sg_G) (h : Nat → Nat) : sg_rc G h (fun _ => 0) h := by
  refine ⟨fun k hk => ?_, fun v _ k _ => Nat.zero_le _, fun k _ => ⟨rfl, rfl⟩, ?_⟩
  · unfold sg_su
    rw [ssum_congr (g := fun _ => 0) (fun j _ => by simp), ssum_zero]
    simp
  · rw [ssum_zero]; omega
theorem sg_su_ad {G : sg_G} (hG : sg_ok G) {u : Nat → Nat} {k t j : Nat} (hk : sg_p G k) (hj : sg_p G j) : sg_su G (sg_ad u k t) j = sg_su G u j + if j ∈ sg_nb G k then t else 0 := by
  have h16 := sg_n16 hG
  have hk16 : k < 16 := Nat.lt_of_lt_of_le hk.1 h16
  unfold sg_su
  rw [show (if j ∈ sg_nb G k then t else 0) = ssum 16 (fun i => if i = k then (if j ∈ sg_nb G k then t else 0) else 0) by rw [ssum_one, if_pos hk16], ← ssum_add]
  apply ssum_congr
  intro i hi
  unfold sg_ad
  by_cases e : i = k
  · subst e
    simp only [if_true]
    by_cases m : i ∈ sg_nb G j
    · rw [if_pos m, if_pos m, if_pos ((sg_nb_sym hG hk hj).mpr m)]
    · rw [if_neg m, if_neg m, if_neg (fun q => m ((sg_nb_sym hG hk hj).mp q))]
  · simp only [if_neg e, Nat.add_zero]
theorem sg_pot_tp {G : sg_G} (hG : sg_ok G) {H : Nat → Nat} {k t : Nat} (hk : sg_p G k) (ht : 4 * t ≤ H k) : sg_pot G (sg_tp G H k t) + 2 * t ≤ sg_pot G H := by
  have h16 := sg_n16 hG
  have hk16 : k < 16 := Nat.lt_of_lt_of_le hk.1 h16
  obtain ⟨g1, g2, g3, g4, g5⟩ := sg_geo_f hG hk.1
  obtain ⟨W, hW⟩ : ∃ W : Nat → Nat, W = fun j => if j < sg_n G then sg_wt G.2.1 j else 0 := ⟨_, rfl⟩
  have e1 : sg_pot G (sg_tp G H k t) + ssum 16 (fun j => if j = k then W k * (4 * t) else 0) = sg_pot G H + ssum 16 (fun j => if j ∈ sg_nb G k then W j * t else 0) := by
    unfold sg_pot
    rw [← ssum_add, ← ssum_add]
    apply ssum_congr
    intro j hj
    have hWj : (if j < sg_n G then sg_wt G.2.1 j else 0) = W j := by rw [hW]
    rw [hWj]
    unfold sg_tp
    by_cases e : j = k
    · subst e
      have hn : j ∉ sg_nb G j := fun q => (sg_nb_p hG hk.1 q).2 rfl
      simp only [if_true, if_neg hn, Nat.add_zero]
      rw [← Nat.mul_add]
      congr 1
      omega
    · simp only [if_neg e, Nat.add_zero]
      by_cases m : j ∈ sg_nb G k
      · simp only [if_pos m, Nat.mul_add]
      · simp only [if_neg m, Nat.add_zero]
  rw [ssum_one, if_pos hk16] at e1
  have e2 : ssum 16 (fun j => if j ∈ sg_nb G k then W j * t else 0) ≤ t * ssum 16 (fun j => if sg_geo G.1 G.2.1 k j then sg_wt G.2.1 j else 0) := by
    rw [← ssum_mul]
    apply ssum_le
    intro j hj
    by_cases m : j ∈ sg_nb G k
    · have hp := sg_nb_p hG hk.1 m
      rw [if_pos m, if_pos (sg_mem.mp m).2, hW]
      simp only [if_pos hp.1.1]
      rw [Nat.mul_comm]
      exact Nat.le_refl _
    · rw [if_neg m]; exact Nat.zero_le _
  have e3 : t * ssum 16 (fun j => if sg_geo G.1 G.2.1 k j then sg_wt G.2.1 j else 0) + t * 2 ≤ t * (4 * sg_wt G.2.1 k) := by
    rw [← Nat.mul_add]; exact Nat.mul_le_mul_left _ g3
  have e4 : W k * (4 * t) = t * (4 * sg_wt G.2.1 k) := by
    rw [hW]
    simp only [if_pos hk.1]
    rw [Nat.mul_left_comm, ← Nat.mul_assoc, Nat.mul_comm]
  omega
theorem sg_rc_tp {G : sg_G} (hG : sg_ok G) {h u H : Nat → Nat} {k t : Nat} (hr : sg_rc G h u H) (hk : sg_p G k) (ht : 4 * t ≤ H k) : sg_rc G h (sg_ad u k t) (sg_tp G H k t) := by
  obtain ⟨r1, r2, r3, r4⟩ := hr
  have h16 := sg_n16 hG
  have hk16 : k < 16 := Nat.lt_of_lt_of_le hk.1 h16
  refine ⟨fun j hj => ?_, fun v hv j hj => ?_, fun j hj => ?_, ?_⟩
  · rw [sg_su_ad hG hk hj, ← Nat.add_assoc, ← r1 j hj]
    unfold sg_tp sg_ad
    by_cases e : j = k
    · subst e
      simp only [if_true]
      omega
    · simp only [if_neg e]
      omega
  · have h1 := r2 v hv j hj
    unfold sg_ad
    by_cases e : j = k
    · subst e
      simp only [if_true]
      have h2 := r1 j hj
      have h3 := hv j hj
      have h4 : sg_su G u j ≤ sg_su G v j := by
        unfold sg_su
        apply ssum_le
        intro i hi
        by_cases m : i ∈ sg_nb G j
        · rw [if_pos m, if_pos m]
          exact r2 v hv i (sg_nb_p hG hj.1 m).1
        · rw [if_neg m, if_neg m]; exact Nat.le_refl _
      omega
    · simp only [if_neg e]
      exact h1
  · have e : j ≠ k := fun q => hj (q ▸ hk)
    unfold sg_ad sg_tp
    simp only [if_neg e]
    have hn : j ∉ sg_nb G k := fun q => hj (sg_nb_p hG hk.1 q).1
    rw [if_neg hn, Nat.add_zero]
    exact r3 j hj
  · have h1 := sg_pot_tp hG hk ht
    have h2 : ssum 16 (sg_ad u k t) = ssum 16 u + t := by
      have e : ssum 16 (sg_ad u k t) = ssum 16 (fun j => u j + if j = k then t else 0) := ssum_congr (fun j _ => by unfold sg_ad; by_cases e : j = k <;> simp [e])
      rw [e, ssum_add, ssum_one, if_pos hk16]
    omega
/-- u is the least that settles h -/
def sg_odo (G : sg_G) (h u : Nat → Nat) : Prop := sg_stz G h u ∧ (∀ v, sg_stz G h v → ∀ k, sg_p G k → u k ≤ v k) ∧ ∀ k, ¬ sg_p G k → u k = 0
theorem sg_odo_one {G : sg_G} {h u u' : Nat → Nat} (a : sg_odo G h u) (b : sg_odo G h u') : u = u' := by
  funext k
  by_cases hk : sg_p G k
  · exact Nat.le_antisymm (a.2.1 u' b.1 k hk) (b.2.1 u a.1 k hk)
  · rw [a.2.2 k hk, b.2.2 k hk]
theorem sg_rc_odo {G : sg_G} {h u H : Nat → Nat} (hr : sg_rc G h u H) (hs : ∀ k, sg_p G k → H k ≤ 3) : sg_odo G h u := by
  obtain ⟨r1, r2, r3, r4⟩ := hr
  exact ⟨fun k hk => by have := r1 k hk; have := hs k hk; omega, r2, fun k hk => (r3 k hk).1⟩
theorem sg_rc_H {G : sg_G} {h u H H' : Nat → Nat} (a : sg_rc G h u H) (b : sg_rc G h u H') : H = H' := by
  funext k
  by_cases hk : sg_p G k
  · have := a.1 k hk; have := b.1 k hk; omega
  · rw [(a.2.2.1 k hk).2, (b.2.2.1 k hk).2]
theorem sg_pot_le {G : sg_G} (hG : sg_ok G) {h : Nat → Nat} {B : Nat} (hB : ∀ k, k < 16 → h k ≤ B) : sg_pot G h ≤ 96 * B := by
  have h1 : sg_pot G h ≤ ssum 16 (fun _ => 6 * B) := by
    unfold sg_pot
    apply ssum_le
    intro j hj
    refine Nat.mul_le_mul ?_ (hB j hj)
    by_cases hn : j < sg_n G
    · rw [if_pos hn]; exact (sg_geo_f hG hn).2.2.2.2
    · rw [if_neg hn]; exact Nat.zero_le _
  rw [ssum_const] at h1
  omega
theorem sg_pot_ge {G : sg_G} (hG : sg_ok G) {h : Nat → Nat} {k : Nat} (hk : k < sg_n G) : 4 * h k ≤ sg_pot G h := by
  have h16 := sg_n16 hG
  have h1 := ssum_ge (n := 16) (fun j => (if j < sg_n G then sg_wt G.2.1 j else 0) * h j) (show k < 16 by omega)
  simp only [if_pos hk] at h1
  have h2 : 4 * h k ≤ sg_wt G.2.1 k * h k := Nat.mul_le_mul_right _ (sg_geo_f hG hk).2.2.2.1
  unfold sg_pot
  omega
/-- bounds along the way -/
theorem sg_rc_bd {G : sg_G} (hG : sg_ok G) {h u H : Nat → Nat} (hr : sg_rc G h u H) {B : Nat} (hB : ∀ k, k < 16 → h k ≤ B) : (∀ k, k < 16 → H k ≤ 24 * B + B) ∧ ssum 16 u ≤ 48 * B := by
  have h1 := sg_pot_le hG hB
  have h2 := hr.2.2.2
  refine ⟨fun k hk => ?_, by omega⟩
  by_cases hn : k < sg_n G
  · have := sg_pot_ge (h := H) hG hn
    omega
  · have := (hr.2.2.1 k (fun q => hn q.1)).2
    have := hB k hk
    omega
end
section
/-! walks of Grid's reads and of Fall (by program: wip/whole/gen/p21.py) -/
set_option maxRecDepth 20000 in
theorem w_x_cellCount {Q : Option Value → sy_S → Prop} {σ : sy_S}    (k1 : Q (some (.int ((σ.1 0 5) * (σ.1 0 6)))) σ) : sy_E shX mX3_cellCount (0, sy_ent [.ref 0] 1, [], σ) Q := by
  show sy_E shX mX3_cellCount (0, [some (.ref 0)], [], σ) _
  refine sy_bk [(.aload_n 0, 0, 0, 0, 0), (.getfield 31, 3, 5, 0, 0), (.aload_n 0, 0, 0, 0, 0), (.getfield 35, 3, 6, 0, 0), (.imul, 0, 0, 0, 0)] (9, [some (.ref 0)], [.int ((σ.1 0 5) * (σ.1 0 6))], σ) [] (by decide +kernel) rfl trivial ?_
  exact sy_reti rfl (by decide +kernel) (k1)

set_option maxRecDepth 20000 in
theorem w_x_columnCount {Q : Option Value → sy_S → Prop} {σ : sy_S}    (k1 : Q (some (.int (σ.1 0 6))) σ) : sy_E shX mX3_columnCount (0, sy_ent [.ref 0] 1, [], σ) Q := by
  show sy_E shX mX3_columnCount (0, [some (.ref 0)], [], σ) _
  refine sy_bk [(.aload_n 0, 0, 0, 0, 0), (.getfield 35, 3, 6, 0, 0)] (4, [some (.ref 0)], [.int (σ.1 0 6)], σ) [] (by decide +kernel) rfl trivial ?_
  exact sy_reti rfl (by decide +kernel) (k1)

set_option maxRecDepth 20000 in
theorem w_x_placeCount {Q : Option Value → sy_S → Prop} {σ : sy_S}    (k1 : Q (some (.int (σ.1 0 7))) σ) : sy_E shX mX3_placeCount (0, sy_ent [.ref 0] 1, [], σ) Q := by
  show sy_E shX mX3_placeCount (0, [some (.ref 0)], [], σ) _
  refine sy_bk [(.aload_n 0, 0, 0, 0, 0), (.getfield 47, 3, 7, 0, 0)] (4, [some (.ref 0)], [.int (σ.1 0 7)], σ) [] (by decide +kernel) rfl trivial ?_
  exact sy_reti rfl (by decide +kernel) (k1)

set_option maxRecDepth 20000 in
theorem w_x_placeAt {Q : Option Value → sy_S → Prop} {σ : sy_S} {cell : Int32}  (b1 : vp_in cell 16) (k1 : Q (some (.int (σ.1 2 cell.toNatClampNeg))) σ) : sy_E shX mX3_placeAt (0, sy_ent [.ref 0, .int cell] 2, [], σ) Q := by
  show sy_E shX mX3_placeAt (0, [some (.ref 0), some (.int cell)], [], σ) _
  refine sy_bk [(.aload_n 0, 0, 0, 0, 0), (.getfield 15, 3, 1, 0, 0), (.iload_n 1, 0, 0, 0, 0), (.iaload, 0, 0, 0, 0)] (6, [some (.ref 0), some (.int cell)], [.int (σ.1 2 cell.toNatClampNeg)], σ) [sy_okA shX 0 2 cell] (by decide +kernel) rfl ⟨⟨16, _, rfl, b1⟩, trivial⟩ ?_
  exact sy_reti rfl (by decide +kernel) (k1)

set_option maxRecDepth 20000 in
theorem w_x_numberOf {Q : Option Value → sy_S → Prop} {σ : sy_S} {cell : Int32}  (b1 : vp_in cell 16) (k1 : Q (some (.int (σ.1 3 cell.toNatClampNeg))) σ) : sy_E shX mX3_numberOf (0, sy_ent [.ref 0, .int cell] 2, [], σ) Q := by
  show sy_E shX mX3_numberOf (0, [some (.ref 0), some (.int cell)], [], σ) _
  refine sy_bk [(.aload_n 0, 0, 0, 0, 0), (.getfield 18, 3, 2, 0, 0), (.iload_n 1, 0, 0, 0, 0), (.iaload, 0, 0, 0, 0)] (6, [some (.ref 0), some (.int cell)], [.int (σ.1 3 cell.toNatClampNeg)], σ) [sy_okA shX 0 3 cell] (by decide +kernel) rfl ⟨⟨16, _, rfl, b1⟩, trivial⟩ ?_
  exact sy_reti rfl (by decide +kernel) (k1)

set_option maxRecDepth 20000 in
theorem w_x_nextCount {Q : Option Value → sy_S → Prop} {σ : sy_S} {cell : Int32}  (b1 : vp_in cell 16) (k1 : Q (some (.int (σ.1 5 cell.toNatClampNeg))) σ) : sy_E shX mX3_nextCount (0, sy_ent [.ref 0, .int cell] 2, [], σ) Q := by
  show sy_E shX mX3_nextCount (0, [some (.ref 0), some (.int cell)], [], σ) _
  refine sy_bk [(.aload_n 0, 0, 0, 0, 0), (.getfield 24, 3, 4, 0, 0), (.iload_n 1, 0, 0, 0, 0), (.iaload, 0, 0, 0, 0)] (6, [some (.ref 0), some (.int cell)], [.int (σ.1 5 cell.toNatClampNeg)], σ) [sy_okA shX 0 5 cell] (by decide +kernel) rfl ⟨⟨16, _, rfl, b1⟩, trivial⟩ ?_
  exact sy_reti rfl (by decide +kernel) (k1)

set_option maxRecDepth 20000 in
theorem w_x_lossAt {Q : Option Value → sy_S → Prop} {σ : sy_S} {cell : Int32}  (b1 : vp_in cell 16) (k1 : Q (some (.int (4 - (σ.1 5 cell.toNatClampNeg)))) σ) : sy_E shX mX3_lossAt (0, sy_ent [.ref 0, .int cell] 2, [], σ) Q := by
  show sy_E shX mX3_lossAt (0, [some (.ref 0), some (.int cell)], [], σ) _
  refine sy_bk [(.iconst 4, 0, 0, 4, 0), (.aload_n 0, 0, 0, 0, 0), (.getfield 24, 3, 4, 0, 0), (.iload_n 1, 0, 0, 0, 0), (.iaload, 0, 0, 0, 0), (.isub, 0, 0, 0, 0)] (8, [some (.ref 0), some (.int cell)], [.int (4 - (σ.1 5 cell.toNatClampNeg))], σ) [sy_okA shX 0 5 cell] (by decide +kernel) rfl ⟨⟨16, _, rfl, b1⟩, trivial⟩ ?_
  exact sy_reti rfl (by decide +kernel) (k1)

set_option maxRecDepth 20000 in
theorem w_x_nextAt {Q : Option Value → sy_S → Prop} {σ : sy_S} {cell : Int32} {side : Int32}  (b1 : vp_in ((cell * 4) + side) 64) (k1 : Q (some (.int (σ.1 4 (((cell * 4) + side).toNatClampNeg)))) σ) : sy_E shX mX3_nextAt (0, sy_ent [.ref 0, .int cell, .int side] 3, [], σ) Q := by
  show sy_E shX mX3_nextAt (0, [some (.ref 0), some (.int cell), some (.int side)], [], σ) _
  refine sy_bk [(.aload_n 0, 0, 0, 0, 0), (.getfield 21, 3, 3, 0, 0), (.iload_n 1, 0, 0, 0, 0), (.iconst 4, 0, 0, 4, 0), (.imul, 0, 0, 0, 0), (.iload_n 2, 0, 0, 0, 0), (.iadd, 0, 0, 0, 0), (.iaload, 0, 0, 0, 0)] (10, [some (.ref 0), some (.int cell), some (.int side)], [.int (σ.1 4 (((cell * 4) + side).toNatClampNeg))], σ) [sy_okA shX 0 4 ((cell * 4) + side)] (by decide +kernel) rfl ⟨⟨64, _, rfl, b1⟩, trivial⟩ ?_
  exact sy_reti rfl (by decide +kernel) (k1)

set_option maxRecDepth 20000 in
theorem w_x_isCell {Q : Option Value → sy_S → Prop} {σ : sy_S} {cell : Int32}   (k1 : cell < 0 → Q (some (.int 0)) σ) (k2 : ¬ (cell < 0) → ((σ.1 0 5) * (σ.1 0 6)) ≤ cell → Q (some (.int 0)) σ) (k3 : ¬ (cell < 0) → ¬ (((σ.1 0 5) * (σ.1 0 6)) ≤ cell) → Q (some (.int 1)) σ) : sy_E shX mX3_isCell (0, sy_ent [.ref 0, .int cell] 2, [], σ) Q := by
  show sy_E shX mX3_isCell (0, [some (.ref 0), some (.int cell)], [], σ) _
  refine sy_bk [(.iload_n 1, 0, 0, 0, 0)] (1, [some (.ref 0), some (.int cell)], [.int cell], σ) [] (by decide +kernel) rfl trivial ?_
  by_cases c1 : cell < 0
  · refine sy_bk [(.ifCond .lt 20, 1, 21, 0, 0)] (21, [some (.ref 0), some (.int cell)], [], σ) [sy_cc .lt cell 0] (by decide +kernel) rfl ⟨c1, trivial⟩ ?_
    refine sy_bk [(.iconst 0, 0, 0, 0, 0)] (22, [some (.ref 0), some (.int cell)], [.int 0], σ) [] (by decide +kernel) rfl trivial ?_
    exact sy_retz rfl (by decide +kernel) (Or.inl rfl) (k1 c1)
  · refine sy_bk [(.ifCond .lt 20, 0, 21, 0, 0)] (4, [some (.ref 0), some (.int cell)], [], σ) [¬ sy_cc .lt cell 0] (by decide +kernel) rfl ⟨c1, trivial⟩ ?_
    refine sy_bk [(.iload_n 1, 0, 0, 0, 0), (.aload_n 0, 0, 0, 0, 0), (.getfield 31, 3, 5, 0, 0), (.aload_n 0, 0, 0, 0, 0), (.getfield 35, 3, 6, 0, 0), (.imul, 0, 0, 0, 0)] (14, [some (.ref 0), some (.int cell)], [.int ((σ.1 0 5) * (σ.1 0 6)), .int cell], σ) [] (by decide +kernel) rfl trivial ?_
    by_cases c2 : ((σ.1 0 5) * (σ.1 0 6)) ≤ cell
    · refine sy_bk [(.if_icmp .ge 7, 1, 21, 0, 0)] (21, [some (.ref 0), some (.int cell)], [], σ) [sy_cc .ge cell ((σ.1 0 5) * (σ.1 0 6))] (by decide +kernel) rfl ⟨c2, trivial⟩ ?_
      refine sy_bk [(.iconst 0, 0, 0, 0, 0)] (22, [some (.ref 0), some (.int cell)], [.int 0], σ) [] (by decide +kernel) rfl trivial ?_
      exact sy_retz rfl (by decide +kernel) (Or.inl rfl) (k2 c1 c2)
    · refine sy_bk [(.if_icmp .ge 7, 0, 21, 0, 0)] (17, [some (.ref 0), some (.int cell)], [], σ) [¬ sy_cc .ge cell ((σ.1 0 5) * (σ.1 0 6))] (by decide +kernel) rfl ⟨c2, trivial⟩ ?_
      refine sy_bk [(.iconst 1, 0, 0, 1, 0), (.goto 4, 0, 22, 0, 0)] (22, [some (.ref 0), some (.int cell)], [.int 1], σ) [] (by decide +kernel) rfl trivial ?_
      exact sy_retz rfl (by decide +kernel) (Or.inr rfl) (k3 c1 c2)

set_option maxRecDepth 20000 in
theorem w_x_isPlace {Q : Option Value → sy_S → Prop} {σ : sy_S} {cell : Int32}  (b1 : ¬ (cell < 0) → ¬ (((σ.1 0 5) * (σ.1 0 6)) ≤ cell) → vp_in cell 16) (k1 : cell < 0 → Q (some (.int 0)) σ) (k2 : ¬ (cell < 0) → ((σ.1 0 5) * (σ.1 0 6)) ≤ cell → Q (some (.int 0)) σ) (k3 : ¬ (cell < 0) → ¬ (((σ.1 0 5) * (σ.1 0 6)) ≤ cell) → ¬ (σ.1 1 cell.toNatClampNeg) = 0 → Q (some (.int 0)) σ) (k4 : ¬ (cell < 0) → ¬ (((σ.1 0 5) * (σ.1 0 6)) ≤ cell) → ¬ (¬ (σ.1 1 cell.toNatClampNeg) = 0) → Q (some (.int 1)) σ) : sy_E shX mX3_isPlace (0, sy_ent [.ref 0, .int cell] 2, [], σ) Q := by
  show sy_E shX mX3_isPlace (0, [some (.ref 0), some (.int cell)], [], σ) _
  refine sy_bk [(.aload_n 0, 0, 0, 0, 0), (.iload_n 1, 0, 0, 0, 0)] (2, [some (.ref 0), some (.int cell)], [.int cell, .ref 0], σ) [] (by decide +kernel) rfl trivial ?_
  refine sy_callV mX3_isCell 0 [.int cell] [] kX3_isCell jX3_57 (by decide +kernel) rfl rfl (Nat.le_of_ble_eq_true rfl) (Nat.le_of_ble_eq_true rfl) (by decide) rfl ?_
  refine w_x_isCell (σ := σ) (cell := cell) ?_ ?_ ?_
  · intro c1
    show sy_E shX mX3_isPlace (5, [some (.ref 0), some (.int cell)], [.int 0], σ) _
    refine sy_bk [(.ifCond .eq 16, 1, 21, 0, 0), (.iconst 0, 0, 0, 0, 0)] (22, [some (.ref 0), some (.int cell)], [.int 0], σ) [sy_cc .eq 0 0] (by decide +kernel) rfl ⟨(by decide : ((0 : Int32) = 0)), trivial⟩ ?_
    exact sy_retz rfl (by decide +kernel) (Or.inl rfl) (k1 c1)
  · intro c2 c3
    show sy_E shX mX3_isPlace (5, [some (.ref 0), some (.int cell)], [.int 0], σ) _
    refine sy_bk [(.ifCond .eq 16, 1, 21, 0, 0), (.iconst 0, 0, 0, 0, 0)] (22, [some (.ref 0), some (.int cell)], [.int 0], σ) [sy_cc .eq 0 0] (by decide +kernel) rfl ⟨(by decide : ((0 : Int32) = 0)), trivial⟩ ?_
    exact sy_retz rfl (by decide +kernel) (Or.inl rfl) (k2 c2 c3)
  · intro c4 c5
    show sy_E shX mX3_isPlace (5, [some (.ref 0), some (.int cell)], [.int 1], σ) _
    refine sy_bk [(.ifCond .eq 16, 0, 21, 0, 0), (.aload_n 0, 0, 0, 0, 0), (.getfield 9, 3, 0, 0, 0), (.iload_n 1, 0, 0, 0, 0), (.iaload, 0, 0, 0, 0)] (14, [some (.ref 0), some (.int cell)], [.int (σ.1 1 cell.toNatClampNeg)], σ) [¬ sy_cc .eq 1 0, sy_okA shX 0 1 cell] (by decide +kernel) rfl ⟨(by decide : ¬ ((1 : Int32) = 0)), ⟨16, _, rfl, (b1 c4 c5)⟩, trivial⟩ ?_
    by_cases c6 : ¬ (σ.1 1 cell.toNatClampNeg) = 0
    · refine sy_bk [(.ifCond .ne 7, 1, 21, 0, 0)] (21, [some (.ref 0), some (.int cell)], [], σ) [sy_cc .ne (σ.1 1 cell.toNatClampNeg) 0] (by decide +kernel) rfl ⟨c6, trivial⟩ ?_
      refine sy_bk [(.iconst 0, 0, 0, 0, 0)] (22, [some (.ref 0), some (.int cell)], [.int 0], σ) [] (by decide +kernel) rfl trivial ?_
      exact sy_retz rfl (by decide +kernel) (Or.inl rfl) (k3 c4 c5 c6)
    · refine sy_bk [(.ifCond .ne 7, 0, 21, 0, 0)] (17, [some (.ref 0), some (.int cell)], [], σ) [¬ sy_cc .ne (σ.1 1 cell.toNatClampNeg) 0] (by decide +kernel) rfl ⟨c6, trivial⟩ ?_
      refine sy_bk [(.iconst 1, 0, 0, 1, 0), (.goto 4, 0, 22, 0, 0)] (22, [some (.ref 0), some (.int cell)], [.int 1], σ) [] (by decide +kernel) rfl trivial ?_
      exact sy_retz rfl (by decide +kernel) (Or.inr rfl) (k4 c4 c5 c6)

set_option maxRecDepth 20000 in
theorem w_x_spill_0 {Q : Option Value → sy_S → Prop} {σ : sy_S} {k : Nat} {cell : Int32} {times : Int32} (hk : shX[k]? = some (0, 16, [])) (b1 : vp_in cell 16) (k1 : sy_E shX mX3_spill (29, [some (.ref 0), some (.ref k), none, some (.int times), none, some (.int ((cell * 4) + ((sy_up σ.1 k cell.toNatClampNeg ((σ.1 k cell.toNatClampNeg) - (4 * times))) 5 cell.toNatClampNeg))), some (.int (cell * 4))], [], (sy_up σ.1 k cell.toNatClampNeg ((σ.1 k cell.toNatClampNeg) - (4 * times)), σ.2)) Q) : sy_E shX mX3_spill (0, sy_ent [.ref 0, .ref k, .int cell, .int times] 7, [], σ) Q := by
  show sy_E shX mX3_spill (0, [some (.ref 0), some (.ref k), some (.int cell), some (.int times), none, none, none], [], σ) _
  refine sy_bk [(.aload_n 1, 0, 0, 0, 0), (.iload_n 2, 0, 0, 0, 0), (.dup2, 0, 0, 0, 0), (.iaload, 0, 0, 0, 0), (.iconst 4, 0, 0, 4, 0), (.iload_n 3, 0, 0, 0, 0), (.imul, 0, 0, 0, 0), (.isub, 0, 0, 0, 0), (.iastore, 0, 0, 0, 0), (.iload_n 2, 0, 0, 0, 0), (.iconst 4, 0, 0, 4, 0), (.imul, 0, 0, 0, 0), (.istore 4, 0, 0, 0, 0), (.iload 4, 0, 0, 0, 0), (.aload_n 0, 0, 0, 0, 0), (.getfield 24, 3, 4, 0, 0), (.iload_n 2, 0, 0, 0, 0), (.iaload, 0, 0, 0, 0), (.iadd, 0, 0, 0, 0), (.istore 5, 0, 0, 0, 0), (.iload 4, 0, 0, 0, 0), (.istore 6, 0, 0, 0, 0)] (29, [some (.ref 0), some (.ref k), some (.int cell), some (.int times), some (.int (cell * 4)), some (.int ((cell * 4) + ((sy_up σ.1 k cell.toNatClampNeg ((σ.1 k cell.toNatClampNeg) - (4 * times))) 5 cell.toNatClampNeg))), some (.int (cell * 4))], [], (sy_up σ.1 k cell.toNatClampNeg ((σ.1 k cell.toNatClampNeg) - (4 * times)), σ.2)) [sy_okA shX 0 k cell, sy_okA shX 0 k cell, sy_okA shX 0 5 cell] (by decide +kernel) rfl ⟨⟨16, _, hk, b1⟩, ⟨16, _, hk, b1⟩, ⟨16, _, rfl, b1⟩, trivial⟩ ?_
  refine sy_drop [some (.ref 0), some (.ref k), none, some (.int times), none, some (.int ((cell * 4) + ((sy_up σ.1 k cell.toNatClampNeg ((σ.1 k cell.toNatClampNeg) - (4 * times))) 5 cell.toNatClampNeg))), some (.int (cell * 4))] ⟨rfl, rfl, rfl, rfl, rfl, trivial⟩ ?_
  exact k1

set_option maxRecDepth 20000 in
theorem w_x_spill_29 {Q : Option Value → sy_S → Prop} {σ : sy_S} {k : Nat} {times : Int32} {b : Int32} {i : Int32} (hk : shX[k]? = some (0, 16, [])) (b1 : ¬ (b ≤ i) → vp_in i 64) (b2 : ¬ (b ≤ i) → vp_in (σ.1 4 i.toNatClampNeg) 16) (k1 : b ≤ i → Q none σ) (k2 : ¬ (b ≤ i) → sy_E shX mX3_spill (29, [some (.ref 0), some (.ref k), none, some (.int times), none, some (.int b), some (.int (i + 1))], [], (sy_up σ.1 k ((σ.1 4 i.toNatClampNeg).toNatClampNeg) ((σ.1 k ((σ.1 4 i.toNatClampNeg).toNatClampNeg)) + times), σ.2)) Q) : sy_E shX mX3_spill (29, [some (.ref 0), some (.ref k), none, some (.int times), none, some (.int b), some (.int i)], [], σ) Q := by
  refine sy_bk [(.iload 6, 0, 0, 0, 0), (.iload 5, 0, 0, 0, 0)] (33, [some (.ref 0), some (.ref k), none, some (.int times), none, some (.int b), some (.int i)], [.int b, .int i], σ) [] (by decide +kernel) rfl trivial ?_
  by_cases c1 : b ≤ i
  · refine sy_bk [(.if_icmp .ge 22, 1, 55, 0, 0)] (55, [some (.ref 0), some (.ref k), none, some (.int times), none, some (.int b), some (.int i)], [], σ) [sy_cc .ge i b] (by decide +kernel) rfl ⟨c1, trivial⟩ ?_
    exact sy_retv rfl (by decide +kernel) (k1 c1)
  · refine sy_bk [(.if_icmp .ge 22, 0, 55, 0, 0)] (36, [some (.ref 0), some (.ref k), none, some (.int times), none, some (.int b), some (.int i)], [], σ) [¬ sy_cc .ge i b] (by decide +kernel) rfl ⟨c1, trivial⟩ ?_
    refine sy_bk [(.aload_n 1, 0, 0, 0, 0), (.aload_n 0, 0, 0, 0, 0), (.getfield 21, 3, 3, 0, 0), (.iload 6, 0, 0, 0, 0), (.iaload, 0, 0, 0, 0), (.dup2, 0, 0, 0, 0), (.iaload, 0, 0, 0, 0), (.iload_n 3, 0, 0, 0, 0), (.iadd, 0, 0, 0, 0), (.iastore, 0, 0, 0, 0), (.iinc 6 1, 0, 0, 1, 0), (.goto (-23), 0, 29, 0, 0)] (29, [some (.ref 0), some (.ref k), none, some (.int times), none, some (.int b), some (.int (i + 1))], [], (sy_up σ.1 k ((σ.1 4 i.toNatClampNeg).toNatClampNeg) ((σ.1 k ((σ.1 4 i.toNatClampNeg).toNatClampNeg)) + times), σ.2)) [sy_okA shX 0 4 i, sy_okA shX 0 k (σ.1 4 i.toNatClampNeg), sy_okA shX 0 k (σ.1 4 i.toNatClampNeg)] (by decide +kernel) rfl ⟨⟨64, _, rfl, (b1 c1)⟩, ⟨16, _, hk, (b2 c1)⟩, ⟨16, _, hk, (b2 c1)⟩, trivial⟩ ?_
    exact k2 c1

set_option maxRecDepth 20000 in
theorem w_x_grainsOf_0 {Q : Option Value → sy_S → Prop} {σ : sy_S} {k : Nat} (hk : shX[k]? = some (0, 16, []))  (k1 : sy_E shX mX3_grainsOf (4, [some (.ref 0), some (.ref k), some (.int 0), some (.int 0)], [], σ) Q) : sy_E shX mX3_grainsOf (0, sy_ent [.ref 0, .ref k] 4, [], σ) Q := by
  show sy_E shX mX3_grainsOf (0, [some (.ref 0), some (.ref k), none, none], [], σ) _
  refine sy_bk [(.iconst 0, 0, 0, 0, 0), (.istore_n 2, 0, 0, 0, 0), (.iconst 0, 0, 0, 0, 0), (.istore_n 3, 0, 0, 0, 0)] (4, [some (.ref 0), some (.ref k), some (.int 0), some (.int 0)], [], σ) [] (by decide +kernel) rfl trivial ?_
  exact k1

set_option maxRecDepth 20000 in
theorem w_x_grainsOf_4 {Q : Option Value → sy_S → Prop} {σ : sy_S} {k : Nat} {s : Int32} {i : Int32} (hk : shX[k]? = some (0, 16, [])) (b1 : ¬ ((σ.1 0 7) ≤ i) → vp_in i 16) (b2 : ¬ ((σ.1 0 7) ≤ i) → vp_in (σ.1 2 i.toNatClampNeg) 16) (k1 : (σ.1 0 7) ≤ i → Q (some (.int s)) σ) (k2 : ¬ ((σ.1 0 7) ≤ i) → sy_E shX mX3_grainsOf (4, [some (.ref 0), some (.ref k), some (.int (s + (σ.1 k ((σ.1 2 i.toNatClampNeg).toNatClampNeg)))), some (.int (i + 1))], [], σ) Q) : sy_E shX mX3_grainsOf (4, [some (.ref 0), some (.ref k), some (.int s), some (.int i)], [], σ) Q := by
  refine sy_bk [(.iload_n 3, 0, 0, 0, 0), (.aload_n 0, 0, 0, 0, 0), (.getfield 47, 3, 7, 0, 0)] (9, [some (.ref 0), some (.ref k), some (.int s), some (.int i)], [.int (σ.1 0 7), .int i], σ) [] (by decide +kernel) rfl trivial ?_
  by_cases c1 : (σ.1 0 7) ≤ i
  · refine sy_bk [(.if_icmp .ge 20, 1, 29, 0, 0)] (29, [some (.ref 0), some (.ref k), some (.int s), some (.int i)], [], σ) [sy_cc .ge i (σ.1 0 7)] (by decide +kernel) rfl ⟨c1, trivial⟩ ?_
    refine sy_bk [(.iload_n 2, 0, 0, 0, 0)] (30, [some (.ref 0), some (.ref k), some (.int s), some (.int i)], [.int s], σ) [] (by decide +kernel) rfl trivial ?_
    exact sy_reti rfl (by decide +kernel) (k1 c1)
  · refine sy_bk [(.if_icmp .ge 20, 0, 29, 0, 0)] (12, [some (.ref 0), some (.ref k), some (.int s), some (.int i)], [], σ) [¬ sy_cc .ge i (σ.1 0 7)] (by decide +kernel) rfl ⟨c1, trivial⟩ ?_
    refine sy_bk [(.iload_n 2, 0, 0, 0, 0), (.aload_n 1, 0, 0, 0, 0), (.aload_n 0, 0, 0, 0, 0), (.getfield 15, 3, 1, 0, 0), (.iload_n 3, 0, 0, 0, 0), (.iaload, 0, 0, 0, 0), (.iaload, 0, 0, 0, 0), (.iadd, 0, 0, 0, 0), (.istore_n 2, 0, 0, 0, 0), (.iinc 3 1, 0, 0, 1, 0), (.goto (-22), 0, 4, 0, 0)] (4, [some (.ref 0), some (.ref k), some (.int (s + (σ.1 k ((σ.1 2 i.toNatClampNeg).toNatClampNeg)))), some (.int (i + 1))], [], σ) [sy_okA shX 0 2 i, sy_okA shX 0 k (σ.1 2 i.toNatClampNeg)] (by decide +kernel) rfl ⟨⟨16, _, rfl, (b1 c1)⟩, ⟨16, _, hk, (b2 c1)⟩, trivial⟩ ?_
    exact k2 c1

set_option maxRecDepth 20000 in
theorem w_x_isStable_0 {Q : Option Value → sy_S → Prop} {σ : sy_S} {k : Nat} (hk : shX[k]? = some (0, 16, []))  (k1 : sy_E shX mX3_isStable (2, [some (.ref 0), some (.ref k), some (.int 0)], [], σ) Q) : sy_E shX mX3_isStable (0, sy_ent [.ref 0, .ref k] 3, [], σ) Q := by
  show sy_E shX mX3_isStable (0, [some (.ref 0), some (.ref k), none], [], σ) _
  refine sy_bk [(.iconst 0, 0, 0, 0, 0), (.istore_n 2, 0, 0, 0, 0)] (2, [some (.ref 0), some (.ref k), some (.int 0)], [], σ) [] (by decide +kernel) rfl trivial ?_
  exact k1

set_option maxRecDepth 20000 in
theorem w_x_isStable_2 {Q : Option Value → sy_S → Prop} {σ : sy_S} {k : Nat} {i : Int32} (hk : shX[k]? = some (0, 16, [])) (b1 : ¬ ((σ.1 0 7) ≤ i) → vp_in i 16) (b2 : ¬ ((σ.1 0 7) ≤ i) → vp_in (σ.1 2 i.toNatClampNeg) 16) (k1 : (σ.1 0 7) ≤ i → Q (some (.int 1)) σ) (k2 : ¬ ((σ.1 0 7) ≤ i) → (σ.1 k ((σ.1 2 i.toNatClampNeg).toNatClampNeg)) ≤ 3 → sy_E shX mX3_isStable (2, [some (.ref 0), some (.ref k), some (.int (i + 1))], [], σ) Q) (k3 : ¬ ((σ.1 0 7) ≤ i) → ¬ ((σ.1 k ((σ.1 2 i.toNatClampNeg).toNatClampNeg)) ≤ 3) → Q (some (.int 0)) σ) : sy_E shX mX3_isStable (2, [some (.ref 0), some (.ref k), some (.int i)], [], σ) Q := by
  refine sy_bk [(.iload_n 2, 0, 0, 0, 0), (.aload_n 0, 0, 0, 0, 0), (.getfield 47, 3, 7, 0, 0)] (7, [some (.ref 0), some (.ref k), some (.int i)], [.int (σ.1 0 7), .int i], σ) [] (by decide +kernel) rfl trivial ?_
  by_cases c1 : (σ.1 0 7) ≤ i
  · refine sy_bk [(.if_icmp .ge 23, 1, 30, 0, 0)] (30, [some (.ref 0), some (.ref k), some (.int i)], [], σ) [sy_cc .ge i (σ.1 0 7)] (by decide +kernel) rfl ⟨c1, trivial⟩ ?_
    refine sy_bk [(.iconst 1, 0, 0, 1, 0)] (31, [some (.ref 0), some (.ref k), some (.int i)], [.int 1], σ) [] (by decide +kernel) rfl trivial ?_
    exact sy_retz rfl (by decide +kernel) (Or.inr rfl) (k1 c1)
  · refine sy_bk [(.if_icmp .ge 23, 0, 30, 0, 0)] (10, [some (.ref 0), some (.ref k), some (.int i)], [], σ) [¬ sy_cc .ge i (σ.1 0 7)] (by decide +kernel) rfl ⟨c1, trivial⟩ ?_
    refine sy_bk [(.aload_n 1, 0, 0, 0, 0), (.aload_n 0, 0, 0, 0, 0), (.getfield 15, 3, 1, 0, 0), (.iload_n 2, 0, 0, 0, 0), (.iaload, 0, 0, 0, 0), (.iaload, 0, 0, 0, 0), (.iconst 3, 0, 0, 3, 0)] (19, [some (.ref 0), some (.ref k), some (.int i)], [.int 3, .int (σ.1 k ((σ.1 2 i.toNatClampNeg).toNatClampNeg))], σ) [sy_okA shX 0 2 i, sy_okA shX 0 k (σ.1 2 i.toNatClampNeg)] (by decide +kernel) rfl ⟨⟨16, _, rfl, (b1 c1)⟩, ⟨16, _, hk, (b2 c1)⟩, trivial⟩ ?_
    by_cases c2 : (σ.1 k ((σ.1 2 i.toNatClampNeg).toNatClampNeg)) ≤ 3
    · refine sy_bk [(.if_icmp .le 5, 1, 24, 0, 0)] (24, [some (.ref 0), some (.ref k), some (.int i)], [], σ) [sy_cc .le (σ.1 k ((σ.1 2 i.toNatClampNeg).toNatClampNeg)) 3] (by decide +kernel) rfl ⟨c2, trivial⟩ ?_
      refine sy_bk [(.iinc 2 1, 0, 0, 1, 0), (.goto (-25), 0, 2, 0, 0)] (2, [some (.ref 0), some (.ref k), some (.int (i + 1))], [], σ) [] (by decide +kernel) rfl trivial ?_
      exact k2 c1 c2
    · refine sy_bk [(.if_icmp .le 5, 0, 24, 0, 0)] (22, [some (.ref 0), some (.ref k), some (.int i)], [], σ) [¬ sy_cc .le (σ.1 k ((σ.1 2 i.toNatClampNeg).toNatClampNeg)) 3] (by decide +kernel) rfl ⟨c2, trivial⟩ ?_
      refine sy_bk [(.iconst 0, 0, 0, 0, 0)] (23, [some (.ref 0), some (.ref k), some (.int i)], [.int 0], σ) [] (by decide +kernel) rfl trivial ?_
      exact sy_retz rfl (by decide +kernel) (Or.inl rfl) (k3 c1 c2)

set_option maxRecDepth 20000 in
theorem w_x_pack_0 {Q : Option Value → sy_S → Prop} {σ : sy_S} {k : Nat} (hk : shX[k]? = some (0, 16, []))  (k1 : sy_E shX mX3_pack (9, [some (.ref 0), some (.ref k), some (.int 0), some (.int ((σ.1 0 7) - 1))], [], σ) Q) : sy_E shX mX3_pack (0, sy_ent [.ref 0, .ref k] 4, [], σ) Q := by
  show sy_E shX mX3_pack (0, [some (.ref 0), some (.ref k), none, none], [], σ) _
  refine sy_bk [(.iconst 0, 0, 0, 0, 0), (.istore_n 2, 0, 0, 0, 0), (.aload_n 0, 0, 0, 0, 0), (.getfield 47, 3, 7, 0, 0), (.iconst 1, 0, 0, 1, 0), (.isub, 0, 0, 0, 0), (.istore_n 3, 0, 0, 0, 0)] (9, [some (.ref 0), some (.ref k), some (.int 0), some (.int ((σ.1 0 7) - 1))], [], σ) [] (by decide +kernel) rfl trivial ?_
  exact k1

set_option maxRecDepth 20000 in
theorem w_x_pack_9 {Q : Option Value → sy_S → Prop} {σ : sy_S} {k : Nat} {s : Int32} {i : Int32} (hk : shX[k]? = some (0, 16, [])) (b1 : ¬ (i < 0) → vp_in i 16) (b2 : ¬ (i < 0) → vp_in (σ.1 2 i.toNatClampNeg) 16) (k1 : i < 0 → Q (some (.int s)) σ) (k2 : ¬ (i < 0) → sy_E shX mX3_pack (9, [some (.ref 0), some (.ref k), some (.int ((s <<< (2 &&& 31)) ||| (σ.1 k ((σ.1 2 i.toNatClampNeg).toNatClampNeg)))), some (.int (i + (-1)))], [], σ) Q) : sy_E shX mX3_pack (9, [some (.ref 0), some (.ref k), some (.int s), some (.int i)], [], σ) Q := by
  refine sy_bk [(.iload_n 3, 0, 0, 0, 0)] (10, [some (.ref 0), some (.ref k), some (.int s), some (.int i)], [.int i], σ) [] (by decide +kernel) rfl trivial ?_
  by_cases c1 : i < 0
  · refine sy_bk [(.ifCond .lt 22, 1, 32, 0, 0)] (32, [some (.ref 0), some (.ref k), some (.int s), some (.int i)], [], σ) [sy_cc .lt i 0] (by decide +kernel) rfl ⟨c1, trivial⟩ ?_
    refine sy_bk [(.iload_n 2, 0, 0, 0, 0)] (33, [some (.ref 0), some (.ref k), some (.int s), some (.int i)], [.int s], σ) [] (by decide +kernel) rfl trivial ?_
    exact sy_reti rfl (by decide +kernel) (k1 c1)
  · refine sy_bk [(.ifCond .lt 22, 0, 32, 0, 0)] (13, [some (.ref 0), some (.ref k), some (.int s), some (.int i)], [], σ) [¬ sy_cc .lt i 0] (by decide +kernel) rfl ⟨c1, trivial⟩ ?_
    refine sy_bk [(.iload_n 2, 0, 0, 0, 0), (.iconst 2, 0, 0, 2, 0), (.ishl, 0, 0, 0, 0), (.aload_n 1, 0, 0, 0, 0), (.aload_n 0, 0, 0, 0, 0), (.getfield 15, 3, 1, 0, 0), (.iload_n 3, 0, 0, 0, 0), (.iaload, 0, 0, 0, 0), (.iaload, 0, 0, 0, 0), (.ior, 0, 0, 0, 0), (.istore_n 2, 0, 0, 0, 0), (.iinc 3 (-1), 0, 0, (-1), 0), (.goto (-20), 0, 9, 0, 0)] (9, [some (.ref 0), some (.ref k), some (.int ((s <<< (2 &&& 31)) ||| (σ.1 k ((σ.1 2 i.toNatClampNeg).toNatClampNeg)))), some (.int (i + (-1)))], [], σ) [sy_okA shX 0 2 i, sy_okA shX 0 k (σ.1 2 i.toNatClampNeg)] (by decide +kernel) rfl ⟨⟨16, _, rfl, (b1 c1)⟩, ⟨16, _, hk, (b2 c1)⟩, trivial⟩ ?_
    exact k2 c1

set_option maxRecDepth 20000 in
theorem w_x_unpack_0 {Q : Option Value → sy_S → Prop} {σ : sy_S} {k : Nat} {code : Int32} (hk : shX[k]? = some (0, 16, []))  (k1 : sy_E shX mX3_unpack (5, [some (.ref 0), none, some (.ref k), some (.int code), some (.int 0)], [], σ) Q) : sy_E shX mX3_unpack (0, sy_ent [.ref 0, .int code, .ref k] 5, [], σ) Q := by
  show sy_E shX mX3_unpack (0, [some (.ref 0), some (.int code), some (.ref k), none, none], [], σ) _
  refine sy_bk [(.iload_n 1, 0, 0, 0, 0), (.istore_n 3, 0, 0, 0, 0), (.iconst 0, 0, 0, 0, 0), (.istore 4, 0, 0, 0, 0)] (5, [some (.ref 0), some (.int code), some (.ref k), some (.int code), some (.int 0)], [], σ) [] (by decide +kernel) rfl trivial ?_
  refine sy_drop [some (.ref 0), none, some (.ref k), some (.int code), some (.int 0)] ⟨rfl, rfl, rfl, rfl, trivial⟩ ?_
  exact k1

set_option maxRecDepth 20000 in
theorem w_x_unpack_5 {Q : Option Value → sy_S → Prop} {σ : sy_S} {k : Nat} {s : Int32} {i : Int32} (hk : shX[k]? = some (0, 16, [])) (b1 : ¬ ((σ.1 0 7) ≤ i) → vp_in i 16) (b2 : ¬ ((σ.1 0 7) ≤ i) → vp_in (σ.1 2 i.toNatClampNeg) 16) (k1 : (σ.1 0 7) ≤ i → Q none σ) (k2 : ¬ ((σ.1 0 7) ≤ i) → sy_E shX mX3_unpack (5, [some (.ref 0), none, some (.ref k), some (.int ((s.toUInt32 >>> (Int32.toUInt32 2 &&& Int32.toUInt32 31)).toInt32)), some (.int (i + 1))], [], (sy_up σ.1 k ((σ.1 2 i.toNatClampNeg).toNatClampNeg) (s &&& 3), σ.2)) Q) : sy_E shX mX3_unpack (5, [some (.ref 0), none, some (.ref k), some (.int s), some (.int i)], [], σ) Q := by
  refine sy_bk [(.iload 4, 0, 0, 0, 0), (.aload_n 0, 0, 0, 0, 0), (.getfield 47, 3, 7, 0, 0)] (11, [some (.ref 0), none, some (.ref k), some (.int s), some (.int i)], [.int (σ.1 0 7), .int i], σ) [] (by decide +kernel) rfl trivial ?_
  by_cases c1 : (σ.1 0 7) ≤ i
  · refine sy_bk [(.if_icmp .ge 25, 1, 36, 0, 0)] (36, [some (.ref 0), none, some (.ref k), some (.int s), some (.int i)], [], σ) [sy_cc .ge i (σ.1 0 7)] (by decide +kernel) rfl ⟨c1, trivial⟩ ?_
    exact sy_retv rfl (by decide +kernel) (k1 c1)
  · refine sy_bk [(.if_icmp .ge 25, 0, 36, 0, 0)] (14, [some (.ref 0), none, some (.ref k), some (.int s), some (.int i)], [], σ) [¬ sy_cc .ge i (σ.1 0 7)] (by decide +kernel) rfl ⟨c1, trivial⟩ ?_
    refine sy_bk [(.aload_n 2, 0, 0, 0, 0), (.aload_n 0, 0, 0, 0, 0), (.getfield 15, 3, 1, 0, 0), (.iload 4, 0, 0, 0, 0), (.iaload, 0, 0, 0, 0), (.iload_n 3, 0, 0, 0, 0), (.iconst 3, 0, 0, 3, 0), (.iand, 0, 0, 0, 0), (.iastore, 0, 0, 0, 0), (.iload_n 3, 0, 0, 0, 0), (.iconst 2, 0, 0, 2, 0), (.iushr, 0, 0, 0, 0), (.istore_n 3, 0, 0, 0, 0), (.iinc 4 1, 0, 0, 1, 0), (.goto (-28), 0, 5, 0, 0)] (5, [some (.ref 0), none, some (.ref k), some (.int ((s.toUInt32 >>> (Int32.toUInt32 2 &&& Int32.toUInt32 31)).toInt32)), some (.int (i + 1))], [], (sy_up σ.1 k ((σ.1 2 i.toNatClampNeg).toNatClampNeg) (s &&& 3), σ.2)) [sy_okA shX 0 2 i, sy_okA shX 0 k (σ.1 2 i.toNatClampNeg)] (by decide +kernel) rfl ⟨⟨16, _, rfl, (b1 c1)⟩, ⟨16, _, hk, (b2 c1)⟩, trivial⟩ ?_
    exact k2 c1

set_option maxRecDepth 20000 in
theorem w_x_begin_0 {Q : Option Value → sy_S → Prop} {σ : sy_S} {k : Nat} (hk : shX[k]? = some (0, 16, []))  (k1 : sy_E shX mJ7_fill_53178 (0, sy_ent [.ref 41, .int 0] 4, [], (sy_cp σ.1 k 40 16, σ.2)) (fun r9 σ9 => sy_E shX mX1_begin (20, [none, none], r9.toList ++ [], σ9) Q)) : sy_E shX mX1_begin (0, sy_ent [.ref 39, .ref k] 2, [], σ) Q := by
  show sy_E shX mX1_begin (0, [some (.ref 39), some (.ref k)], [], σ) _
  refine sy_bk [(.aload_n 1, 0, 0, 0, 0), (.iconst 0, 0, 0, 0, 0), (.aload_n 0, 0, 0, 0, 0), (.getfield 9, 1, 1, 0, 0), (.iconst 0, 0, 0, 0, 0), (.bipush 16, 0, 0, 16, 0)] (9, [some (.ref 39), some (.ref k)], [.int 16, .int 0, .ref 40, .int 0, .ref k], σ) [] (by decide +kernel) rfl trivial ?_
  refine sy_copy [] jX1_22 (by decide +kernel) rfl hk rfl (by decide) (by decide) (Nat.le_of_ble_eq_true rfl) (by decide) (by decide) ?_
  show sy_E shX mX1_begin (12, [some (.ref 39), some (.ref k)], [], (sy_cp σ.1 k 40 16, σ.2)) _
  refine sy_bk [(.aload_n 0, 0, 0, 0, 0), (.getfield 15, 1, 2, 0, 0), (.iconst 0, 0, 0, 0, 0)] (17, [some (.ref 39), some (.ref k)], [.int 0, .ref 41], (sy_cp σ.1 k 40 16, σ.2)) [] (by decide +kernel) rfl trivial ?_
  refine sy_drop [none, none] trivial ?_
  refine sy_callS mJ7_fill_53178 [.ref 41, .int 0] [] kJ7_fill_53178 jX1_28 (by decide +kernel) rfl rfl (Nat.le_of_ble_eq_true rfl) (Nat.le_of_ble_eq_true rfl) (by decide) ?_
  exact k1

set_option maxRecDepth 20000 in
theorem w_x_begin_20 {Q : Option Value → sy_S → Prop} {σ : sy_S}    (k1 : Q none σ) : sy_E shX mX1_begin (20, [none, none], [], σ) Q := by
  exact sy_retv rfl (by decide +kernel) (k1)

set_option maxRecDepth 20000 in
theorem w_x_forget_0 {Q : Option Value → sy_S → Prop} {σ : sy_S}    (k1 : sy_E shX mJ7_fill_53178 (0, sy_ent [.ref 41, .int 0] 4, [], σ) (fun r9 σ9 => sy_E shX mX1_forgetCounts (8, [none], r9.toList ++ [], σ9) Q)) : sy_E shX mX1_forgetCounts (0, sy_ent [.ref 39] 1, [], σ) Q := by
  show sy_E shX mX1_forgetCounts (0, [some (.ref 39)], [], σ) _
  refine sy_bk [(.aload_n 0, 0, 0, 0, 0), (.getfield 15, 1, 2, 0, 0), (.iconst 0, 0, 0, 0, 0)] (5, [some (.ref 39)], [.int 0, .ref 41], σ) [] (by decide +kernel) rfl trivial ?_
  refine sy_drop [none] trivial ?_
  refine sy_callS mJ7_fill_53178 [.ref 41, .int 0] [] kJ7_fill_53178 jX1_28 (by decide +kernel) rfl rfl (Nat.le_of_ble_eq_true rfl) (Nat.le_of_ble_eq_true rfl) (by decide) ?_
  exact k1

set_option maxRecDepth 20000 in
theorem w_x_forget_8 {Q : Option Value → sy_S → Prop} {σ : sy_S}    (k1 : Q none σ) : sy_E shX mX1_forgetCounts (8, [none], [], σ) Q := by
  exact sy_retv rfl (by decide +kernel) (k1)

set_option maxRecDepth 20000 in
theorem w_x_addGrain {Q : Option Value → sy_S → Prop} {σ : sy_S} {cell : Int32}  (b1 : vp_in cell 16) (k1 : Q none (sy_up σ.1 40 cell.toNatClampNeg ((σ.1 40 cell.toNatClampNeg) + 1), σ.2)) : sy_E shX mX1_addGrain (0, sy_ent [.ref 39, .int cell] 2, [], σ) Q := by
  show sy_E shX mX1_addGrain (0, [some (.ref 39), some (.int cell)], [], σ) _
  refine sy_bk [(.aload_n 0, 0, 0, 0, 0), (.getfield 9, 1, 1, 0, 0), (.iload_n 1, 0, 0, 0, 0), (.dup2, 0, 0, 0, 0), (.iaload, 0, 0, 0, 0), (.iconst 1, 0, 0, 1, 0), (.iadd, 0, 0, 0, 0), (.iastore, 0, 0, 0, 0)] (10, [some (.ref 39), some (.int cell)], [], (sy_up σ.1 40 cell.toNatClampNeg ((σ.1 40 cell.toNatClampNeg) + 1), σ.2)) [sy_okA shX 0 40 cell, sy_okA shX 0 40 cell] (by decide +kernel) rfl ⟨⟨16, _, rfl, b1⟩, ⟨16, _, rfl, b1⟩, trivial⟩ ?_
  exact sy_retv rfl (by decide +kernel) (k1)

set_option maxRecDepth 20000 in
theorem w_x_level_0 {Q : Option Value → sy_S → Prop} {σ : sy_S}    (k1 : sy_E shX mX1_level (24, [some (.ref 39), some (.ref 2), some (.int (σ.1 0 7)), some (.int 0), some (.int 1), some (.int 0), none, none, none], [], σ) Q) : sy_E shX mX1_level (0, sy_ent [.ref 39] 9, [], σ) Q := by
  show sy_E shX mX1_level (0, [some (.ref 39), none, none, none, none, none, none, none, none], [], σ) _
  refine sy_bk [(.aload_n 0, 0, 0, 0, 0), (.getfield 18, 1, 0, 0, 0), (.getfield 34, 3, 1, 0, 0), (.astore_n 1, 0, 0, 0, 0), (.aload_n 0, 0, 0, 0, 0), (.getfield 18, 1, 0, 0, 0), (.getfield 39, 3, 7, 0, 0), (.istore_n 2, 0, 0, 0, 0), (.iconst 0, 0, 0, 0, 0), (.istore_n 3, 0, 0, 0, 0), (.iconst 1, 0, 0, 1, 0), (.istore 4, 0, 0, 0, 0), (.iconst 0, 0, 0, 0, 0), (.istore 5, 0, 0, 0, 0)] (24, [some (.ref 39), some (.ref 2), some (.int (σ.1 0 7)), some (.int 0), some (.int 1), some (.int 0), none, none, none], [], σ) [] (by decide +kernel) rfl trivial ?_
  exact k1

set_option maxRecDepth 20000 in
theorem w_x_level_24 {Q : Option Value → sy_S → Prop} {σ : sy_S} {n : Int32} {tot : Int32} {mv : Int32} {sw : Int32}   (k1 : mv = 0 → Q (some (.int tot)) σ) (k2 : ¬ (mv = 0) → 1000000 ≤ sw → Q (some (.int tot)) σ) (k3 : ¬ (mv = 0) → ¬ (1000000 ≤ sw) → sy_E shX mX1_level (42, [some (.ref 39), some (.ref 2), some (.int n), some (.int tot), some (.int 0), some (.int sw), some (.int 0), none, none], [], σ) Q) : sy_E shX mX1_level (24, [some (.ref 39), some (.ref 2), some (.int n), some (.int tot), some (.int mv), some (.int sw), none, none, none], [], σ) Q := by
  refine sy_bk [(.iload 4, 0, 0, 0, 0)] (26, [some (.ref 39), some (.ref 2), some (.int n), some (.int tot), some (.int mv), some (.int sw), none, none, none], [.int mv], σ) [] (by decide +kernel) rfl trivial ?_
  by_cases c1 : mv = 0
  · refine sy_bk [(.ifCond .eq 97, 1, 123, 0, 0)] (123, [some (.ref 39), some (.ref 2), some (.int n), some (.int tot), some (.int mv), some (.int sw), none, none, none], [], σ) [sy_cc .eq mv 0] (by decide +kernel) rfl ⟨c1, trivial⟩ ?_
    refine sy_bk [(.iload_n 3, 0, 0, 0, 0)] (124, [some (.ref 39), some (.ref 2), some (.int n), some (.int tot), some (.int mv), some (.int sw), none, none, none], [.int tot], σ) [] (by decide +kernel) rfl trivial ?_
    exact sy_reti rfl (by decide +kernel) (k1 c1)
  · refine sy_bk [(.ifCond .eq 97, 0, 123, 0, 0)] (29, [some (.ref 39), some (.ref 2), some (.int n), some (.int tot), some (.int mv), some (.int sw), none, none, none], [], σ) [¬ sy_cc .eq mv 0] (by decide +kernel) rfl ⟨c1, trivial⟩ ?_
    refine sy_bk [(.iload 5, 0, 0, 0, 0), (.ldc 43, 0, 0, 1000000, 0)] (33, [some (.ref 39), some (.ref 2), some (.int n), some (.int tot), some (.int mv), some (.int sw), none, none, none], [.int 1000000, .int sw], σ) [] (by decide +kernel) rfl trivial ?_
    by_cases c2 : 1000000 ≤ sw
    · refine sy_bk [(.if_icmp .ge 90, 1, 123, 0, 0)] (123, [some (.ref 39), some (.ref 2), some (.int n), some (.int tot), some (.int mv), some (.int sw), none, none, none], [], σ) [sy_cc .ge sw 1000000] (by decide +kernel) rfl ⟨c2, trivial⟩ ?_
      refine sy_bk [(.iload_n 3, 0, 0, 0, 0)] (124, [some (.ref 39), some (.ref 2), some (.int n), some (.int tot), some (.int mv), some (.int sw), none, none, none], [.int tot], σ) [] (by decide +kernel) rfl trivial ?_
      exact sy_reti rfl (by decide +kernel) (k2 c1 c2)
    · refine sy_bk [(.if_icmp .ge 90, 0, 123, 0, 0)] (36, [some (.ref 39), some (.ref 2), some (.int n), some (.int tot), some (.int mv), some (.int sw), none, none, none], [], σ) [¬ sy_cc .ge sw 1000000] (by decide +kernel) rfl ⟨c2, trivial⟩ ?_
      refine sy_bk [(.iconst 0, 0, 0, 0, 0), (.istore 4, 0, 0, 0, 0), (.iconst 0, 0, 0, 0, 0), (.istore 6, 0, 0, 0, 0)] (42, [some (.ref 39), some (.ref 2), some (.int n), some (.int tot), some (.int 0), some (.int sw), some (.int 0), none, none], [], σ) [] (by decide +kernel) rfl trivial ?_
      exact k3 c1 c2

set_option maxRecDepth 20000 in
theorem w_x_level_42 {Q : Option Value → sy_S → Prop} {σ : sy_S} {n : Int32} {tot : Int32} {mv : Int32} {sw : Int32} {i : Int32}  (b1 : ¬ (n ≤ i) → vp_in i 16) (b2 : ¬ (n ≤ i) → vp_in (σ.1 2 i.toNatClampNeg) 16) (k1 : n ≤ i → sy_E shX mX1_level (24, [some (.ref 39), some (.ref 2), some (.int n), some (.int tot), some (.int mv), some (.int (sw + 1)), none, none, none], [], σ) Q) (k2 : ¬ (n ≤ i) → (σ.1 40 ((σ.1 2 i.toNatClampNeg).toNatClampNeg)) ≤ 3 → sy_E shX mX1_level (42, [some (.ref 39), some (.ref 2), some (.int n), some (.int tot), some (.int mv), some (.int sw), some (.int (i + 1)), none, none], [], σ) Q) (k3 : ¬ (n ≤ i) → ¬ ((σ.1 40 ((σ.1 2 i.toNatClampNeg).toNatClampNeg)) ≤ 3) → sy_E shX mX3_spill (0, sy_ent [.ref 0, .ref 40, .int (σ.1 2 i.toNatClampNeg), .int ((σ.1 40 ((σ.1 2 i.toNatClampNeg).toNatClampNeg)) / 4)] 7, [], σ) (fun r9 σ9 => sy_E shX mX1_level (91, [some (.ref 39), some (.ref 2), some (.int n), some (.int tot), none, some (.int sw), some (.int i), some (.int (σ.1 2 i.toNatClampNeg)), some (.int ((σ.1 40 ((σ.1 2 i.toNatClampNeg).toNatClampNeg)) / 4))], r9.toList ++ [], σ9) Q)) : sy_E shX mX1_level (42, [some (.ref 39), some (.ref 2), some (.int n), some (.int tot), some (.int mv), some (.int sw), some (.int i), none, none], [], σ) Q := by
  refine sy_bk [(.iload 6, 0, 0, 0, 0), (.iload_n 2, 0, 0, 0, 0)] (45, [some (.ref 39), some (.ref 2), some (.int n), some (.int tot), some (.int mv), some (.int sw), some (.int i), none, none], [.int n, .int i], σ) [] (by decide +kernel) rfl trivial ?_
  by_cases c1 : n ≤ i
  · refine sy_bk [(.if_icmp .ge 72, 1, 117, 0, 0)] (117, [some (.ref 39), some (.ref 2), some (.int n), some (.int tot), some (.int mv), some (.int sw), some (.int i), none, none], [], σ) [sy_cc .ge i n] (by decide +kernel) rfl ⟨c1, trivial⟩ ?_
    refine sy_bk [(.iinc 5 1, 0, 0, 1, 0), (.goto (-96), 0, 24, 0, 0)] (24, [some (.ref 39), some (.ref 2), some (.int n), some (.int tot), some (.int mv), some (.int (sw + 1)), some (.int i), none, none], [], σ) [] (by decide +kernel) rfl trivial ?_
    refine sy_drop [some (.ref 39), some (.ref 2), some (.int n), some (.int tot), some (.int mv), some (.int (sw + 1)), none, none, none] ⟨rfl, rfl, rfl, rfl, rfl, rfl, trivial⟩ ?_
    exact k1 c1
  · refine sy_bk [(.if_icmp .ge 72, 0, 117, 0, 0)] (48, [some (.ref 39), some (.ref 2), some (.int n), some (.int tot), some (.int mv), some (.int sw), some (.int i), none, none], [], σ) [¬ sy_cc .ge i n] (by decide +kernel) rfl ⟨c1, trivial⟩ ?_
    refine sy_bk [(.aload_n 1, 0, 0, 0, 0), (.iload 6, 0, 0, 0, 0), (.iaload, 0, 0, 0, 0), (.istore 7, 0, 0, 0, 0), (.aload_n 0, 0, 0, 0, 0), (.getfield 9, 1, 1, 0, 0), (.iload 7, 0, 0, 0, 0), (.iaload, 0, 0, 0, 0), (.iconst 3, 0, 0, 3, 0)] (62, [some (.ref 39), some (.ref 2), some (.int n), some (.int tot), some (.int mv), some (.int sw), some (.int i), some (.int (σ.1 2 i.toNatClampNeg)), none], [.int 3, .int (σ.1 40 ((σ.1 2 i.toNatClampNeg).toNatClampNeg))], σ) [sy_okA shX 0 2 i, sy_okA shX 0 40 (σ.1 2 i.toNatClampNeg)] (by decide +kernel) rfl ⟨⟨16, _, rfl, (b1 c1)⟩, ⟨16, _, rfl, (b2 c1)⟩, trivial⟩ ?_
    by_cases c2 : (σ.1 40 ((σ.1 2 i.toNatClampNeg).toNatClampNeg)) ≤ 3
    · refine sy_bk [(.if_icmp .le 49, 1, 111, 0, 0)] (111, [some (.ref 39), some (.ref 2), some (.int n), some (.int tot), some (.int mv), some (.int sw), some (.int i), some (.int (σ.1 2 i.toNatClampNeg)), none], [], σ) [sy_cc .le (σ.1 40 ((σ.1 2 i.toNatClampNeg).toNatClampNeg)) 3] (by decide +kernel) rfl ⟨c2, trivial⟩ ?_
      refine sy_bk [(.iinc 6 1, 0, 0, 1, 0), (.goto (-72), 0, 42, 0, 0)] (42, [some (.ref 39), some (.ref 2), some (.int n), some (.int tot), some (.int mv), some (.int sw), some (.int (i + 1)), some (.int (σ.1 2 i.toNatClampNeg)), none], [], σ) [] (by decide +kernel) rfl trivial ?_
      refine sy_drop [some (.ref 39), some (.ref 2), some (.int n), some (.int tot), some (.int mv), some (.int sw), some (.int (i + 1)), none, none] ⟨rfl, rfl, rfl, rfl, rfl, rfl, rfl, trivial⟩ ?_
      exact k2 c1 c2
    · refine sy_bk [(.if_icmp .le 49, 0, 111, 0, 0)] (65, [some (.ref 39), some (.ref 2), some (.int n), some (.int tot), some (.int mv), some (.int sw), some (.int i), some (.int (σ.1 2 i.toNatClampNeg)), none], [], σ) [¬ sy_cc .le (σ.1 40 ((σ.1 2 i.toNatClampNeg).toNatClampNeg)) 3] (by decide +kernel) rfl ⟨c2, trivial⟩ ?_
      refine sy_bk [(.aload_n 0, 0, 0, 0, 0), (.getfield 9, 1, 1, 0, 0), (.iload 7, 0, 0, 0, 0), (.iaload, 0, 0, 0, 0), (.iconst 4, 0, 0, 4, 0), (.idiv, 0, 0, 0, 0), (.istore 8, 0, 0, 0, 0), (.aload_n 0, 0, 0, 0, 0), (.getfield 18, 1, 0, 0, 0), (.aload_n 0, 0, 0, 0, 0), (.getfield 9, 1, 1, 0, 0), (.iload 7, 0, 0, 0, 0), (.iload 8, 0, 0, 0, 0)] (88, [some (.ref 39), some (.ref 2), some (.int n), some (.int tot), some (.int mv), some (.int sw), some (.int i), some (.int (σ.1 2 i.toNatClampNeg)), some (.int ((σ.1 40 ((σ.1 2 i.toNatClampNeg).toNatClampNeg)) / 4))], [.int ((σ.1 40 ((σ.1 2 i.toNatClampNeg).toNatClampNeg)) / 4), .int (σ.1 2 i.toNatClampNeg), .ref 40, .ref 0], σ) [sy_okA shX 0 40 (σ.1 2 i.toNatClampNeg), ¬ (4 : Int32) = 0] (by decide +kernel) rfl ⟨⟨16, _, rfl, (b2 c1)⟩, (by decide), trivial⟩ ?_
      refine sy_drop [some (.ref 39), some (.ref 2), some (.int n), some (.int tot), none, some (.int sw), some (.int i), some (.int (σ.1 2 i.toNatClampNeg)), some (.int ((σ.1 40 ((σ.1 2 i.toNatClampNeg).toNatClampNeg)) / 4))] ⟨rfl, rfl, rfl, rfl, rfl, rfl, rfl, rfl, trivial⟩ ?_
      refine sy_callV mX3_spill 0 [.ref 40, .int (σ.1 2 i.toNatClampNeg), .int ((σ.1 40 ((σ.1 2 i.toNatClampNeg).toNatClampNeg)) / 4)] [] kX3_spill jX1_44 (by decide +kernel) rfl rfl (Nat.le_of_ble_eq_true rfl) (Nat.le_of_ble_eq_true rfl) (by decide) rfl ?_
      exact k3 c1 c2

set_option maxRecDepth 20000 in
theorem w_x_level_91 {Q : Option Value → sy_S → Prop} {σ : sy_S} {n : Int32} {tot : Int32} {sw : Int32} {i : Int32} {cell : Int32} {t : Int32}  (b1 : vp_in cell 16) (k1 : sy_E shX mX1_level (42, [some (.ref 39), some (.ref 2), some (.int n), some (.int (tot + t)), some (.int 1), some (.int sw), some (.int (i + 1)), none, none], [], (sy_up σ.1 41 cell.toNatClampNeg ((σ.1 41 cell.toNatClampNeg) + t), σ.2)) Q) : sy_E shX mX1_level (91, [some (.ref 39), some (.ref 2), some (.int n), some (.int tot), none, some (.int sw), some (.int i), some (.int cell), some (.int t)], [], σ) Q := by
  refine sy_bk [(.aload_n 0, 0, 0, 0, 0), (.getfield 15, 1, 2, 0, 0), (.iload 7, 0, 0, 0, 0), (.dup2, 0, 0, 0, 0), (.iaload, 0, 0, 0, 0), (.iload 8, 0, 0, 0, 0), (.iadd, 0, 0, 0, 0), (.iastore, 0, 0, 0, 0), (.iload_n 3, 0, 0, 0, 0), (.iload 8, 0, 0, 0, 0), (.iadd, 0, 0, 0, 0), (.istore_n 3, 0, 0, 0, 0), (.iconst 1, 0, 0, 1, 0), (.istore 4, 0, 0, 0, 0), (.iinc 6 1, 0, 0, 1, 0), (.goto (-72), 0, 42, 0, 0)] (42, [some (.ref 39), some (.ref 2), some (.int n), some (.int (tot + t)), some (.int 1), some (.int sw), some (.int (i + 1)), some (.int cell), some (.int t)], [], (sy_up σ.1 41 cell.toNatClampNeg ((σ.1 41 cell.toNatClampNeg) + t), σ.2)) [sy_okA shX 0 41 cell, sy_okA shX 0 41 cell] (by decide +kernel) rfl ⟨⟨16, _, rfl, b1⟩, ⟨16, _, rfl, b1⟩, trivial⟩ ?_
  refine sy_drop [some (.ref 39), some (.ref 2), some (.int n), some (.int (tot + t)), some (.int 1), some (.int sw), some (.int (i + 1)), none, none] ⟨rfl, rfl, rfl, rfl, rfl, rfl, rfl, trivial⟩ ?_
  exact k1

set_option maxRecDepth 20000 in
theorem w_x_ready_0 {Q : Option Value → sy_S → Prop} {σ : sy_S}    (k1 : sy_E shX mX1_readyBits (4, [some (.ref 39), some (.int 0), some (.int 0), none], [], σ) Q) : sy_E shX mX1_readyBits (0, sy_ent [.ref 39] 4, [], σ) Q := by
  show sy_E shX mX1_readyBits (0, [some (.ref 39), none, none, none], [], σ) _
  refine sy_bk [(.iconst 0, 0, 0, 0, 0), (.istore_n 1, 0, 0, 0, 0), (.iconst 0, 0, 0, 0, 0), (.istore_n 2, 0, 0, 0, 0)] (4, [some (.ref 39), some (.int 0), some (.int 0), none], [], σ) [] (by decide +kernel) rfl trivial ?_
  exact k1

set_option maxRecDepth 20000 in
theorem w_x_ready_4 {Q : Option Value → sy_S → Prop} {σ : sy_S} {s : Int32} {i : Int32}  (b1 : ¬ ((σ.1 0 7) ≤ i) → vp_in i 16) (b2 : ¬ ((σ.1 0 7) ≤ i) → vp_in (σ.1 2 i.toNatClampNeg) 16) (k1 : (σ.1 0 7) ≤ i → Q (some (.int s)) σ) (k2 : ¬ ((σ.1 0 7) ≤ i) → (σ.1 40 ((σ.1 2 i.toNatClampNeg).toNatClampNeg)) ≤ 3 → sy_E shX mX1_readyBits (4, [some (.ref 39), some (.int s), some (.int (i + 1)), none], [], σ) Q) (k3 : ¬ ((σ.1 0 7) ≤ i) → ¬ ((σ.1 40 ((σ.1 2 i.toNatClampNeg).toNatClampNeg)) ≤ 3) → sy_E shX mX1_readyBits (4, [some (.ref 39), some (.int (s ||| (1 <<< ((σ.1 2 i.toNatClampNeg) &&& 31)))), some (.int (i + 1)), none], [], σ) Q) : sy_E shX mX1_readyBits (4, [some (.ref 39), some (.int s), some (.int i), none], [], σ) Q := by
  refine sy_bk [(.iload_n 2, 0, 0, 0, 0), (.aload_n 0, 0, 0, 0, 0), (.getfield 18, 1, 0, 0, 0)] (9, [some (.ref 39), some (.int s), some (.int i), none], [.ref 0, .int i], σ) [] (by decide +kernel) rfl trivial ?_
  refine sy_callV mX3_placeCount 0 [] [.int i] kX3_placeCount jX1_52 (by decide +kernel) rfl rfl (Nat.le_of_ble_eq_true rfl) (Nat.le_of_ble_eq_true rfl) (by decide) rfl ?_
  refine w_x_placeCount (σ := σ) ?_
  show sy_E shX mX1_readyBits (12, [some (.ref 39), some (.int s), some (.int i), none], [.int (σ.1 0 7), .int i], σ) _
  by_cases c1 : (σ.1 0 7) ≤ i
  · refine sy_bk [(.if_icmp .ge 34, 1, 46, 0, 0)] (46, [some (.ref 39), some (.int s), some (.int i), none], [], σ) [sy_cc .ge i (σ.1 0 7)] (by decide +kernel) rfl ⟨c1, trivial⟩ ?_
    refine sy_bk [(.iload_n 1, 0, 0, 0, 0)] (47, [some (.ref 39), some (.int s), some (.int i), none], [.int s], σ) [] (by decide +kernel) rfl trivial ?_
    exact sy_reti rfl (by decide +kernel) (k1 c1)
  · refine sy_bk [(.if_icmp .ge 34, 0, 46, 0, 0)] (15, [some (.ref 39), some (.int s), some (.int i), none], [], σ) [¬ sy_cc .ge i (σ.1 0 7)] (by decide +kernel) rfl ⟨c1, trivial⟩ ?_
    refine sy_bk [(.aload_n 0, 0, 0, 0, 0), (.getfield 18, 1, 0, 0, 0), (.iload_n 2, 0, 0, 0, 0)] (20, [some (.ref 39), some (.int s), some (.int i), none], [.int i, .ref 0], σ) [] (by decide +kernel) rfl trivial ?_
    refine sy_callV mX3_placeAt 0 [.int i] [] kX3_placeAt jX1_54 (by decide +kernel) rfl rfl (Nat.le_of_ble_eq_true rfl) (Nat.le_of_ble_eq_true rfl) (by decide) rfl ?_
    refine w_x_placeAt (σ := σ) (cell := i) (b1 c1) ?_
    show sy_E shX mX1_readyBits (23, [some (.ref 39), some (.int s), some (.int i), none], [.int (σ.1 2 i.toNatClampNeg)], σ) _
    refine sy_bk [(.istore_n 3, 0, 0, 0, 0), (.aload_n 0, 0, 0, 0, 0), (.getfield 9, 1, 1, 0, 0), (.iload_n 3, 0, 0, 0, 0), (.iaload, 0, 0, 0, 0), (.iconst 3, 0, 0, 3, 0)] (31, [some (.ref 39), some (.int s), some (.int i), some (.int (σ.1 2 i.toNatClampNeg))], [.int 3, .int (σ.1 40 ((σ.1 2 i.toNatClampNeg).toNatClampNeg))], σ) [sy_okA shX 0 40 (σ.1 2 i.toNatClampNeg)] (by decide +kernel) rfl ⟨⟨16, _, rfl, (b2 c1)⟩, trivial⟩ ?_
    by_cases c2 : (σ.1 40 ((σ.1 2 i.toNatClampNeg).toNatClampNeg)) ≤ 3
    · refine sy_bk [(.if_icmp .le 9, 1, 40, 0, 0)] (40, [some (.ref 39), some (.int s), some (.int i), some (.int (σ.1 2 i.toNatClampNeg))], [], σ) [sy_cc .le (σ.1 40 ((σ.1 2 i.toNatClampNeg).toNatClampNeg)) 3] (by decide +kernel) rfl ⟨c2, trivial⟩ ?_
      refine sy_bk [(.iinc 2 1, 0, 0, 1, 0), (.goto (-39), 0, 4, 0, 0)] (4, [some (.ref 39), some (.int s), some (.int (i + 1)), some (.int (σ.1 2 i.toNatClampNeg))], [], σ) [] (by decide +kernel) rfl trivial ?_
      refine sy_drop [some (.ref 39), some (.int s), some (.int (i + 1)), none] ⟨rfl, rfl, rfl, trivial⟩ ?_
      exact k2 c1 c2
    · refine sy_bk [(.if_icmp .le 9, 0, 40, 0, 0)] (34, [some (.ref 39), some (.int s), some (.int i), some (.int (σ.1 2 i.toNatClampNeg))], [], σ) [¬ sy_cc .le (σ.1 40 ((σ.1 2 i.toNatClampNeg).toNatClampNeg)) 3] (by decide +kernel) rfl ⟨c2, trivial⟩ ?_
      refine sy_bk [(.iload_n 1, 0, 0, 0, 0), (.iconst 1, 0, 0, 1, 0), (.iload_n 3, 0, 0, 0, 0), (.ishl, 0, 0, 0, 0), (.ior, 0, 0, 0, 0), (.istore_n 1, 0, 0, 0, 0), (.iinc 2 1, 0, 0, 1, 0), (.goto (-39), 0, 4, 0, 0)] (4, [some (.ref 39), some (.int (s ||| (1 <<< ((σ.1 2 i.toNatClampNeg) &&& 31)))), some (.int (i + 1)), some (.int (σ.1 2 i.toNatClampNeg))], [], σ) [] (by decide +kernel) rfl trivial ?_
      refine sy_drop [some (.ref 39), some (.int (s ||| (1 <<< ((σ.1 2 i.toNatClampNeg) &&& 31)))), some (.int (i + 1)), none] ⟨rfl, rfl, rfl, trivial⟩ ?_
      exact k3 c1 c2

set_option maxRecDepth 20000 in
theorem w_x_inRounds_0 {Q : Option Value → sy_S → Prop} {σ : sy_S}    (k1 : sy_E shX mX1_readyBits (0, sy_ent [.ref 39] 4, [], σ) (fun r9 σ9 => sy_E shX mX1_inRounds (6, [some (.ref 39), some (.int 0), none, none], r9.toList ++ [], σ9) Q)) : sy_E shX mX1_inRounds (0, sy_ent [.ref 39] 4, [], σ) Q := by
  show sy_E shX mX1_inRounds (0, [some (.ref 39), none, none, none], [], σ) _
  refine sy_bk [(.iconst 0, 0, 0, 0, 0), (.istore_n 1, 0, 0, 0, 0), (.aload_n 0, 0, 0, 0, 0)] (3, [some (.ref 39), some (.int 0), none, none], [.ref 39], σ) [] (by decide +kernel) rfl trivial ?_
  refine sy_callV mX1_readyBits 39 [] [] kX1_readyBits jX1_48 (by decide +kernel) rfl rfl (Nat.le_of_ble_eq_true rfl) (Nat.le_of_ble_eq_true rfl) (by decide) rfl ?_
  exact k1

set_option maxRecDepth 20000 in
theorem w_x_inRounds_6 {Q : Option Value → sy_S → Prop} {σ : sy_S} {n : Int32} {rd : Int32}   (k1 : sy_E shX mX1_inRounds (7, [some (.ref 39), some (.int n), some (.int rd), none], [], σ) Q) : sy_E shX mX1_inRounds (6, [some (.ref 39), some (.int n), none, none], [.int rd], σ) Q := by
  refine sy_bk [(.istore_n 2, 0, 0, 0, 0)] (7, [some (.ref 39), some (.int n), some (.int rd), none], [], σ) [] (by decide +kernel) rfl trivial ?_
  exact k1

set_option maxRecDepth 20000 in
theorem w_x_inRounds_7 {Q : Option Value → sy_S → Prop} {σ : sy_S} {n : Int32} {rd : Int32}   (k1 : rd = 0 → Q (some (.int n)) σ) (k2 : ¬ (rd = 0) → 1000000 ≤ n → Q (some (.int n)) σ) (k3 : ¬ (rd = 0) → ¬ (1000000 ≤ n) → sy_E shX mX1_inRounds (19, [some (.ref 39), some (.int n), some (.int rd), some (.int 0)], [], σ) Q) : sy_E shX mX1_inRounds (7, [some (.ref 39), some (.int n), some (.int rd), none], [], σ) Q := by
  refine sy_bk [(.iload_n 2, 0, 0, 0, 0)] (8, [some (.ref 39), some (.int n), some (.int rd), none], [.int rd], σ) [] (by decide +kernel) rfl trivial ?_
  by_cases c1 : rd = 0
  · refine sy_bk [(.ifCond .eq 65, 1, 73, 0, 0)] (73, [some (.ref 39), some (.int n), some (.int rd), none], [], σ) [sy_cc .eq rd 0] (by decide +kernel) rfl ⟨c1, trivial⟩ ?_
    refine sy_bk [(.iload_n 1, 0, 0, 0, 0)] (74, [some (.ref 39), some (.int n), some (.int rd), none], [.int n], σ) [] (by decide +kernel) rfl trivial ?_
    exact sy_reti rfl (by decide +kernel) (k1 c1)
  · refine sy_bk [(.ifCond .eq 65, 0, 73, 0, 0)] (11, [some (.ref 39), some (.int n), some (.int rd), none], [], σ) [¬ sy_cc .eq rd 0] (by decide +kernel) rfl ⟨c1, trivial⟩ ?_
    refine sy_bk [(.iload_n 1, 0, 0, 0, 0), (.ldc 43, 0, 0, 1000000, 0)] (14, [some (.ref 39), some (.int n), some (.int rd), none], [.int 1000000, .int n], σ) [] (by decide +kernel) rfl trivial ?_
    by_cases c2 : 1000000 ≤ n
    · refine sy_bk [(.if_icmp .ge 59, 1, 73, 0, 0)] (73, [some (.ref 39), some (.int n), some (.int rd), none], [], σ) [sy_cc .ge n 1000000] (by decide +kernel) rfl ⟨c2, trivial⟩ ?_
      refine sy_bk [(.iload_n 1, 0, 0, 0, 0)] (74, [some (.ref 39), some (.int n), some (.int rd), none], [.int n], σ) [] (by decide +kernel) rfl trivial ?_
      exact sy_reti rfl (by decide +kernel) (k2 c1 c2)
    · refine sy_bk [(.if_icmp .ge 59, 0, 73, 0, 0)] (17, [some (.ref 39), some (.int n), some (.int rd), none], [], σ) [¬ sy_cc .ge n 1000000] (by decide +kernel) rfl ⟨c2, trivial⟩ ?_
      refine sy_bk [(.iconst 0, 0, 0, 0, 0), (.istore_n 3, 0, 0, 0, 0)] (19, [some (.ref 39), some (.int n), some (.int rd), some (.int 0)], [], σ) [] (by decide +kernel) rfl trivial ?_
      exact k3 c1 c2

set_option maxRecDepth 20000 in
theorem w_x_inRounds_19 {Q : Option Value → sy_S → Prop} {σ : sy_S} {n : Int32} {rd : Int32} {i : Int32}   (k1 : 16 ≤ i → sy_E shX mX1_readyBits (0, sy_ent [.ref 39] 4, [], σ) (fun r9 σ9 => sy_E shX mX1_inRounds (69, [some (.ref 39), some (.int (n + 1)), none, none], r9.toList ++ [], σ9) Q)) (k2 : ¬ (16 ≤ i) → ((rd >>> (i &&& 31)) &&& 1) = 0 → sy_E shX mX1_inRounds (19, [some (.ref 39), some (.int n), some (.int rd), some (.int (i + 1))], [], σ) Q) (k3 : ¬ (16 ≤ i) → ¬ (((rd >>> (i &&& 31)) &&& 1) = 0) → sy_E shX mX3_spill (0, sy_ent [.ref 0, .ref 40, .int i, .int 1] 7, [], σ) (fun r9 σ9 => sy_E shX mX1_inRounds (46, [some (.ref 39), some (.int n), some (.int rd), some (.int i)], r9.toList ++ [], σ9) Q)) : sy_E shX mX1_inRounds (19, [some (.ref 39), some (.int n), some (.int rd), some (.int i)], [], σ) Q := by
  refine sy_bk [(.iload_n 3, 0, 0, 0, 0), (.bipush 16, 0, 0, 16, 0)] (22, [some (.ref 39), some (.int n), some (.int rd), some (.int i)], [.int 16, .int i], σ) [] (by decide +kernel) rfl trivial ?_
  by_cases c1 : 16 ≤ i
  · refine sy_bk [(.if_icmp .ge 40, 1, 62, 0, 0)] (62, [some (.ref 39), some (.int n), some (.int rd), some (.int i)], [], σ) [sy_cc .ge i 16] (by decide +kernel) rfl ⟨c1, trivial⟩ ?_
    refine sy_bk [(.iinc 1 1, 0, 0, 1, 0), (.aload_n 0, 0, 0, 0, 0)] (66, [some (.ref 39), some (.int (n + 1)), some (.int rd), some (.int i)], [.ref 39], σ) [] (by decide +kernel) rfl trivial ?_
    refine sy_drop [some (.ref 39), some (.int (n + 1)), none, none] ⟨rfl, rfl, trivial⟩ ?_
    refine sy_callV mX1_readyBits 39 [] [] kX1_readyBits jX1_48 (by decide +kernel) rfl rfl (Nat.le_of_ble_eq_true rfl) (Nat.le_of_ble_eq_true rfl) (by decide) rfl ?_
    exact k1 c1
  · refine sy_bk [(.if_icmp .ge 40, 0, 62, 0, 0)] (25, [some (.ref 39), some (.int n), some (.int rd), some (.int i)], [], σ) [¬ sy_cc .ge i 16] (by decide +kernel) rfl ⟨c1, trivial⟩ ?_
    refine sy_bk [(.iload_n 2, 0, 0, 0, 0), (.iload_n 3, 0, 0, 0, 0), (.ishr, 0, 0, 0, 0), (.iconst 1, 0, 0, 1, 0), (.iand, 0, 0, 0, 0)] (30, [some (.ref 39), some (.int n), some (.int rd), some (.int i)], [.int ((rd >>> (i &&& 31)) &&& 1)], σ) [] (by decide +kernel) rfl trivial ?_
    by_cases c2 : ((rd >>> (i &&& 31)) &&& 1) = 0
    · refine sy_bk [(.ifCond .eq 26, 1, 56, 0, 0)] (56, [some (.ref 39), some (.int n), some (.int rd), some (.int i)], [], σ) [sy_cc .eq ((rd >>> (i &&& 31)) &&& 1) 0] (by decide +kernel) rfl ⟨c2, trivial⟩ ?_
      refine sy_bk [(.iinc 3 1, 0, 0, 1, 0), (.goto (-40), 0, 19, 0, 0)] (19, [some (.ref 39), some (.int n), some (.int rd), some (.int (i + 1))], [], σ) [] (by decide +kernel) rfl trivial ?_
      exact k2 c1 c2
    · refine sy_bk [(.ifCond .eq 26, 0, 56, 0, 0)] (33, [some (.ref 39), some (.int n), some (.int rd), some (.int i)], [], σ) [¬ sy_cc .eq ((rd >>> (i &&& 31)) &&& 1) 0] (by decide +kernel) rfl ⟨c2, trivial⟩ ?_
      refine sy_bk [(.aload_n 0, 0, 0, 0, 0), (.getfield 18, 1, 0, 0, 0), (.aload_n 0, 0, 0, 0, 0), (.getfield 9, 1, 1, 0, 0), (.iload_n 3, 0, 0, 0, 0), (.iconst 1, 0, 0, 1, 0)] (43, [some (.ref 39), some (.int n), some (.int rd), some (.int i)], [.int 1, .int i, .ref 40, .ref 0], σ) [] (by decide +kernel) rfl trivial ?_
      refine sy_callV mX3_spill 0 [.ref 40, .int i, .int 1] [] kX3_spill jX1_44 (by decide +kernel) rfl rfl (Nat.le_of_ble_eq_true rfl) (Nat.le_of_ble_eq_true rfl) (by decide) rfl ?_
      exact k3 c1 c2

set_option maxRecDepth 20000 in
theorem w_x_inRounds_46 {Q : Option Value → sy_S → Prop} {σ : sy_S} {n : Int32} {rd : Int32} {i : Int32}  (b1 : vp_in i 16) (k1 : sy_E shX mX1_inRounds (19, [some (.ref 39), some (.int n), some (.int rd), some (.int (i + 1))], [], (sy_up σ.1 41 i.toNatClampNeg ((σ.1 41 i.toNatClampNeg) + 1), σ.2)) Q) : sy_E shX mX1_inRounds (46, [some (.ref 39), some (.int n), some (.int rd), some (.int i)], [], σ) Q := by
  refine sy_bk [(.aload_n 0, 0, 0, 0, 0), (.getfield 15, 1, 2, 0, 0), (.iload_n 3, 0, 0, 0, 0), (.dup2, 0, 0, 0, 0), (.iaload, 0, 0, 0, 0), (.iconst 1, 0, 0, 1, 0), (.iadd, 0, 0, 0, 0), (.iastore, 0, 0, 0, 0), (.iinc 3 1, 0, 0, 1, 0), (.goto (-40), 0, 19, 0, 0)] (19, [some (.ref 39), some (.int n), some (.int rd), some (.int (i + 1))], [], (sy_up σ.1 41 i.toNatClampNeg ((σ.1 41 i.toNatClampNeg) + 1), σ.2)) [sy_okA shX 0 41 i, sy_okA shX 0 41 i] (by decide +kernel) rfl ⟨⟨16, _, rfl, b1⟩, ⟨16, _, rfl, b1⟩, trivial⟩ ?_
  exact k1

set_option maxRecDepth 20000 in
theorem w_x_inRounds_69 {Q : Option Value → sy_S → Prop} {σ : sy_S} {n : Int32} {rd : Int32}   (k1 : sy_E shX mX1_inRounds (7, [some (.ref 39), some (.int n), some (.int rd), none], [], σ) Q) : sy_E shX mX1_inRounds (69, [some (.ref 39), some (.int n), none, none], [.int rd], σ) Q := by
  refine sy_bk [(.istore_n 2, 0, 0, 0, 0), (.goto (-63), 0, 7, 0, 0)] (7, [some (.ref 39), some (.int n), some (.int rd), none], [], σ) [] (by decide +kernel) rfl trivial ?_
  exact k1

set_option maxRecDepth 20000 in
theorem w_x_copyTo {Q : Option Value → sy_S → Prop} {σ : sy_S} {k : Nat} (hk : shX[k]? = some (0, 16, []))  (k1 : Q none (sy_cp σ.1 40 k 16, σ.2)) : sy_E shX mX1_copyTo (0, sy_ent [.ref 39, .ref k] 2, [], σ) Q := by
  show sy_E shX mX1_copyTo (0, [some (.ref 39), some (.ref k)], [], σ) _
  refine sy_bk [(.aload_n 0, 0, 0, 0, 0), (.getfield 9, 1, 1, 0, 0), (.iconst 0, 0, 0, 0, 0), (.aload_n 1, 0, 0, 0, 0), (.iconst 0, 0, 0, 0, 0), (.bipush 16, 0, 0, 16, 0)] (9, [some (.ref 39), some (.ref k)], [.int 16, .int 0, .ref k, .int 0, .ref 40], σ) [] (by decide +kernel) rfl trivial ?_
  refine sy_copy [] jX1_22 (by decide +kernel) rfl rfl hk (by decide) (by decide) (Nat.le_of_ble_eq_true rfl) (by decide) (by decide) ?_
  show sy_E shX mX1_copyTo (12, [some (.ref 39), some (.ref k)], [], (sy_cp σ.1 40 k 16, σ.2)) _
  exact sy_retv rfl (by decide +kernel) (k1)

set_option maxRecDepth 20000 in
theorem w_x_code_0 {Q : Option Value → sy_S → Prop} {σ : sy_S}    (k1 : sy_E shX mX3_pack (0, sy_ent [.ref 0, .ref 40] 4, [], σ) (fun r9 σ9 => sy_E shX mX1_code (11, [none], r9.toList ++ [], σ9) Q)) : sy_E shX mX1_code (0, sy_ent [.ref 39] 1, [], σ) Q := by
  show sy_E shX mX1_code (0, [some (.ref 39)], [], σ) _
  refine sy_bk [(.aload_n 0, 0, 0, 0, 0), (.getfield 18, 1, 0, 0, 0), (.aload_n 0, 0, 0, 0, 0), (.getfield 9, 1, 1, 0, 0)] (8, [some (.ref 39)], [.ref 40, .ref 0], σ) [] (by decide +kernel) rfl trivial ?_
  refine sy_drop [none] trivial ?_
  refine sy_callV mX3_pack 0 [.ref 40] [] kX3_pack jX1_62 (by decide +kernel) rfl rfl (Nat.le_of_ble_eq_true rfl) (Nat.le_of_ble_eq_true rfl) (by decide) rfl ?_
  exact k1

set_option maxRecDepth 20000 in
theorem w_x_fgrains_0 {Q : Option Value → sy_S → Prop} {σ : sy_S}    (k1 : sy_E shX mX3_grainsOf (0, sy_ent [.ref 0, .ref 40] 4, [], σ) (fun r9 σ9 => sy_E shX mX1_grains (11, [none], r9.toList ++ [], σ9) Q)) : sy_E shX mX1_grains (0, sy_ent [.ref 39] 1, [], σ) Q := by
  show sy_E shX mX1_grains (0, [some (.ref 39)], [], σ) _
  refine sy_bk [(.aload_n 0, 0, 0, 0, 0), (.getfield 18, 1, 0, 0, 0), (.aload_n 0, 0, 0, 0, 0), (.getfield 9, 1, 1, 0, 0)] (8, [some (.ref 39)], [.ref 40, .ref 0], σ) [] (by decide +kernel) rfl trivial ?_
  refine sy_drop [none] trivial ?_
  refine sy_callV mX3_grainsOf 0 [.ref 40] [] kX3_grainsOf jX1_66 (by decide +kernel) rfl rfl (Nat.le_of_ble_eq_true rfl) (Nat.le_of_ble_eq_true rfl) (by decide) rfl ?_
  exact k1

set_option maxRecDepth 20000 in
theorem w_x_ftoppled_0 {Q : Option Value → sy_S → Prop} {σ : sy_S}    (k1 : sy_E shX mX3_grainsOf (0, sy_ent [.ref 0, .ref 41] 4, [], σ) (fun r9 σ9 => sy_E shX mX1_toppled (11, [none], r9.toList ++ [], σ9) Q)) : sy_E shX mX1_toppled (0, sy_ent [.ref 39] 1, [], σ) Q := by
  show sy_E shX mX1_toppled (0, [some (.ref 39)], [], σ) _
  refine sy_bk [(.aload_n 0, 0, 0, 0, 0), (.getfield 18, 1, 0, 0, 0), (.aload_n 0, 0, 0, 0, 0), (.getfield 15, 1, 2, 0, 0)] (8, [some (.ref 39)], [.ref 41, .ref 0], σ) [] (by decide +kernel) rfl trivial ?_
  refine sy_drop [none] trivial ?_
  refine sy_callV mX3_grainsOf 0 [.ref 41] [] kX3_grainsOf jX1_66 (by decide +kernel) rfl rfl (Nat.le_of_ble_eq_true rfl) (Nat.le_of_ble_eq_true rfl) (by decide) rfl ?_
  exact k1

set_option maxRecDepth 20000 in
theorem w_x_heightAt {Q : Option Value → sy_S → Prop} {σ : sy_S} {cell : Int32}  (b1 : vp_in cell 16) (k1 : Q (some (.int (σ.1 40 cell.toNatClampNeg))) σ) : sy_E shX mX1_heightAt (0, sy_ent [.ref 39, .int cell] 2, [], σ) Q := by
  show sy_E shX mX1_heightAt (0, [some (.ref 39), some (.int cell)], [], σ) _
  refine sy_bk [(.aload_n 0, 0, 0, 0, 0), (.getfield 9, 1, 1, 0, 0), (.iload_n 1, 0, 0, 0, 0), (.iaload, 0, 0, 0, 0)] (6, [some (.ref 39), some (.int cell)], [.int (σ.1 40 cell.toNatClampNeg)], σ) [sy_okA shX 0 40 cell] (by decide +kernel) rfl ⟨⟨16, _, rfl, b1⟩, trivial⟩ ?_
  exact sy_reti rfl (by decide +kernel) (k1)

set_option maxRecDepth 20000 in
theorem w_x_countAt {Q : Option Value → sy_S → Prop} {σ : sy_S} {cell : Int32}  (b1 : vp_in cell 16) (k1 : Q (some (.int (σ.1 41 cell.toNatClampNeg))) σ) : sy_E shX mX1_countAt (0, sy_ent [.ref 39, .int cell] 2, [], σ) Q := by
  show sy_E shX mX1_countAt (0, [some (.ref 39), some (.int cell)], [], σ) _
  refine sy_bk [(.aload_n 0, 0, 0, 0, 0), (.getfield 15, 1, 2, 0, 0), (.iload_n 1, 0, 0, 0, 0), (.iaload, 0, 0, 0, 0)] (6, [some (.ref 39), some (.int cell)], [.int (σ.1 41 cell.toNatClampNeg)], σ) [sy_okA shX 0 41 cell] (by decide +kernel) rfl ⟨⟨16, _, rfl, b1⟩, trivial⟩ ?_
  exact sy_reti rfl (by decide +kernel) (k1)

set_option maxRecDepth 20000 in
theorem w_x_lost_0 {Q : Option Value → sy_S → Prop} {σ : sy_S}    (k1 : sy_E shX mX1_lost (4, [some (.ref 39), some (.int 0), some (.int 0), none], [], σ) Q) : sy_E shX mX1_lost (0, sy_ent [.ref 39] 4, [], σ) Q := by
  show sy_E shX mX1_lost (0, [some (.ref 39), none, none, none], [], σ) _
  refine sy_bk [(.iconst 0, 0, 0, 0, 0), (.istore_n 1, 0, 0, 0, 0), (.iconst 0, 0, 0, 0, 0), (.istore_n 2, 0, 0, 0, 0)] (4, [some (.ref 39), some (.int 0), some (.int 0), none], [], σ) [] (by decide +kernel) rfl trivial ?_
  exact k1

set_option maxRecDepth 20000 in
theorem w_x_lost_4 {Q : Option Value → sy_S → Prop} {σ : sy_S} {s : Int32} {i : Int32}  (b1 : ¬ ((σ.1 0 7) ≤ i) → vp_in i 16) (b2 : ¬ ((σ.1 0 7) ≤ i) → vp_in (σ.1 2 i.toNatClampNeg) 16) (k1 : (σ.1 0 7) ≤ i → Q (some (.int s)) σ) (k2 : ¬ ((σ.1 0 7) ≤ i) → sy_E shX mX1_lost (4, [some (.ref 39), some (.int (s + ((σ.1 41 ((σ.1 2 i.toNatClampNeg).toNatClampNeg)) * (4 - (σ.1 5 (σ.1 2 i.toNatClampNeg).toNatClampNeg))))), some (.int (i + 1)), none], [], σ) Q) : sy_E shX mX1_lost (4, [some (.ref 39), some (.int s), some (.int i), none], [], σ) Q := by
  refine sy_bk [(.iload_n 2, 0, 0, 0, 0), (.aload_n 0, 0, 0, 0, 0), (.getfield 18, 1, 0, 0, 0)] (9, [some (.ref 39), some (.int s), some (.int i), none], [.ref 0, .int i], σ) [] (by decide +kernel) rfl trivial ?_
  refine sy_callV mX3_placeCount 0 [] [.int i] kX3_placeCount jX1_52 (by decide +kernel) rfl rfl (Nat.le_of_ble_eq_true rfl) (Nat.le_of_ble_eq_true rfl) (by decide) rfl ?_
  refine w_x_placeCount (σ := σ) ?_
  show sy_E shX mX1_lost (12, [some (.ref 39), some (.int s), some (.int i), none], [.int (σ.1 0 7), .int i], σ) _
  by_cases c1 : (σ.1 0 7) ≤ i
  · refine sy_bk [(.if_icmp .ge 36, 1, 48, 0, 0)] (48, [some (.ref 39), some (.int s), some (.int i), none], [], σ) [sy_cc .ge i (σ.1 0 7)] (by decide +kernel) rfl ⟨c1, trivial⟩ ?_
    refine sy_bk [(.iload_n 1, 0, 0, 0, 0)] (49, [some (.ref 39), some (.int s), some (.int i), none], [.int s], σ) [] (by decide +kernel) rfl trivial ?_
    exact sy_reti rfl (by decide +kernel) (k1 c1)
  · refine sy_bk [(.if_icmp .ge 36, 0, 48, 0, 0)] (15, [some (.ref 39), some (.int s), some (.int i), none], [], σ) [¬ sy_cc .ge i (σ.1 0 7)] (by decide +kernel) rfl ⟨c1, trivial⟩ ?_
    refine sy_bk [(.aload_n 0, 0, 0, 0, 0), (.getfield 18, 1, 0, 0, 0), (.iload_n 2, 0, 0, 0, 0)] (20, [some (.ref 39), some (.int s), some (.int i), none], [.int i, .ref 0], σ) [] (by decide +kernel) rfl trivial ?_
    refine sy_callV mX3_placeAt 0 [.int i] [] kX3_placeAt jX1_54 (by decide +kernel) rfl rfl (Nat.le_of_ble_eq_true rfl) (Nat.le_of_ble_eq_true rfl) (by decide) rfl ?_
    refine w_x_placeAt (σ := σ) (cell := i) (b1 c1) ?_
    show sy_E shX mX1_lost (23, [some (.ref 39), some (.int s), some (.int i), none], [.int (σ.1 2 i.toNatClampNeg)], σ) _
    refine sy_bk [(.istore_n 3, 0, 0, 0, 0), (.iload_n 1, 0, 0, 0, 0), (.aload_n 0, 0, 0, 0, 0), (.getfield 15, 1, 2, 0, 0), (.iload_n 3, 0, 0, 0, 0), (.iaload, 0, 0, 0, 0), (.aload_n 0, 0, 0, 0, 0), (.getfield 18, 1, 0, 0, 0), (.iload_n 3, 0, 0, 0, 0)] (36, [some (.ref 39), some (.int s), some (.int i), some (.int (σ.1 2 i.toNatClampNeg))], [.int (σ.1 2 i.toNatClampNeg), .ref 0, .int (σ.1 41 ((σ.1 2 i.toNatClampNeg).toNatClampNeg)), .int s], σ) [sy_okA shX 0 41 (σ.1 2 i.toNatClampNeg)] (by decide +kernel) rfl ⟨⟨16, _, rfl, (b2 c1)⟩, trivial⟩ ?_
    refine sy_callV mX3_lossAt 0 [.int (σ.1 2 i.toNatClampNeg)] [.int (σ.1 41 ((σ.1 2 i.toNatClampNeg).toNatClampNeg)), .int s] kX3_lossAt jX1_69 (by decide +kernel) rfl rfl (Nat.le_of_ble_eq_true rfl) (Nat.le_of_ble_eq_true rfl) (by decide) rfl ?_
    refine w_x_lossAt (σ := σ) (cell := (σ.1 2 i.toNatClampNeg)) (b2 c1) ?_
    show sy_E shX mX1_lost (39, [some (.ref 39), some (.int s), some (.int i), some (.int (σ.1 2 i.toNatClampNeg))], [.int (4 - (σ.1 5 (σ.1 2 i.toNatClampNeg).toNatClampNeg)), .int (σ.1 41 ((σ.1 2 i.toNatClampNeg).toNatClampNeg)), .int s], σ) _
    refine sy_bk [(.imul, 0, 0, 0, 0), (.iadd, 0, 0, 0, 0), (.istore_n 1, 0, 0, 0, 0), (.iinc 2 1, 0, 0, 1, 0), (.goto (-41), 0, 4, 0, 0)] (4, [some (.ref 39), some (.int (s + ((σ.1 41 ((σ.1 2 i.toNatClampNeg).toNatClampNeg)) * (4 - (σ.1 5 (σ.1 2 i.toNatClampNeg).toNatClampNeg))))), some (.int (i + 1)), some (.int (σ.1 2 i.toNatClampNeg))], [], σ) [] (by decide +kernel) rfl trivial ?_
    refine sy_drop [some (.ref 39), some (.int (s + ((σ.1 41 ((σ.1 2 i.toNatClampNeg).toNatClampNeg)) * (4 - (σ.1 5 (σ.1 2 i.toNatClampNeg).toNatClampNeg))))), some (.int (i + 1)), none] ⟨rfl, rfl, rfl, trivial⟩ ?_
    exact k2 c1

set_option maxRecDepth 20000 in
theorem w_x_area_0 {Q : Option Value → sy_S → Prop} {σ : sy_S}    (k1 : sy_E shX mX1_area (4, [some (.ref 39), some (.int 0), some (.int 0)], [], σ) Q) : sy_E shX mX1_area (0, sy_ent [.ref 39] 3, [], σ) Q := by
  show sy_E shX mX1_area (0, [some (.ref 39), none, none], [], σ) _
  refine sy_bk [(.iconst 0, 0, 0, 0, 0), (.istore_n 1, 0, 0, 0, 0), (.iconst 0, 0, 0, 0, 0), (.istore_n 2, 0, 0, 0, 0)] (4, [some (.ref 39), some (.int 0), some (.int 0)], [], σ) [] (by decide +kernel) rfl trivial ?_
  exact k1

set_option maxRecDepth 20000 in
theorem w_x_area_4 {Q : Option Value → sy_S → Prop} {σ : sy_S} {s : Int32} {i : Int32}  (b1 : ¬ (16 ≤ i) → vp_in i 16) (k1 : 16 ≤ i → Q (some (.int s)) σ) (k2 : ¬ (16 ≤ i) → (σ.1 41 i.toNatClampNeg) ≤ 0 → sy_E shX mX1_area (4, [some (.ref 39), some (.int s), some (.int (i + 1))], [], σ) Q) (k3 : ¬ (16 ≤ i) → ¬ ((σ.1 41 i.toNatClampNeg) ≤ 0) → sy_E shX mX1_area (4, [some (.ref 39), some (.int (s ||| (1 <<< (i &&& 31)))), some (.int (i + 1))], [], σ) Q) : sy_E shX mX1_area (4, [some (.ref 39), some (.int s), some (.int i)], [], σ) Q := by
  refine sy_bk [(.iload_n 2, 0, 0, 0, 0), (.bipush 16, 0, 0, 16, 0)] (7, [some (.ref 39), some (.int s), some (.int i)], [.int 16, .int i], σ) [] (by decide +kernel) rfl trivial ?_
  by_cases c1 : 16 ≤ i
  · refine sy_bk [(.if_icmp .ge 24, 1, 31, 0, 0)] (31, [some (.ref 39), some (.int s), some (.int i)], [], σ) [sy_cc .ge i 16] (by decide +kernel) rfl ⟨c1, trivial⟩ ?_
    refine sy_bk [(.iload_n 1, 0, 0, 0, 0)] (32, [some (.ref 39), some (.int s), some (.int i)], [.int s], σ) [] (by decide +kernel) rfl trivial ?_
    exact sy_reti rfl (by decide +kernel) (k1 c1)
  · refine sy_bk [(.if_icmp .ge 24, 0, 31, 0, 0)] (10, [some (.ref 39), some (.int s), some (.int i)], [], σ) [¬ sy_cc .ge i 16] (by decide +kernel) rfl ⟨c1, trivial⟩ ?_
    refine sy_bk [(.aload_n 0, 0, 0, 0, 0), (.getfield 15, 1, 2, 0, 0), (.iload_n 2, 0, 0, 0, 0), (.iaload, 0, 0, 0, 0)] (16, [some (.ref 39), some (.int s), some (.int i)], [.int (σ.1 41 i.toNatClampNeg)], σ) [sy_okA shX 0 41 i] (by decide +kernel) rfl ⟨⟨16, _, rfl, (b1 c1)⟩, trivial⟩ ?_
    by_cases c2 : (σ.1 41 i.toNatClampNeg) ≤ 0
    · refine sy_bk [(.ifCond .le 9, 1, 25, 0, 0)] (25, [some (.ref 39), some (.int s), some (.int i)], [], σ) [sy_cc .le (σ.1 41 i.toNatClampNeg) 0] (by decide +kernel) rfl ⟨c2, trivial⟩ ?_
      refine sy_bk [(.iinc 2 1, 0, 0, 1, 0), (.goto (-24), 0, 4, 0, 0)] (4, [some (.ref 39), some (.int s), some (.int (i + 1))], [], σ) [] (by decide +kernel) rfl trivial ?_
      exact k2 c1 c2
    · refine sy_bk [(.ifCond .le 9, 0, 25, 0, 0)] (19, [some (.ref 39), some (.int s), some (.int i)], [], σ) [¬ sy_cc .le (σ.1 41 i.toNatClampNeg) 0] (by decide +kernel) rfl ⟨c2, trivial⟩ ?_
      refine sy_bk [(.iload_n 1, 0, 0, 0, 0), (.iconst 1, 0, 0, 1, 0), (.iload_n 2, 0, 0, 0, 0), (.ishl, 0, 0, 0, 0), (.ior, 0, 0, 0, 0), (.istore_n 1, 0, 0, 0, 0), (.iinc 2 1, 0, 0, 1, 0), (.goto (-24), 0, 4, 0, 0)] (4, [some (.ref 39), some (.int (s ||| (1 <<< (i &&& 31)))), some (.int (i + 1))], [], σ) [] (by decide +kernel) rfl trivial ?_
      exact k3 c1 c2

set_option maxRecDepth 20000 in
theorem w_x_fcode_r {Q : Option Value → sy_S → Prop} {σ : sy_S} {v : Int32}   (k1 : Q (some (.int v)) σ) : sy_E shX mX1_code (11, [none], [.int v], σ) Q := by
  exact sy_reti rfl (by decide +kernel) (k1)

set_option maxRecDepth 20000 in
theorem w_x_fgrains_r {Q : Option Value → sy_S → Prop} {σ : sy_S} {v : Int32}   (k1 : Q (some (.int v)) σ) : sy_E shX mX1_grains (11, [none], [.int v], σ) Q := by
  exact sy_reti rfl (by decide +kernel) (k1)

set_option maxRecDepth 20000 in
theorem w_x_ftoppled_r {Q : Option Value → sy_S → Prop} {σ : sy_S} {v : Int32}   (k1 : Q (some (.int v)) σ) : sy_E shX mX1_toppled (11, [none], [.int v], σ) Q := by
  exact sy_reti rfl (by decide +kernel) (k1)
end
section
/-! contracts: isPlace, spill, Fall.level -/
abbrev sg_P (G : sg_G) : List Nat := sg_pm G (sg_n G)
theorem sg_P_mem {G : sg_G} {c : Nat} : c ∈ sg_P G ↔ sg_p G c := by
  unfold sg_P sg_pm sg_p
  rw [List.mem_filter, List.mem_range]
  simp
theorem sg_P_at {G : sg_G} {i c : Nat} (h : (sg_P G)[i]? = some c) : sg_p G c := sg_P_mem.mp (List.mem_of_getElem? h)
theorem sg_P_len {G : sg_G} (hG : sg_ok G) : (sg_P G).length ≤ 16 := Nat.le_trans (sg_pm_len G _) (sg_n16 hG)
theorem sg_P_nodup (G : sg_G) : (sg_P G).Nodup := List.Nodup.sublist List.filter_sublist List.nodup_range
/-- σ' is σ but for the cells of l -/
def sx (l : List Nat) (σ σ' : sy_S) : Prop := (∀ q, q ∉ l → σ'.1 q = σ.1 q) ∧ σ'.2 = σ.2
theorem sx.rf {l : List Nat} {σ : sy_S} : sx l σ σ := ⟨fun _ _ => rfl, rfl⟩
theorem sx.tr {l : List Nat} {σ σ' σ'' : sy_S} (a : sx l σ σ') (b : sx l σ' σ'') : sx l σ σ'' := ⟨fun q h => (b.1 q h).trans (a.1 q h), b.2.trans a.2⟩
theorem sx.mono {l l' : List Nat} {σ σ' : sy_S} (a : sx l σ σ') (h : ∀ q, q ∈ l → q ∈ l') : sx l' σ σ' := ⟨fun q hq => a.1 q (fun z => hq (h q z)), a.2⟩
theorem sx.up {l : List Nat} {σ : sy_S} {k i : Nat} {x : Int32} (h : k ∈ l) : sx l σ (sy_up σ.1 k i x, σ.2) := ⟨fun q hq => sy_up_ne _ _ _ (fun e => hq (e ▸ h)), rfl⟩
theorem sx.gx {l : List Nat} {σ σ' : sy_S} {G : sg_G} (a : sx l σ σ') (h : gx G σ.1) (hl : ∀ q, q ∈ l → 6 ≤ q) : gx G σ'.1 := h.frame (fun q hq => a.1 q (fun z => by have := hl q z; omega))
/-- a row of 16 numbers -/
def ar (f : Nat → Nat → Int32) (k : Nat) (H : Nat → Nat) : Prop := ∀ j, j < 16 → f k j = nI (H j)
theorem gx_pl {G : sg_G} {f : Nat → Nat → Int32} (h : gx G f) {i : Nat} (hi : i < (sg_P G).length) : ∃ c, (sg_P G)[i]? = some c ∧ sg_p G c ∧ c < 16 ∧ f 2 i = nI c ∧ (f 2 i).toNatClampNeg = c := by
  have h1 : (sg_P G)[i]? = some (sg_P G)[i] := List.getElem?_eq_getElem hi
  have h2 := sg_P_at h1
  have h3 : (sg_P G)[i] < 16 := Nat.lt_of_lt_of_le h2.1 (sg_n16 h.1)
  have h4 := h.2.2.2.1 i _ h1
  exact ⟨_, h1, h2, h3, h4, by rw [h4]; exact nI_clamp (by omega)⟩
theorem gx_nb {G : sg_G} {f : Nat → Nat → Int32} (h : gx G f) {c : Nat} (hc : c < sg_n G) : f 5 c = nI (sg_nb G c).length ∧ ∀ j o, (sg_nb G c)[j]? = some o → f 4 (4 * c + j) = nI o := ⟨h.2.2.2.2.2.1 c hc, h.2.2.2.2.2.2 c hc⟩
theorem e_x_isPlace {Q : Option Value → sy_S → Prop} {σ : sy_S} {G : sg_G} {cell : Int32} (hg : gx G σ.1) (k1 : ∀ m, cell = nI m → sg_p G m → Q (some (.int 1)) σ) (k0 : (∀ m, m < 16 → cell = nI m → ¬ sg_p G m) → Q (some (.int 0)) σ) : sy_E shX mX3_isPlace (0, sy_ent [.ref 0, .int cell] 2, [], σ) Q := by
  have h16 := sg_n16 hg.1
  have e1 : σ.1 0 5 * σ.1 0 6 = nI (sg_n G) := by rw [hg.2.1.1, hg.2.1.2.1, pk_mul]; rfl
  have hin : ¬ cell < 0 → ¬ σ.1 0 5 * σ.1 0 6 ≤ cell → ∃ m, m < sg_n G ∧ cell = nI m := by
    intro a b
    obtain ⟨j, hj, rfl⟩ := nI_of a
    rw [e1, nI_leI (by omega) hj] at b
    exact ⟨j, by omega, rfl⟩
  refine w_x_isPlace (fun a b => ?_) (fun a => k0 (fun m hm e => ?_)) (fun a b => k0 (fun m hm e hp => ?_)) (fun a b c => k0 (fun m hm e hp => ?_)) (fun a b c => ?_)
  · obtain ⟨m, hm, rfl⟩ := hin a b
    exact vp_in_nI (by omega) (by decide)
  · subst e
    exact absurd a (nI_pos (by omega))
  · subst e
    rw [e1, nI_leI (by omega) (by omega)] at b
    have := hp.1
    omega
  · subst e
    rw [nI_clamp (by omega), hg.2.1.2.2 m hp.1, hp.2] at c
    exact c rfl
  · obtain ⟨m, hm, rfl⟩ := hin a b
    rw [nI_clamp (by omega), hg.2.1.2.2 m hm] at c
    refine k1 m rfl ⟨hm, ?_⟩
    cases h : G.2.2 m <;> simp_all
theorem e_x_spill {Q : Option Value → sy_S → Prop} {σ : sy_S} {G : sg_G} {k c t : Nat} {H : Nat → Nat} (hk : shX[k]? = some (0, 16, [])) (h6 : 6 ≤ k) (hg : gx G σ.1) (hH : ar σ.1 k H) (hc : sg_p G c) (ht : 4 * t ≤ H c) (kk : ∀ σ' : sy_S, sx [k] σ σ' → ar σ'.1 k (sg_tp G H c t) → Q none σ') : sy_E shX mX3_spill (0, sy_ent [.ref 0, .ref k, .int (nI c), .int (nI t)] 7, [], σ) Q := by
  have h16 := sg_n16 hg.1
  have hc16 : c < 16 := Nat.lt_of_lt_of_le hc.1 h16
  have ec : (nI c).toNatClampNeg = c := nI_clamp (by omega)
  obtain ⟨n1, n2⟩ := gx_nb hg hc.1
  have hlen := sg_nb_len G c
  have hnd := sg_nb_nodup hg.1 hc.1
  refine w_x_spill_0 hk (vp_in_nI hc16 (by decide)) ?_
  rw [ec, hH c hc16, nI_lit4, pk_mul, pk_mul, pk_sub (by omega), sy_up_ne _ _ _ (show (5 : Nat) ≠ k by omega), n1, nI_add, Nat.mul_comm c 4]
  have hl := sy_loop (sh := shX) (y := mX3_spill) (Q := Q) (fun i σ' => (29, [some (.ref 0), some (.ref k), none, some (.int (nI t)), none, some (.int (nI (4 * c + (sg_nb G c).length))), some (.int (nI (4 * c + i)))], [], σ')) (fun i σ' => sx [k] σ σ' ∧ ar σ'.1 k (fun j => (if j = c then H j - 4 * t else H j) + if j ∈ (sg_nb G c).take i then t else 0)) (sg_nb G c).length ?_ ?_ 0 (sy_up σ.1 k c (nI (H c - 4 * t)), σ.2) (Nat.zero_le _) ⟨sx.up (List.mem_singleton.mpr rfl), ?_⟩
  · exact hl
  · intro i σ' hi hI ih
    obtain ⟨i1, i2⟩ := hI
    obtain ⟨o, ho⟩ : ∃ o, (sg_nb G c)[i]? = some o := ⟨_, List.getElem?_eq_getElem hi⟩
    have hop := sg_nb_p hg.1 hc.1 (List.mem_of_getElem? ho)
    have ho16 : o < 16 := Nat.lt_of_lt_of_le hop.1.1 h16
    have e4 : σ'.1 4 (4 * c + i) = nI o := by rw [i1.1 4 (by simp; omega)]; exact n2 i o ho
    have ei : (nI (4 * c + i)).toNatClampNeg = 4 * c + i := nI_clamp (by omega)
    have eo : (nI o).toNatClampNeg = o := nI_clamp (by omega)
    have hts : (sg_nb G c).take (i + 1) = (sg_nb G c).take i ++ [o] := by rw [List.take_succ, ho]; rfl
    have hno : o ∉ (sg_nb G c).take i := by
      have h := List.Nodup.sublist (List.take_sublist (i + 1) (sg_nb G c)) hnd
      rw [hts, List.nodup_append] at h
      exact fun q => h.2.2 o q o (List.mem_singleton.mpr rfl) rfl
    refine w_x_spill_29 hk (fun _ => ?_) (fun _ => ?_) (fun q => ?_) (fun _ => ?_)
    · exact vp_in_nI (by omega) (by decide)
    · rw [ei, e4]; exact vp_in_nI ho16 (by decide)
    · exact absurd q (nI_ge (by omega) (by omega))
    · rw [ei, e4, eo, nI_1, i2 o ho16, nI_add]
      refine ih _ ⟨i1.tr (sx.up (List.mem_singleton.mpr rfl)), fun j hj => ?_⟩
      show sy_up σ'.1 k o _ k j = _
      rw [sy_up2, hts]
      by_cases e : j = o
      · subst e
        rw [if_pos ⟨rfl, rfl⟩]
        congr 1
        dsimp only
        rw [if_neg hno, if_pos (List.mem_append_right _ (List.mem_singleton.mpr rfl))]
        omega
      · rw [if_neg (fun q => e q.2), i2 j hj]
        congr 1
        dsimp only
        by_cases m : j ∈ (sg_nb G c).take i
        · rw [if_pos m, if_pos (List.mem_append_left _ m)]
        · rw [if_neg m, if_neg (fun q => (List.mem_append.mp q).elim m (fun q => e (List.mem_singleton.mp q)))]
  · intro σ' hI
    obtain ⟨i1, i2⟩ := hI
    refine w_x_spill_29 hk (fun q => ?_) (fun q => ?_) (fun _ => kk σ' i1 ?_) (fun q => ?_)
    · exact absurd (nI_le (Nat.le_refl _) (by omega)) q
    · exact absurd (nI_le (Nat.le_refl _) (by omega)) q
    · rw [List.take_length] at i2
      exact i2
    · exact absurd (nI_le (Nat.le_refl _) (by omega)) q
  · intro j hj
    show sy_up σ.1 k c (nI (H c - 4 * t)) k j = nI ((if j = c then H j - 4 * t else H j) + if j ∈ (sg_nb G c).take 0 then t else 0)
    rw [sy_up2, List.take_zero, if_neg List.not_mem_nil, Nat.add_zero]
    by_cases e : j = c
    · subst e
      rw [if_pos ⟨rfl, rfl⟩, if_pos rfl]
    · rw [if_neg (fun q => e q.2), if_neg e]
      exact hH j hj
/-- where the fall stands: from h, toppled u, the counts began at c0 -/
def fx (G : sg_G) (h c0 u H : Nat → Nat) (f : Nat → Nat → Int32) : Prop := gx G f ∧ sg_rc G h u H ∧ ar f 40 H ∧ ar f 41 (fun j => c0 j + u j)
theorem e_x_level {Q : Option Value → sy_S → Prop} {σ : sy_S} {G : sg_G} {h c0 : Nat → Nat} (hg : gx G σ.1) (hh : ar σ.1 40 h) (hc : ar σ.1 41 c0) (hB : ∀ j, j < 16 → h j ≤ 10000) (kk : ∀ (σ' : sy_S) (u H : Nat → Nat), sx [40, 41] σ σ' → sg_rc G h u H → (∀ k, sg_p G k → H k ≤ 3) → ar σ'.1 40 H → ar σ'.1 41 (fun j => c0 j + u j) → Q (some (.int (nI (ssum 16 u)))) σ') : sy_E shX mX1_level (0, sy_ent [.ref 39] 9, [], σ) Q := by
  have hG := hg.1
  have h16 := sg_n16 hG
  have hP := sg_P_len hG
  have n7 : ∀ f, gx G f → f 0 7 = nI (sg_P G).length := fun f h => h.2.2.1
  refine w_x_level_0 ?_
  rw [n7 _ hg]
  -- the inner loop
  have inner : ∀ (sw : Nat) (us Hs : Nat → Nat), sg_rc G h us Hs → sw ≤ 480000 → (∀ (σ' : sy_S) (u H : Nat → Nat) (mv : Int32), fx G h c0 u H σ'.1 → sx [40, 41] σ σ' → ((mv = 0 ∧ u = us ∧ ∀ k, sg_p G k → H k ≤ 3) ∨ (mv = 1 ∧ ssum 16 us < ssum 16 u)) → sy_E shX mX1_level (24, [some (.ref 39), some (.ref 2), some (.int (nI (sg_P G).length)), some (.int (nI (ssum 16 u))), some (.int mv), some (.int (nI (sw + 1))), none, none, none], [], σ') Q) → ∀ (i : Nat) (σ' : sy_S) (u H : Nat → Nat) (mv : Int32), i ≤ (sg_P G).length → fx G h c0 u H σ'.1 → sx [40, 41] σ σ' → ((mv = 0 ∧ u = us ∧ ∀ j k, j < i → (sg_P G)[j]? = some k → H k ≤ 3) ∨ (mv = 1 ∧ ssum 16 us < ssum 16 u)) → sy_E shX mX1_level (42, [some (.ref 39), some (.ref 2), some (.int (nI (sg_P G).length)), some (.int (nI (ssum 16 u))), some (.int mv), some (.int (nI sw)), some (.int (nI i)), none, none], [], σ') Q := by
    intro sw us Hs hrs hsw next
    have key : ∀ (d i : Nat) (σ' : sy_S) (u H : Nat → Nat) (mv : Int32), i + d = (sg_P G).length → fx G h c0 u H σ'.1 → sx [40, 41] σ σ' → ((mv = 0 ∧ u = us ∧ ∀ j k, j < i → (sg_P G)[j]? = some k → H k ≤ 3) ∨ (mv = 1 ∧ ssum 16 us < ssum 16 u)) → sy_E shX mX1_level (42, [some (.ref 39), some (.ref 2), some (.int (nI (sg_P G).length)), some (.int (nI (ssum 16 u))), some (.int mv), some (.int (nI sw)), some (.int (nI i)), none, none], [], σ') Q := by
      intro d
      induction d with
      | zero =>
        intro i σ' u H mv hi hf hs hm
        have e : i = (sg_P G).length := hi
        subst e
        refine w_x_level_42 (fun q => ?_) (fun q => ?_) (fun _ => ?_) (fun q => ?_) (fun q => ?_)
        all_goals try (exact absurd (nI_le (Nat.le_refl _) (by omega)) q)
        rw [nI_1]
        refine next σ' u H mv hf hs ?_
        rcases hm with ⟨a, b, c⟩ | hm
        · left
          refine ⟨a, b, fun k hk => ?_⟩
          obtain ⟨j, hj⟩ := List.getElem?_of_mem (sg_P_mem.mpr hk)
          exact c j k (List.getElem?_eq_some_iff.mp hj).1 hj
        · exact Or.inr hm
      | succ d ih =>
        intro i σ' u H mv hi hf hs hm
        have hil : i < (sg_P G).length := by omega
        obtain ⟨f1, f2, f3, f4⟩ := id hf
        obtain ⟨c, p1, p2, p3, p4, p5⟩ := gx_pl f1 hil
        have ei : (nI i).toNatClampNeg = i := nI_clamp (by omega)
        obtain ⟨bd1, bd2⟩ := sg_rc_bd hG f2 hB
        have bH : H c < 2 ^ 31 := Nat.lt_of_le_of_lt (bd1 c p3) (by decide)
        have e40 : σ'.1 40 c = nI (H c) := f3 c p3
        refine w_x_level_42 (fun _ => vp_in_nI (by omega) (by decide)) (fun _ => by rw [ei, p4]; exact vp_in_nI p3 (by decide)) (fun q => ?_) (fun _ q => ?_) (fun _ q => ?_)
        · exact absurd q (nI_ge hil (by omega))
        · rw [ei, p5, e40, show (3 : Int32) = nI 3 from rfl, nI_leI bH (by decide)] at q
          rw [nI_1]
          refine ih (i + 1) σ' u H mv (by omega) hf hs ?_
          rcases hm with ⟨a, b, cc⟩ | hm
          · left
            refine ⟨a, b, fun j k hj hjk => ?_⟩
            by_cases e : j = i
            · subst e
              rw [p1] at hjk
              cases hjk
              exact q
            · exact cc j k (by omega) hjk
          · exact Or.inr hm
        · rw [ei, p5, e40, show (3 : Int32) = nI 3 from rfl, nI_leI bH (by decide)] at q
          rw [ei, p5, p4, e40, nI_lit4, pk_div bH (by decide) (by decide)]
          obtain ⟨t, et⟩ : ∃ t, t = H c / 4 := ⟨_, rfl⟩
          have ht : 4 * t ≤ H c := by rw [et]; exact Nat.mul_div_le _ _
          have ht1 : 1 ≤ t := by omega
          rw [← et]
          refine e_x_spill (H := H) rfl (by decide) f1 f3 p2 ht (fun σ2 g1 g2 => ?_)
          have r2 := sg_rc_tp hG f2 p2 ht
          have ec : (nI c).toNatClampNeg = c := nI_clamp (by omega)
          have e41 : σ2.1 41 c = nI (c0 c + u c) := by rw [g1.1 41 (by decide)]; exact f4 c p3
          have esum : ssum 16 (sg_ad u c t) = ssum 16 u + t := by
            have e : ssum 16 (sg_ad u c t) = ssum 16 (fun j => u j + if j = c then t else 0) := ssum_congr (fun j _ => by unfold sg_ad; by_cases e : j = c <;> simp [e])
            rw [e, ssum_add, ssum_one, if_pos p3]
          refine w_x_level_91 (vp_in_nI p3 (by decide)) ?_
          rw [ec, e41, nI_add, nI_1, nI_add, ← esum]
          have hsx : sx [40, 41] σ2 (sy_up σ2.1 41 c (nI (c0 c + u c + t)), σ2.2) := sx.up (by simp)
          have hs2 : sx [40, 41] σ (sy_up σ2.1 41 c (nI (c0 c + u c + t)), σ2.2) := (hs.tr (g1.mono (by simp))).tr hsx
          refine ih (i + 1) _ (sg_ad u c t) (sg_tp G H c t) 1 (by omega) ⟨hs2.gx hg (by decide), r2, fun j hj => ?_, fun j hj => ?_⟩ hs2 (Or.inr ⟨rfl, ?_⟩)
          · show sy_up σ2.1 41 c (nI (c0 c + u c + t)) 40 j = _
            rw [sy_up2, if_neg (by omega)]
            exact g2 j hj
          · show sy_up σ2.1 41 c (nI (c0 c + u c + t)) 41 j = nI (c0 j + sg_ad u c t j)
            rw [sy_up2]
            by_cases e : j = c
            · subst e
              rw [if_pos ⟨rfl, rfl⟩]
              congr 1
              unfold sg_ad
              rw [if_pos rfl]
              omega
            · rw [if_neg (fun q => e q.2), g1.1 41 (by decide), f4 j hj]
              congr 1
              unfold sg_ad
              rw [if_neg e]
          · rw [esum]
            rcases hm with ⟨-, b, -⟩ | ⟨-, b⟩
            · rw [b]; omega
            · omega
    intro i σ' u H mv hi hf hs hm
    exact key ((sg_P G).length - i) i σ' u H mv (by omega) hf hs hm
  -- the outer loop
  have outer : ∀ (n sw : Nat) (σ' : sy_S) (u H : Nat → Nat) (mv : Int32), fx G h c0 u H σ'.1 → sx [40, 41] σ σ' → ((mv = 0 ∧ ∀ k, sg_p G k → H k ≤ 3) ∨ (mv = 1 ∧ sw ≤ ssum 16 u ∧ 480001 ≤ sw + n)) → sy_E shX mX1_level (24, [some (.ref 39), some (.ref 2), some (.int (nI (sg_P G).length)), some (.int (nI (ssum 16 u))), some (.int mv), some (.int (nI sw)), none, none, none], [], σ') Q := by
    have fin : ∀ (sw : Nat) (σ' : sy_S) (u H : Nat → Nat), fx G h c0 u H σ'.1 → sx [40, 41] σ σ' → (∀ k, sg_p G k → H k ≤ 3) → sy_E shX mX1_level (24, [some (.ref 39), some (.ref 2), some (.int (nI (sg_P G).length)), some (.int (nI (ssum 16 u))), some (.int 0), some (.int (nI sw)), none, none, none], [], σ') Q := by
      intro sw σ' u H hf hs hst
      exact w_x_level_24 (fun _ => kk σ' u H hs hf.2.1 hst hf.2.2.1 hf.2.2.2) (fun q => absurd rfl q) (fun q => absurd rfl q)
    intro n
    induction n with
    | zero =>
      intro sw σ' u H mv hf hs hm
      rcases hm with ⟨rfl, hst⟩ | ⟨-, a, b⟩
      · exact fin sw σ' u H hf hs hst
      · have := (sg_rc_bd hG hf.2.1 hB).2
        exact absurd b (by omega)
    | succ n ih =>
      intro sw σ' u H mv hf hs hm
      rcases hm with ⟨rfl, hst⟩ | ⟨rfl, a, b⟩
      · exact fin sw σ' u H hf hs hst
      · have bd := (sg_rc_bd hG hf.2.1 hB).2
        refine w_x_level_24 (fun q => absurd q (by decide)) (fun _ q => ?_) (fun _ _ => ?_)
        · rw [show (1000000 : Int32) = nI 1000000 from rfl, nI_leI (by decide) (by omega)] at q
          omega
        · refine inner sw u H hf.2.1 (by omega) (fun σ2 u2 H2 mv2 q1 q2 q3 => ?_) 0 σ' u H 0 (Nat.zero_le _) hf hs (Or.inl ⟨rfl, rfl, fun j k hj => absurd hj (Nat.not_lt_zero _)⟩)
          refine ih (sw + 1) σ2 u2 H2 mv2 q1 q2 ?_
          rcases q3 with ⟨a1, -, a3⟩ | ⟨a1, a2⟩
          · exact Or.inl ⟨a1, a3⟩
          · exact Or.inr ⟨a1, by omega, by omega⟩
  have h0 : fx G h c0 (fun _ => 0) h σ.1 := ⟨hg, sg_rc_0 G h, hh, hc⟩
  have := outer 480001 0 σ (fun _ => 0) h 1 h0 sx.rf (Or.inr ⟨rfl, Nat.zero_le _, by omega⟩)
  rw [ssum_zero] at this
  exact this
end
section
/-! ===== Int32 by its bits: bt x i ===== -/
def bt (x : Int32) (i : Nat) : Bool := x.toBitVec.getLsbD i
theorem b_ext {x y : Int32} (h : ∀ i, i < 32 → bt x i = bt y i) : x = y := Int32.toBitVec_inj.mp (BitVec.eq_of_getLsbD_eq (fun i hi => h i hi))
theorem b_or (x y : Int32) (i : Nat) : bt (x ||| y) i = (bt x i || bt y i) := by unfold bt; rw [Int32.toBitVec_or, BitVec.getLsbD_or]
theorem b_and (x y : Int32) (i : Nat) : bt (x &&& y) i = (bt x i && bt y i) := by unfold bt; rw [Int32.toBitVec_and, BitVec.getLsbD_and]
theorem b_xor (x y : Int32) (i : Nat) : bt (x ^^^ y) i = (bt x i ^^ bt y i) := by unfold bt; rw [Int32.toBitVec_xor, BitVec.getLsbD_xor]
theorem b_big {x : Int32} {i : Nat} (h : 32 ≤ i) : bt x i = false := BitVec.getLsbD_of_ge _ _ h
theorem b_255 (i : Nat) : bt 255 i = decide (i < 8) := by
  rcases Nat.lt_or_ge i 32 with h | h
  · exact (by decide +kernel : ∀ i, i < 32 → bt 255 i = decide (i < 8)) i h
  · rw [b_big h, decide_eq_false (by omega)]
theorem b_65535 (i : Nat) : bt 65535 i = decide (i < 16) := by
  rcases Nat.lt_or_ge i 32 with h | h
  · exact (by decide +kernel : ∀ i, i < 32 → bt 65535 i = decide (i < 16)) i h
  · rw [b_big h, decide_eq_false (by omega)]
theorem b_m1 : ∀ i, i < 32 → bt (-1) i = true := by decide +kernel
theorem b_0 (i : Nat) : bt 0 i = false := BitVec.getLsbD_zero
theorem s_l : ∀ n, n < 32 → ((nI n &&& 31).toBitVec.smod 32).toNat = n := by decide +kernel
theorem s_u : ∀ n, n < 32 → (((nI n).toUInt32 &&& Int32.toUInt32 31).toBitVec % 32).toNat = n := by decide +kernel
theorem b_shl (n : Nat) (hn : n < 32) (x : Int32) {i : Nat} (hi : i < 32) : bt (x <<< (nI n &&& 31)) i = (decide (n ≤ i) && bt x (i - n)) := by
  unfold bt
  rw [Int32.toBitVec_shiftLeft]
  show (x.toBitVec <<< ((nI n &&& 31).toBitVec.smod 32).toNat).getLsbD i = _
  rw [s_l n hn, BitVec.getLsbD_shiftLeft]
  rcases Nat.lt_or_ge i n with h | h
  · simp [h, Nat.not_le.mpr h]
  · simp [hi, h, Nat.not_lt.mpr h]
theorem b_ushr (n : Nat) (hn : n < 32) (x : Int32) (i : Nat) : bt ((x.toUInt32 >>> ((nI n).toUInt32 &&& Int32.toUInt32 31)).toInt32) i = bt x (n + i) := by
  show (x.toUInt32 >>> ((nI n).toUInt32 &&& Int32.toUInt32 31)).toBitVec.getLsbD i = x.toUInt32.toBitVec.getLsbD (n + i)
  rw [UInt32.toBitVec_shiftRight]
  show (x.toUInt32.toBitVec >>> (((nI n).toUInt32 &&& Int32.toUInt32 31).toBitVec % 32).toNat).getLsbD i = _
  rw [s_u n hn, BitVec.getLsbD_ushiftRight]
theorem b_sshr (n : Nat) (hn : n < 32) (x : Int32) {i : Nat} (hi : i < 32) : bt (x >>> (nI n &&& 31)) i = if n + i < 32 then bt x (n + i) else bt x 31 := by
  unfold bt
  rw [Int32.toBitVec_shiftRight]
  show (x.toBitVec.sshiftRight ((nI n &&& 31).toBitVec.smod 32).toNat).getLsbD i = _
  rw [s_l n hn, BitVec.getLsbD_sshiftRight, BitVec.msb_eq_getLsbD_last]
  simp [hi]
/-! folds over places; the other contracts of Fall -/
theorem sx_fold {sh : sy_Z} {y : sy_M} {Q : Option Value → sy_S → Prop} (L : List Nat) (cf : List Nat → Nat → sy_Cf) (step : ∀ i c, L[i]? = some c → sy_E sh y (cf (L.take i ++ [c]) (i + 1)) Q → sy_E sh y (cf (L.take i) i) Q) (exit : sy_E sh y (cf L L.length) Q) : sy_E sh y (cf [] 0) Q := by
  have key : ∀ d i, i + d = L.length → sy_E sh y (cf (L.take i) i) Q := by
    intro d
    induction d with
    | zero =>
      intro i h
      have h : i = L.length := h
      subst h
      rw [List.take_length]
      exact exit
    | succ d ih =>
      intro i h
      have hi : i < L.length := by omega
      have h1 : L[i]? = some L[i] := List.getElem?_eq_getElem hi
      refine step i _ h1 ?_
      have h2 := ih (i + 1) (by omega)
      rw [List.take_succ, h1] at h2
      exact h2
  have h := key L.length 0 (by omega)
  rw [List.take_zero] at h
  exact h
def lsum (H : Nat → Nat) (l : List Nat) : Nat := (l.map H).sum
theorem lsum_app (H : Nat → Nat) (l : List Nat) (c : Nat) : lsum H (l ++ [c]) = lsum H l + H c := by simp [lsum]
/-- all of the places together -/
def sg_sum (G : sg_G) (H : Nat → Nat) : Nat := ssum (sg_n G) fun c => if G.2.2 c then 0 else H c
theorem lsum_pm (G : sg_G) (H : Nat → Nat) (m : Nat) : lsum H (sg_pm G m) = ssum m fun c => if G.2.2 c then 0 else H c := by
  induction m with
  | zero => rfl
  | succ m ih =>
    rw [sg_pm_s]
    simp only [ssum]
    rw [← ih]
    cases h : G.2.2 m
    · simp only [Bool.false_eq_true, if_false, lsum_app]
    · simp
def bts (p : Nat → Bool) (l : List Nat) : Int32 := l.foldl (fun s c => if p c then s ||| (1 <<< (nI c &&& 31)) else s) 0
theorem bts_app (p : Nat → Bool) (l : List Nat) (c : Nat) : bts p (l ++ [c]) = if p c then bts p l ||| (1 <<< (nI c &&& 31)) else bts p l := by simp [bts, List.foldl_append]
theorem bts_s (p : Nat → Bool) (m : Nat) : bts p (List.range (m + 1)) = if p m then bts p (List.range m) ||| (1 <<< (nI m &&& 31)) else bts p (List.range m) := by rw [List.range_succ, bts_app]
theorem bts_pm (G : sg_G) (p : Nat → Bool) (m : Nat) : bts p (sg_pm G m) = bts (fun c => !G.2.2 c && p c) (List.range m) := by
  induction m with
  | zero => rfl
  | succ m ih =>
    rw [sg_pm_s, bts_s, ← ih]
    cases h : G.2.2 m
    · simp only [Bool.false_eq_true, if_false, bts_app, Bool.not_false, Bool.true_and]
    · simp
theorem bts_ext {p : Nat → Bool} {m n : Nat} (h : m ≤ n) (hp : ∀ c, m ≤ c → c < n → p c = false) : bts p (List.range n) = bts p (List.range m) := by
  induction n with
  | zero => have : m = 0 := by omega
            subst this; rfl
  | succ n ih =>
    by_cases e : m = n + 1
    · subst e; rfl
    · rw [bts_s, hp n (by omega) (by omega)]
      exact ih (by omega) (fun c h1 h2 => hp c h1 (by omega))
theorem bts_congr {p q : Nat → Bool} {m : Nat} (h : ∀ c, c < m → p c = q c) : bts p (List.range m) = bts q (List.range m) := by
  induction m with
  | zero => rfl
  | succ m ih => rw [bts_s, bts_s, h m (by omega), ih (fun c hc => h c (by omega))]
theorem b_1 : ∀ i, i < 32 → bt 1 i = decide (i = 0) := by decide +kernel
theorem bts_bt (p : Nat → Bool) {m i : Nat} (hm : m ≤ 16) (hi : i < 32) : bt (bts p (List.range m)) i = (decide (i < m) && p i) := by
  induction m with
  | zero => simp [bts, b_0]
  | succ m ih =>
    rw [bts_s]
    have h1 := ih (by omega)
    by_cases hp : p m = true
    · rw [if_pos hp, b_or, h1, b_shl m (by omega) 1 hi]
      by_cases e : i = m
      · subst e
        simp [hp, b_1 0 (by omega)]
      · have : bt 1 (i - m) = decide (i - m = 0) := b_1 _ (by omega)
        rw [this]
        by_cases l : i < m
        · rw [decide_eq_true l, decide_eq_true (show i < m + 1 by omega), decide_eq_false (show ¬ m ≤ i by omega)]
          simp
        · rw [decide_eq_false l, decide_eq_false (show ¬ i < m + 1 by omega), decide_eq_false (show ¬ i - m = 0 by omega)]
          simp
    · rw [if_neg hp, h1]
      by_cases e : i = m
      · subst e
        simp at hp
        simp [hp]
      · by_cases l : i < m
        · rw [decide_eq_true l, decide_eq_true (show i < m + 1 by omega)]
        · rw [decide_eq_false l, decide_eq_false (show ¬ i < m + 1 by omega)]
theorem bts_test (p : Nat → Bool) {m i : Nat} (hm : m ≤ 16) (hi : i < 16) : ((bts p (List.range m) >>> (nI i &&& 31)) &&& 1 = 0) ↔ ¬ (i < m ∧ p i = true) := by
  have e : (bts p (List.range m) >>> (nI i &&& 31)) &&& 1 = if i < m ∧ p i = true then 1 else 0 := by
    apply b_ext
    intro j hj
    rw [b_and, b_1 j hj, b_sshr i (by omega) _ hj]
    by_cases z : j = 0
    · subst z
      rw [if_pos (by omega), bts_bt p hm (by omega)]
      by_cases q : i < m ∧ p i = true
      · rw [if_pos q]
        simp [q.1, q.2, b_1 0 (by omega)]
      · rw [if_neg q, b_0]
        simp only [decide_true, Bool.and_true, Nat.add_zero, Bool.and_eq_false_iff, decide_eq_false_iff_not]
        by_cases l : i < m
        · right
          cases hp : p i
          · rfl
          · exact absurd ⟨l, hp⟩ q
        · exact Or.inl l
    · rw [decide_eq_false z, Bool.and_false]
      split
      · rw [b_1 j hj, decide_eq_false z]
      · rw [b_0]
  rw [e]
  by_cases q : i < m ∧ p i = true
  · rw [if_pos q]
    exact ⟨fun h => absurd h (by decide), fun h => absurd q h⟩
  · rw [if_neg q]
    exact ⟨fun _ => q, fun _ => rfl⟩
theorem bts_zero (p : Nat → Bool) {m : Nat} (hm : m ≤ 16) : bts p (List.range m) = 0 ↔ ∀ i, i < m → p i = false := by
  constructor
  · intro h i hi
    have h1 := bts_bt p hm (show i < 32 by omega)
    rw [h, b_0, decide_eq_true hi] at h1
    simpa using h1.symm
  · intro h
    apply b_ext
    intro i hi
    rw [bts_bt p hm hi, b_0]
    by_cases l : i < m
    · rw [h i l, Bool.and_false]
    · rw [decide_eq_false l]; rfl
end
section
/-! rounds as mathematics; contracts of Fall's other methods -/
def rdy (G : sg_G) (H : Nat → Nat) (i : Nat) : Bool := decide (i < sg_n G) && (!G.2.2 i && decide (3 < H i))
theorem rdy_iff {G : sg_G} {H : Nat → Nat} {i : Nat} : rdy G H i = true ↔ sg_p G i ∧ 3 < H i := by
  unfold rdy sg_p
  simp only [Bool.and_eq_true, decide_eq_true_eq, Bool.not_eq_true']
  exact ⟨fun h => ⟨⟨h.1, h.2.1⟩, h.2.2⟩, fun h => ⟨h.1.1, h.1.2, h.2⟩⟩
/-- a round from H, the cells below i done -/
def rd1 (G : sg_G) (H : Nat → Nat) : Nat → Nat → Nat
  | 0 => H
  | i + 1 => if rdy G H i then sg_tp G (rd1 G H i) i 1 else rd1 G H i
def ru1 (G : sg_G) (H u : Nat → Nat) : Nat → Nat → Nat
  | 0 => u
  | i + 1 => if rdy G H i then sg_ad (ru1 G H u i) i 1 else ru1 G H u i
def rdN (G : sg_G) (H : Nat → Nat) : Nat → Nat → Nat
  | 0 => H
  | n + 1 => rd1 G (rdN G H n) 16
theorem rd1_ge (G : sg_G) (H : Nat → Nat) (i : Nat) : ∀ j, i ≤ j → H j ≤ rd1 G H i j := by
  induction i with
  | zero => intro j _; exact Nat.le_refl _
  | succ i ih =>
    intro j hj
    rw [rd1]
    have h1 := ih j (by omega)
    split
    · unfold sg_tp
      rw [if_neg (show ¬ j = i by omega)]
      omega
    · exact h1
theorem rd1_rc {G : sg_G} (hG : sg_ok G) {h u H : Nat → Nat} (hr : sg_rc G h u H) (i : Nat) : sg_rc G h (ru1 G H u i) (rd1 G H i) := by
  induction i with
  | zero => exact hr
  | succ i ih =>
    rw [rd1, ru1]
    by_cases q : rdy G H i = true
    · rw [if_pos q, if_pos q]
      obtain ⟨p1, p2⟩ := rdy_iff.mp q
      have := rd1_ge G H i i (Nat.le_refl _)
      exact sg_rc_tp hG ih p1 (by omega)
    · rw [if_neg q, if_neg q]
      exact ih
theorem ssum_ad {u : Nat → Nat} {k t : Nat} (h : k < 16) : ssum 16 (sg_ad u k t) = ssum 16 u + t := by
  have e : ssum 16 (sg_ad u k t) = ssum 16 (fun j => u j + if j = k then t else 0) := ssum_congr (fun j _ => by unfold sg_ad; by_cases e : j = k <;> simp [e])
  rw [e, ssum_add, ssum_one, if_pos h]
theorem ru1_sum {G : sg_G} (hG : sg_ok G) {H u : Nat → Nat} (i : Nat) : ssum 16 u ≤ ssum 16 (ru1 G H u i) ∧ ((∃ j, j < i ∧ rdy G H j = true) → ssum 16 u < ssum 16 (ru1 G H u i)) := by
  have h16 := sg_n16 hG
  induction i with
  | zero => exact ⟨Nat.le_refl _, fun ⟨j, hj, _⟩ => absurd hj (Nat.not_lt_zero _)⟩
  | succ i ih =>
    rw [ru1]
    by_cases q : rdy G H i = true
    · rw [if_pos q, ssum_ad (show i < 16 from Nat.lt_of_lt_of_le (rdy_iff.mp q).1.1 h16)]
      exact ⟨by omega, fun _ => by omega⟩
    · rw [if_neg q]
      refine ⟨ih.1, fun ⟨j, hj, hq⟩ => ih.2 ⟨j, ?_, hq⟩⟩
      by_cases e : j = i
      · subst e; exact absurd hq q
      · omega
/-- the rounds come to an end at N -/
def rdE (G : sg_G) (h : Nat → Nat) (N : Nat) : Prop := (∀ m, m < N → ∃ k, sg_p G k ∧ 3 < rdN G h m k) ∧ ∀ k, sg_p G k → rdN G h N k ≤ 3
theorem rdE_one {G : sg_G} {h : Nat → Nat} {N M : Nat} (a : rdE G h N) (b : rdE G h M) : N = M := by
  rcases Nat.lt_trichotomy N M with q | q | q
  · obtain ⟨k, h1, h2⟩ := b.1 N q
    have := a.2 k h1
    omega
  · exact q
  · obtain ⟨k, h1, h2⟩ := a.1 M q
    have := b.2 k h1
    omega
theorem gx_n7 {G : sg_G} {f : Nat → Nat → Int32} (h : gx G f) : f 0 7 = nI (sg_P G).length := h.2.2.1
theorem e_x_grainsOf {Q : Option Value → sy_S → Prop} {σ : sy_S} {G : sg_G} {k : Nat} {H : Nat → Nat} (hk : shX[k]? = some (0, 16, [])) (hg : gx G σ.1) (hH : ar σ.1 k H) (kk : Q (some (.int (nI (sg_sum G H)))) σ) : sy_E shX mX3_grainsOf (0, sy_ent [.ref 0, .ref k] 4, [], σ) Q := by
  have hP := sg_P_len hg.1
  refine w_x_grainsOf_0 hk ?_
  refine sx_fold (sg_P G) (fun l i => (4, [some (.ref 0), some (.ref k), some (.int (nI (lsum H l))), some (.int (nI i))], [], σ)) ?_ ?_
  · intro i c hc ih
    have hi := (List.getElem?_eq_some_iff.mp hc).1
    obtain ⟨c', p1, p2, p3, p4, p5⟩ := gx_pl hg hi
    rw [hc] at p1; cases p1
    have ei : (nI i).toNatClampNeg = i := nI_clamp (by omega)
    refine w_x_grainsOf_4 hk (fun _ => vp_in_nI (by omega) (by decide)) (fun _ => by rw [ei, p4]; exact vp_in_nI p3 (by decide)) (fun q => ?_) (fun _ => ?_)
    · rw [gx_n7 hg] at q; exact absurd q (nI_ge hi (by omega))
    · rw [ei, p5, hH c p3, nI_add, nI_1, ← lsum_app]; exact ih
  · refine w_x_grainsOf_4 hk (fun q => ?_) (fun q => ?_) (fun _ => ?_) (fun q => ?_)
    all_goals try (exact absurd (by rw [gx_n7 hg]; exact nI_le (Nat.le_refl _) (by omega)) q)
    rw [lsum_pm]; exact kk
theorem e_x_isStable {Q : Option Value → sy_S → Prop} {σ : sy_S} {G : sg_G} {k : Nat} {H : Nat → Nat} (hk : shX[k]? = some (0, 16, [])) (hg : gx G σ.1) (hH : ar σ.1 k H) (hB : ∀ j, j < 16 → H j < 2 ^ 31) (k1 : (∀ c, sg_p G c → H c ≤ 3) → Q (some (.int 1)) σ) (k0 : (∃ c, sg_p G c ∧ 3 < H c) → Q (some (.int 0)) σ) : sy_E shX mX3_isStable (0, sy_ent [.ref 0, .ref k] 3, [], σ) Q := by
  have hP := sg_P_len hg.1
  refine w_x_isStable_0 hk ?_
  have hl := sy_loop (sh := shX) (y := mX3_isStable) (Q := Q) (fun i σ' => (2, [some (.ref 0), some (.ref k), some (.int (nI i))], [], σ')) (fun i σ' => σ' = σ ∧ ∀ j c, j < i → (sg_P G)[j]? = some c → H c ≤ 3) (sg_P G).length ?_ ?_ 0 σ (Nat.zero_le _) ⟨rfl, fun j c hj => absurd hj (Nat.not_lt_zero _)⟩
  · exact hl
  · rintro i σ' hi ⟨rfl, hI⟩ ih
    obtain ⟨c, p1, p2, p3, p4, p5⟩ := gx_pl hg hi
    have ei : (nI i).toNatClampNeg = i := nI_clamp (by omega)
    refine w_x_isStable_2 hk (fun _ => vp_in_nI (by omega) (by decide)) (fun _ => by rw [ei, p4]; exact vp_in_nI p3 (by decide)) (fun q => ?_) (fun _ q => ?_) (fun _ q => ?_)
    · rw [gx_n7 hg] at q; exact absurd q (nI_ge hi (by omega))
    · rw [ei, p5, hH c p3, show (3 : Int32) = nI 3 from rfl, nI_leI (hB c p3) (by decide)] at q
      rw [nI_1]
      refine ih σ' ⟨rfl, fun j d hj hd => ?_⟩
      by_cases e : j = i
      · subst e; rw [p1] at hd; cases hd; exact q
      · exact hI j d (by omega) hd
    · rw [ei, p5, hH c p3, show (3 : Int32) = nI 3 from rfl, nI_leI (hB c p3) (by decide)] at q
      exact k0 ⟨c, p2, by omega⟩
  · rintro σ' ⟨rfl, hI⟩
    refine w_x_isStable_2 hk (fun q => ?_) (fun q => ?_) (fun _ => ?_) (fun q => ?_) (fun q => ?_)
    all_goals try (exact absurd (by rw [gx_n7 hg]; exact nI_le (Nat.le_refl _) (by omega)) q)
    refine k1 (fun c hc => ?_)
    obtain ⟨j, hj⟩ := List.getElem?_of_mem (sg_P_mem.mpr hc)
    exact hI j c (List.getElem?_eq_some_iff.mp hj).1 hj
theorem e_x_begin {Q : Option Value → sy_S → Prop} {σ : sy_S} {k : Nat} {h : Nat → Nat} (hk : shX[k]? = some (0, 16, [])) (hh : ar σ.1 k h) (kk : ∀ σ' : sy_S, sx [40, 41] σ σ' → ar σ'.1 40 h → ar σ'.1 41 (fun _ => 0) → Q none σ') : sy_E shX mX1_begin (0, sy_ent [.ref 39, .ref k] 2, [], σ) Q := by
  refine w_x_begin_0 hk ?_
  refine e_x_fill (n := 16) rfl (by decide) (fun σ1 h1 h2 h3 h4 => ?_)
  refine w_x_begin_20 ?_
  refine kk σ1 ⟨fun q hq => ?_, h4⟩ (fun j hj => ?_) (fun j hj => ?_)
  · rw [h1 q (fun e => hq (by rw [e]; simp))]
    exact sy_cp_ne _ _ _ (fun e => hq (by rw [e]; simp))
  · rw [h1 40 (by decide)]
    show sy_cp σ.1 k 40 16 40 j = _
    rw [sy_cp_self, pk_cpy_in (Nat.zero_le _) (by omega)]
    rw [show 0 + (j - 0) = j by omega]
    exact hh j hj
  · rw [h2 j hj]; rfl
theorem e_x_forget {Q : Option Value → sy_S → Prop} {σ : sy_S} (kk : ∀ σ' : sy_S, sx [41] σ σ' → ar σ'.1 41 (fun _ => 0) → Q none σ') : sy_E shX mX1_forgetCounts (0, sy_ent [.ref 39] 1, [], σ) Q := by
  refine w_x_forget_0 ?_
  refine e_x_fill (n := 16) rfl (by decide) (fun σ1 h1 h2 h3 h4 => ?_)
  refine w_x_forget_8 ?_
  refine kk σ1 ⟨fun q hq => h1 q (fun e => hq (by rw [e]; simp)), h4⟩ (fun j hj => ?_)
  rw [h2 j hj]; rfl
theorem e_x_addGrain {Q : Option Value → sy_S → Prop} {σ : sy_S} {c : Nat} {H : Nat → Nat} (hc : c < 16) (hH : ar σ.1 40 H) (kk : ∀ σ' : sy_S, sx [40] σ σ' → ar σ'.1 40 (sg_ad H c 1) → Q none σ') : sy_E shX mX1_addGrain (0, sy_ent [.ref 39, .int (nI c)] 2, [], σ) Q := by
  have ec : (nI c).toNatClampNeg = c := nI_clamp (by omega)
  refine w_x_addGrain (vp_in_nI hc (by decide)) ?_
  rw [ec, hH c hc, nI_1]
  refine kk _ (sx.up (by simp)) (fun j hj => ?_)
  show sy_up σ.1 40 c (nI (H c + 1)) 40 j = _
  rw [sy_up2]
  unfold sg_ad
  by_cases e : j = c
  · subst e; rw [if_pos ⟨rfl, rfl⟩, if_pos rfl]
  · rw [if_neg (fun q => e q.2), if_neg e]; exact hH j hj
theorem e_x_copyTo {Q : Option Value → sy_S → Prop} {σ : sy_S} {k : Nat} {H : Nat → Nat} (hk : shX[k]? = some (0, 16, [])) (hH : ar σ.1 40 H) (kk : ∀ σ' : sy_S, sx [k] σ σ' → ar σ'.1 k H → Q none σ') : sy_E shX mX1_copyTo (0, sy_ent [.ref 39, .ref k] 2, [], σ) Q := by
  refine w_x_copyTo hk ?_
  refine kk _ ⟨fun q hq => sy_cp_ne _ _ _ (fun e => hq (by rw [e]; simp)), rfl⟩ (fun j hj => ?_)
  show sy_cp σ.1 40 k 16 k j = _
  rw [sy_cp_self, pk_cpy_in (Nat.zero_le _) (by omega), show 0 + (j - 0) = j by omega]
  exact hH j hj
theorem e_x_heightAt {Q : Option Value → sy_S → Prop} {σ : sy_S} {c : Nat} {H : Nat → Nat} (hc : c < 16) (hH : ar σ.1 40 H) (kk : Q (some (.int (nI (H c)))) σ) : sy_E shX mX1_heightAt (0, sy_ent [.ref 39, .int (nI c)] 2, [], σ) Q := by
  refine w_x_heightAt (vp_in_nI hc (by decide)) ?_
  rw [nI_clamp (by omega), hH c hc]; exact kk
theorem e_x_countAt {Q : Option Value → sy_S → Prop} {σ : sy_S} {c : Nat} {H : Nat → Nat} (hc : c < 16) (hH : ar σ.1 41 H) (kk : Q (some (.int (nI (H c)))) σ) : sy_E shX mX1_countAt (0, sy_ent [.ref 39, .int (nI c)] 2, [], σ) Q := by
  refine w_x_countAt (vp_in_nI hc (by decide)) ?_
  rw [nI_clamp (by omega), hH c hc]; exact kk
theorem e_x_fgrains {Q : Option Value → sy_S → Prop} {σ : sy_S} {G : sg_G} {H : Nat → Nat} (hg : gx G σ.1) (hH : ar σ.1 40 H) (kk : Q (some (.int (nI (sg_sum G H)))) σ) : sy_E shX mX1_grains (0, sy_ent [.ref 39] 1, [], σ) Q :=
  w_x_fgrains_0 (e_x_grainsOf rfl hg hH (w_x_fgrains_r kk))
theorem e_x_ftoppled {Q : Option Value → sy_S → Prop} {σ : sy_S} {G : sg_G} {H : Nat → Nat} (hg : gx G σ.1) (hH : ar σ.1 41 H) (kk : Q (some (.int (nI (sg_sum G H)))) σ) : sy_E shX mX1_toppled (0, sy_ent [.ref 39] 1, [], σ) Q :=
  w_x_ftoppled_0 (e_x_grainsOf rfl hg hH (w_x_ftoppled_r kk))
/-- what is lost, of counts -/
def sg_lost (G : sg_G) (u : Nat → Nat) : Nat := sg_sum G fun c => u c * (4 - (sg_nb G c).length)
theorem e_x_lost {Q : Option Value → sy_S → Prop} {σ : sy_S} {G : sg_G} {u : Nat → Nat} (hg : gx G σ.1) (hu : ar σ.1 41 u) (kk : Q (some (.int (nI (sg_lost G u)))) σ) : sy_E shX mX1_lost (0, sy_ent [.ref 39] 4, [], σ) Q := by
  have hP := sg_P_len hg.1
  refine w_x_lost_0 ?_
  refine sx_fold (sg_P G) (fun l i => (4, [some (.ref 39), some (.int (nI (lsum (fun c => u c * (4 - (sg_nb G c).length)) l))), some (.int (nI i)), none], [], σ)) ?_ ?_
  · intro i c hc ih
    have hi := (List.getElem?_eq_some_iff.mp hc).1
    obtain ⟨c', p1, p2, p3, p4, p5⟩ := gx_pl hg hi
    rw [hc] at p1; cases p1
    have ei : (nI i).toNatClampNeg = i := nI_clamp (by omega)
    have hl4 := sg_nb_len G c
    refine w_x_lost_4 (fun _ => vp_in_nI (by omega) (by decide)) (fun _ => by rw [ei, p4]; exact vp_in_nI p3 (by decide)) (fun q => ?_) (fun _ => ?_)
    · rw [gx_n7 hg] at q; exact absurd q (nI_ge hi (by omega))
    · rw [ei, p5, hu c p3, (gx_nb hg p2.1).1, nI_lit4, pk_sub hl4, pk_mul, nI_add, nI_1]
      rw [lsum_app] at ih
      exact ih
  · refine w_x_lost_4 (fun q => ?_) (fun q => ?_) (fun _ => ?_) (fun q => ?_)
    all_goals try (exact absurd (by rw [gx_n7 hg]; exact nI_le (Nat.le_refl _) (by omega)) q)
    rw [lsum_pm]; exact kk
theorem e_x_area {Q : Option Value → sy_S → Prop} {σ : sy_S} {u : Nat → Nat} (hu : ar σ.1 41 u) (hB : ∀ j, j < 16 → u j < 2 ^ 31) (kk : Q (some (.int (bts (fun c => decide (0 < u c)) (List.range 16)))) σ) : sy_E shX mX1_area (0, sy_ent [.ref 39] 3, [], σ) Q := by
  refine w_x_area_0 ?_
  have hl := sy_loop (sh := shX) (y := mX1_area) (Q := Q) (fun i σ' => (4, [some (.ref 39), some (.int (bts (fun c => decide (0 < u c)) (List.range i))), some (.int (nI i))], [], σ')) (fun i σ' => σ' = σ) 16 ?_ ?_ 0 σ (by decide) rfl
  · exact hl
  · rintro i σ' hi rfl ih
    have ei : (nI i).toNatClampNeg = i := nI_clamp (by omega)
    refine w_x_area_4 (fun _ => vp_in_nI (by omega) (by decide)) (fun q => absurd q (nI_ge hi (by decide))) (fun _ q => ?_) (fun _ q => ?_)
    · rw [ei, hu i hi, nI_lit0, nI_leI (hB i hi) (by decide)] at q
      have h := ih σ' rfl
      rw [bts_s, decide_eq_false (show ¬ 0 < u i by omega)] at h
      rw [nI_1]
      exact h
    · rw [ei, hu i hi, nI_lit0, nI_leI (hB i hi) (by decide)] at q
      have h := ih σ' rfl
      rw [bts_s, decide_eq_true (show 0 < u i by omega)] at h
      rw [nI_1]
      exact h
  · rintro σ' rfl
    exact w_x_area_4 (fun q => absurd (nI_le (Nat.le_refl 16) (by decide)) q) (fun _ => kk) (fun q => absurd (nI_le (Nat.le_refl 16) (by decide)) q) (fun q => absurd (nI_le (Nat.le_refl 16) (by decide)) q)
theorem rdb_eq {G : sg_G} (hG : sg_ok G) (H : Nat → Nat) : bts (fun c => decide (3 < H c)) (sg_P G) = bts (rdy G H) (List.range 16) := by
  rw [bts_pm, bts_ext (p := rdy G H) (sg_n16 hG) (fun c h1 _ => by unfold rdy; rw [decide_eq_false (by omega)]; rfl)]
  exact bts_congr (fun c hc => by unfold rdy; rw [decide_eq_true hc]; rfl)
theorem e_x_ready {Q : Option Value → sy_S → Prop} {σ : sy_S} {G : sg_G} {H : Nat → Nat} (hg : gx G σ.1) (hH : ar σ.1 40 H) (hB : ∀ j, j < 16 → H j < 2 ^ 31) (kk : Q (some (.int (bts (rdy G H) (List.range 16)))) σ) : sy_E shX mX1_readyBits (0, sy_ent [.ref 39] 4, [], σ) Q := by
  have hP := sg_P_len hg.1
  refine w_x_ready_0 ?_
  refine sx_fold (sg_P G) (fun l i => (4, [some (.ref 39), some (.int (bts (fun c => decide (3 < H c)) l)), some (.int (nI i)), none], [], σ)) ?_ ?_
  · intro i c hc ih
    have hi := (List.getElem?_eq_some_iff.mp hc).1
    obtain ⟨c', p1, p2, p3, p4, p5⟩ := gx_pl hg hi
    rw [hc] at p1; cases p1
    have ei : (nI i).toNatClampNeg = i := nI_clamp (by omega)
    refine w_x_ready_4 (fun _ => vp_in_nI (by omega) (by decide)) (fun _ => by rw [ei, p4]; exact vp_in_nI p3 (by decide)) (fun q => ?_) (fun _ q => ?_) (fun _ q => ?_)
    · rw [gx_n7 hg] at q; exact absurd q (nI_ge hi (by omega))
    · rw [ei, p5, hH c p3, show (3 : Int32) = nI 3 from rfl, nI_leI (hB c p3) (by decide)] at q
      rw [bts_app, decide_eq_false (show ¬ 3 < H c by omega)] at ih
      rw [nI_1]
      exact ih
    · rw [ei, p5, hH c p3, show (3 : Int32) = nI 3 from rfl, nI_leI (hB c p3) (by decide)] at q
      rw [bts_app, decide_eq_true (show 3 < H c by omega)] at ih
      rw [nI_1, ei, p4]
      exact ih
  · refine w_x_ready_4 (fun q => ?_) (fun q => ?_) (fun _ => ?_) (fun q => ?_) (fun q => ?_)
    all_goals try (exact absurd (by rw [gx_n7 hg]; exact nI_le (Nat.le_refl _) (by omega)) q)
    rw [rdb_eq hg.1]; exact kk
theorem e_x_inRounds {Q : Option Value → sy_S → Prop} {σ : sy_S} {G : sg_G} {h c0 : Nat → Nat} (hg : gx G σ.1) (hh : ar σ.1 40 h) (hc : ar σ.1 41 c0) (hB : ∀ j, j < 16 → h j ≤ 10000) (kk : ∀ (σ' : sy_S) (N : Nat) (u : Nat → Nat), sx [40, 41] σ σ' → rdE G h N → sg_rc G h u (rdN G h N) → ar σ'.1 40 (rdN G h N) → ar σ'.1 41 (fun j => c0 j + u j) → Q (some (.int (nI N))) σ') : sy_E shX mX1_inRounds (0, sy_ent [.ref 39] 4, [], σ) Q := by
  have hG := hg.1
  have h16 := sg_n16 hG
  have bH : ∀ {u H : Nat → Nat}, sg_rc G h u H → ∀ j, j < 16 → H j < 2 ^ 31 := fun hr j hj => Nat.lt_of_le_of_lt ((sg_rc_bd hG hr hB).1 j hj) (by decide)
  -- a round
  have inner : ∀ (n : Nat) (u H : Nat → Nat), sg_rc G h u H → n ≤ 480000 → (∀ σ' : sy_S, fx G h c0 (ru1 G H u 16) (rd1 G H 16) σ'.1 → sx [40, 41] σ σ' → sy_E shX mX1_inRounds (69, [some (.ref 39), some (.int (nI (n + 1))), none, none], [.int (bts (rdy G (rd1 G H 16)) (List.range 16))], σ') Q) → ∀ i σ', i ≤ 16 → (fx G h c0 (ru1 G H u i) (rd1 G H i) σ'.1 ∧ sx [40, 41] σ σ') → sy_E shX mX1_inRounds (19, [some (.ref 39), some (.int (nI n)), some (.int (bts (rdy G H) (List.range 16))), some (.int (nI i))], [], σ') Q := by
    intro n u H hr hn next
    refine sy_loop (fun i σ' => (19, [some (.ref 39), some (.int (nI n)), some (.int (bts (rdy G H) (List.range 16))), some (.int (nI i))], [], σ')) (fun i σ' => fx G h c0 (ru1 G H u i) (rd1 G H i) σ'.1 ∧ sx [40, 41] σ σ') 16 ?_ ?_
    · rintro i σ' hi ⟨⟨f1, f2, f3, f4⟩, hs⟩ ih
      have ei : (nI i).toNatClampNeg = i := nI_clamp (by omega)
      refine w_x_inRounds_19 (fun q => absurd q (nI_ge hi (by decide))) (fun _ q => ?_) (fun _ q => ?_)
      · rw [bts_test _ (by decide) hi] at q
        have q : ¬ rdy G H i = true := fun z => q ⟨hi, z⟩
        rw [nI_1]
        refine ih σ' ⟨⟨f1, ?_, ?_, ?_⟩, hs⟩
        · rw [ru1, rd1, if_neg q, if_neg q]; exact f2
        · rw [rd1, if_neg q]; exact f3
        · rw [ru1, if_neg q]; exact f4
      · rw [bts_test _ (by decide) hi] at q
        have q : rdy G H i = true := by
          cases z : rdy G H i
          · exact absurd (fun ⟨_, z2⟩ => by rw [z] at z2; cases z2) q
          · rfl
        obtain ⟨p1, p2⟩ := rdy_iff.mp q
        have hge := rd1_ge G H i i (Nat.le_refl _)
        refine e_x_spill (t := 1) rfl (by decide) f1 f3 p1 (by omega) (fun σ2 g1 g2 => ?_)
        refine w_x_inRounds_46 (vp_in_nI hi (by decide)) ?_
        have e41 : σ2.1 41 i = nI (c0 i + ru1 G H u i i) := by rw [g1.1 41 (by decide)]; exact f4 i hi
        rw [ei, e41, nI_1, nI_1]
        have hs2 : sx [40, 41] σ (sy_up σ2.1 41 i (nI (c0 i + ru1 G H u i i + 1)), σ2.2) := (hs.tr (g1.mono (by simp))).tr (sx.up (by simp))
        refine ih _ ⟨⟨hs2.gx hg (by decide), rd1_rc hG hr (i + 1), fun j hj => ?_, fun j hj => ?_⟩, hs2⟩
        · show sy_up σ2.1 41 i (nI (c0 i + ru1 G H u i i + 1)) 40 j = _
          rw [sy_up2, if_neg (by omega), rd1, if_pos q]
          exact g2 j hj
        · show sy_up σ2.1 41 i (nI (c0 i + ru1 G H u i i + 1)) 41 j = nI (c0 j + ru1 G H u (i + 1) j)
          rw [sy_up2, ru1, if_pos q]
          unfold sg_ad
          by_cases e : j = i
          · subst e
            rw [if_pos ⟨rfl, rfl⟩, if_pos rfl]
            rfl
          · rw [if_neg (fun q => e q.2), if_neg e, g1.1 41 (by decide)]
            exact f4 j hj
    · rintro σ' ⟨hf, hs⟩
      refine w_x_inRounds_19 (fun _ => ?_) (fun q => absurd (nI_le (Nat.le_refl 16) (by decide)) q) (fun q => absurd (nI_le (Nat.le_refl 16) (by decide)) q)
      rw [nI_1]
      exact e_x_ready hf.1 hf.2.2.1 (bH hf.2.1) (next σ' hf hs)
  have outer : ∀ (d n : Nat) (σ' : sy_S) (u : Nat → Nat), fx G h c0 u (rdN G h n) σ'.1 → sx [40, 41] σ σ' → (∀ m, m < n → ∃ k, sg_p G k ∧ 3 < rdN G h m k) → n ≤ ssum 16 u → 480001 ≤ n + d → sy_E shX mX1_inRounds (7, [some (.ref 39), some (.int (nI n)), some (.int (bts (rdy G (rdN G h n)) (List.range 16))), none], [], σ') Q := by
    intro d
    induction d with
    | zero =>
      intro n σ' u hf hs hm hn hd
      have := (sg_rc_bd hG hf.2.1 hB).2
      exact absurd hd (by omega)
    | succ d ih =>
      intro n σ' u hf hs hm hn hd
      have bd := (sg_rc_bd hG hf.2.1 hB).2
      refine w_x_inRounds_7 (fun q => ?_) (fun _ q => ?_) (fun q _ => ?_)
      · rw [bts_zero _ (by decide)] at q
        refine kk σ' n u hs ⟨hm, fun k hk => ?_⟩ hf.2.1 hf.2.2.1 hf.2.2.2
        have := q k (Nat.lt_of_lt_of_le hk.1 h16)
        rcases Nat.lt_or_ge 3 (rdN G h n k) with z | z
        · rw [rdy_iff.mpr ⟨hk, z⟩] at this; cases this
        · exact z
      · rw [show (1000000 : Int32) = nI 1000000 from rfl, nI_leI (by decide) (by omega)] at q
        omega
      · rw [bts_zero _ (by decide)] at q
        have hex : ∃ j, j < 16 ∧ rdy G (rdN G h n) j = true := by
          refine Classical.byContradiction fun z => q (fun i hi => ?_)
          cases y : rdy G (rdN G h n) i
          · rfl
          · exact absurd ⟨i, hi, y⟩ z
        refine inner n u (rdN G h n) hf.2.1 (by omega) (fun σ2 q1 q2 => ?_) 0 σ' (Nat.zero_le _) ⟨hf, hs⟩
        refine w_x_inRounds_69 ?_
        refine ih (n + 1) σ2 (ru1 G (rdN G h n) u 16) q1 q2 (fun m hmn => ?_) ?_ (by omega)
        · by_cases e : m = n
          · subst e
            obtain ⟨j, -, hj⟩ := hex
            exact ⟨j, (rdy_iff.mp hj).1, (rdy_iff.mp hj).2⟩
          · exact hm m (by omega)
        · have := (ru1_sum (u := u) (H := rdN G h n) hG 16).2 hex
          omega
  refine w_x_inRounds_0 ?_
  refine e_x_ready hg hh (bH (sg_rc_0 G h)) ?_
  refine w_x_inRounds_6 ?_
  exact outer 480001 0 σ (fun _ => 0) ⟨hg, sg_rc_0 G h, hh, hc⟩ sx.rf (fun m hm => absurd hm (Nat.not_lt_zero _)) (Nat.zero_le _) (by omega)
end
section
/-! walks of the model's basics (by program: wip/whole/gen/p30.py) -/
set_option maxRecDepth 20000 in
theorem w_m_in {Q : Option Value → sy_S → Prop} {σ : sy_S} {v : Int64} {lo : Int64} {hi : Int64}   (k1 : v < lo → Q (some (.int 0)) σ) (k2 : ¬ (v < lo) → hi < v → Q (some (.int 0)) σ) (k3 : ¬ (v < lo) → ¬ (hi < v) → Q (some (.int 1)) σ) : sy_E shM mX12_in (0, sy_ent [.long v, .long lo, .long hi] 6, [], σ) Q := by
  show sy_E shM mX12_in (0, [some (.long v), none, some (.long lo), none, some (.long hi), none], [], σ) _
  refine sy_bk [(.lload_n 0, 0, 0, 0, 0), (.lload_n 2, 0, 0, 0, 0), (.lcmp, 0, 0, 0, 0)] (3, [some (.long v), none, some (.long lo), none, some (.long hi), none], [.int (lg_cmp v lo)], σ) [] (by decide +kernel) rfl trivial ?_
  by_cases c1 : v < lo
  · refine sy_bk [(.ifCond .lt 14, 1, 17, 0, 0)] (17, [some (.long v), none, some (.long lo), none, some (.long hi), none], [], σ) [sy_cc .lt (lg_cmp v lo) 0] (by decide +kernel) rfl ⟨(sy_lc_lt.mpr c1), trivial⟩ ?_
    refine sy_bk [(.iconst 0, 0, 0, 0, 0)] (18, [some (.long v), none, some (.long lo), none, some (.long hi), none], [.int 0], σ) [] (by decide +kernel) rfl trivial ?_
    exact sy_retz rfl (by decide +kernel) (Or.inl rfl) (k1 c1)
  · refine sy_bk [(.ifCond .lt 14, 0, 17, 0, 0)] (6, [some (.long v), none, some (.long lo), none, some (.long hi), none], [], σ) [¬ sy_cc .lt (lg_cmp v lo) 0] (by decide +kernel) rfl ⟨(fun q => c1 (sy_lc_lt.mp q)), trivial⟩ ?_
    refine sy_bk [(.lload_n 0, 0, 0, 0, 0), (.lload 4, 0, 0, 0, 0), (.lcmp, 0, 0, 0, 0)] (10, [some (.long v), none, some (.long lo), none, some (.long hi), none], [.int (lg_cmp v hi)], σ) [] (by decide +kernel) rfl trivial ?_
    by_cases c2 : hi < v
    · refine sy_bk [(.ifCond .gt 7, 1, 17, 0, 0)] (17, [some (.long v), none, some (.long lo), none, some (.long hi), none], [], σ) [sy_cc .gt (lg_cmp v hi) 0] (by decide +kernel) rfl ⟨(sy_lc_gt.mpr c2), trivial⟩ ?_
      refine sy_bk [(.iconst 0, 0, 0, 0, 0)] (18, [some (.long v), none, some (.long lo), none, some (.long hi), none], [.int 0], σ) [] (by decide +kernel) rfl trivial ?_
      exact sy_retz rfl (by decide +kernel) (Or.inl rfl) (k2 c1 c2)
    · refine sy_bk [(.ifCond .gt 7, 0, 17, 0, 0)] (13, [some (.long v), none, some (.long lo), none, some (.long hi), none], [], σ) [¬ sy_cc .gt (lg_cmp v hi) 0] (by decide +kernel) rfl ⟨(fun q => c2 (sy_lc_gt.mp q)), trivial⟩ ?_
      refine sy_bk [(.iconst 1, 0, 0, 1, 0), (.goto 4, 0, 18, 0, 0)] (18, [some (.long v), none, some (.long lo), none, some (.long hi), none], [.int 1], σ) [] (by decide +kernel) rfl trivial ?_
      exact sy_retz rfl (by decide +kernel) (Or.inr rfl) (k3 c1 c2)

theorem e_m_in {Q : Option Value → sy_S → Prop} {σ : sy_S} {v lo hi : Int64} (k1 : lo ≤ v ∧ v ≤ hi → Q (some (.int 1)) σ) (k0 : ¬ (lo ≤ v ∧ v ≤ hi) → Q (some (.int 0)) σ) : sy_E shM mX12_in (0, sy_ent [.long v, .long lo, .long hi] 6, [], σ) Q := by
  refine w_m_in (fun a => k0 (fun q => ?_)) (fun a b => k0 (fun q => ?_)) (fun a b => k1 ⟨?_, ?_⟩)
  · rw [sy_l_lt] at a; have := sy_l_le.mp q.1; omega
  · rw [sy_l_lt] at b; have := sy_l_le.mp q.2; omega
  · rw [sy_l_lt] at a; rw [sy_l_le]; omega
  · rw [sy_l_lt] at b; rw [sy_l_le]; omega

set_option maxRecDepth 20000 in
theorem w_m_cells {Q : Option Value → sy_S → Prop} {σ : sy_S}    (k1 : Q (some (.int ((σ.1 0 0) * (σ.1 0 1)))) σ) : sy_E shM mX12_cells (0, sy_ent [.ref 0] 1, [], σ) Q := by
  show sy_E shM mX12_cells (0, [some (.ref 0)], [], σ) _
  refine sy_bk [(.aload_n 0, 0, 0, 0, 0), (.getfield 9, 12, 0, 0, 0), (.aload_n 0, 0, 0, 0, 0), (.getfield 15, 12, 1, 0, 0), (.imul, 0, 0, 0, 0)] (9, [some (.ref 0)], [.int ((σ.1 0 0) * (σ.1 0 1))], σ) [] (by decide +kernel) rfl trivial ?_
  exact sy_reti rfl (by decide +kernel) (k1)

set_option maxRecDepth 20000 in
theorem w_m_isPlace {Q : Option Value → sy_S → Prop} {σ : sy_S} {c : Int32}  (b1 : (0 ≤ c.toInt64 ∧ c.toInt64 ≤ ((((σ.1 0 0) * (σ.1 0 1)) - 1).toInt64)) → vp_in c 16) (k1 : (0 ≤ c.toInt64 ∧ c.toInt64 ≤ ((((σ.1 0 0) * (σ.1 0 1)) - 1).toInt64)) → ¬ (σ.1 1 c.toNatClampNeg) = 0 → Q (some (.int 0)) σ) (k2 : (0 ≤ c.toInt64 ∧ c.toInt64 ≤ ((((σ.1 0 0) * (σ.1 0 1)) - 1).toInt64)) → ¬ (¬ (σ.1 1 c.toNatClampNeg) = 0) → Q (some (.int 1)) σ) (k3 : (¬ (0 ≤ c.toInt64 ∧ c.toInt64 ≤ ((((σ.1 0 0) * (σ.1 0 1)) - 1).toInt64))) → Q (some (.int 0)) σ) : sy_E shM mX12_isPlace (0, sy_ent [.ref 0, .int c] 2, [], σ) Q := by
  show sy_E shM mX12_isPlace (0, [some (.ref 0), some (.int c)], [], σ) _
  refine sy_bk [(.iload_n 1, 0, 0, 0, 0), (.i2l, 0, 0, 0, 0), (.lconst 0, 0, 0, 0, 0), (.aload_n 0, 0, 0, 0, 0)] (4, [some (.ref 0), some (.int c)], [.ref 0, .long 0, .long c.toInt64], σ) [] (by decide +kernel) rfl trivial ?_
  refine sy_callV mX12_cells 0 [] [.long 0, .long c.toInt64] kX12_cells jX12_105 (by decide +kernel) rfl rfl (Nat.le_of_ble_eq_true rfl) (Nat.le_of_ble_eq_true rfl) (by decide) rfl ?_
  refine w_m_cells (σ := σ) ?_
  show sy_E shM mX12_isPlace (7, [some (.ref 0), some (.int c)], [.int ((σ.1 0 0) * (σ.1 0 1)), .long 0, .long c.toInt64], σ) _
  refine sy_bk [(.iconst 1, 0, 0, 1, 0), (.isub, 0, 0, 0, 0), (.i2l, 0, 0, 0, 0)] (10, [some (.ref 0), some (.int c)], [.long ((((σ.1 0 0) * (σ.1 0 1)) - 1).toInt64), .long 0, .long c.toInt64], σ) [] (by decide +kernel) rfl trivial ?_
  refine sy_callS mX12_in [.long c.toInt64, .long 0, .long ((((σ.1 0 0) * (σ.1 0 1)) - 1).toInt64)] [] kX12_in jX12_109 (by decide +kernel) rfl rfl (Nat.le_of_ble_eq_true rfl) (Nat.le_of_ble_eq_true rfl) (by decide) ?_
  refine e_m_in (σ := σ) (v := c.toInt64) (lo := 0) (hi := ((((σ.1 0 0) * (σ.1 0 1)) - 1).toInt64)) ?_ ?_
  · intro c1
    show sy_E shM mX12_isPlace (13, [some (.ref 0), some (.int c)], [.int 1], σ) _
    refine sy_bk [(.ifCond .eq 16, 0, 29, 0, 0), (.aload_n 0, 0, 0, 0, 0), (.getfield 18, 12, 2, 0, 0), (.iload_n 1, 0, 0, 0, 0), (.baload, 0, 0, 0, 0)] (22, [some (.ref 0), some (.int c)], [.int (σ.1 1 c.toNatClampNeg)], σ) [¬ sy_cc .eq 1 0, sy_okA shM 1 1 c] (by decide +kernel) rfl ⟨(by decide : ¬ ((1 : Int32) = 0)), ⟨16, _, rfl, (b1 c1)⟩, trivial⟩ ?_
    by_cases c2 : ¬ (σ.1 1 c.toNatClampNeg) = 0
    · refine sy_bk [(.ifCond .ne 7, 1, 29, 0, 0)] (29, [some (.ref 0), some (.int c)], [], σ) [sy_cc .ne (σ.1 1 c.toNatClampNeg) 0] (by decide +kernel) rfl ⟨c2, trivial⟩ ?_
      refine sy_bk [(.iconst 0, 0, 0, 0, 0)] (30, [some (.ref 0), some (.int c)], [.int 0], σ) [] (by decide +kernel) rfl trivial ?_
      exact sy_retz rfl (by decide +kernel) (Or.inl rfl) (k1 c1 c2)
    · refine sy_bk [(.ifCond .ne 7, 0, 29, 0, 0)] (25, [some (.ref 0), some (.int c)], [], σ) [¬ sy_cc .ne (σ.1 1 c.toNatClampNeg) 0] (by decide +kernel) rfl ⟨c2, trivial⟩ ?_
      refine sy_bk [(.iconst 1, 0, 0, 1, 0), (.goto 4, 0, 30, 0, 0)] (30, [some (.ref 0), some (.int c)], [.int 1], σ) [] (by decide +kernel) rfl trivial ?_
      exact sy_retz rfl (by decide +kernel) (Or.inr rfl) (k2 c1 c2)
  · intro c3
    show sy_E shM mX12_isPlace (13, [some (.ref 0), some (.int c)], [.int 0], σ) _
    refine sy_bk [(.ifCond .eq 16, 1, 29, 0, 0), (.iconst 0, 0, 0, 0, 0)] (30, [some (.ref 0), some (.int c)], [.int 0], σ) [sy_cc .eq 0 0] (by decide +kernel) rfl ⟨(by decide : ((0 : Int32) = 0)), trivial⟩ ?_
    exact sy_retz rfl (by decide +kernel) (Or.inl rfl) (k3 c3)

set_option maxRecDepth 20000 in
theorem w_m_link {Q : Option Value → sy_S → Prop} {σ : sy_S} {c : Int32} {row : Int32} {col : Int32}  (b1 : (0 ≤ row.toInt64 ∧ row.toInt64 ≤ (((σ.1 0 0) - 1).toInt64)) → (0 ≤ col.toInt64 ∧ col.toInt64 ≤ (((σ.1 0 1) - 1).toInt64)) → vp_in (((σ.1 0 1) * row) + col) 16) (b2 : (0 ≤ row.toInt64 ∧ row.toInt64 ≤ (((σ.1 0 0) - 1).toInt64)) → (0 ≤ col.toInt64 ∧ col.toInt64 ≤ (((σ.1 0 1) - 1).toInt64)) → ¬ (¬ (σ.1 1 ((((σ.1 0 1) * row) + col).toNatClampNeg)) = 0) → vp_in c 16) (b3 : (0 ≤ row.toInt64 ∧ row.toInt64 ≤ (((σ.1 0 0) - 1).toInt64)) → (0 ≤ col.toInt64 ∧ col.toInt64 ≤ (((σ.1 0 1) - 1).toInt64)) → ¬ (¬ (σ.1 1 ((((σ.1 0 1) * row) + col).toNatClampNeg)) = 0) → vp_in ((4 * c) + (σ.1 4 c.toNatClampNeg)) 64) (k1 : (0 ≤ row.toInt64 ∧ row.toInt64 ≤ (((σ.1 0 0) - 1).toInt64)) → (0 ≤ col.toInt64 ∧ col.toInt64 ≤ (((σ.1 0 1) - 1).toInt64)) → ¬ (σ.1 1 ((((σ.1 0 1) * row) + col).toNatClampNeg)) = 0 → Q none σ) (k2 : (0 ≤ row.toInt64 ∧ row.toInt64 ≤ (((σ.1 0 0) - 1).toInt64)) → (0 ≤ col.toInt64 ∧ col.toInt64 ≤ (((σ.1 0 1) - 1).toInt64)) → ¬ (¬ (σ.1 1 ((((σ.1 0 1) * row) + col).toNatClampNeg)) = 0) → Q none (sy_up (sy_up σ.1 3 (((4 * c) + (σ.1 4 c.toNatClampNeg)).toNatClampNeg) (((σ.1 0 1) * row) + col)) 4 c.toNatClampNeg ((σ.1 4 c.toNatClampNeg) + 1), σ.2)) (k3 : (0 ≤ row.toInt64 ∧ row.toInt64 ≤ (((σ.1 0 0) - 1).toInt64)) → (¬ (0 ≤ col.toInt64 ∧ col.toInt64 ≤ (((σ.1 0 1) - 1).toInt64))) → Q none σ) (k4 : (¬ (0 ≤ row.toInt64 ∧ row.toInt64 ≤ (((σ.1 0 0) - 1).toInt64))) → Q none σ) : sy_E shM mX12_link (0, sy_ent [.ref 0, .int c, .int row, .int col] 4, [], σ) Q := by
  show sy_E shM mX12_link (0, [some (.ref 0), some (.int c), some (.int row), some (.int col)], [], σ) _
  refine sy_bk [(.iload_n 2, 0, 0, 0, 0), (.i2l, 0, 0, 0, 0), (.lconst 0, 0, 0, 0, 0), (.aload_n 0, 0, 0, 0, 0), (.getfield 9, 12, 0, 0, 0), (.iconst 1, 0, 0, 1, 0), (.isub, 0, 0, 0, 0), (.i2l, 0, 0, 0, 0)] (10, [some (.ref 0), some (.int c), some (.int row), some (.int col)], [.long (((σ.1 0 0) - 1).toInt64), .long 0, .long row.toInt64], σ) [] (by decide +kernel) rfl trivial ?_
  refine sy_callS mX12_in [.long row.toInt64, .long 0, .long (((σ.1 0 0) - 1).toInt64)] [] kX12_in jX12_109 (by decide +kernel) rfl rfl (Nat.le_of_ble_eq_true rfl) (Nat.le_of_ble_eq_true rfl) (by decide) ?_
  refine e_m_in (σ := σ) (v := row.toInt64) (lo := 0) (hi := (((σ.1 0 0) - 1).toInt64)) ?_ ?_
  · intro c1
    show sy_E shM mX12_link (13, [some (.ref 0), some (.int c), some (.int row), some (.int col)], [.int 1], σ) _
    refine sy_bk [(.ifCond .eq 68, 0, 81, 0, 0), (.iload_n 3, 0, 0, 0, 0), (.i2l, 0, 0, 0, 0), (.lconst 0, 0, 0, 0, 0), (.aload_n 0, 0, 0, 0, 0), (.getfield 15, 12, 1, 0, 0), (.iconst 1, 0, 0, 1, 0), (.isub, 0, 0, 0, 0), (.i2l, 0, 0, 0, 0)] (26, [some (.ref 0), some (.int c), some (.int row), some (.int col)], [.long (((σ.1 0 1) - 1).toInt64), .long 0, .long col.toInt64], σ) [¬ sy_cc .eq 1 0] (by decide +kernel) rfl ⟨(by decide : ¬ ((1 : Int32) = 0)), trivial⟩ ?_
    refine sy_callS mX12_in [.long col.toInt64, .long 0, .long (((σ.1 0 1) - 1).toInt64)] [] kX12_in jX12_109 (by decide +kernel) rfl rfl (Nat.le_of_ble_eq_true rfl) (Nat.le_of_ble_eq_true rfl) (by decide) ?_
    refine e_m_in (σ := σ) (v := col.toInt64) (lo := 0) (hi := (((σ.1 0 1) - 1).toInt64)) ?_ ?_
    · intro c2
      show sy_E shM mX12_link (29, [some (.ref 0), some (.int c), some (.int row), some (.int col)], [.int 1], σ) _
      refine sy_bk [(.ifCond .eq 52, 0, 81, 0, 0), (.aload_n 0, 0, 0, 0, 0), (.getfield 18, 12, 2, 0, 0), (.aload_n 0, 0, 0, 0, 0), (.getfield 15, 12, 1, 0, 0), (.iload_n 2, 0, 0, 0, 0), (.imul, 0, 0, 0, 0), (.iload_n 3, 0, 0, 0, 0), (.iadd, 0, 0, 0, 0), (.baload, 0, 0, 0, 0)] (45, [some (.ref 0), some (.int c), some (.int row), some (.int col)], [.int (σ.1 1 ((((σ.1 0 1) * row) + col).toNatClampNeg))], σ) [¬ sy_cc .eq 1 0, sy_okA shM 1 1 (((σ.1 0 1) * row) + col)] (by decide +kernel) rfl ⟨(by decide : ¬ ((1 : Int32) = 0)), ⟨16, _, rfl, (b1 c1 c2)⟩, trivial⟩ ?_
      by_cases c3 : ¬ (σ.1 1 ((((σ.1 0 1) * row) + col).toNatClampNeg)) = 0
      · refine sy_bk [(.ifCond .ne 36, 1, 81, 0, 0)] (81, [some (.ref 0), some (.int c), some (.int row), some (.int col)], [], σ) [sy_cc .ne (σ.1 1 ((((σ.1 0 1) * row) + col).toNatClampNeg)) 0] (by decide +kernel) rfl ⟨c3, trivial⟩ ?_
        exact sy_retv rfl (by decide +kernel) (k1 c1 c2 c3)
      · refine sy_bk [(.ifCond .ne 36, 0, 81, 0, 0)] (48, [some (.ref 0), some (.int c), some (.int row), some (.int col)], [], σ) [¬ sy_cc .ne (σ.1 1 ((((σ.1 0 1) * row) + col).toNatClampNeg)) 0] (by decide +kernel) rfl ⟨c3, trivial⟩ ?_
        refine sy_bk [(.aload_n 0, 0, 0, 0, 0), (.getfield 26, 12, 4, 0, 0), (.iconst 4, 0, 0, 4, 0), (.iload_n 1, 0, 0, 0, 0), (.imul, 0, 0, 0, 0), (.aload_n 0, 0, 0, 0, 0), (.getfield 29, 12, 5, 0, 0), (.iload_n 1, 0, 0, 0, 0), (.iaload, 0, 0, 0, 0), (.iadd, 0, 0, 0, 0), (.aload_n 0, 0, 0, 0, 0), (.getfield 15, 12, 1, 0, 0), (.iload_n 2, 0, 0, 0, 0), (.imul, 0, 0, 0, 0), (.iload_n 3, 0, 0, 0, 0), (.iadd, 0, 0, 0, 0), (.iastore, 0, 0, 0, 0), (.aload_n 0, 0, 0, 0, 0), (.getfield 29, 12, 5, 0, 0), (.iload_n 1, 0, 0, 0, 0), (.dup2, 0, 0, 0, 0), (.iaload, 0, 0, 0, 0), (.iconst 1, 0, 0, 1, 0), (.iadd, 0, 0, 0, 0), (.iastore, 0, 0, 0, 0)] (81, [some (.ref 0), some (.int c), some (.int row), some (.int col)], [], (sy_up (sy_up σ.1 3 (((4 * c) + (σ.1 4 c.toNatClampNeg)).toNatClampNeg) (((σ.1 0 1) * row) + col)) 4 c.toNatClampNeg ((σ.1 4 c.toNatClampNeg) + 1), σ.2)) [sy_okA shM 0 4 c, sy_okA shM 0 3 ((4 * c) + (σ.1 4 c.toNatClampNeg)), sy_okA shM 0 4 c, sy_okA shM 0 4 c] (by decide +kernel) rfl ⟨⟨16, _, rfl, (b2 c1 c2 c3)⟩, ⟨64, _, rfl, (b3 c1 c2 c3)⟩, ⟨16, _, rfl, (b2 c1 c2 c3)⟩, ⟨16, _, rfl, (b2 c1 c2 c3)⟩, trivial⟩ ?_
        exact sy_retv rfl (by decide +kernel) (k2 c1 c2 c3)
    · intro c4
      show sy_E shM mX12_link (29, [some (.ref 0), some (.int c), some (.int row), some (.int col)], [.int 0], σ) _
      refine sy_bk [(.ifCond .eq 52, 1, 81, 0, 0)] (81, [some (.ref 0), some (.int c), some (.int row), some (.int col)], [], σ) [sy_cc .eq 0 0] (by decide +kernel) rfl ⟨(by decide : ((0 : Int32) = 0)), trivial⟩ ?_
      exact sy_retv rfl (by decide +kernel) (k3 c1 c4)
  · intro c5
    show sy_E shM mX12_link (13, [some (.ref 0), some (.int c), some (.int row), some (.int col)], [.int 0], σ) _
    refine sy_bk [(.ifCond .eq 68, 1, 81, 0, 0)] (81, [some (.ref 0), some (.int c), some (.int row), some (.int col)], [], σ) [sy_cc .eq 0 0] (by decide +kernel) rfl ⟨(by decide : ((0 : Int32) = 0)), trivial⟩ ?_
    exact sy_retv rfl (by decide +kernel) (k4 c5)

set_option maxRecDepth 20000 in
theorem w_m_links_0 {Q : Option Value → sy_S → Prop} {σ : sy_S}    (k1 : sy_E shM mX12_links (2, [some (.ref 0), some (.int 0)], [], σ) Q) : sy_E shM mX12_links (0, sy_ent [.ref 0] 2, [], σ) Q := by
  show sy_E shM mX12_links (0, [some (.ref 0), none], [], σ) _
  refine sy_bk [(.iconst 0, 0, 0, 0, 0), (.istore_n 1, 0, 0, 0, 0)] (2, [some (.ref 0), some (.int 0)], [], σ) [] (by decide +kernel) rfl trivial ?_
  exact k1

set_option maxRecDepth 20000 in
theorem w_m_links_2 {Q : Option Value → sy_S → Prop} {σ : sy_S} {c : Int32}  (b1 : ¬ (((σ.1 0 0) * (σ.1 0 1)) ≤ c) → vp_in c 16) (b2 : ¬ (((σ.1 0 0) * (σ.1 0 1)) ≤ c) → ¬ (σ.1 0 1) = 0) (k1 : ((σ.1 0 0) * (σ.1 0 1)) ≤ c → Q none σ) (k2 : ¬ (((σ.1 0 0) * (σ.1 0 1)) ≤ c) → sy_E shM mX12_link (0, sy_ent [.ref 0, .int c, .int ((c / (σ.1 0 1)) - 1), .int (c - c / (σ.1 0 1) * (σ.1 0 1))] 4, [], (sy_up σ.1 4 c.toNatClampNeg 0, σ.2)) (fun r9 σ9 => sy_E shM mX12_links (36, [some (.ref 0), some (.int c)], r9.toList ++ [], σ9) Q)) : sy_E shM mX12_links (2, [some (.ref 0), some (.int c)], [], σ) Q := by
  refine sy_bk [(.iload_n 1, 0, 0, 0, 0), (.aload_n 0, 0, 0, 0, 0)] (4, [some (.ref 0), some (.int c)], [.ref 0, .int c], σ) [] (by decide +kernel) rfl trivial ?_
  refine sy_callV mX12_cells 0 [] [.int c] kX12_cells jX12_105 (by decide +kernel) rfl rfl (Nat.le_of_ble_eq_true rfl) (Nat.le_of_ble_eq_true rfl) (by decide) rfl ?_
  refine w_m_cells (σ := σ) ?_
  show sy_E shM mX12_links (7, [some (.ref 0), some (.int c)], [.int ((σ.1 0 0) * (σ.1 0 1)), .int c], σ) _
  by_cases c1 : ((σ.1 0 0) * (σ.1 0 1)) ≤ c
  · refine sy_bk [(.if_icmp .ge 92, 1, 99, 0, 0)] (99, [some (.ref 0), some (.int c)], [], σ) [sy_cc .ge c ((σ.1 0 0) * (σ.1 0 1))] (by decide +kernel) rfl ⟨c1, trivial⟩ ?_
    exact sy_retv rfl (by decide +kernel) (k1 c1)
  · refine sy_bk [(.if_icmp .ge 92, 0, 99, 0, 0)] (10, [some (.ref 0), some (.int c)], [], σ) [¬ sy_cc .ge c ((σ.1 0 0) * (σ.1 0 1))] (by decide +kernel) rfl ⟨c1, trivial⟩ ?_
    refine sy_bk [(.aload_n 0, 0, 0, 0, 0), (.getfield 29, 12, 5, 0, 0), (.iload_n 1, 0, 0, 0, 0), (.iconst 0, 0, 0, 0, 0), (.iastore, 0, 0, 0, 0), (.aload_n 0, 0, 0, 0, 0), (.iload_n 1, 0, 0, 0, 0), (.iload_n 1, 0, 0, 0, 0), (.aload_n 0, 0, 0, 0, 0), (.getfield 15, 12, 1, 0, 0), (.idiv, 0, 0, 0, 0), (.iconst 1, 0, 0, 1, 0), (.isub, 0, 0, 0, 0), (.iload_n 1, 0, 0, 0, 0), (.aload_n 0, 0, 0, 0, 0), (.getfield 15, 12, 1, 0, 0), (.irem, 0, 0, 0, 0)] (33, [some (.ref 0), some (.int c)], [.int (c - c / (σ.1 0 1) * (σ.1 0 1)), .int ((c / (σ.1 0 1)) - 1), .int c, .ref 0], (sy_up σ.1 4 c.toNatClampNeg 0, σ.2)) [sy_okA shM 0 4 c, ¬ (σ.1 0 1) = 0, ¬ (σ.1 0 1) = 0] (by decide +kernel) rfl ⟨⟨16, _, rfl, (b1 c1)⟩, (b2 c1), (b2 c1), trivial⟩ ?_
    refine sy_callV mX12_link 0 [.int c, .int ((c / (σ.1 0 1)) - 1), .int (c - c / (σ.1 0 1) * (σ.1 0 1))] [] kX12_link jX12_113 (by decide +kernel) rfl rfl (Nat.le_of_ble_eq_true rfl) (Nat.le_of_ble_eq_true rfl) (by decide) rfl ?_
    exact k2 c1

set_option maxRecDepth 20000 in
theorem w_m_links_36 {Q : Option Value → sy_S → Prop} {σ : sy_S} {c : Int32}  (b1 : ¬ (σ.1 0 1) = 0) (k1 : sy_E shM mX12_link (0, sy_ent [.ref 0, .int c, .int (c / (σ.1 0 1)), .int ((c - c / (σ.1 0 1) * (σ.1 0 1)) - 1)] 4, [], σ) (fun r9 σ9 => sy_E shM mX12_links (55, [some (.ref 0), some (.int c)], r9.toList ++ [], σ9) Q)) : sy_E shM mX12_links (36, [some (.ref 0), some (.int c)], [], σ) Q := by
  refine sy_bk [(.aload_n 0, 0, 0, 0, 0), (.iload_n 1, 0, 0, 0, 0), (.iload_n 1, 0, 0, 0, 0), (.aload_n 0, 0, 0, 0, 0), (.getfield 15, 12, 1, 0, 0), (.idiv, 0, 0, 0, 0), (.iload_n 1, 0, 0, 0, 0), (.aload_n 0, 0, 0, 0, 0), (.getfield 15, 12, 1, 0, 0), (.irem, 0, 0, 0, 0), (.iconst 1, 0, 0, 1, 0), (.isub, 0, 0, 0, 0)] (52, [some (.ref 0), some (.int c)], [.int ((c - c / (σ.1 0 1) * (σ.1 0 1)) - 1), .int (c / (σ.1 0 1)), .int c, .ref 0], σ) [¬ (σ.1 0 1) = 0, ¬ (σ.1 0 1) = 0] (by decide +kernel) rfl ⟨b1, b1, trivial⟩ ?_
  refine sy_callV mX12_link 0 [.int c, .int (c / (σ.1 0 1)), .int ((c - c / (σ.1 0 1) * (σ.1 0 1)) - 1)] [] kX12_link jX12_113 (by decide +kernel) rfl rfl (Nat.le_of_ble_eq_true rfl) (Nat.le_of_ble_eq_true rfl) (by decide) rfl ?_
  exact k1

set_option maxRecDepth 20000 in
theorem w_m_links_55 {Q : Option Value → sy_S → Prop} {σ : sy_S} {c : Int32}  (b1 : ¬ (σ.1 0 1) = 0) (k1 : sy_E shM mX12_link (0, sy_ent [.ref 0, .int c, .int (c / (σ.1 0 1)), .int ((c - c / (σ.1 0 1) * (σ.1 0 1)) + 1)] 4, [], σ) (fun r9 σ9 => sy_E shM mX12_links (74, [some (.ref 0), some (.int c)], r9.toList ++ [], σ9) Q)) : sy_E shM mX12_links (55, [some (.ref 0), some (.int c)], [], σ) Q := by
  refine sy_bk [(.aload_n 0, 0, 0, 0, 0), (.iload_n 1, 0, 0, 0, 0), (.iload_n 1, 0, 0, 0, 0), (.aload_n 0, 0, 0, 0, 0), (.getfield 15, 12, 1, 0, 0), (.idiv, 0, 0, 0, 0), (.iload_n 1, 0, 0, 0, 0), (.aload_n 0, 0, 0, 0, 0), (.getfield 15, 12, 1, 0, 0), (.irem, 0, 0, 0, 0), (.iconst 1, 0, 0, 1, 0), (.iadd, 0, 0, 0, 0)] (71, [some (.ref 0), some (.int c)], [.int ((c - c / (σ.1 0 1) * (σ.1 0 1)) + 1), .int (c / (σ.1 0 1)), .int c, .ref 0], σ) [¬ (σ.1 0 1) = 0, ¬ (σ.1 0 1) = 0] (by decide +kernel) rfl ⟨b1, b1, trivial⟩ ?_
  refine sy_callV mX12_link 0 [.int c, .int (c / (σ.1 0 1)), .int ((c - c / (σ.1 0 1) * (σ.1 0 1)) + 1)] [] kX12_link jX12_113 (by decide +kernel) rfl rfl (Nat.le_of_ble_eq_true rfl) (Nat.le_of_ble_eq_true rfl) (by decide) rfl ?_
  exact k1

set_option maxRecDepth 20000 in
theorem w_m_links_74 {Q : Option Value → sy_S → Prop} {σ : sy_S} {c : Int32}  (b1 : ¬ (σ.1 0 1) = 0) (k1 : sy_E shM mX12_link (0, sy_ent [.ref 0, .int c, .int ((c / (σ.1 0 1)) + 1), .int (c - c / (σ.1 0 1) * (σ.1 0 1))] 4, [], σ) (fun r9 σ9 => sy_E shM mX12_links (93, [some (.ref 0), some (.int c)], r9.toList ++ [], σ9) Q)) : sy_E shM mX12_links (74, [some (.ref 0), some (.int c)], [], σ) Q := by
  refine sy_bk [(.aload_n 0, 0, 0, 0, 0), (.iload_n 1, 0, 0, 0, 0), (.iload_n 1, 0, 0, 0, 0), (.aload_n 0, 0, 0, 0, 0), (.getfield 15, 12, 1, 0, 0), (.idiv, 0, 0, 0, 0), (.iconst 1, 0, 0, 1, 0), (.iadd, 0, 0, 0, 0), (.iload_n 1, 0, 0, 0, 0), (.aload_n 0, 0, 0, 0, 0), (.getfield 15, 12, 1, 0, 0), (.irem, 0, 0, 0, 0)] (90, [some (.ref 0), some (.int c)], [.int (c - c / (σ.1 0 1) * (σ.1 0 1)), .int ((c / (σ.1 0 1)) + 1), .int c, .ref 0], σ) [¬ (σ.1 0 1) = 0, ¬ (σ.1 0 1) = 0] (by decide +kernel) rfl ⟨b1, b1, trivial⟩ ?_
  refine sy_callV mX12_link 0 [.int c, .int ((c / (σ.1 0 1)) + 1), .int (c - c / (σ.1 0 1) * (σ.1 0 1))] [] kX12_link jX12_113 (by decide +kernel) rfl rfl (Nat.le_of_ble_eq_true rfl) (Nat.le_of_ble_eq_true rfl) (by decide) rfl ?_
  exact k1

set_option maxRecDepth 20000 in
theorem w_m_links_93 {Q : Option Value → sy_S → Prop} {σ : sy_S} {c : Int32}   (k1 : sy_E shM mX12_links (2, [some (.ref 0), some (.int (c + 1))], [], σ) Q) : sy_E shM mX12_links (93, [some (.ref 0), some (.int c)], [], σ) Q := by
  refine sy_bk [(.iinc 1 1, 0, 0, 1, 0), (.goto (-94), 0, 2, 0, 0)] (2, [some (.ref 0), some (.int (c + 1))], [], σ) [] (by decide +kernel) rfl trivial ?_
  exact k1

set_option maxRecDepth 20000 in
theorem w_m_copies_0 {Q : Option Value → sy_S → Prop} {σ : sy_S} {a : Nat} {k : Nat} (ha : shM[a]? = some (0, 16, [])) (hk : shM[k]? = some (0, 16, []))  (k1 : sy_E shM mX12_copies (2, [some (.ref a), some (.ref k), some (.int 0)], [], σ) Q) : sy_E shM mX12_copies (0, sy_ent [.ref a, .ref k] 3, [], σ) Q := by
  show sy_E shM mX12_copies (0, [some (.ref a), some (.ref k), none], [], σ) _
  refine sy_bk [(.iconst 0, 0, 0, 0, 0), (.istore_n 2, 0, 0, 0, 0)] (2, [some (.ref a), some (.ref k), some (.int 0)], [], σ) [] (by decide +kernel) rfl trivial ?_
  exact k1

set_option maxRecDepth 20000 in
theorem w_m_copies_2 {Q : Option Value → sy_S → Prop} {σ : sy_S} {a : Nat} {k : Nat} {i : Int32} (ha : shM[a]? = some (0, 16, [])) (hk : shM[k]? = some (0, 16, [])) (b1 : ¬ (16 ≤ i) → vp_in i 16) (k1 : 16 ≤ i → Q none σ) (k2 : ¬ (16 ≤ i) → sy_E shM mX12_copies (2, [some (.ref a), some (.ref k), some (.int (i + 1))], [], (sy_up σ.1 k i.toNatClampNeg (σ.1 a i.toNatClampNeg), σ.2)) Q) : sy_E shM mX12_copies (2, [some (.ref a), some (.ref k), some (.int i)], [], σ) Q := by
  refine sy_bk [(.iload_n 2, 0, 0, 0, 0), (.bipush 16, 0, 0, 16, 0)] (5, [some (.ref a), some (.ref k), some (.int i)], [.int 16, .int i], σ) [] (by decide +kernel) rfl trivial ?_
  by_cases c1 : 16 ≤ i
  · refine sy_bk [(.if_icmp .ge 15, 1, 20, 0, 0)] (20, [some (.ref a), some (.ref k), some (.int i)], [], σ) [sy_cc .ge i 16] (by decide +kernel) rfl ⟨c1, trivial⟩ ?_
    exact sy_retv rfl (by decide +kernel) (k1 c1)
  · refine sy_bk [(.if_icmp .ge 15, 0, 20, 0, 0)] (8, [some (.ref a), some (.ref k), some (.int i)], [], σ) [¬ sy_cc .ge i 16] (by decide +kernel) rfl ⟨c1, trivial⟩ ?_
    refine sy_bk [(.aload_n 1, 0, 0, 0, 0), (.iload_n 2, 0, 0, 0, 0), (.aload_n 0, 0, 0, 0, 0), (.iload_n 2, 0, 0, 0, 0), (.iaload, 0, 0, 0, 0), (.iastore, 0, 0, 0, 0), (.iinc 2 1, 0, 0, 1, 0), (.goto (-15), 0, 2, 0, 0)] (2, [some (.ref a), some (.ref k), some (.int (i + 1))], [], (sy_up σ.1 k i.toNatClampNeg (σ.1 a i.toNatClampNeg), σ.2)) [sy_okA shM 0 a i, sy_okA shM 0 k i] (by decide +kernel) rfl ⟨⟨16, _, ha, (b1 c1)⟩, ⟨16, _, hk, (b1 c1)⟩, trivial⟩ ?_
    exact k2 c1

set_option maxRecDepth 20000 in
theorem w_m_places_0 {Q : Option Value → sy_S → Prop} {σ : sy_S}    (k1 : sy_E shM mX12_places (4, [some (.ref 0), some (.int 0), some (.int 0)], [], σ) Q) : sy_E shM mX12_places (0, sy_ent [.ref 0] 3, [], σ) Q := by
  show sy_E shM mX12_places (0, [some (.ref 0), none, none], [], σ) _
  refine sy_bk [(.iconst 0, 0, 0, 0, 0), (.istore_n 1, 0, 0, 0, 0), (.iconst 0, 0, 0, 0, 0), (.istore_n 2, 0, 0, 0, 0)] (4, [some (.ref 0), some (.int 0), some (.int 0)], [], σ) [] (by decide +kernel) rfl trivial ?_
  exact k1

set_option maxRecDepth 20000 in
theorem w_m_places_4 {Q : Option Value → sy_S → Prop} {σ : sy_S} {s : Int32} {i : Int32}  (b1 : ¬ (((σ.1 0 0) * (σ.1 0 1)) ≤ i) → vp_in i 16) (k1 : ((σ.1 0 0) * (σ.1 0 1)) ≤ i → Q (some (.int s)) σ) (k2 : ¬ (((σ.1 0 0) * (σ.1 0 1)) ≤ i) → (σ.1 1 i.toNatClampNeg) = 0 → sy_E shM mX12_places (4, [some (.ref 0), some (.int (s + 1)), some (.int (i + 1))], [], σ) Q) (k3 : ¬ (((σ.1 0 0) * (σ.1 0 1)) ≤ i) → ¬ ((σ.1 1 i.toNatClampNeg) = 0) → sy_E shM mX12_places (4, [some (.ref 0), some (.int (s + 0)), some (.int (i + 1))], [], σ) Q) : sy_E shM mX12_places (4, [some (.ref 0), some (.int s), some (.int i)], [], σ) Q := by
  refine sy_bk [(.iload_n 2, 0, 0, 0, 0), (.aload_n 0, 0, 0, 0, 0)] (6, [some (.ref 0), some (.int s), some (.int i)], [.ref 0, .int i], σ) [] (by decide +kernel) rfl trivial ?_
  refine sy_callV mX12_cells 0 [] [.int i] kX12_cells jX12_105 (by decide +kernel) rfl rfl (Nat.le_of_ble_eq_true rfl) (Nat.le_of_ble_eq_true rfl) (by decide) rfl ?_
  refine w_m_cells (σ := σ) ?_
  show sy_E shM mX12_places (9, [some (.ref 0), some (.int s), some (.int i)], [.int ((σ.1 0 0) * (σ.1 0 1)), .int i], σ) _
  by_cases c1 : ((σ.1 0 0) * (σ.1 0 1)) ≤ i
  · refine sy_bk [(.if_icmp .ge 26, 1, 35, 0, 0)] (35, [some (.ref 0), some (.int s), some (.int i)], [], σ) [sy_cc .ge i ((σ.1 0 0) * (σ.1 0 1))] (by decide +kernel) rfl ⟨c1, trivial⟩ ?_
    refine sy_bk [(.iload_n 1, 0, 0, 0, 0)] (36, [some (.ref 0), some (.int s), some (.int i)], [.int s], σ) [] (by decide +kernel) rfl trivial ?_
    exact sy_reti rfl (by decide +kernel) (k1 c1)
  · refine sy_bk [(.if_icmp .ge 26, 0, 35, 0, 0)] (12, [some (.ref 0), some (.int s), some (.int i)], [], σ) [¬ sy_cc .ge i ((σ.1 0 0) * (σ.1 0 1))] (by decide +kernel) rfl ⟨c1, trivial⟩ ?_
    refine sy_bk [(.iload_n 1, 0, 0, 0, 0), (.aload_n 0, 0, 0, 0, 0), (.getfield 18, 12, 2, 0, 0), (.iload_n 2, 0, 0, 0, 0), (.baload, 0, 0, 0, 0)] (19, [some (.ref 0), some (.int s), some (.int i)], [.int (σ.1 1 i.toNatClampNeg), .int s], σ) [sy_okA shM 1 1 i] (by decide +kernel) rfl ⟨⟨16, _, rfl, (b1 c1)⟩, trivial⟩ ?_
    by_cases c2 : (σ.1 1 i.toNatClampNeg) = 0
    · refine sy_bk [(.ifCond .eq 7, 1, 26, 0, 0)] (26, [some (.ref 0), some (.int s), some (.int i)], [.int s], σ) [sy_cc .eq (σ.1 1 i.toNatClampNeg) 0] (by decide +kernel) rfl ⟨c2, trivial⟩ ?_
      refine sy_bk [(.iconst 1, 0, 0, 1, 0), (.iadd, 0, 0, 0, 0), (.istore_n 1, 0, 0, 0, 0), (.iinc 2 1, 0, 0, 1, 0), (.goto (-28), 0, 4, 0, 0)] (4, [some (.ref 0), some (.int (s + 1)), some (.int (i + 1))], [], σ) [] (by decide +kernel) rfl trivial ?_
      exact k2 c1 c2
    · refine sy_bk [(.ifCond .eq 7, 0, 26, 0, 0)] (22, [some (.ref 0), some (.int s), some (.int i)], [.int s], σ) [¬ sy_cc .eq (σ.1 1 i.toNatClampNeg) 0] (by decide +kernel) rfl ⟨c2, trivial⟩ ?_
      refine sy_bk [(.iconst 0, 0, 0, 0, 0), (.goto 4, 0, 27, 0, 0), (.iadd, 0, 0, 0, 0), (.istore_n 1, 0, 0, 0, 0), (.iinc 2 1, 0, 0, 1, 0), (.goto (-28), 0, 4, 0, 0)] (4, [some (.ref 0), some (.int (s + 0)), some (.int (i + 1))], [], σ) [] (by decide +kernel) rfl trivial ?_
      exact k3 c1 c2

set_option maxRecDepth 20000 in
theorem w_m_topples_0 {Q : Option Value → sy_S → Prop} {σ : sy_S} {k : Nat} {c : Int32} {t : Int32} (hk : shM[k]? = some (0, 16, [])) (b1 : vp_in c 16) (k1 : sy_E shM mX12_topples (12, [some (.ref 0), some (.ref k), some (.int c), some (.int t), some (.int 0)], [], (sy_up σ.1 k c.toNatClampNeg ((σ.1 k c.toNatClampNeg) - (4 * t)), σ.2)) Q) : sy_E shM mX12_topples (0, sy_ent [.ref 0, .ref k, .int c, .int t] 5, [], σ) Q := by
  show sy_E shM mX12_topples (0, [some (.ref 0), some (.ref k), some (.int c), some (.int t), none], [], σ) _
  refine sy_bk [(.aload_n 1, 0, 0, 0, 0), (.iload_n 2, 0, 0, 0, 0), (.dup2, 0, 0, 0, 0), (.iaload, 0, 0, 0, 0), (.iconst 4, 0, 0, 4, 0), (.iload_n 3, 0, 0, 0, 0), (.imul, 0, 0, 0, 0), (.isub, 0, 0, 0, 0), (.iastore, 0, 0, 0, 0), (.iconst 0, 0, 0, 0, 0), (.istore 4, 0, 0, 0, 0)] (12, [some (.ref 0), some (.ref k), some (.int c), some (.int t), some (.int 0)], [], (sy_up σ.1 k c.toNatClampNeg ((σ.1 k c.toNatClampNeg) - (4 * t)), σ.2)) [sy_okA shM 0 k c, sy_okA shM 0 k c] (by decide +kernel) rfl ⟨⟨16, _, hk, b1⟩, ⟨16, _, hk, b1⟩, trivial⟩ ?_
  exact k1

set_option maxRecDepth 20000 in
theorem w_m_topples_12 {Q : Option Value → sy_S → Prop} {σ : sy_S} {k : Nat} {c : Int32} {t : Int32} {i : Int32} (hk : shM[k]? = some (0, 16, [])) (b1 : vp_in c 16) (b2 : ¬ ((σ.1 4 c.toNatClampNeg) ≤ i) → vp_in ((4 * c) + i) 64) (b3 : ¬ ((σ.1 4 c.toNatClampNeg) ≤ i) → vp_in (σ.1 3 (((4 * c) + i).toNatClampNeg)) 16) (k1 : (σ.1 4 c.toNatClampNeg) ≤ i → Q none (sy_up (sy_up σ.1 5 c.toNatClampNeg ((σ.1 5 c.toNatClampNeg) + t)) 0 7 ((σ.1 0 7) + (t * (4 - (σ.1 4 c.toNatClampNeg)))), σ.2)) (k2 : ¬ ((σ.1 4 c.toNatClampNeg) ≤ i) → sy_E shM mX12_topples (12, [some (.ref 0), some (.ref k), some (.int c), some (.int t), some (.int (i + 1))], [], (sy_up σ.1 k ((σ.1 3 (((4 * c) + i).toNatClampNeg)).toNatClampNeg) ((σ.1 k ((σ.1 3 (((4 * c) + i).toNatClampNeg)).toNatClampNeg)) + t), σ.2)) Q) : sy_E shM mX12_topples (12, [some (.ref 0), some (.ref k), some (.int c), some (.int t), some (.int i)], [], σ) Q := by
  refine sy_bk [(.iload 4, 0, 0, 0, 0), (.aload_n 0, 0, 0, 0, 0), (.getfield 29, 12, 5, 0, 0), (.iload_n 2, 0, 0, 0, 0), (.iaload, 0, 0, 0, 0)] (20, [some (.ref 0), some (.ref k), some (.int c), some (.int t), some (.int i)], [.int (σ.1 4 c.toNatClampNeg), .int i], σ) [sy_okA shM 0 4 c] (by decide +kernel) rfl ⟨⟨16, _, rfl, b1⟩, trivial⟩ ?_
  by_cases c1 : (σ.1 4 c.toNatClampNeg) ≤ i
  · refine sy_bk [(.if_icmp .ge 26, 1, 46, 0, 0)] (46, [some (.ref 0), some (.ref k), some (.int c), some (.int t), some (.int i)], [], σ) [sy_cc .ge i (σ.1 4 c.toNatClampNeg)] (by decide +kernel) rfl ⟨c1, trivial⟩ ?_
    refine sy_bk [(.aload_n 0, 0, 0, 0, 0), (.getfield 32, 12, 6, 0, 0), (.iload_n 2, 0, 0, 0, 0), (.dup2, 0, 0, 0, 0), (.iaload, 0, 0, 0, 0), (.iload_n 3, 0, 0, 0, 0), (.iadd, 0, 0, 0, 0), (.iastore, 0, 0, 0, 0), (.aload_n 0, 0, 0, 0, 0), (.dup, 0, 0, 0, 0), (.getfield 117, 12, 7, 0, 0), (.iload_n 3, 0, 0, 0, 0), (.iconst 4, 0, 0, 4, 0), (.aload_n 0, 0, 0, 0, 0), (.getfield 29, 12, 5, 0, 0), (.iload_n 2, 0, 0, 0, 0), (.iaload, 0, 0, 0, 0), (.isub, 0, 0, 0, 0), (.imul, 0, 0, 0, 0), (.iadd, 0, 0, 0, 0), (.putfield 117, 12, 7, 0, 0)] (75, [some (.ref 0), some (.ref k), some (.int c), some (.int t), some (.int i)], [], (sy_up (sy_up σ.1 5 c.toNatClampNeg ((σ.1 5 c.toNatClampNeg) + t)) 0 7 ((σ.1 0 7) + (t * (4 - (σ.1 4 c.toNatClampNeg)))), σ.2)) [sy_okA shM 0 5 c, sy_okA shM 0 5 c, sy_okA shM 0 4 c] (by decide +kernel) rfl ⟨⟨16, _, rfl, b1⟩, ⟨16, _, rfl, b1⟩, ⟨16, _, rfl, b1⟩, trivial⟩ ?_
    exact sy_retv rfl (by decide +kernel) (k1 c1)
  · refine sy_bk [(.if_icmp .ge 26, 0, 46, 0, 0)] (23, [some (.ref 0), some (.ref k), some (.int c), some (.int t), some (.int i)], [], σ) [¬ sy_cc .ge i (σ.1 4 c.toNatClampNeg)] (by decide +kernel) rfl ⟨c1, trivial⟩ ?_
    refine sy_bk [(.aload_n 1, 0, 0, 0, 0), (.aload_n 0, 0, 0, 0, 0), (.getfield 26, 12, 4, 0, 0), (.iconst 4, 0, 0, 4, 0), (.iload_n 2, 0, 0, 0, 0), (.imul, 0, 0, 0, 0), (.iload 4, 0, 0, 0, 0), (.iadd, 0, 0, 0, 0), (.iaload, 0, 0, 0, 0), (.dup2, 0, 0, 0, 0), (.iaload, 0, 0, 0, 0), (.iload_n 3, 0, 0, 0, 0), (.iadd, 0, 0, 0, 0), (.iastore, 0, 0, 0, 0), (.iinc 4 1, 0, 0, 1, 0), (.goto (-31), 0, 12, 0, 0)] (12, [some (.ref 0), some (.ref k), some (.int c), some (.int t), some (.int (i + 1))], [], (sy_up σ.1 k ((σ.1 3 (((4 * c) + i).toNatClampNeg)).toNatClampNeg) ((σ.1 k ((σ.1 3 (((4 * c) + i).toNatClampNeg)).toNatClampNeg)) + t), σ.2)) [sy_okA shM 0 3 ((4 * c) + i), sy_okA shM 0 k (σ.1 3 (((4 * c) + i).toNatClampNeg)), sy_okA shM 0 k (σ.1 3 (((4 * c) + i).toNatClampNeg))] (by decide +kernel) rfl ⟨⟨64, _, rfl, (b2 c1)⟩, ⟨16, _, hk, (b3 c1)⟩, ⟨16, _, hk, (b3 c1)⟩, trivial⟩ ?_
    exact k2 c1

set_option maxRecDepth 20000 in
theorem w_m_begins_0 {Q : Option Value → sy_S → Prop} {σ : sy_S}    (k1 : sy_E shM mX12_begins (7, [some (.ref 0), some (.int 0)], [], (sy_up σ.1 0 7 0, σ.2)) Q) : sy_E shM mX12_begins (0, sy_ent [.ref 0] 2, [], σ) Q := by
  show sy_E shM mX12_begins (0, [some (.ref 0), none], [], σ) _
  refine sy_bk [(.aload_n 0, 0, 0, 0, 0), (.iconst 0, 0, 0, 0, 0), (.putfield 117, 12, 7, 0, 0), (.iconst 0, 0, 0, 0, 0), (.istore_n 1, 0, 0, 0, 0)] (7, [some (.ref 0), some (.int 0)], [], (sy_up σ.1 0 7 0, σ.2)) [] (by decide +kernel) rfl trivial ?_
  exact k1

set_option maxRecDepth 20000 in
theorem w_m_begins_7 {Q : Option Value → sy_S → Prop} {σ : sy_S} {i : Int32}  (b1 : ¬ (16 ≤ i) → vp_in i 16) (k1 : 16 ≤ i → Q none σ) (k2 : ¬ (16 ≤ i) → sy_E shM mX12_begins (7, [some (.ref 0), some (.int (i + 1))], [], (sy_up σ.1 5 i.toNatClampNeg 0, σ.2)) Q) : sy_E shM mX12_begins (7, [some (.ref 0), some (.int i)], [], σ) Q := by
  refine sy_bk [(.iload_n 1, 0, 0, 0, 0), (.bipush 16, 0, 0, 16, 0)] (10, [some (.ref 0), some (.int i)], [.int 16, .int i], σ) [] (by decide +kernel) rfl trivial ?_
  by_cases c1 : 16 ≤ i
  · refine sy_bk [(.if_icmp .ge 16, 1, 26, 0, 0)] (26, [some (.ref 0), some (.int i)], [], σ) [sy_cc .ge i 16] (by decide +kernel) rfl ⟨c1, trivial⟩ ?_
    exact sy_retv rfl (by decide +kernel) (k1 c1)
  · refine sy_bk [(.if_icmp .ge 16, 0, 26, 0, 0)] (13, [some (.ref 0), some (.int i)], [], σ) [¬ sy_cc .ge i 16] (by decide +kernel) rfl ⟨c1, trivial⟩ ?_
    refine sy_bk [(.aload_n 0, 0, 0, 0, 0), (.getfield 32, 12, 6, 0, 0), (.iload_n 1, 0, 0, 0, 0), (.iconst 0, 0, 0, 0, 0), (.iastore, 0, 0, 0, 0), (.iinc 1 1, 0, 0, 1, 0), (.goto (-16), 0, 7, 0, 0)] (7, [some (.ref 0), some (.int (i + 1))], [], (sy_up σ.1 5 i.toNatClampNeg 0, σ.2)) [sy_okA shM 0 5 i] (by decide +kernel) rfl ⟨⟨16, _, rfl, (b1 c1)⟩, trivial⟩ ?_
    exact k2 c1

set_option maxRecDepth 20000 in
theorem w_m_may {Q : Option Value → sy_S → Prop} {σ : sy_S} {k : Nat} {c : Int32} (hk : shM[k]? = some (0, 16, [])) (b1 : vp_in c 16) (k1 : ¬ (σ.1 1 c.toNatClampNeg) = 0 → Q (some (.int 0)) σ) (k2 : ¬ (¬ (σ.1 1 c.toNatClampNeg) = 0) → (σ.1 k c.toNatClampNeg) < 4 → Q (some (.int 0)) σ) (k3 : ¬ (¬ (σ.1 1 c.toNatClampNeg) = 0) → ¬ ((σ.1 k c.toNatClampNeg) < 4) → Q (some (.int 1)) σ) : sy_E shM mX12_may (0, sy_ent [.ref 0, .ref k, .int c] 3, [], σ) Q := by
  show sy_E shM mX12_may (0, [some (.ref 0), some (.ref k), some (.int c)], [], σ) _
  refine sy_bk [(.aload_n 0, 0, 0, 0, 0), (.getfield 18, 12, 2, 0, 0), (.iload_n 2, 0, 0, 0, 0), (.baload, 0, 0, 0, 0)] (6, [some (.ref 0), some (.ref k), some (.int c)], [.int (σ.1 1 c.toNatClampNeg)], σ) [sy_okA shM 1 1 c] (by decide +kernel) rfl ⟨⟨16, _, rfl, b1⟩, trivial⟩ ?_
  by_cases c1 : ¬ (σ.1 1 c.toNatClampNeg) = 0
  · refine sy_bk [(.ifCond .ne 14, 1, 20, 0, 0)] (20, [some (.ref 0), some (.ref k), some (.int c)], [], σ) [sy_cc .ne (σ.1 1 c.toNatClampNeg) 0] (by decide +kernel) rfl ⟨c1, trivial⟩ ?_
    refine sy_bk [(.iconst 0, 0, 0, 0, 0)] (21, [some (.ref 0), some (.ref k), some (.int c)], [.int 0], σ) [] (by decide +kernel) rfl trivial ?_
    exact sy_retz rfl (by decide +kernel) (Or.inl rfl) (k1 c1)
  · refine sy_bk [(.ifCond .ne 14, 0, 20, 0, 0)] (9, [some (.ref 0), some (.ref k), some (.int c)], [], σ) [¬ sy_cc .ne (σ.1 1 c.toNatClampNeg) 0] (by decide +kernel) rfl ⟨c1, trivial⟩ ?_
    refine sy_bk [(.aload_n 1, 0, 0, 0, 0), (.iload_n 2, 0, 0, 0, 0), (.iaload, 0, 0, 0, 0), (.iconst 4, 0, 0, 4, 0)] (13, [some (.ref 0), some (.ref k), some (.int c)], [.int 4, .int (σ.1 k c.toNatClampNeg)], σ) [sy_okA shM 0 k c] (by decide +kernel) rfl ⟨⟨16, _, hk, b1⟩, trivial⟩ ?_
    by_cases c2 : (σ.1 k c.toNatClampNeg) < 4
    · refine sy_bk [(.if_icmp .lt 7, 1, 20, 0, 0)] (20, [some (.ref 0), some (.ref k), some (.int c)], [], σ) [sy_cc .lt (σ.1 k c.toNatClampNeg) 4] (by decide +kernel) rfl ⟨c2, trivial⟩ ?_
      refine sy_bk [(.iconst 0, 0, 0, 0, 0)] (21, [some (.ref 0), some (.ref k), some (.int c)], [.int 0], σ) [] (by decide +kernel) rfl trivial ?_
      exact sy_retz rfl (by decide +kernel) (Or.inl rfl) (k2 c1 c2)
    · refine sy_bk [(.if_icmp .lt 7, 0, 20, 0, 0)] (16, [some (.ref 0), some (.ref k), some (.int c)], [], σ) [¬ sy_cc .lt (σ.1 k c.toNatClampNeg) 4] (by decide +kernel) rfl ⟨c2, trivial⟩ ?_
      refine sy_bk [(.iconst 1, 0, 0, 1, 0), (.goto 4, 0, 21, 0, 0)] (21, [some (.ref 0), some (.ref k), some (.int c)], [.int 1], σ) [] (by decide +kernel) rfl trivial ?_
      exact sy_retz rfl (by decide +kernel) (Or.inr rfl) (k3 c1 c2)

set_option maxRecDepth 20000 in
theorem w_m_isStable_0 {Q : Option Value → sy_S → Prop} {σ : sy_S} {k : Nat} (hk : shM[k]? = some (0, 16, []))  (k1 : sy_E shM mX12_isStable (4, [some (.ref 0), some (.ref k), some (.int 1), some (.int 0)], [], σ) Q) : sy_E shM mX12_isStable (0, sy_ent [.ref 0, .ref k] 4, [], σ) Q := by
  show sy_E shM mX12_isStable (0, [some (.ref 0), some (.ref k), none, none], [], σ) _
  refine sy_bk [(.iconst 1, 0, 0, 1, 0), (.istore_n 2, 0, 0, 0, 0), (.iconst 0, 0, 0, 0, 0), (.istore_n 3, 0, 0, 0, 0)] (4, [some (.ref 0), some (.ref k), some (.int 1), some (.int 0)], [], σ) [] (by decide +kernel) rfl trivial ?_
  exact k1

set_option maxRecDepth 20000 in
theorem w_m_isStable_4 {Q : Option Value → sy_S → Prop} {σ : sy_S} {k : Nat} {s : Int32} {i : Int32} (hk : shM[k]? = some (0, 16, [])) (b1 : ((σ.1 0 0) * (σ.1 0 1)) ≤ i → s = 0 ∨ s = 1) (k1 : ((σ.1 0 0) * (σ.1 0 1)) ≤ i → Q (some (.int s)) σ) (k2 : ¬ (((σ.1 0 0) * (σ.1 0 1)) ≤ i) → sy_E shM mX12_may (0, sy_ent [.ref 0, .ref k, .int i] 3, [], σ) (fun r9 σ9 => sy_E shM mX12_isStable (19, [some (.ref 0), some (.ref k), none, some (.int i)], r9.toList ++ [.int s], σ9) Q)) : sy_E shM mX12_isStable (4, [some (.ref 0), some (.ref k), some (.int s), some (.int i)], [], σ) Q := by
  refine sy_bk [(.iload_n 3, 0, 0, 0, 0), (.aload_n 0, 0, 0, 0, 0)] (6, [some (.ref 0), some (.ref k), some (.int s), some (.int i)], [.ref 0, .int i], σ) [] (by decide +kernel) rfl trivial ?_
  refine sy_callV mX12_cells 0 [] [.int i] kX12_cells jX12_105 (by decide +kernel) rfl rfl (Nat.le_of_ble_eq_true rfl) (Nat.le_of_ble_eq_true rfl) (by decide) rfl ?_
  refine w_m_cells (σ := σ) ?_
  show sy_E shM mX12_isStable (9, [some (.ref 0), some (.ref k), some (.int s), some (.int i)], [.int ((σ.1 0 0) * (σ.1 0 1)), .int i], σ) _
  by_cases c1 : ((σ.1 0 0) * (σ.1 0 1)) ≤ i
  · refine sy_bk [(.if_icmp .ge 26, 1, 35, 0, 0)] (35, [some (.ref 0), some (.ref k), some (.int s), some (.int i)], [], σ) [sy_cc .ge i ((σ.1 0 0) * (σ.1 0 1))] (by decide +kernel) rfl ⟨c1, trivial⟩ ?_
    refine sy_bk [(.iload_n 2, 0, 0, 0, 0)] (36, [some (.ref 0), some (.ref k), some (.int s), some (.int i)], [.int s], σ) [] (by decide +kernel) rfl trivial ?_
    exact sy_retz rfl (by decide +kernel) (b1 c1) (k1 c1)
  · refine sy_bk [(.if_icmp .ge 26, 0, 35, 0, 0)] (12, [some (.ref 0), some (.ref k), some (.int s), some (.int i)], [], σ) [¬ sy_cc .ge i ((σ.1 0 0) * (σ.1 0 1))] (by decide +kernel) rfl ⟨c1, trivial⟩ ?_
    refine sy_bk [(.iload_n 2, 0, 0, 0, 0), (.aload_n 0, 0, 0, 0, 0), (.aload_n 1, 0, 0, 0, 0), (.iload_n 3, 0, 0, 0, 0)] (16, [some (.ref 0), some (.ref k), some (.int s), some (.int i)], [.int i, .ref k, .ref 0, .int s], σ) [] (by decide +kernel) rfl trivial ?_
    refine sy_drop [some (.ref 0), some (.ref k), none, some (.int i)] ⟨rfl, rfl, rfl, trivial⟩ ?_
    refine sy_callV mX12_may 0 [.ref k, .int i] [.int s] kX12_may jX12_120 (by decide +kernel) rfl rfl (Nat.le_of_ble_eq_true rfl) (Nat.le_of_ble_eq_true rfl) (by decide) rfl ?_
    exact k2 c1

set_option maxRecDepth 20000 in
theorem w_m_isStable_19 {Q : Option Value → sy_S → Prop} {σ : sy_S} {k : Nat} {s : Int32} {i : Int32} {v : Int32} (hk : shM[k]? = some (0, 16, []))  (k1 : ¬ v = 0 → sy_E shM mX12_isStable (4, [some (.ref 0), some (.ref k), some (.int (s &&& 0)), some (.int (i + 1))], [], σ) Q) (k2 : ¬ (¬ v = 0) → sy_E shM mX12_isStable (4, [some (.ref 0), some (.ref k), some (.int (s &&& 1)), some (.int (i + 1))], [], σ) Q) : sy_E shM mX12_isStable (19, [some (.ref 0), some (.ref k), none, some (.int i)], [.int v, .int s], σ) Q := by
  by_cases c1 : ¬ v = 0
  · refine sy_bk [(.ifCond .ne 7, 1, 26, 0, 0)] (26, [some (.ref 0), some (.ref k), none, some (.int i)], [.int s], σ) [sy_cc .ne v 0] (by decide +kernel) rfl ⟨c1, trivial⟩ ?_
    refine sy_bk [(.iconst 0, 0, 0, 0, 0), (.iand, 0, 0, 0, 0), (.istore_n 2, 0, 0, 0, 0), (.iinc 3 1, 0, 0, 1, 0), (.goto (-28), 0, 4, 0, 0)] (4, [some (.ref 0), some (.ref k), some (.int (s &&& 0)), some (.int (i + 1))], [], σ) [] (by decide +kernel) rfl trivial ?_
    exact k1 c1
  · refine sy_bk [(.ifCond .ne 7, 0, 26, 0, 0)] (22, [some (.ref 0), some (.ref k), none, some (.int i)], [.int s], σ) [¬ sy_cc .ne v 0] (by decide +kernel) rfl ⟨c1, trivial⟩ ?_
    refine sy_bk [(.iconst 1, 0, 0, 1, 0), (.goto 4, 0, 27, 0, 0), (.iand, 0, 0, 0, 0), (.istore_n 2, 0, 0, 0, 0), (.iinc 3 1, 0, 0, 1, 0), (.goto (-28), 0, 4, 0, 0)] (4, [some (.ref 0), some (.ref k), some (.int (s &&& 1)), some (.int (i + 1))], [], σ) [] (by decide +kernel) rfl trivial ?_
    exact k2 c1

set_option maxRecDepth 20000 in
theorem w_m_size_0 {Q : Option Value → sy_S → Prop} {σ : sy_S}    (k1 : sy_E shM mX12_sizeCounted (4, [some (.ref 0), some (.int 0), some (.int 0)], [], σ) Q) : sy_E shM mX12_sizeCounted (0, sy_ent [.ref 0] 3, [], σ) Q := by
  show sy_E shM mX12_sizeCounted (0, [some (.ref 0), none, none], [], σ) _
  refine sy_bk [(.iconst 0, 0, 0, 0, 0), (.istore_n 1, 0, 0, 0, 0), (.iconst 0, 0, 0, 0, 0), (.istore_n 2, 0, 0, 0, 0)] (4, [some (.ref 0), some (.int 0), some (.int 0)], [], σ) [] (by decide +kernel) rfl trivial ?_
  exact k1

set_option maxRecDepth 20000 in
theorem w_m_size_4 {Q : Option Value → sy_S → Prop} {σ : sy_S} {s : Int32} {i : Int32}  (b1 : ¬ (16 ≤ i) → vp_in i 16) (k1 : 16 ≤ i → Q (some (.int s)) σ) (k2 : ¬ (16 ≤ i) → sy_E shM mX12_sizeCounted (4, [some (.ref 0), some (.int (s + (σ.1 5 i.toNatClampNeg))), some (.int (i + 1))], [], σ) Q) : sy_E shM mX12_sizeCounted (4, [some (.ref 0), some (.int s), some (.int i)], [], σ) Q := by
  refine sy_bk [(.iload_n 2, 0, 0, 0, 0), (.bipush 16, 0, 0, 16, 0)] (7, [some (.ref 0), some (.int s), some (.int i)], [.int 16, .int i], σ) [] (by decide +kernel) rfl trivial ?_
  by_cases c1 : 16 ≤ i
  · refine sy_bk [(.if_icmp .ge 18, 1, 25, 0, 0)] (25, [some (.ref 0), some (.int s), some (.int i)], [], σ) [sy_cc .ge i 16] (by decide +kernel) rfl ⟨c1, trivial⟩ ?_
    refine sy_bk [(.iload_n 1, 0, 0, 0, 0)] (26, [some (.ref 0), some (.int s), some (.int i)], [.int s], σ) [] (by decide +kernel) rfl trivial ?_
    exact sy_reti rfl (by decide +kernel) (k1 c1)
  · refine sy_bk [(.if_icmp .ge 18, 0, 25, 0, 0)] (10, [some (.ref 0), some (.int s), some (.int i)], [], σ) [¬ sy_cc .ge i 16] (by decide +kernel) rfl ⟨c1, trivial⟩ ?_
    refine sy_bk [(.iload_n 1, 0, 0, 0, 0), (.aload_n 0, 0, 0, 0, 0), (.getfield 32, 12, 6, 0, 0), (.iload_n 2, 0, 0, 0, 0), (.iaload, 0, 0, 0, 0), (.iadd, 0, 0, 0, 0), (.istore_n 1, 0, 0, 0, 0), (.iinc 2 1, 0, 0, 1, 0), (.goto (-18), 0, 4, 0, 0)] (4, [some (.ref 0), some (.int (s + (σ.1 5 i.toNatClampNeg))), some (.int (i + 1))], [], σ) [sy_okA shM 0 5 i] (by decide +kernel) rfl ⟨⟨16, _, rfl, (b1 c1)⟩, trivial⟩ ?_
    exact k2 c1

set_option maxRecDepth 20000 in
theorem w_m_settles_0 {Q : Option Value → sy_S → Prop} {σ : sy_S} {k : Nat} (hk : shM[k]? = some (0, 16, []))  (k1 : sy_E shM mX12_begins (0, sy_ent [.ref 0] 2, [], σ) (fun r9 σ9 => sy_E shM mX12_settles (4, [some (.ref 0), some (.ref k), none], r9.toList ++ [], σ9) Q)) : sy_E shM mX12_settles (0, sy_ent [.ref 0, .ref k] 3, [], σ) Q := by
  show sy_E shM mX12_settles (0, [some (.ref 0), some (.ref k), none], [], σ) _
  refine sy_bk [(.aload_n 0, 0, 0, 0, 0)] (1, [some (.ref 0), some (.ref k), none], [.ref 0], σ) [] (by decide +kernel) rfl trivial ?_
  refine sy_callV mX12_begins 0 [] [] kX12_begins jX12_124 (by decide +kernel) rfl rfl (Nat.le_of_ble_eq_true rfl) (Nat.le_of_ble_eq_true rfl) (by decide) rfl ?_
  exact k1

set_option maxRecDepth 20000 in
theorem w_m_settles_4 {Q : Option Value → sy_S → Prop} {σ : sy_S} {k : Nat} (hk : shM[k]? = some (0, 16, []))  (k1 : sy_E shM mX12_isStable (0, sy_ent [.ref 0, .ref k] 4, [], σ) (fun r9 σ9 => sy_E shM mX12_settles (9, [some (.ref 0), some (.ref k), none], r9.toList ++ [], σ9) Q)) : sy_E shM mX12_settles (4, [some (.ref 0), some (.ref k), none], [], σ) Q := by
  refine sy_bk [(.aload_n 0, 0, 0, 0, 0), (.aload_n 1, 0, 0, 0, 0)] (6, [some (.ref 0), some (.ref k), none], [.ref k, .ref 0], σ) [] (by decide +kernel) rfl trivial ?_
  refine sy_callV mX12_isStable 0 [.ref k] [] kX12_isStable jX12_127 (by decide +kernel) rfl rfl (Nat.le_of_ble_eq_true rfl) (Nat.le_of_ble_eq_true rfl) (by decide) rfl ?_
  exact k1

set_option maxRecDepth 20000 in
theorem w_m_settles_9 {Q : Option Value → sy_S → Prop} {σ : sy_S} {k : Nat} {v : Int32} (hk : shM[k]? = some (0, 16, []))  (k1 : ¬ v = 0 → sy_E shM mX12_sizeCounted (0, sy_ent [.ref 0] 3, [], σ) (fun r9 σ9 => sy_E shM mX12_settles (55, [none, none, none], r9.toList ++ [], σ9) Q)) (k2 : ¬ (¬ v = 0) → sy_E shM mX12_settles (14, [some (.ref 0), some (.ref k), some (.int 0)], [], σ) Q) : sy_E shM mX12_settles (9, [some (.ref 0), some (.ref k), none], [.int v], σ) Q := by
  by_cases c1 : ¬ v = 0
  · refine sy_bk [(.ifCond .ne 42, 1, 51, 0, 0)] (51, [some (.ref 0), some (.ref k), none], [], σ) [sy_cc .ne v 0] (by decide +kernel) rfl ⟨c1, trivial⟩ ?_
    refine sy_bk [(.aload_n 0, 0, 0, 0, 0)] (52, [some (.ref 0), some (.ref k), none], [.ref 0], σ) [] (by decide +kernel) rfl trivial ?_
    refine sy_drop [none, none, none] trivial ?_
    refine sy_callV mX12_sizeCounted 0 [] [] kX12_sizeCounted jX12_135 (by decide +kernel) rfl rfl (Nat.le_of_ble_eq_true rfl) (Nat.le_of_ble_eq_true rfl) (by decide) rfl ?_
    exact k1 c1
  · refine sy_bk [(.ifCond .ne 42, 0, 51, 0, 0)] (12, [some (.ref 0), some (.ref k), none], [], σ) [¬ sy_cc .ne v 0] (by decide +kernel) rfl ⟨c1, trivial⟩ ?_
    refine sy_bk [(.iconst 0, 0, 0, 0, 0), (.istore_n 2, 0, 0, 0, 0)] (14, [some (.ref 0), some (.ref k), some (.int 0)], [], σ) [] (by decide +kernel) rfl trivial ?_
    exact k2 c1

set_option maxRecDepth 20000 in
theorem w_m_settles_14 {Q : Option Value → sy_S → Prop} {σ : sy_S} {k : Nat} {i : Int32} (hk : shM[k]? = some (0, 16, []))  (k1 : ((σ.1 0 0) * (σ.1 0 1)) ≤ i → sy_E shM mX12_settles (4, [some (.ref 0), some (.ref k), none], [], σ) Q) (k2 : ¬ (((σ.1 0 0) * (σ.1 0 1)) ≤ i) → sy_E shM mX12_may (0, sy_ent [.ref 0, .ref k, .int i] 3, [], σ) (fun r9 σ9 => sy_E shM mX12_settles (28, [some (.ref 0), some (.ref k), some (.int i)], r9.toList ++ [], σ9) Q)) : sy_E shM mX12_settles (14, [some (.ref 0), some (.ref k), some (.int i)], [], σ) Q := by
  refine sy_bk [(.iload_n 2, 0, 0, 0, 0), (.aload_n 0, 0, 0, 0, 0)] (16, [some (.ref 0), some (.ref k), some (.int i)], [.ref 0, .int i], σ) [] (by decide +kernel) rfl trivial ?_
  refine sy_callV mX12_cells 0 [] [.int i] kX12_cells jX12_105 (by decide +kernel) rfl rfl (Nat.le_of_ble_eq_true rfl) (Nat.le_of_ble_eq_true rfl) (by decide) rfl ?_
  refine w_m_cells (σ := σ) ?_
  show sy_E shM mX12_settles (19, [some (.ref 0), some (.ref k), some (.int i)], [.int ((σ.1 0 0) * (σ.1 0 1)), .int i], σ) _
  by_cases c1 : ((σ.1 0 0) * (σ.1 0 1)) ≤ i
  · refine sy_bk [(.if_icmp .ge 29, 1, 48, 0, 0)] (48, [some (.ref 0), some (.ref k), some (.int i)], [], σ) [sy_cc .ge i ((σ.1 0 0) * (σ.1 0 1))] (by decide +kernel) rfl ⟨c1, trivial⟩ ?_
    refine sy_bk [(.goto (-44), 0, 4, 0, 0)] (4, [some (.ref 0), some (.ref k), some (.int i)], [], σ) [] (by decide +kernel) rfl trivial ?_
    refine sy_drop [some (.ref 0), some (.ref k), none] ⟨rfl, rfl, trivial⟩ ?_
    exact k1 c1
  · refine sy_bk [(.if_icmp .ge 29, 0, 48, 0, 0)] (22, [some (.ref 0), some (.ref k), some (.int i)], [], σ) [¬ sy_cc .ge i ((σ.1 0 0) * (σ.1 0 1))] (by decide +kernel) rfl ⟨c1, trivial⟩ ?_
    refine sy_bk [(.aload_n 0, 0, 0, 0, 0), (.aload_n 1, 0, 0, 0, 0), (.iload_n 2, 0, 0, 0, 0)] (25, [some (.ref 0), some (.ref k), some (.int i)], [.int i, .ref k, .ref 0], σ) [] (by decide +kernel) rfl trivial ?_
    refine sy_callV mX12_may 0 [.ref k, .int i] [] kX12_may jX12_120 (by decide +kernel) rfl rfl (Nat.le_of_ble_eq_true rfl) (Nat.le_of_ble_eq_true rfl) (by decide) rfl ?_
    exact k2 c1

set_option maxRecDepth 20000 in
theorem w_m_settles_28 {Q : Option Value → sy_S → Prop} {σ : sy_S} {k : Nat} {i : Int32} {v : Int32} (hk : shM[k]? = some (0, 16, [])) (b1 : ¬ (v = 0) → vp_in i 16) (k1 : v = 0 → sy_E shM mX12_settles (14, [some (.ref 0), some (.ref k), some (.int (i + 1))], [], σ) Q) (k2 : ¬ (v = 0) → sy_E shM mX12_topples (0, sy_ent [.ref 0, .ref k, .int i, .int ((σ.1 k i.toNatClampNeg) / 4)] 5, [], σ) (fun r9 σ9 => sy_E shM mX12_settles (42, [some (.ref 0), some (.ref k), some (.int i)], r9.toList ++ [], σ9) Q)) : sy_E shM mX12_settles (28, [some (.ref 0), some (.ref k), some (.int i)], [.int v], σ) Q := by
  by_cases c1 : v = 0
  · refine sy_bk [(.ifCond .eq 14, 1, 42, 0, 0)] (42, [some (.ref 0), some (.ref k), some (.int i)], [], σ) [sy_cc .eq v 0] (by decide +kernel) rfl ⟨c1, trivial⟩ ?_
    refine sy_bk [(.iinc 2 1, 0, 0, 1, 0), (.goto (-31), 0, 14, 0, 0)] (14, [some (.ref 0), some (.ref k), some (.int (i + 1))], [], σ) [] (by decide +kernel) rfl trivial ?_
    exact k1 c1
  · refine sy_bk [(.ifCond .eq 14, 0, 42, 0, 0)] (31, [some (.ref 0), some (.ref k), some (.int i)], [], σ) [¬ sy_cc .eq v 0] (by decide +kernel) rfl ⟨c1, trivial⟩ ?_
    refine sy_bk [(.aload_n 0, 0, 0, 0, 0), (.aload_n 1, 0, 0, 0, 0), (.iload_n 2, 0, 0, 0, 0), (.aload_n 1, 0, 0, 0, 0), (.iload_n 2, 0, 0, 0, 0), (.iaload, 0, 0, 0, 0), (.iconst 4, 0, 0, 4, 0), (.idiv, 0, 0, 0, 0)] (39, [some (.ref 0), some (.ref k), some (.int i)], [.int ((σ.1 k i.toNatClampNeg) / 4), .int i, .ref k, .ref 0], σ) [sy_okA shM 0 k i, ¬ (4 : Int32) = 0] (by decide +kernel) rfl ⟨⟨16, _, hk, (b1 c1)⟩, (by decide), trivial⟩ ?_
    refine sy_callV mX12_topples 0 [.ref k, .int i, .int ((σ.1 k i.toNatClampNeg) / 4)] [] kX12_topples jX12_131 (by decide +kernel) rfl rfl (Nat.le_of_ble_eq_true rfl) (Nat.le_of_ble_eq_true rfl) (by decide) rfl ?_
    exact k2 c1

set_option maxRecDepth 20000 in
theorem w_m_settles_42 {Q : Option Value → sy_S → Prop} {σ : sy_S} {k : Nat} {i : Int32} (hk : shM[k]? = some (0, 16, []))  (k1 : sy_E shM mX12_settles (14, [some (.ref 0), some (.ref k), some (.int (i + 1))], [], σ) Q) : sy_E shM mX12_settles (42, [some (.ref 0), some (.ref k), some (.int i)], [], σ) Q := by
  refine sy_bk [(.iinc 2 1, 0, 0, 1, 0), (.goto (-31), 0, 14, 0, 0)] (14, [some (.ref 0), some (.ref k), some (.int (i + 1))], [], σ) [] (by decide +kernel) rfl trivial ?_
  exact k1

set_option maxRecDepth 20000 in
theorem w_m_settles_55 {Q : Option Value → sy_S → Prop} {σ : sy_S} {v : Int32}   (k1 : Q (some (.int v)) σ) : sy_E shM mX12_settles (55, [none, none, none], [.int v], σ) Q := by
  exact sy_reti rfl (by decide +kernel) (k1)

set_option maxRecDepth 20000 in
theorem w_m_rounds_0 {Q : Option Value → sy_S → Prop} {σ : sy_S} {k : Nat} (hk : shM[k]? = some (0, 16, []))  (k1 : sy_E shM mX12_begins (0, sy_ent [.ref 0] 2, [], σ) (fun r9 σ9 => sy_E shM mX12_roundsOf (4, [some (.ref 0), some (.ref k), none, none], r9.toList ++ [], σ9) Q)) : sy_E shM mX12_roundsOf (0, sy_ent [.ref 0, .ref k] 4, [], σ) Q := by
  show sy_E shM mX12_roundsOf (0, [some (.ref 0), some (.ref k), none, none], [], σ) _
  refine sy_bk [(.aload_n 0, 0, 0, 0, 0)] (1, [some (.ref 0), some (.ref k), none, none], [.ref 0], σ) [] (by decide +kernel) rfl trivial ?_
  refine sy_callV mX12_begins 0 [] [] kX12_begins jX12_124 (by decide +kernel) rfl rfl (Nat.le_of_ble_eq_true rfl) (Nat.le_of_ble_eq_true rfl) (by decide) rfl ?_
  exact k1

set_option maxRecDepth 20000 in
theorem w_m_rounds_4 {Q : Option Value → sy_S → Prop} {σ : sy_S} {k : Nat} (hk : shM[k]? = some (0, 16, []))  (k1 : sy_E shM mX12_roundsOf (6, [some (.ref 0), some (.ref k), some (.int 0), none], [], σ) Q) : sy_E shM mX12_roundsOf (4, [some (.ref 0), some (.ref k), none, none], [], σ) Q := by
  refine sy_bk [(.iconst 0, 0, 0, 0, 0), (.istore_n 2, 0, 0, 0, 0)] (6, [some (.ref 0), some (.ref k), some (.int 0), none], [], σ) [] (by decide +kernel) rfl trivial ?_
  exact k1

set_option maxRecDepth 20000 in
theorem w_m_rounds_6 {Q : Option Value → sy_S → Prop} {σ : sy_S} {k : Nat} {n : Int32} (hk : shM[k]? = some (0, 16, []))  (k1 : sy_E shM mX12_isStable (0, sy_ent [.ref 0, .ref k] 4, [], σ) (fun r9 σ9 => sy_E shM mX12_roundsOf (11, [some (.ref 0), some (.ref k), some (.int n), none], r9.toList ++ [], σ9) Q)) : sy_E shM mX12_roundsOf (6, [some (.ref 0), some (.ref k), some (.int n), none], [], σ) Q := by
  refine sy_bk [(.aload_n 0, 0, 0, 0, 0), (.aload_n 1, 0, 0, 0, 0)] (8, [some (.ref 0), some (.ref k), some (.int n), none], [.ref k, .ref 0], σ) [] (by decide +kernel) rfl trivial ?_
  refine sy_callV mX12_isStable 0 [.ref k] [] kX12_isStable jX12_127 (by decide +kernel) rfl rfl (Nat.le_of_ble_eq_true rfl) (Nat.le_of_ble_eq_true rfl) (by decide) rfl ?_
  exact k1

set_option maxRecDepth 20000 in
theorem w_m_rounds_11 {Q : Option Value → sy_S → Prop} {σ : sy_S} {k : Nat} {n : Int32} {v : Int32} (hk : shM[k]? = some (0, 16, []))  (k1 : ¬ v = 0 → Q (some (.int n)) σ) (k2 : ¬ (¬ v = 0) → sy_E shM mX12_roundsOf (16, [some (.ref 0), some (.ref k), some (.int n), some (.int 0)], [], σ) Q) : sy_E shM mX12_roundsOf (11, [some (.ref 0), some (.ref k), some (.int n), none], [.int v], σ) Q := by
  by_cases c1 : ¬ v = 0
  · refine sy_bk [(.ifCond .ne 69, 1, 80, 0, 0)] (80, [some (.ref 0), some (.ref k), some (.int n), none], [], σ) [sy_cc .ne v 0] (by decide +kernel) rfl ⟨c1, trivial⟩ ?_
    refine sy_bk [(.iload_n 2, 0, 0, 0, 0)] (81, [some (.ref 0), some (.ref k), some (.int n), none], [.int n], σ) [] (by decide +kernel) rfl trivial ?_
    exact sy_reti rfl (by decide +kernel) (k1 c1)
  · refine sy_bk [(.ifCond .ne 69, 0, 80, 0, 0)] (14, [some (.ref 0), some (.ref k), some (.int n), none], [], σ) [¬ sy_cc .ne v 0] (by decide +kernel) rfl ⟨c1, trivial⟩ ?_
    refine sy_bk [(.iconst 0, 0, 0, 0, 0), (.istore_n 3, 0, 0, 0, 0)] (16, [some (.ref 0), some (.ref k), some (.int n), some (.int 0)], [], σ) [] (by decide +kernel) rfl trivial ?_
    exact k2 c1

set_option maxRecDepth 20000 in
theorem w_m_rounds_16 {Q : Option Value → sy_S → Prop} {σ : sy_S} {k : Nat} {n : Int32} {i : Int32} (hk : shM[k]? = some (0, 16, []))  (k1 : ((σ.1 0 0) * (σ.1 0 1)) ≤ i → sy_E shM mX12_roundsOf (44, [some (.ref 0), some (.ref k), some (.int n), some (.int 0)], [], σ) Q) (k2 : ¬ (((σ.1 0 0) * (σ.1 0 1)) ≤ i) → sy_E shM mX12_may (0, sy_ent [.ref 0, .ref k, .int i] 3, [], σ) (fun r9 σ9 => sy_E shM mX12_roundsOf (35, [some (.ref 0), some (.ref k), some (.int n), some (.int i)], r9.toList ++ [.int i, .ref 6], σ9) Q)) : sy_E shM mX12_roundsOf (16, [some (.ref 0), some (.ref k), some (.int n), some (.int i)], [], σ) Q := by
  refine sy_bk [(.iload_n 3, 0, 0, 0, 0), (.aload_n 0, 0, 0, 0, 0)] (18, [some (.ref 0), some (.ref k), some (.int n), some (.int i)], [.ref 0, .int i], σ) [] (by decide +kernel) rfl trivial ?_
  refine sy_callV mX12_cells 0 [] [.int i] kX12_cells jX12_105 (by decide +kernel) rfl rfl (Nat.le_of_ble_eq_true rfl) (Nat.le_of_ble_eq_true rfl) (by decide) rfl ?_
  refine w_m_cells (σ := σ) ?_
  show sy_E shM mX12_roundsOf (21, [some (.ref 0), some (.ref k), some (.int n), some (.int i)], [.int ((σ.1 0 0) * (σ.1 0 1)), .int i], σ) _
  by_cases c1 : ((σ.1 0 0) * (σ.1 0 1)) ≤ i
  · refine sy_bk [(.if_icmp .ge 21, 1, 42, 0, 0)] (42, [some (.ref 0), some (.ref k), some (.int n), some (.int i)], [], σ) [sy_cc .ge i ((σ.1 0 0) * (σ.1 0 1))] (by decide +kernel) rfl ⟨c1, trivial⟩ ?_
    refine sy_bk [(.iconst 0, 0, 0, 0, 0), (.istore_n 3, 0, 0, 0, 0)] (44, [some (.ref 0), some (.ref k), some (.int n), some (.int 0)], [], σ) [] (by decide +kernel) rfl trivial ?_
    exact k1 c1
  · refine sy_bk [(.if_icmp .ge 21, 0, 42, 0, 0)] (24, [some (.ref 0), some (.ref k), some (.int n), some (.int i)], [], σ) [¬ sy_cc .ge i ((σ.1 0 0) * (σ.1 0 1))] (by decide +kernel) rfl ⟨c1, trivial⟩ ?_
    refine sy_bk [(.aload_n 0, 0, 0, 0, 0), (.getfield 35, 12, 8, 0, 0), (.iload_n 3, 0, 0, 0, 0), (.aload_n 0, 0, 0, 0, 0), (.aload_n 1, 0, 0, 0, 0), (.iload_n 3, 0, 0, 0, 0)] (32, [some (.ref 0), some (.ref k), some (.int n), some (.int i)], [.int i, .ref k, .ref 0, .int i, .ref 6], σ) [] (by decide +kernel) rfl trivial ?_
    refine sy_callV mX12_may 0 [.ref k, .int i] [.int i, .ref 6] kX12_may jX12_120 (by decide +kernel) rfl rfl (Nat.le_of_ble_eq_true rfl) (Nat.le_of_ble_eq_true rfl) (by decide) rfl ?_
    exact k2 c1

set_option maxRecDepth 20000 in
theorem w_m_rounds_35 {Q : Option Value → sy_S → Prop} {σ : sy_S} {k : Nat} {n : Int32} {i : Int32} {v : Int32} (hk : shM[k]? = some (0, 16, [])) (b1 : vp_in i 16) (k1 : sy_E shM mX12_roundsOf (16, [some (.ref 0), some (.ref k), some (.int n), some (.int (i + 1))], [], (sy_up σ.1 6 i.toNatClampNeg (vp_nar .boolean v), σ.2)) Q) : sy_E shM mX12_roundsOf (35, [some (.ref 0), some (.ref k), some (.int n), some (.int i)], [.int v, .int i, .ref 6], σ) Q := by
  refine sy_bk [(.bastore, 0, 0, 0, 0), (.iinc 3 1, 0, 0, 1, 0), (.goto (-23), 0, 16, 0, 0)] (16, [some (.ref 0), some (.ref k), some (.int n), some (.int (i + 1))], [], (sy_up σ.1 6 i.toNatClampNeg (vp_nar .boolean v), σ.2)) [sy_okA shM 1 6 i] (by decide +kernel) rfl ⟨⟨16, _, rfl, b1⟩, trivial⟩ ?_
  exact k1

set_option maxRecDepth 20000 in
theorem w_m_rounds_44 {Q : Option Value → sy_S → Prop} {σ : sy_S} {k : Nat} {n : Int32} {i : Int32} (hk : shM[k]? = some (0, 16, [])) (b1 : ¬ (((σ.1 0 0) * (σ.1 0 1)) ≤ i) → vp_in i 16) (k1 : ((σ.1 0 0) * (σ.1 0 1)) ≤ i → sy_E shM mX12_roundsOf (6, [some (.ref 0), some (.ref k), some (.int (n + 1)), none], [], σ) Q) (k2 : ¬ (((σ.1 0 0) * (σ.1 0 1)) ≤ i) → (σ.1 6 i.toNatClampNeg) = 0 → sy_E shM mX12_roundsOf (44, [some (.ref 0), some (.ref k), some (.int n), some (.int (i + 1))], [], σ) Q) (k3 : ¬ (((σ.1 0 0) * (σ.1 0 1)) ≤ i) → ¬ ((σ.1 6 i.toNatClampNeg) = 0) → sy_E shM mX12_topples (0, sy_ent [.ref 0, .ref k, .int i, .int 1] 5, [], σ) (fun r9 σ9 => sy_E shM mX12_roundsOf (68, [some (.ref 0), some (.ref k), some (.int n), some (.int i)], r9.toList ++ [], σ9) Q)) : sy_E shM mX12_roundsOf (44, [some (.ref 0), some (.ref k), some (.int n), some (.int i)], [], σ) Q := by
  refine sy_bk [(.iload_n 3, 0, 0, 0, 0), (.aload_n 0, 0, 0, 0, 0)] (46, [some (.ref 0), some (.ref k), some (.int n), some (.int i)], [.ref 0, .int i], σ) [] (by decide +kernel) rfl trivial ?_
  refine sy_callV mX12_cells 0 [] [.int i] kX12_cells jX12_105 (by decide +kernel) rfl rfl (Nat.le_of_ble_eq_true rfl) (Nat.le_of_ble_eq_true rfl) (by decide) rfl ?_
  refine w_m_cells (σ := σ) ?_
  show sy_E shM mX12_roundsOf (49, [some (.ref 0), some (.ref k), some (.int n), some (.int i)], [.int ((σ.1 0 0) * (σ.1 0 1)), .int i], σ) _
  by_cases c1 : ((σ.1 0 0) * (σ.1 0 1)) ≤ i
  · refine sy_bk [(.if_icmp .ge 25, 1, 74, 0, 0)] (74, [some (.ref 0), some (.ref k), some (.int n), some (.int i)], [], σ) [sy_cc .ge i ((σ.1 0 0) * (σ.1 0 1))] (by decide +kernel) rfl ⟨c1, trivial⟩ ?_
    refine sy_bk [(.iinc 2 1, 0, 0, 1, 0), (.goto (-71), 0, 6, 0, 0)] (6, [some (.ref 0), some (.ref k), some (.int (n + 1)), some (.int i)], [], σ) [] (by decide +kernel) rfl trivial ?_
    refine sy_drop [some (.ref 0), some (.ref k), some (.int (n + 1)), none] ⟨rfl, rfl, rfl, trivial⟩ ?_
    exact k1 c1
  · refine sy_bk [(.if_icmp .ge 25, 0, 74, 0, 0)] (52, [some (.ref 0), some (.ref k), some (.int n), some (.int i)], [], σ) [¬ sy_cc .ge i ((σ.1 0 0) * (σ.1 0 1))] (by decide +kernel) rfl ⟨c1, trivial⟩ ?_
    refine sy_bk [(.aload_n 0, 0, 0, 0, 0), (.getfield 35, 12, 8, 0, 0), (.iload_n 3, 0, 0, 0, 0), (.baload, 0, 0, 0, 0)] (58, [some (.ref 0), some (.ref k), some (.int n), some (.int i)], [.int (σ.1 6 i.toNatClampNeg)], σ) [sy_okA shM 1 6 i] (by decide +kernel) rfl ⟨⟨16, _, rfl, (b1 c1)⟩, trivial⟩ ?_
    by_cases c2 : (σ.1 6 i.toNatClampNeg) = 0
    · refine sy_bk [(.ifCond .eq 10, 1, 68, 0, 0)] (68, [some (.ref 0), some (.ref k), some (.int n), some (.int i)], [], σ) [sy_cc .eq (σ.1 6 i.toNatClampNeg) 0] (by decide +kernel) rfl ⟨c2, trivial⟩ ?_
      refine sy_bk [(.iinc 3 1, 0, 0, 1, 0), (.goto (-27), 0, 44, 0, 0)] (44, [some (.ref 0), some (.ref k), some (.int n), some (.int (i + 1))], [], σ) [] (by decide +kernel) rfl trivial ?_
      exact k2 c1 c2
    · refine sy_bk [(.ifCond .eq 10, 0, 68, 0, 0)] (61, [some (.ref 0), some (.ref k), some (.int n), some (.int i)], [], σ) [¬ sy_cc .eq (σ.1 6 i.toNatClampNeg) 0] (by decide +kernel) rfl ⟨c2, trivial⟩ ?_
      refine sy_bk [(.aload_n 0, 0, 0, 0, 0), (.aload_n 1, 0, 0, 0, 0), (.iload_n 3, 0, 0, 0, 0), (.iconst 1, 0, 0, 1, 0)] (65, [some (.ref 0), some (.ref k), some (.int n), some (.int i)], [.int 1, .int i, .ref k, .ref 0], σ) [] (by decide +kernel) rfl trivial ?_
      refine sy_callV mX12_topples 0 [.ref k, .int i, .int 1] [] kX12_topples jX12_131 (by decide +kernel) rfl rfl (Nat.le_of_ble_eq_true rfl) (Nat.le_of_ble_eq_true rfl) (by decide) rfl ?_
      exact k3 c1 c2

set_option maxRecDepth 20000 in
theorem w_m_rounds_68 {Q : Option Value → sy_S → Prop} {σ : sy_S} {k : Nat} {n : Int32} {i : Int32} (hk : shM[k]? = some (0, 16, []))  (k1 : sy_E shM mX12_roundsOf (44, [some (.ref 0), some (.ref k), some (.int n), some (.int (i + 1))], [], σ) Q) : sy_E shM mX12_roundsOf (68, [some (.ref 0), some (.ref k), some (.int n), some (.int i)], [], σ) Q := by
  refine sy_bk [(.iinc 3 1, 0, 0, 1, 0), (.goto (-27), 0, 44, 0, 0)] (44, [some (.ref 0), some (.ref k), some (.int n), some (.int (i + 1))], [], σ) [] (by decide +kernel) rfl trivial ?_
  exact k1

set_option maxRecDepth 20000 in
theorem w_m_toppled_0 {Q : Option Value → sy_S → Prop} {σ : sy_S}    (k1 : sy_E shM mX12_toppled (4, [some (.ref 0), some (.int 0), some (.int 0)], [], σ) Q) : sy_E shM mX12_toppled (0, sy_ent [.ref 0] 3, [], σ) Q := by
  show sy_E shM mX12_toppled (0, [some (.ref 0), none, none], [], σ) _
  refine sy_bk [(.iconst 0, 0, 0, 0, 0), (.istore_n 1, 0, 0, 0, 0), (.iconst 0, 0, 0, 0, 0), (.istore_n 2, 0, 0, 0, 0)] (4, [some (.ref 0), some (.int 0), some (.int 0)], [], σ) [] (by decide +kernel) rfl trivial ?_
  exact k1

set_option maxRecDepth 20000 in
theorem w_m_toppled_4 {Q : Option Value → sy_S → Prop} {σ : sy_S} {s : Int32} {i : Int32}  (b1 : ¬ (((σ.1 0 0) * (σ.1 0 1)) ≤ i) → vp_in i 16) (k1 : ((σ.1 0 0) * (σ.1 0 1)) ≤ i → Q (some (.int s)) σ) (k2 : ¬ (((σ.1 0 0) * (σ.1 0 1)) ≤ i) → (σ.1 5 i.toNatClampNeg) ≤ 0 → sy_E shM mX12_toppled (4, [some (.ref 0), some (.int (s ||| 0)), some (.int (i + 1))], [], σ) Q) (k3 : ¬ (((σ.1 0 0) * (σ.1 0 1)) ≤ i) → ¬ ((σ.1 5 i.toNatClampNeg) ≤ 0) → sy_E shM mX12_toppled (4, [some (.ref 0), some (.int (s ||| (1 <<< (i &&& 31)))), some (.int (i + 1))], [], σ) Q) : sy_E shM mX12_toppled (4, [some (.ref 0), some (.int s), some (.int i)], [], σ) Q := by
  refine sy_bk [(.iload_n 2, 0, 0, 0, 0), (.aload_n 0, 0, 0, 0, 0)] (6, [some (.ref 0), some (.int s), some (.int i)], [.ref 0, .int i], σ) [] (by decide +kernel) rfl trivial ?_
  refine sy_callV mX12_cells 0 [] [.int i] kX12_cells jX12_105 (by decide +kernel) rfl rfl (Nat.le_of_ble_eq_true rfl) (Nat.le_of_ble_eq_true rfl) (by decide) rfl ?_
  refine w_m_cells (σ := σ) ?_
  show sy_E shM mX12_toppled (9, [some (.ref 0), some (.int s), some (.int i)], [.int ((σ.1 0 0) * (σ.1 0 1)), .int i], σ) _
  by_cases c1 : ((σ.1 0 0) * (σ.1 0 1)) ≤ i
  · refine sy_bk [(.if_icmp .ge 28, 1, 37, 0, 0)] (37, [some (.ref 0), some (.int s), some (.int i)], [], σ) [sy_cc .ge i ((σ.1 0 0) * (σ.1 0 1))] (by decide +kernel) rfl ⟨c1, trivial⟩ ?_
    refine sy_bk [(.iload_n 1, 0, 0, 0, 0)] (38, [some (.ref 0), some (.int s), some (.int i)], [.int s], σ) [] (by decide +kernel) rfl trivial ?_
    exact sy_reti rfl (by decide +kernel) (k1 c1)
  · refine sy_bk [(.if_icmp .ge 28, 0, 37, 0, 0)] (12, [some (.ref 0), some (.int s), some (.int i)], [], σ) [¬ sy_cc .ge i ((σ.1 0 0) * (σ.1 0 1))] (by decide +kernel) rfl ⟨c1, trivial⟩ ?_
    refine sy_bk [(.iload_n 1, 0, 0, 0, 0), (.aload_n 0, 0, 0, 0, 0), (.getfield 32, 12, 6, 0, 0), (.iload_n 2, 0, 0, 0, 0), (.iaload, 0, 0, 0, 0)] (19, [some (.ref 0), some (.int s), some (.int i)], [.int (σ.1 5 i.toNatClampNeg), .int s], σ) [sy_okA shM 0 5 i] (by decide +kernel) rfl ⟨⟨16, _, rfl, (b1 c1)⟩, trivial⟩ ?_
    by_cases c2 : (σ.1 5 i.toNatClampNeg) ≤ 0
    · refine sy_bk [(.ifCond .le 9, 1, 28, 0, 0)] (28, [some (.ref 0), some (.int s), some (.int i)], [.int s], σ) [sy_cc .le (σ.1 5 i.toNatClampNeg) 0] (by decide +kernel) rfl ⟨c2, trivial⟩ ?_
      refine sy_bk [(.iconst 0, 0, 0, 0, 0), (.ior, 0, 0, 0, 0), (.istore_n 1, 0, 0, 0, 0), (.iinc 2 1, 0, 0, 1, 0), (.goto (-30), 0, 4, 0, 0)] (4, [some (.ref 0), some (.int (s ||| 0)), some (.int (i + 1))], [], σ) [] (by decide +kernel) rfl trivial ?_
      exact k2 c1 c2
    · refine sy_bk [(.ifCond .le 9, 0, 28, 0, 0)] (22, [some (.ref 0), some (.int s), some (.int i)], [.int s], σ) [¬ sy_cc .le (σ.1 5 i.toNatClampNeg) 0] (by decide +kernel) rfl ⟨c2, trivial⟩ ?_
      refine sy_bk [(.iconst 1, 0, 0, 1, 0), (.iload_n 2, 0, 0, 0, 0), (.ishl, 0, 0, 0, 0), (.goto 4, 0, 29, 0, 0), (.ior, 0, 0, 0, 0), (.istore_n 1, 0, 0, 0, 0), (.iinc 2 1, 0, 0, 1, 0), (.goto (-30), 0, 4, 0, 0)] (4, [some (.ref 0), some (.int (s ||| (1 <<< (i &&& 31)))), some (.int (i + 1))], [], σ) [] (by decide +kernel) rfl trivial ?_
      exact k3 c1 c2

set_option maxRecDepth 20000 in
theorem w_m_grains_0 {Q : Option Value → sy_S → Prop} {σ : sy_S} {k : Nat} (hk : shM[k]? = some (0, 16, []))  (k1 : sy_E shM mX12_grains (4, [some (.ref 0), some (.ref k), some (.int 0), some (.int 0)], [], σ) Q) : sy_E shM mX12_grains (0, sy_ent [.ref 0, .ref k] 4, [], σ) Q := by
  show sy_E shM mX12_grains (0, [some (.ref 0), some (.ref k), none, none], [], σ) _
  refine sy_bk [(.iconst 0, 0, 0, 0, 0), (.istore_n 2, 0, 0, 0, 0), (.iconst 0, 0, 0, 0, 0), (.istore_n 3, 0, 0, 0, 0)] (4, [some (.ref 0), some (.ref k), some (.int 0), some (.int 0)], [], σ) [] (by decide +kernel) rfl trivial ?_
  exact k1

set_option maxRecDepth 20000 in
theorem w_m_grains_4 {Q : Option Value → sy_S → Prop} {σ : sy_S} {k : Nat} {s : Int32} {i : Int32} (hk : shM[k]? = some (0, 16, [])) (b1 : ¬ (((σ.1 0 0) * (σ.1 0 1)) ≤ i) → vp_in i 16) (k1 : ((σ.1 0 0) * (σ.1 0 1)) ≤ i → Q (some (.int s)) σ) (k2 : ¬ (((σ.1 0 0) * (σ.1 0 1)) ≤ i) → (σ.1 1 i.toNatClampNeg) = 0 → sy_E shM mX12_grains (4, [some (.ref 0), some (.ref k), some (.int (s + (σ.1 k i.toNatClampNeg))), some (.int (i + 1))], [], σ) Q) (k3 : ¬ (((σ.1 0 0) * (σ.1 0 1)) ≤ i) → ¬ ((σ.1 1 i.toNatClampNeg) = 0) → sy_E shM mX12_grains (4, [some (.ref 0), some (.ref k), some (.int (s + 0)), some (.int (i + 1))], [], σ) Q) : sy_E shM mX12_grains (4, [some (.ref 0), some (.ref k), some (.int s), some (.int i)], [], σ) Q := by
  refine sy_bk [(.iload_n 3, 0, 0, 0, 0), (.aload_n 0, 0, 0, 0, 0)] (6, [some (.ref 0), some (.ref k), some (.int s), some (.int i)], [.ref 0, .int i], σ) [] (by decide +kernel) rfl trivial ?_
  refine sy_callV mX12_cells 0 [] [.int i] kX12_cells jX12_105 (by decide +kernel) rfl rfl (Nat.le_of_ble_eq_true rfl) (Nat.le_of_ble_eq_true rfl) (by decide) rfl ?_
  refine w_m_cells (σ := σ) ?_
  show sy_E shM mX12_grains (9, [some (.ref 0), some (.ref k), some (.int s), some (.int i)], [.int ((σ.1 0 0) * (σ.1 0 1)), .int i], σ) _
  by_cases c1 : ((σ.1 0 0) * (σ.1 0 1)) ≤ i
  · refine sy_bk [(.if_icmp .ge 28, 1, 37, 0, 0)] (37, [some (.ref 0), some (.ref k), some (.int s), some (.int i)], [], σ) [sy_cc .ge i ((σ.1 0 0) * (σ.1 0 1))] (by decide +kernel) rfl ⟨c1, trivial⟩ ?_
    refine sy_bk [(.iload_n 2, 0, 0, 0, 0)] (38, [some (.ref 0), some (.ref k), some (.int s), some (.int i)], [.int s], σ) [] (by decide +kernel) rfl trivial ?_
    exact sy_reti rfl (by decide +kernel) (k1 c1)
  · refine sy_bk [(.if_icmp .ge 28, 0, 37, 0, 0)] (12, [some (.ref 0), some (.ref k), some (.int s), some (.int i)], [], σ) [¬ sy_cc .ge i ((σ.1 0 0) * (σ.1 0 1))] (by decide +kernel) rfl ⟨c1, trivial⟩ ?_
    refine sy_bk [(.iload_n 2, 0, 0, 0, 0), (.aload_n 0, 0, 0, 0, 0), (.getfield 18, 12, 2, 0, 0), (.iload_n 3, 0, 0, 0, 0), (.baload, 0, 0, 0, 0)] (19, [some (.ref 0), some (.ref k), some (.int s), some (.int i)], [.int (σ.1 1 i.toNatClampNeg), .int s], σ) [sy_okA shM 1 1 i] (by decide +kernel) rfl ⟨⟨16, _, rfl, (b1 c1)⟩, trivial⟩ ?_
    by_cases c2 : (σ.1 1 i.toNatClampNeg) = 0
    · refine sy_bk [(.ifCond .eq 7, 1, 26, 0, 0)] (26, [some (.ref 0), some (.ref k), some (.int s), some (.int i)], [.int s], σ) [sy_cc .eq (σ.1 1 i.toNatClampNeg) 0] (by decide +kernel) rfl ⟨c2, trivial⟩ ?_
      refine sy_bk [(.aload_n 1, 0, 0, 0, 0), (.iload_n 3, 0, 0, 0, 0), (.iaload, 0, 0, 0, 0), (.iadd, 0, 0, 0, 0), (.istore_n 2, 0, 0, 0, 0), (.iinc 3 1, 0, 0, 1, 0), (.goto (-30), 0, 4, 0, 0)] (4, [some (.ref 0), some (.ref k), some (.int (s + (σ.1 k i.toNatClampNeg))), some (.int (i + 1))], [], σ) [sy_okA shM 0 k i] (by decide +kernel) rfl ⟨⟨16, _, hk, (b1 c1)⟩, trivial⟩ ?_
      exact k2 c1 c2
    · refine sy_bk [(.ifCond .eq 7, 0, 26, 0, 0)] (22, [some (.ref 0), some (.ref k), some (.int s), some (.int i)], [.int s], σ) [¬ sy_cc .eq (σ.1 1 i.toNatClampNeg) 0] (by decide +kernel) rfl ⟨c2, trivial⟩ ?_
      refine sy_bk [(.iconst 0, 0, 0, 0, 0), (.goto 6, 0, 29, 0, 0), (.iadd, 0, 0, 0, 0), (.istore_n 2, 0, 0, 0, 0), (.iinc 3 1, 0, 0, 1, 0), (.goto (-30), 0, 4, 0, 0)] (4, [some (.ref 0), some (.ref k), some (.int (s + 0)), some (.int (i + 1))], [], σ) [] (by decide +kernel) rfl trivial ?_
      exact k3 c1 c2
end
section
/-! the model's grid: contracts of isPlace, link, links -/
theorem sm_i64 (x : Int32) : x.toInt64.toInt = x.toInt := Int32.toInt_toInt64 x
theorem sm_lit {lo hi : Int64} {x : Int32} : (lo ≤ x.toInt64 ∧ x.toInt64 ≤ hi) ↔ (lo.toInt ≤ x.toInt ∧ x.toInt ≤ hi.toInt) := by
  rw [sy_l_le, sy_l_le, sm_i64]
theorem sm_nI {x : Int32} {m : Nat} (h0 : x.toInt = (m : Int)) : x = nI m := by
  rw [sy_ti h0]; rfl
theorem sm_in {x : Int32} {n : Nat} (h : n < 2 ^ 30) : (0 ≤ x.toInt64 ∧ x.toInt64 ≤ (nI n - 1).toInt64) ↔ ∃ m, m < n ∧ x = nI m := by
  rw [sm_lit, sm_i64, nI_lit1, pk_sub_toInt h (by decide), show (0 : Int64).toInt = 0 from rfl]
  constructor
  · rintro ⟨h1, h2⟩
    exact ⟨x.toInt.toNat, by omega, sm_nI (by omega)⟩
  · rintro ⟨m, hm, rfl⟩
    rw [nI_toInt (by omega)]
    omega
def gm_w (G : sg_G) (f : Nat → Nat → Int32) : Prop := f 0 0 = nI G.1 ∧ f 0 1 = nI G.2.1 ∧ ∀ k, k < sg_n G → f 1 k = if G.2.2 k then 1 else 0
def gm_k (G : sg_G) (f : Nat → Nat → Int32) (m : Nat) : Prop := (∀ k, k < m → f 4 k = nI (sg_nb G k).length) ∧ ∀ k, k < m → ∀ j o, (sg_nb G k)[j]? = some o → f 3 (4 * k + j) = nI o
def gm (G : sg_G) (f : Nat → Nat → Int32) : Prop := sg_ok G ∧ gm_w G f ∧ gm_k G f (sg_n G)
/-- σ' is σ but for the cells of l and the slots of fs in the object -/
def sm (l fs : List Nat) (σ σ' : sy_S) : Prop := (∀ q, q ≠ 0 → q ∉ l → σ'.1 q = σ.1 q) ∧ (∀ j, j ∉ fs → σ'.1 0 j = σ.1 0 j) ∧ σ'.2 = σ.2
theorem sm.rf {l fs : List Nat} {σ : sy_S} : sm l fs σ σ := ⟨fun _ _ _ => rfl, fun _ _ => rfl, rfl⟩
theorem sm.tr {l fs : List Nat} {σ σ' σ'' : sy_S} (a : sm l fs σ σ') (b : sm l fs σ' σ'') : sm l fs σ σ'' := ⟨fun q h h' => (b.1 q h h').trans (a.1 q h h'), fun j h => (b.2.1 j h).trans (a.2.1 j h), b.2.2.trans a.2.2⟩
theorem sm.mono {l fs l' fs' : List Nat} {σ σ' : sy_S} (a : sm l fs σ σ') (h : ∀ q, q ∈ l → q ∈ l') (h' : ∀ q, q ∈ fs → q ∈ fs') : sm l' fs' σ σ' := ⟨fun q hq hq' => a.1 q hq (fun z => hq' (h q z)), fun j hj => a.2.1 j (fun z => hj (h' j z)), a.2.2⟩
theorem sm.up {l fs : List Nat} {σ : sy_S} {k i : Nat} {x : Int32} (h : k ∈ l) (h0 : k ≠ 0) : sm l fs σ (sy_up σ.1 k i x, σ.2) := ⟨fun q _ hq => sy_up_ne _ _ _ (fun e => hq (e ▸ h)), fun j _ => by show sy_up σ.1 k i x 0 j = _; rw [sy_up_ne _ _ _ (Ne.symm h0)], rfl⟩
theorem sm.fu {l fs : List Nat} {σ : sy_S} {i : Nat} {x : Int32} (h : i ∈ fs) : sm l fs σ (sy_up σ.1 0 i x, σ.2) := ⟨fun q hq _ => sy_up_ne _ _ _ hq, fun j hj => by show sy_up σ.1 0 i x 0 j = _; rw [sy_up2, if_neg (fun (q : 0 = 0 ∧ j = i) => hj (by rw [q.2]; exact h))], rfl⟩
theorem sm.gm {l fs : List Nat} {σ σ' : sy_S} {G : sg_G} (a : sm l fs σ σ') (h : gm G σ.1) (hl : 1 ∉ l ∧ 3 ∉ l ∧ 4 ∉ l) (hf : 0 ∉ fs ∧ 1 ∉ fs) : gm G σ'.1 := by
  obtain ⟨h1, ⟨h2, h3, h4⟩, h5, h6⟩ := h
  refine ⟨h1, ⟨?_, ?_, fun k hk => ?_⟩, fun k hk => ?_, fun k hk j o hj => ?_⟩
  · rw [a.2.1 0 hf.1]; exact h2
  · rw [a.2.1 1 hf.2]; exact h3
  · rw [a.1 1 (by decide) hl.1]; exact h4 k hk
  · rw [a.1 4 (by decide) hl.2.2]; exact h5 k hk
  · rw [a.1 3 (by decide) hl.2.1]; exact h6 k hk j o hj
theorem gm_cells {G : sg_G} {f : Nat → Nat → Int32} (h : gm_w G f) : f 0 0 * f 0 1 = nI (sg_n G) := by rw [h.1, h.2.1, pk_mul]; rfl
theorem e_m_isPlace {Q : Option Value → sy_S → Prop} {σ : sy_S} {G : sg_G} {cell : Int32} (hg : gm G σ.1) (k1 : ∀ m, cell = nI m → sg_p G m → Q (some (.int 1)) σ) (k0 : (∀ m, m < 16 → cell = nI m → ¬ sg_p G m) → Q (some (.int 0)) σ) : sy_E shM mX12_isPlace (0, sy_ent [.ref 0, .int cell] 2, [], σ) Q := by
  have h16 := sg_n16 hg.1
  have e1 := gm_cells hg.2.1
  refine w_m_isPlace (fun a => ?_) (fun a c => ?_) (fun a c => ?_) (fun a => k0 (fun m hm e hp => ?_))
  · rw [e1, sm_in (by omega)] at a
    obtain ⟨m, hm, rfl⟩ := a
    exact vp_in_nI (by omega) (by decide)
  · rw [e1, sm_in (by omega)] at a
    obtain ⟨m, hm, rfl⟩ := a
    rw [nI_clamp (by omega), hg.2.1.2.2 m hm] at c
    refine k0 (fun m' hm' e hp => ?_)
    have e := (nI_eq (by omega) (by omega)).mp e
    subst e
    rw [hp.2] at c
    exact c rfl
  · rw [e1, sm_in (by omega)] at a
    obtain ⟨m, hm, rfl⟩ := a
    rw [nI_clamp (by omega), hg.2.1.2.2 m hm] at c
    refine k1 m rfl ⟨hm, ?_⟩
    cases h : G.2.2 m <;> simp_all
  · rw [e1, sm_in (by omega)] at a
    exact a ⟨m, hp.1, e⟩
def gm_lc (f0 f : Nat → Nat → Int32) (m : Nat) (l : List Nat) : Prop := (∀ q, q ≠ 3 → q ≠ 4 → f q = f0 q) ∧ (∀ k, k ≠ m → f 4 k = f0 4 k) ∧ (∀ i, (i < 4 * m ∨ 4 * m + 4 ≤ i) → f 3 i = f0 3 i) ∧ f 4 m = nI l.length ∧ ∀ j o, l[j]? = some o → f 3 (4 * m + j) = nI o
theorem e_m_link_in {Q : Option Value → sy_S → Prop} {σ : sy_S} {G : sg_G} {f0 : Nat → Nat → Int32} {m r c : Nat} {l : List Nat} (hG : sg_ok G) (hw : gm_w G f0) (hm : m < 16) (hr : r < G.1) (hc : c < G.2.1) (hl : l.length < 4) (hlc : gm_lc f0 σ.1 m l) (k : ∀ σ' : sy_S, gm_lc f0 σ'.1 m (l ++ sg_if G true (G.2.1 * r + c)) → σ'.2 = σ.2 → Q none σ') : sy_E shM mX12_link (0, sy_ent [.ref 0, .int (nI m), .int (nI r), .int (nI c)] 4, [], σ) Q := by
  have h16 := sg_n16 hG
  obtain ⟨r1, r4, c1, c4⟩ := id hG
  have em : (nI m).toNatClampNeg = m := nI_clamp (by omega)
  obtain ⟨h1, h2, h3, h4, h5⟩ := hlc
  have e0 : σ.1 0 = f0 0 := h1 0 (by decide) (by decide)
  have e1 : σ.1 1 = f0 1 := h1 1 (by decide) (by decide)
  obtain ⟨o, ho⟩ : ∃ o, o = G.2.1 * r + c := ⟨_, rfl⟩
  have hon : o < sg_n G := by
    have h9 : G.2.1 * (r + 1) ≤ G.2.1 * G.1 := Nat.mul_le_mul_left _ hr
    rw [Nat.mul_add] at h9
    unfold sg_n
    rw [Nat.mul_comm]
    omega
  have eo : σ.1 0 1 * nI r + nI c = nI o := by rw [e0, hw.2.1, pk_mul, nI_add, ho]
  have eo2 : (nI o).toNatClampNeg = o := nI_clamp (by omega)
  have ei : 4 * nI m + σ.1 4 m = nI (4 * m + l.length) := by rw [h4, nI_lit4, pk_mul, nI_add]
  rw [← ho] at k
  refine w_m_link (fun _ _ => ?_) (fun _ _ _ => vp_in_nI hm (by decide)) (fun _ _ _ => ?_) (fun _ _ q => ?_) (fun _ _ q => ?_) (fun _ q => ?_) (fun q => ?_)
  · rw [eo]; exact vp_in_nI (by omega) (by decide)
  · rw [em, ei]; exact vp_in_nI (by omega) (by decide)
  · rw [eo, eo2, e1, hw.2.2 o hon] at q
    have hwo : G.2.2 o = true := by cases h : G.2.2 o <;> simp_all
    refine k σ ?_ rfl
    rw [show sg_if G true o = [] by simp [sg_if, hwo], List.append_nil]
    exact ⟨h1, h2, h3, h4, h5⟩
  · rw [eo, eo2, e1, hw.2.2 o hon] at q
    have hwo : G.2.2 o = false := by cases h : G.2.2 o <;> simp_all
    refine k _ ?_ rfl
    rw [em, ei, eo, nI_clamp (show 4 * m + l.length < 2 ^ 31 by omega), show sg_if G true o = [o] by simp [sg_if, hwo]]
    refine ⟨fun q h4q h5q => ?_, fun j hj => ?_, fun i hi => ?_, ?_, fun j o' hj => ?_⟩
    · show sy_up (sy_up σ.1 3 (4 * m + l.length) (nI o)) 4 m (σ.1 4 m + 1) q = f0 q
      rw [sy_up_ne _ _ _ h5q, sy_up_ne _ _ _ h4q]
      exact h1 q h4q h5q
    · show sy_up (sy_up σ.1 3 (4 * m + l.length) (nI o)) 4 m (σ.1 4 m + 1) 4 j = f0 4 j
      rw [sy_up2, if_neg (by omega), sy_up2, if_neg (by omega)]
      exact h2 j hj
    · show sy_up (sy_up σ.1 3 (4 * m + l.length) (nI o)) 4 m (σ.1 4 m + 1) 3 i = f0 3 i
      rw [sy_up2, if_neg (by omega), sy_up2, if_neg (by omega)]
      exact h3 i hi
    · show sy_up (sy_up σ.1 3 (4 * m + l.length) (nI o)) 4 m (σ.1 4 m + 1) 4 m = nI (l ++ [o]).length
      rw [sy_up2, if_pos ⟨rfl, rfl⟩, h4, nI_1, List.length_append, List.length_singleton]
    · show sy_up (sy_up σ.1 3 (4 * m + l.length) (nI o)) 4 m (σ.1 4 m + 1) 3 (4 * m + j) = nI o'
      rw [sy_up2, if_neg (by omega), sy_up2]
      rw [List.getElem?_append] at hj
      split at hj
      · rename_i hlt
        rw [if_neg (by omega)]
        exact h5 j o' hj
      · rename_i hge
        have hz : j - l.length = 0 := by
          rcases Nat.eq_zero_or_pos (j - l.length) with q | q
          · exact q
          · rw [List.getElem?_eq_none (by simp only [List.length_singleton]; omega)] at hj; cases hj
        rw [hz] at hj
        cases hj
        rw [if_pos ⟨rfl, by omega⟩]
  · rw [e0, hw.2.1, sm_in (by omega)] at q
    exact absurd ⟨c, hc, rfl⟩ q
  · rw [e0, hw.1, sm_in (by omega)] at q
    exact absurd ⟨r, hr, rfl⟩ q
theorem e_m_link_out {Q : Option Value → sy_S → Prop} {σ : sy_S} {G : sg_G} {f0 : Nat → Nat → Int32} {m : Nat} {row col : Int32} {l : List Nat} (hG : sg_ok G) (hw : gm_w G f0) (hlc : gm_lc f0 σ.1 m l) (hout : (∀ r, r < G.1 → row ≠ nI r) ∨ ∀ c, c < G.2.1 → col ≠ nI c) (k : Q none σ) : sy_E shM mX12_link (0, sy_ent [.ref 0, .int (nI m), .int row, .int col] 4, [], σ) Q := by
  obtain ⟨r1, r4, c1, c4⟩ := id hG
  have e0 : σ.1 0 = f0 0 := hlc.1 0 (by decide) (by decide)
  have hno : ∀ {A : Prop}, (0 ≤ row.toInt64 ∧ row.toInt64 ≤ (σ.1 0 0 - 1).toInt64) → (0 ≤ col.toInt64 ∧ col.toInt64 ≤ (σ.1 0 1 - 1).toInt64) → A := by
    intro A a b
    rw [e0, hw.1, sm_in (by omega)] at a
    rw [e0, hw.2.1, sm_in (by omega)] at b
    obtain ⟨r, hr, hr'⟩ := a
    obtain ⟨c, hc, hc'⟩ := b
    rcases hout with h | h
    · exact absurd hr' (h r hr)
    · exact absurd hc' (h c hc)
  exact w_m_link (fun a b => hno a b) (fun a b _ => hno a b) (fun a b _ => hno a b) (fun a b _ => hno a b) (fun a b _ => hno a b) (fun _ _ => k) (fun _ => k)
theorem nI_m1 {j : Nat} (h : j < 2 ^ 30) : nI 0 - 1 ≠ nI j := by
  intro e
  have := congrArg Int32.toInt e
  rw [nI_toInt (by omega), nI_lit1, pk_sub_toInt (by decide) (by decide)] at this
  omega
/-- what links keeps -/
def gm_lk (G : sg_G) (σ σ' : sy_S) (m : Nat) : Prop := gm_k G σ'.1 m ∧ sm [3, 4] [] σ σ'
theorem e_m_links {Q : Option Value → sy_S → Prop} {σ : sy_S} {G : sg_G} (hG : sg_ok G) (hw : gm_w G σ.1) (k : ∀ σ' : sy_S, gm G σ'.1 → sm [3, 4] [] σ σ' → Q none σ') : sy_E shM mX12_links (0, sy_ent [.ref 0] 2, [], σ) Q := by
  have h16 := sg_n16 hG
  obtain ⟨hr1, hr4, hc1, hc4⟩ := id hG
  have hww : ∀ σ' : sy_S, sm [3, 4] [] σ σ' → gm_w G σ'.1 := fun σ' h => ⟨by rw [h.2.1 0 (by simp)]; exact hw.1, by rw [h.2.1 1 (by simp)]; exact hw.2.1, fun j hj => by rw [h.1 1 (by decide) (by decide)]; exact hw.2.2 j hj⟩
  refine w_m_links_0 ?_
  have hl := sy_loop (sh := shM) (y := mX12_links) (Q := Q) (fun i σ' => (2, [some (.ref 0), some (.int (nI i))], [], σ')) (fun i σ' => gm_lk G σ σ' i) (sg_n G) ?_ ?_ 0 σ (Nat.zero_le _) ⟨⟨fun k hk => absurd hk (Nat.not_lt_zero _), fun k hk => absurd hk (Nat.not_lt_zero _)⟩, sm.rf⟩
  · exact hl
  · rintro m σ' hm ⟨hk, hs⟩ ih
    have w' := hww σ' hs
    have hml : m % G.2.1 < G.2.1 := Nat.mod_lt _ (by omega)
    have hdm : G.2.1 * (m / G.2.1) + m % G.2.1 = m := Nat.div_add_mod m G.2.1
    have hdl : m / G.2.1 < G.1 := Nat.div_lt_of_lt_mul (by unfold sg_n at hm; rw [Nat.mul_comm]; exact hm)
    have em : (nI m).toNatClampNeg = m := nI_clamp (by omega)
    have hC0 : ¬ nI G.2.1 = 0 := nI_ne0 hc1 (by omega)
    have ediv : nI m / nI G.2.1 = nI (m / G.2.1) := pk_div (by omega) (by omega) (by omega)
    have erem : nI m - nI m / nI G.2.1 * nI G.2.1 = nI (m % G.2.1) := pk_rem (by omega) (by omega) (by omega)
    obtain ⟨la, hla⟩ : ∃ l, l = sg_if G (decide (0 < m / G.2.1)) (m - G.2.1) := ⟨_, rfl⟩
    obtain ⟨lb, hlb⟩ : ∃ l, l = sg_if G (decide (0 < m % G.2.1)) (m - 1) := ⟨_, rfl⟩
    obtain ⟨lc, hlc⟩ : ∃ l, l = sg_if G (decide (m % G.2.1 + 1 < G.2.1)) (m + 1) := ⟨_, rfl⟩
    obtain ⟨ld, hld⟩ : ∃ l, l = sg_if G (decide (m / G.2.1 + 1 < G.1)) (m + G.2.1) := ⟨_, rfl⟩
    have hnb : sg_nb G m = ((la ++ lb) ++ lc) ++ ld := by rw [hla, hlb, hlc, hld]; rfl
    have na : la.length ≤ 1 := by rw [hla]; exact sg_if_len _ _ _
    have nb : lb.length ≤ 1 := by rw [hlb]; exact sg_if_len _ _ _
    have nc : lc.length ≤ 1 := by rw [hlc]; exact sg_if_len _ _ _
    have cl : ∀ (f : Nat → Nat → Int32) (l : List Nat), gm_lc σ'.1 f m l → f 0 1 = nI G.2.1 := fun f l h => by rw [h.1 0 (by decide) (by decide)]; exact w'.2.1
    have s93 : ∀ σ2 : sy_S, gm_lc σ'.1 σ2.1 m (((la ++ lb) ++ lc) ++ ld) → σ2.2 = σ'.2 → sy_E shM mX12_links (93, [some (.ref 0), some (.int (nI m))], [], σ2) Q := by
      intro σ2 h h'
      refine w_m_links_93 ?_
      rw [nI_1]
      rw [← hnb] at h
      obtain ⟨l1, l2, l3, l4, l5⟩ := h
      refine ih σ2 ⟨⟨fun j hj => ?_, fun j hj i o ho => ?_⟩, hs.tr ⟨fun q h0 hq => l1 q (fun e => hq (by rw [e]; simp)) (fun e => hq (by rw [e]; simp)), fun j _ => by rw [l1 0 (by decide) (by decide)], h'⟩⟩
      · rcases Nat.lt_or_ge j m with q | q
        · rw [l2 j (by omega)]; exact hk.1 j q
        · have e : j = m := by omega
          subst e; exact l4
      · have hi4 : i < 4 := Nat.lt_of_lt_of_le (List.getElem?_eq_some_iff.mp ho).1 (sg_nb_len G j)
        rcases Nat.lt_or_ge j m with q | q
        · rw [l3 _ (by omega)]; exact hk.2 j q i o ho
        · have e : j = m := by omega
          subst e; exact l5 i o ho
    have s74 : ∀ σ2 : sy_S, gm_lc σ'.1 σ2.1 m ((la ++ lb) ++ lc) → σ2.2 = σ'.2 → sy_E shM mX12_links (74, [some (.ref 0), some (.int (nI m))], [], σ2) Q := by
      intro σ2 h h'
      have ec := cl _ _ h
      refine w_m_links_74 (by rw [ec]; exact hC0) ?_
      rw [ec, erem, ediv, nI_1]
      by_cases q : m / G.2.1 + 1 < G.1
      · refine e_m_link_in hG w' (by omega) q hml (by simp only [List.length_append]; omega) h (fun σ3 g g' => s93 σ3 ?_ (g'.trans h'))
        rw [hld, decide_eq_true q]
        rw [show G.2.1 * (m / G.2.1 + 1) + m % G.2.1 = m + G.2.1 by rw [Nat.mul_add]; omega] at g
        exact g
      · refine e_m_link_out hG w' h (Or.inl (fun r hr e => ?_)) (s93 σ2 ?_ h')
        · have := (nI_eq (by omega) (by omega)).mp e
          omega
        · rw [hld, decide_eq_false q, sg_if_f, List.append_nil]; exact h
    have s55 : ∀ σ2 : sy_S, gm_lc σ'.1 σ2.1 m (la ++ lb) → σ2.2 = σ'.2 → sy_E shM mX12_links (55, [some (.ref 0), some (.int (nI m))], [], σ2) Q := by
      intro σ2 h h'
      have ec := cl _ _ h
      refine w_m_links_55 (by rw [ec]; exact hC0) ?_
      rw [ec, erem, ediv, nI_1]
      by_cases q : m % G.2.1 + 1 < G.2.1
      · refine e_m_link_in hG w' (by omega) hdl q (by simp only [List.length_append]; omega) h (fun σ3 g g' => s74 σ3 ?_ (g'.trans h'))
        rw [hlc, decide_eq_true q]
        rw [show G.2.1 * (m / G.2.1) + (m % G.2.1 + 1) = m + 1 by omega] at g
        exact g
      · refine e_m_link_out hG w' h (Or.inr (fun r hr e => ?_)) (s74 σ2 ?_ h')
        · have := (nI_eq (by omega) (by omega)).mp e
          omega
        · rw [hlc, decide_eq_false q, sg_if_f, List.append_nil]; exact h
    have s36 : ∀ σ2 : sy_S, gm_lc σ'.1 σ2.1 m la → σ2.2 = σ'.2 → sy_E shM mX12_links (36, [some (.ref 0), some (.int (nI m))], [], σ2) Q := by
      intro σ2 h h'
      have ec := cl _ _ h
      refine w_m_links_36 (by rw [ec]; exact hC0) ?_
      rw [ec, erem, ediv]
      by_cases q : 0 < m % G.2.1
      · rw [nI_lit1, pk_sub (show 1 ≤ m % G.2.1 by omega)]
        refine e_m_link_in hG w' (by omega) hdl (by omega) (by omega) h (fun σ3 g g' => s55 σ3 ?_ (g'.trans h'))
        rw [hlb, decide_eq_true q]
        rw [show G.2.1 * (m / G.2.1) + (m % G.2.1 - 1) = m - 1 by omega] at g
        exact g
      · refine e_m_link_out hG w' h (Or.inr (fun r hr e => ?_)) (s55 σ2 ?_ h')
        · rw [show m % G.2.1 = 0 by omega] at e
          exact nI_m1 (by omega) e
        · rw [hlb, decide_eq_false q, sg_if_f, List.append_nil]; exact h
    have h0 : gm_lc σ'.1 (sy_up σ'.1 4 m 0) m [] := by
      refine ⟨fun q h4q h5q => sy_up_ne _ _ _ h5q, fun j hj => ?_, fun i hi => ?_, ?_, fun j o hj => by simp at hj⟩
      · rw [sy_up2, if_neg (by omega)]
      · rw [sy_up2, if_neg (by omega)]
      · rw [sy_up2, if_pos ⟨rfl, rfl⟩]; rfl
    refine w_m_links_2 (fun _ => vp_in_nI (by omega) (by decide)) (fun _ => by rw [w'.2.1]; exact hC0) (fun q => ?_) (fun _ => ?_)
    · rw [gm_cells w'] at q; exact absurd q (nI_ge hm (by omega))
    · rw [em, w'.2.1, erem, ediv]
      by_cases q : 0 < m / G.2.1
      · have hge : G.2.1 * 1 ≤ G.2.1 * (m / G.2.1) := Nat.mul_le_mul_left _ q
        rw [nI_lit1, pk_sub (show 1 ≤ m / G.2.1 by omega)]
        refine e_m_link_in (σ := (sy_up σ'.1 4 m 0, σ'.2)) (l := []) hG w' (by omega) (by omega) hml (by simp) h0 (fun σ3 g g' => s36 σ3 ?_ g')
        rw [hla, decide_eq_true q]
        rw [show G.2.1 * (m / G.2.1 - 1) + m % G.2.1 = m - G.2.1 by rw [Nat.mul_sub]; omega] at g
        exact g
      · refine e_m_link_out (σ := (sy_up σ'.1 4 m 0, σ'.2)) (l := []) hG w' h0 (Or.inl (fun r hr e => ?_)) (s36 _ ?_ rfl)
        · rw [Nat.eq_zero_of_not_pos q] at e
          exact nI_m1 (by omega) e
        · rw [hla, decide_eq_false q, sg_if_f]; exact h0
  · rintro σ' ⟨hk, hs⟩
    have w' := hww σ' hs
    refine w_m_links_2 (fun q => ?_) (fun q => ?_) (fun _ => k σ' ⟨hG, w', hk⟩ hs) (fun q => ?_)
    all_goals exact absurd (by rw [gm_cells w']; exact nI_le (Nat.le_refl _) (by omega)) q
end
section
/-! the model's toppling: contracts -/
theorem sg_lost_ad {G : sg_G} {u : Nat → Nat} {c t : Nat} (hc : sg_p G c) : sg_lost G (sg_ad u c t) = sg_lost G u + t * (4 - (sg_nb G c).length) := by
  unfold sg_lost sg_sum
  have e : t * (4 - (sg_nb G c).length) = ssum (sg_n G) (fun j => if j = c then t * (4 - (sg_nb G c).length) else 0) := by rw [ssum_one, if_pos hc.1]
  rw [e, ← ssum_add]
  apply ssum_congr
  intro j hj
  by_cases q : j = c
  · subst q
    simp only [hc.2, Bool.false_eq_true, if_false, if_true, sg_ad, Nat.add_mul]
  · simp only [if_neg q, sg_ad, Nat.add_zero]
theorem sg_lost_0 (G : sg_G) : sg_lost G (fun _ => 0) = 0 := by
  unfold sg_lost sg_sum
  rw [ssum_congr (g := fun _ => 0) (fun j _ => by simp), ssum_zero]
theorem gm_nb {G : sg_G} {f : Nat → Nat → Int32} (h : gm G f) {c : Nat} (hc : c < sg_n G) : f 4 c = nI (sg_nb G c).length ∧ ∀ j o, (sg_nb G c)[j]? = some o → f 3 (4 * c + j) = nI o := ⟨h.2.2.1 c hc, h.2.2.2 c hc⟩
/-- a row that topplings may be made on -/
def rowM (k : Nat) : Prop := shM[k]? = some (0, 16, []) ∧ k ≠ 0 ∧ k ≠ 1 ∧ k ≠ 3 ∧ k ≠ 4 ∧ k ≠ 5 ∧ k ≠ 6
theorem e_m_topples {Q : Option Value → sy_S → Prop} {σ : sy_S} {G : sg_G} {k c t lo : Nat} {H u : Nat → Nat} (hk : rowM k) (hg : gm G σ.1) (hH : ar σ.1 k H) (hu : ar σ.1 5 u) (hlo : σ.1 0 7 = nI lo) (hc : sg_p G c) (ht : 4 * t ≤ H c) (kk : ∀ σ' : sy_S, sm [k, 5] [7] σ σ' → ar σ'.1 k (sg_tp G H c t) → ar σ'.1 5 (sg_ad u c t) → σ'.1 0 7 = nI (lo + t * (4 - (sg_nb G c).length)) → Q none σ') : sy_E shM mX12_topples (0, sy_ent [.ref 0, .ref k, .int (nI c), .int (nI t)] 5, [], σ) Q := by
  obtain ⟨hz, k0, k1, k3, k4, k5, k6⟩ := hk
  have h16 := sg_n16 hg.1
  have hc16 : c < 16 := Nat.lt_of_lt_of_le hc.1 h16
  have ec : (nI c).toNatClampNeg = c := nI_clamp (by omega)
  obtain ⟨n1, n2⟩ := gm_nb hg hc.1
  have hlen := sg_nb_len G c
  have hnd := sg_nb_nodup hg.1 hc.1
  refine w_m_topples_0 hz (vp_in_nI hc16 (by decide)) ?_
  rw [ec, hH c hc16, nI_lit4, pk_mul, pk_sub ht]
  have hl := sy_loop (sh := shM) (y := mX12_topples) (Q := Q) (fun i σ' => (12, [some (.ref 0), some (.ref k), some (.int (nI c)), some (.int (nI t)), some (.int (nI i))], [], σ')) (fun i σ' => sm [k] [] σ σ' ∧ ar σ'.1 k (fun j => (if j = c then H j - 4 * t else H j) + if j ∈ (sg_nb G c).take i then t else 0)) (sg_nb G c).length ?_ ?_ 0 (sy_up σ.1 k c (nI (H c - 4 * t)), σ.2) (Nat.zero_le _) ⟨sm.up (List.mem_singleton.mpr rfl) k0, ?_⟩
  · exact hl
  · intro i σ' hi hI ih
    obtain ⟨i1, i2⟩ := hI
    obtain ⟨o, ho⟩ : ∃ o, (sg_nb G c)[i]? = some o := ⟨_, List.getElem?_eq_getElem hi⟩
    have hop := sg_nb_p hg.1 hc.1 (List.mem_of_getElem? ho)
    have ho16 : o < 16 := Nat.lt_of_lt_of_le hop.1.1 h16
    have e3 : σ'.1 3 (4 * c + i) = nI o := by rw [i1.1 3 (by decide) (by simp; omega)]; exact n2 i o ho
    have e4 : σ'.1 4 c = nI (sg_nb G c).length := by rw [i1.1 4 (by decide) (by simp; omega)]; exact n1
    have ei : 4 * nI c + nI i = nI (4 * c + i) := by rw [nI_lit4, pk_mul, nI_add]
    have ei2 : (nI (4 * c + i)).toNatClampNeg = 4 * c + i := nI_clamp (by omega)
    have eo : (nI o).toNatClampNeg = o := nI_clamp (by omega)
    have hts : (sg_nb G c).take (i + 1) = (sg_nb G c).take i ++ [o] := by rw [List.take_succ, ho]; rfl
    have hno : o ∉ (sg_nb G c).take i := by
      have h := List.Nodup.sublist (List.take_sublist (i + 1) (sg_nb G c)) hnd
      rw [hts, List.nodup_append] at h
      exact fun q => h.2.2 o q o (List.mem_singleton.mpr rfl) rfl
    refine w_m_topples_12 hz (vp_in_nI hc16 (by decide)) (fun _ => ?_) (fun _ => ?_) (fun q => ?_) (fun _ => ?_)
    · rw [ei]; exact vp_in_nI (by omega) (by decide)
    · rw [ei, ei2, e3]; exact vp_in_nI ho16 (by decide)
    · rw [ec, e4] at q; exact absurd q (nI_ge hi (by omega))
    · rw [ei, ei2, e3, eo, nI_1, i2 o ho16, nI_add]
      refine ih _ ⟨i1.tr (sm.up (List.mem_singleton.mpr rfl) k0), fun j hj => ?_⟩
      show sy_up σ'.1 k o _ k j = _
      rw [sy_up2, hts]
      by_cases e : j = o
      · subst e
        rw [if_pos ⟨rfl, rfl⟩]
        congr 1
        dsimp only
        rw [if_neg hno, if_pos (List.mem_append_right _ (List.mem_singleton.mpr rfl))]
        omega
      · rw [if_neg (fun q => e q.2), i2 j hj]
        congr 1
        dsimp only
        by_cases m : j ∈ (sg_nb G c).take i
        · rw [if_pos m, if_pos (List.mem_append_left _ m)]
        · rw [if_neg m, if_neg (fun q => (List.mem_append.mp q).elim m (fun q => e (List.mem_singleton.mp q)))]
  · intro σ' hI
    obtain ⟨i1, i2⟩ := hI
    have e4 : σ'.1 4 c = nI (sg_nb G c).length := by rw [i1.1 4 (by decide) (by simp; omega)]; exact n1
    have e5 : ∀ j, j < 16 → σ'.1 5 j = nI (u j) := fun j hj => by rw [i1.1 5 (by decide) (by simp; omega)]; exact hu j hj
    have e7 : σ'.1 0 7 = nI lo := by rw [i1.2.1 7 (by simp)]; exact hlo
    refine w_m_topples_12 hz (vp_in_nI hc16 (by decide)) (fun q => ?_) (fun q => ?_) (fun _ => ?_) (fun q => ?_)
    · exact absurd (by rw [ec, e4]; exact nI_le (Nat.le_refl _) (by omega)) q
    · exact absurd (by rw [ec, e4]; exact nI_le (Nat.le_refl _) (by omega)) q
    · rw [List.take_length] at i2
      rw [ec, e4, e5 c hc16, e7, nI_lit4, pk_sub hlen, pk_mul, nI_add, nI_add]
      refine kk _ (((i1.mono (by simp) (by simp)).tr (σ'' := (sy_up σ'.1 5 c (nI (u c + t)), σ'.2)) (sm.up (by simp) (by decide))).tr (sm.fu (by simp))) (fun j hj => ?_) (fun j hj => ?_) ?_
      · show sy_up (sy_up σ'.1 5 c (nI (u c + t))) 0 7 (nI (lo + t * (4 - (sg_nb G c).length))) k j = _
        rw [sy_up_ne _ _ _ k0, sy_up_ne _ _ _ k5]
        exact i2 j hj
      · show sy_up (sy_up σ'.1 5 c (nI (u c + t))) 0 7 (nI (lo + t * (4 - (sg_nb G c).length))) 5 j = _
        rw [sy_up_ne _ _ _ (by decide), sy_up2]
        unfold sg_ad
        by_cases e : j = c
        · subst e; rw [if_pos ⟨rfl, rfl⟩, if_pos rfl]
        · rw [if_neg (fun q => e q.2), if_neg e]; exact e5 j hj
      · show sy_up (sy_up σ'.1 5 c (nI (u c + t))) 0 7 (nI (lo + t * (4 - (sg_nb G c).length))) 0 7 = _
        rw [sy_up2, if_pos ⟨rfl, rfl⟩]
    · exact absurd (by rw [ec, e4]; exact nI_le (Nat.le_refl _) (by omega)) q
  · intro j hj
    show sy_up σ.1 k c (nI (H c - 4 * t)) k j = nI ((if j = c then H j - 4 * t else H j) + if j ∈ (sg_nb G c).take 0 then t else 0)
    rw [sy_up2, List.take_zero, if_neg List.not_mem_nil, Nat.add_zero]
    by_cases e : j = c
    · subst e
      rw [if_pos ⟨rfl, rfl⟩, if_pos rfl]
    · rw [if_neg (fun q => e q.2), if_neg e]
      exact hH j hj
theorem e_m_may {Q : Option Value → sy_S → Prop} {σ : sy_S} {G : sg_G} {k c : Nat} {H : Nat → Nat} (hk : shM[k]? = some (0, 16, [])) (hg : gm G σ.1) (hH : ar σ.1 k H) (hc : c < sg_n G) (hB : H c < 2 ^ 31) (k1 : rdy G H c = true → Q (some (.int 1)) σ) (k0 : rdy G H c = false → Q (some (.int 0)) σ) : sy_E shM mX12_may (0, sy_ent [.ref 0, .ref k, .int (nI c)] 3, [], σ) Q := by
  have h16 := sg_n16 hg.1
  have ec : (nI c).toNatClampNeg = c := nI_clamp (by omega)
  refine w_m_may hk (vp_in_nI (by omega) (by decide)) (fun q => k0 ?_) (fun q q2 => k0 ?_) (fun q q2 => k1 ?_)
  · rw [ec, hg.2.1.2.2 c hc] at q
    have : G.2.2 c = true := by cases h : G.2.2 c <;> simp_all
    unfold rdy
    rw [this]
    simp
  · rw [ec, hH c (by omega), nI_lit4, nI_ltI hB (by decide)] at q2
    unfold rdy
    rw [decide_eq_false (show ¬ 3 < H c by omega)]
    simp
  · rw [ec, hg.2.1.2.2 c hc] at q
    rw [ec, hH c (by omega), nI_lit4, nI_ltI hB (by decide)] at q2
    refine rdy_iff.mpr ⟨⟨hc, ?_⟩, by omega⟩
    cases h : G.2.2 c <;> simp_all
theorem e_m_isStable {Q : Option Value → sy_S → Prop} {σ : sy_S} {G : sg_G} {k : Nat} {H : Nat → Nat} (hk : shM[k]? = some (0, 16, [])) (hg : gm G σ.1) (hH : ar σ.1 k H) (hB : ∀ j, j < 16 → H j < 2 ^ 31) (k1 : (∀ c, sg_p G c → H c ≤ 3) → Q (some (.int 1)) σ) (k0 : (∃ c, sg_p G c ∧ 3 < H c) → Q (some (.int 0)) σ) : sy_E shM mX12_isStable (0, sy_ent [.ref 0, .ref k] 4, [], σ) Q := by
  have h16 := sg_n16 hg.1
  have ecl := gm_cells hg.2.1
  refine w_m_isStable_0 hk ?_
  have key : ∀ (d i : Nat) (s : Int32), i + d = sg_n G → ((s = 1 ∧ ∀ j, j < i → rdy G H j = false) ∨ (s = 0 ∧ ∃ j, j < i ∧ rdy G H j = true)) → sy_E shM mX12_isStable (4, [some (.ref 0), some (.ref k), some (.int s), some (.int (nI i))], [], σ) Q := by
    intro d
    induction d with
    | zero =>
      intro i s hi hs
      have e : i = sg_n G := hi
      subst e
      refine w_m_isStable_4 hk (fun _ => ?_) (fun _ => ?_) (fun q => ?_)
      · rcases hs with ⟨a, -⟩ | ⟨a, -⟩
        · exact Or.inr a
        · exact Or.inl a
      · rcases hs with ⟨rfl, b⟩ | ⟨rfl, j, b, c⟩
        · refine k1 (fun c hc => ?_)
          have := b c hc.1
          rcases Nat.lt_or_ge 3 (H c) with z | z
          · rw [rdy_iff.mpr ⟨hc, z⟩] at this; cases this
          · exact z
        · exact k0 ⟨j, rdy_iff.mp c⟩
      · exact absurd (by rw [ecl]; exact nI_le (Nat.le_refl _) (by omega)) q
    | succ d ih =>
      intro i s hi hs
      refine w_m_isStable_4 hk (fun q => ?_) (fun q => ?_) (fun _ => ?_)
      · rw [ecl] at q; exact absurd q (nI_ge (show i < sg_n G by omega) (by omega))
      · rw [ecl] at q; exact absurd q (nI_ge (show i < sg_n G by omega) (by omega))
      · refine e_m_may hk hg hH (by omega) (hB i (by omega)) (fun q => ?_) (fun q => ?_)
        · refine w_m_isStable_19 hk (fun _ => ?_) (fun z => absurd (by decide) z)
          rw [nI_1]
          refine ih (i + 1) (s &&& 0) (by omega) (Or.inr ⟨?_, i, by omega, q⟩)
          rcases hs with ⟨rfl, -⟩ | ⟨rfl, -⟩ <;> decide
        · refine w_m_isStable_19 hk (fun z => absurd rfl z) (fun _ => ?_)
          rw [nI_1]
          refine ih (i + 1) (s &&& 1) (by omega) ?_
          rcases hs with ⟨rfl, b⟩ | ⟨rfl, j, b, c⟩
          · left
            refine ⟨by decide, fun j hj => ?_⟩
            by_cases e : j = i
            · subst e; exact q
            · exact b j (by omega)
          · exact Or.inr ⟨by decide, j, by omega, c⟩
  exact key (sg_n G) 0 1 (by omega) (Or.inl ⟨rfl, fun j hj => absurd hj (Nat.not_lt_zero _)⟩)
theorem e_m_begins {Q : Option Value → sy_S → Prop} {σ : sy_S} (kk : ∀ σ' : sy_S, sm [5] [7] σ σ' → ar σ'.1 5 (fun _ => 0) → σ'.1 0 7 = nI 0 → Q none σ') : sy_E shM mX12_begins (0, sy_ent [.ref 0] 2, [], σ) Q := by
  refine w_m_begins_0 ?_
  have hl := sy_loop (sh := shM) (y := mX12_begins) (Q := Q) (fun i σ' => (7, [some (.ref 0), some (.int (nI i))], [], σ')) (fun i σ' => sm [5] [7] σ σ' ∧ (∀ j, j < i → σ'.1 5 j = nI 0) ∧ σ'.1 0 7 = nI 0) 16 ?_ ?_ 0 (sy_up σ.1 0 7 0, σ.2) (by decide) ⟨sm.fu (by simp), fun j hj => absurd hj (Nat.not_lt_zero _), by show sy_up σ.1 0 7 0 0 7 = _; rw [sy_up2, if_pos ⟨rfl, rfl⟩]; rfl⟩
  · exact hl
  · rintro i σ' hi ⟨i1, i2, i3⟩ ih
    have ei : (nI i).toNatClampNeg = i := nI_clamp (by omega)
    refine w_m_begins_7 (fun _ => vp_in_nI hi (by decide)) (fun q => absurd q (nI_ge hi (by decide))) (fun _ => ?_)
    rw [ei, nI_1]
    refine ih _ ⟨i1.tr (sm.up (by simp) (by decide)), fun j hj => ?_, ?_⟩
    · show sy_up σ'.1 5 i 0 5 j = _
      rw [sy_up2]
      by_cases e : j = i
      · rw [if_pos ⟨rfl, e⟩]; rfl
      · rw [if_neg (fun q => e q.2)]; exact i2 j (by omega)
    · show sy_up σ'.1 5 i 0 0 7 = _
      rw [sy_up_ne _ _ _ (by decide)]; exact i3
  · rintro σ' ⟨i1, i2, i3⟩
    exact w_m_begins_7 (fun q => absurd (nI_le (Nat.le_refl 16) (by decide)) q) (fun _ => kk σ' i1 i2 i3) (fun q => absurd (nI_le (Nat.le_refl 16) (by decide)) q)
theorem e_m_size {Q : Option Value → sy_S → Prop} {σ : sy_S} {u : Nat → Nat} (hu : ar σ.1 5 u) (kk : Q (some (.int (nI (ssum 16 u)))) σ) : sy_E shM mX12_sizeCounted (0, sy_ent [.ref 0] 3, [], σ) Q := by
  refine w_m_size_0 ?_
  have hl := sy_loop (sh := shM) (y := mX12_sizeCounted) (Q := Q) (fun i σ' => (4, [some (.ref 0), some (.int (nI (ssum i u))), some (.int (nI i))], [], σ')) (fun i σ' => σ' = σ) 16 ?_ ?_ 0 σ (by decide) rfl
  · exact hl
  · rintro i σ' hi rfl ih
    have ei : (nI i).toNatClampNeg = i := nI_clamp (by omega)
    refine w_m_size_4 (fun _ => vp_in_nI hi (by decide)) (fun q => absurd q (nI_ge hi (by decide))) (fun _ => ?_)
    rw [ei, hu i hi, nI_add, nI_1]
    exact ih σ' rfl
  · rintro σ' rfl
    exact w_m_size_4 (fun q => absurd (nI_le (Nat.le_refl 16) (by decide)) q) (fun _ => kk) (fun q => absurd (nI_le (Nat.le_refl 16) (by decide)) q)
/-- where the model's toppling of the row k stands -/
def fm (G : sg_G) (k : Nat) (h u H : Nat → Nat) (f : Nat → Nat → Int32) : Prop := gm G f ∧ sg_rc G h u H ∧ ar f k H ∧ ar f 5 u ∧ f 0 7 = nI (sg_lost G u)
theorem e_m_settles {Q : Option Value → sy_S → Prop} {σ : sy_S} {G : sg_G} {k : Nat} {h : Nat → Nat} (hk : rowM k) (hg : gm G σ.1) (hh : ar σ.1 k h) (hB : ∀ j, j < 16 → h j ≤ 10000) (kk : ∀ (σ' : sy_S) (u H : Nat → Nat), sm [k, 5] [7] σ σ' → sg_rc G h u H → (∀ c, sg_p G c → H c ≤ 3) → ar σ'.1 k H → ar σ'.1 5 u → σ'.1 0 7 = nI (sg_lost G u) → Q (some (.int (nI (ssum 16 u)))) σ') : sy_E shM mX12_settles (0, sy_ent [.ref 0, .ref k] 3, [], σ) Q := by
  obtain ⟨hz, k0, k1, k3, k4, k5, k6⟩ := id hk
  have hG := hg.1
  have h16 := sg_n16 hG
  have bH : ∀ {u H : Nat → Nat}, sg_rc G h u H → ∀ j, j < 16 → H j < 2 ^ 31 := fun hr j hj => Nat.lt_of_le_of_lt ((sg_rc_bd hG hr hB).1 j hj) (by decide)
  have kg : ∀ {σ1 σ2 : sy_S}, sm [k, 5] [7] σ1 σ2 → gm G σ1.1 → gm G σ2.1 := fun a b => a.gm b (by simp; omega) (by decide)
  -- a sweep
  have inner : ∀ (us Hs : Nat → Nat), (∃ c, sg_p G c ∧ 3 < Hs c) → (∀ (σ' : sy_S) (u H : Nat → Nat), fm G k h u H σ'.1 → sm [k, 5] [7] σ σ' → ssum 16 us < ssum 16 u → sy_E shM mX12_settles (4, [some (.ref 0), some (.ref k), none], [], σ') Q) → ∀ (d i : Nat) (σ' : sy_S) (u H : Nat → Nat), i + d = sg_n G → fm G k h u H σ'.1 → sm [k, 5] [7] σ σ' → ((H = Hs ∧ u = us ∧ ∀ j, j < i → rdy G Hs j = false) ∨ ssum 16 us < ssum 16 u) → sy_E shM mX12_settles (14, [some (.ref 0), some (.ref k), some (.int (nI i))], [], σ') Q := by
    intro us Hs hun next d
    induction d with
    | zero =>
      intro i σ' u H hi hf hs hm
      have e : i = sg_n G := hi
      subst e
      have ecl := gm_cells hf.1.2.1
      refine w_m_settles_14 hz (fun _ => next σ' u H hf hs ?_) (fun q => ?_)
      · rcases hm with ⟨-, -, c⟩ | hm
        · obtain ⟨c9, p1, p2⟩ := hun
          have := c c9 p1.1
          rw [rdy_iff.mpr ⟨p1, p2⟩] at this
          cases this
        · exact hm
      · exact absurd (by rw [ecl]; exact nI_le (Nat.le_refl _) (by omega)) q
    | succ d ih =>
      intro i σ' u H hi hf hs hm
      obtain ⟨f1, f2, f3, f4, f5⟩ := id hf
      have ecl := gm_cells f1.2.1
      have hi16 : i < 16 := by omega
      have ei : (nI i).toNatClampNeg = i := nI_clamp (by omega)
      refine w_m_settles_14 hz (fun q => ?_) (fun _ => ?_)
      · rw [ecl] at q; exact absurd q (nI_ge (show i < sg_n G by omega) (by omega))
      · refine e_m_may hz f1 f3 (by omega) (bH f2 i hi16) (fun q => ?_) (fun q => ?_)
        · obtain ⟨p1, p2⟩ := rdy_iff.mp q
          refine w_m_settles_28 hz (fun _ => vp_in_nI hi16 (by decide)) (fun z => absurd z (by decide)) (fun _ => ?_)
          rw [ei, f3 i hi16, nI_lit4, pk_div (bH f2 i hi16) (by decide) (by decide)]
          obtain ⟨t, et⟩ : ∃ t, t = H i / 4 := ⟨_, rfl⟩
          have ht : 4 * t ≤ H i := by rw [et]; exact Nat.mul_div_le _ _
          rw [← et]
          refine e_m_topples hk f1 f3 f4 f5 p1 ht (fun σ2 g1 g2 g3 g4 => ?_)
          refine w_m_settles_42 hz ?_
          rw [nI_1]
          refine ih (i + 1) σ2 (sg_ad u i t) (sg_tp G H i t) (by omega) ⟨kg g1 f1, sg_rc_tp hG f2 p1 ht, g2, g3, ?_⟩ (hs.tr g1) (Or.inr ?_)
          · rw [g4, sg_lost_ad p1]
          · rw [ssum_ad hi16]
            rcases hm with ⟨-, b, -⟩ | b
            · rw [b]; omega
            · omega
        · refine w_m_settles_28 hz (fun z => absurd rfl z) (fun _ => ?_) (fun z => absurd rfl z)
          rw [nI_1]
          refine ih (i + 1) σ' u H (by omega) hf hs ?_
          rcases hm with ⟨a, b, c⟩ | b
          · left
            refine ⟨a, b, fun j hj => ?_⟩
            by_cases e : j = i
            · subst e; rw [← a]; exact q
            · exact c j (by omega)
          · exact Or.inr b
  have outer : ∀ (d : Nat) (σ' : sy_S) (u H : Nat → Nat), fm G k h u H σ'.1 → sm [k, 5] [7] σ σ' → 480001 ≤ ssum 16 u + d → sy_E shM mX12_settles (4, [some (.ref 0), some (.ref k), none], [], σ') Q := by
    intro d
    induction d with
    | zero =>
      intro σ' u H hf hs hd
      have := (sg_rc_bd hG hf.2.1 hB).2
      exact absurd hd (by omega)
    | succ d ih =>
      intro σ' u H hf hs hd
      obtain ⟨f1, f2, f3, f4, f5⟩ := id hf
      refine w_m_settles_4 hz ?_
      refine e_m_isStable hz f1 f3 (bH f2) (fun q => ?_) (fun q => ?_)
      · refine w_m_settles_9 hz (fun _ => ?_) (fun z => absurd (by decide) z)
        exact e_m_size f4 (w_m_settles_55 (kk σ' u H hs f2 q f3 f4 f5))
      · refine w_m_settles_9 hz (fun z => absurd rfl z) (fun _ => ?_)
        refine inner u H q (fun σ2 u2 H2 g1 g2 g3 => ih σ2 u2 H2 g1 g2 (by omega)) (sg_n G) 0 σ' u H (by omega) hf hs (Or.inl ⟨rfl, rfl, fun j hj => absurd hj (Nat.not_lt_zero _)⟩)
  refine w_m_settles_0 hz ?_
  refine e_m_begins (fun σ1 g1 g2 g3 => ?_)
  have hs1 : sm [k, 5] [7] σ σ1 := g1.mono (by simp) (by simp)
  refine outer 480001 σ1 (fun _ => 0) h ⟨kg hs1 hg, sg_rc_0 G h, fun j hj => ?_, g2, ?_⟩ hs1 (by omega)
  · rw [g1.1 k k0 (by simp; omega)]; exact hh j hj
  · rw [sg_lost_0]; exact g3
end
section
/-! the model's rounds and counts: contracts -/
theorem rd1_n {G : sg_G} (H : Nat → Nat) (d : Nat) : rd1 G H (sg_n G + d) = rd1 G H (sg_n G) := by
  induction d with
  | zero => rfl
  | succ d ih =>
    rw [← Nat.add_assoc, rd1, if_neg (by unfold rdy; rw [decide_eq_false (by omega)]; simp), ih]
theorem ru1_n {G : sg_G} (H u : Nat → Nat) (d : Nat) : ru1 G H u (sg_n G + d) = ru1 G H u (sg_n G) := by
  induction d with
  | zero => rfl
  | succ d ih =>
    rw [← Nat.add_assoc, ru1, if_neg (by unfold rdy; rw [decide_eq_false (by omega)]; simp), ih]
theorem rd1_16 {G : sg_G} (hG : sg_ok G) (H : Nat → Nat) : rd1 G H 16 = rd1 G H (sg_n G) := by
  have := rd1_n (G := G) H (16 - sg_n G)
  rw [show sg_n G + (16 - sg_n G) = 16 by have := sg_n16 hG; omega] at this
  exact this
theorem ru1_16 {G : sg_G} (hG : sg_ok G) (H u : Nat → Nat) : ru1 G H u 16 = ru1 G H u (sg_n G) := by
  have := ru1_n (G := G) H u (16 - sg_n G)
  rw [show sg_n G + (16 - sg_n G) = 16 by have := sg_n16 hG; omega] at this
  exact this
theorem nar_b1 : vp_nar .boolean 1 = 1 := rfl
theorem nar_b0 : vp_nar .boolean 0 = 0 := rfl
theorem e_m_rounds {Q : Option Value → sy_S → Prop} {σ : sy_S} {G : sg_G} {k : Nat} {h : Nat → Nat} (hk : rowM k) (hg : gm G σ.1) (hh : ar σ.1 k h) (hB : ∀ j, j < 16 → h j ≤ 10000) (kk : ∀ (σ' : sy_S) (N : Nat) (u : Nat → Nat), sm [k, 5, 6] [7] σ σ' → rdE G h N → sg_rc G h u (rdN G h N) → ar σ'.1 k (rdN G h N) → ar σ'.1 5 u → σ'.1 0 7 = nI (sg_lost G u) → Q (some (.int (nI N))) σ') : sy_E shM mX12_roundsOf (0, sy_ent [.ref 0, .ref k] 4, [], σ) Q := by
  obtain ⟨hz, k0, k1, k3, k4, k5, k6⟩ := id hk
  have hG := hg.1
  have h16 := sg_n16 hG
  have bH : ∀ {u H : Nat → Nat}, sg_rc G h u H → ∀ j, j < 16 → H j < 2 ^ 31 := fun hr j hj => Nat.lt_of_le_of_lt ((sg_rc_bd hG hr hB).1 j hj) (by decide)
  have kg : ∀ {σ1 σ2 : sy_S}, sm [k, 5, 6] [7] σ1 σ2 → gm G σ1.1 → gm G σ2.1 := fun a b => a.gm b (by simp; omega) (by decide)
  -- the topplings of a round
  have second : ∀ (n : Nat) (u H : Nat → Nat), sg_rc G h u H → (∀ σ' : sy_S, fm G k h (ru1 G H u 16) (rd1 G H 16) σ'.1 → sm [k, 5, 6] [7] σ σ' → sy_E shM mX12_roundsOf (6, [some (.ref 0), some (.ref k), some (.int (nI (n + 1))), none], [], σ') Q) → ∀ i σ', i ≤ sg_n G → (fm G k h (ru1 G H u i) (rd1 G H i) σ'.1 ∧ sm [k, 5, 6] [7] σ σ' ∧ ∀ j, j < sg_n G → σ'.1 6 j = if rdy G H j then 1 else 0) → sy_E shM mX12_roundsOf (44, [some (.ref 0), some (.ref k), some (.int (nI n)), some (.int (nI i))], [], σ') Q := by
    intro n u H hr next
    refine sy_loop (fun i σ' => (44, [some (.ref 0), some (.ref k), some (.int (nI n)), some (.int (nI i))], [], σ')) (fun i σ' => fm G k h (ru1 G H u i) (rd1 G H i) σ'.1 ∧ sm [k, 5, 6] [7] σ σ' ∧ ∀ j, j < sg_n G → σ'.1 6 j = if rdy G H j then 1 else 0) (sg_n G) ?_ ?_
    · rintro i σ' hi ⟨⟨f1, f2, f3, f4, f5⟩, hs, hn⟩ ih
      have ei : (nI i).toNatClampNeg = i := nI_clamp (by omega)
      have ecl := gm_cells f1.2.1
      refine w_m_rounds_44 hz (fun _ => vp_in_nI (by omega) (by decide)) (fun q => ?_) (fun _ q => ?_) (fun _ q => ?_)
      · rw [ecl] at q; exact absurd q (nI_ge hi (by omega))
      · rw [ei, hn i hi] at q
        have q : ¬ rdy G H i = true := fun z => by rw [z] at q; exact absurd q (by decide)
        rw [nI_1]
        refine ih σ' ⟨⟨f1, ?_, ?_, ?_, ?_⟩, hs, hn⟩
        · rw [ru1, rd1, if_neg q, if_neg q]; exact f2
        · rw [rd1, if_neg q]; exact f3
        · rw [ru1, if_neg q]; exact f4
        · rw [ru1, if_neg q]; exact f5
      · rw [ei, hn i hi] at q
        have q : rdy G H i = true := by
          cases z : rdy G H i
          · rw [z] at q; exact absurd rfl q
          · rfl
        obtain ⟨p1, p2⟩ := rdy_iff.mp q
        have hge := rd1_ge G H i i (Nat.le_refl _)
        refine e_m_topples (t := 1) hk f1 f3 f4 f5 p1 (by omega) (fun σ2 g1 g2 g3 g4 => ?_)
        have g1' : sm [k, 5, 6] [7] σ' σ2 := g1.mono (by simp) (by simp)
        refine w_m_rounds_68 hz ?_
        rw [nI_1]
        refine ih σ2 ⟨⟨kg g1' f1, rd1_rc hG hr (i + 1), ?_, ?_, ?_⟩, hs.tr g1', fun j hj => ?_⟩
        · rw [rd1, if_pos q]; exact g2
        · rw [ru1, if_pos q]; exact g3
        · rw [ru1, if_pos q, g4, sg_lost_ad p1]
        · rw [g1.1 6 (by decide) (by simp; omega)]; exact hn j hj
    · rintro σ' ⟨hf, hs, hn⟩
      have ecl := gm_cells hf.1.2.1
      refine w_m_rounds_44 hz (fun q => ?_) (fun _ => ?_) (fun q => ?_) (fun q => ?_)
      · exact absurd (by rw [ecl]; exact nI_le (Nat.le_refl _) (by omega)) q
      · rw [nI_1]
        refine next σ' ?_ hs
        rw [rd1_16 hG, ru1_16 hG]
        exact hf
      · exact absurd (by rw [ecl]; exact nI_le (Nat.le_refl _) (by omega)) q
      · exact absurd (by rw [ecl]; exact nI_le (Nat.le_refl _) (by omega)) q
  -- which are to topple
  have first : ∀ (n : Nat) (u H : Nat → Nat), sg_rc G h u H → (∀ σ' : sy_S, fm G k h (ru1 G H u 16) (rd1 G H 16) σ'.1 → sm [k, 5, 6] [7] σ σ' → sy_E shM mX12_roundsOf (6, [some (.ref 0), some (.ref k), some (.int (nI (n + 1))), none], [], σ') Q) → ∀ i σ', i ≤ sg_n G → (fm G k h u H σ'.1 ∧ sm [k, 5, 6] [7] σ σ' ∧ ∀ j, j < i → σ'.1 6 j = if rdy G H j then 1 else 0) → sy_E shM mX12_roundsOf (16, [some (.ref 0), some (.ref k), some (.int (nI n)), some (.int (nI i))], [], σ') Q := by
    intro n u H hr next
    refine sy_loop (fun i σ' => (16, [some (.ref 0), some (.ref k), some (.int (nI n)), some (.int (nI i))], [], σ')) (fun i σ' => fm G k h u H σ'.1 ∧ sm [k, 5, 6] [7] σ σ' ∧ ∀ j, j < i → σ'.1 6 j = if rdy G H j then 1 else 0) (sg_n G) ?_ ?_
    · rintro i σ' hi ⟨⟨f1, f2, f3, f4, f5⟩, hs, hn⟩ ih
      have ei : (nI i).toNatClampNeg = i := nI_clamp (by omega)
      have ecl := gm_cells f1.2.1
      refine w_m_rounds_16 hz (fun q => ?_) (fun _ => ?_)
      · rw [ecl] at q; exact absurd q (nI_ge hi (by omega))
      · have go : ∀ v : Int32, (v = if rdy G H i then 1 else 0) → sy_E shM mX12_roundsOf (35, [some (.ref 0), some (.ref k), some (.int (nI n)), some (.int (nI i))], [.int v, .int (nI i), .ref 6], σ') Q := by
          intro v hv
          refine w_m_rounds_35 hz (vp_in_nI (by omega) (by decide)) ?_
          rw [ei, nI_1]
          have hs2 : sm [k, 5, 6] [7] σ' (sy_up σ'.1 6 i (vp_nar .boolean v), σ'.2) := sm.up (by simp) (by decide)
          refine ih _ ⟨⟨kg hs2 f1, f2, fun j hj => ?_, fun j hj => ?_, ?_⟩, hs.tr hs2, fun j hj => ?_⟩
          · show sy_up σ'.1 6 i (vp_nar .boolean v) k j = _
            rw [sy_up_ne _ _ _ k6]; exact f3 j hj
          · show sy_up σ'.1 6 i (vp_nar .boolean v) 5 j = _
            rw [sy_up_ne _ _ _ (by decide)]; exact f4 j hj
          · show sy_up σ'.1 6 i (vp_nar .boolean v) 0 7 = _
            rw [sy_up_ne _ _ _ (by decide)]; exact f5
          · show sy_up σ'.1 6 i (vp_nar .boolean v) 6 j = _
            rw [sy_up2]
            by_cases e : j = i
            · subst e
              rw [if_pos ⟨rfl, rfl⟩, hv]
              cases rdy G H j <;> rfl
            · rw [if_neg (fun q => e q.2)]; exact hn j (by omega)
        refine e_m_may hz f1 f3 hi (bH f2 i (by omega)) (fun q => go 1 (by rw [q]; rfl)) (fun q => go 0 (by rw [q]; rfl))
    · rintro σ' ⟨hf, hs, hn⟩
      have ecl := gm_cells hf.1.2.1
      refine w_m_rounds_16 hz (fun _ => ?_) (fun q => ?_)
      · exact second n u H hr next 0 σ' (Nat.zero_le _) ⟨hf, hs, hn⟩
      · exact absurd (by rw [ecl]; exact nI_le (Nat.le_refl _) (by omega)) q
  have outer : ∀ (d n : Nat) (σ' : sy_S) (u : Nat → Nat), fm G k h u (rdN G h n) σ'.1 → sm [k, 5, 6] [7] σ σ' → (∀ m, m < n → ∃ c, sg_p G c ∧ 3 < rdN G h m c) → 480001 ≤ ssum 16 u + d → sy_E shM mX12_roundsOf (6, [some (.ref 0), some (.ref k), some (.int (nI n)), none], [], σ') Q := by
    intro d
    induction d with
    | zero =>
      intro n σ' u hf hs hm hd
      have := (sg_rc_bd hG hf.2.1 hB).2
      exact absurd hd (by omega)
    | succ d ih =>
      intro n σ' u hf hs hm hd
      obtain ⟨f1, f2, f3, f4, f5⟩ := id hf
      refine w_m_rounds_6 hz ?_
      refine e_m_isStable hz f1 f3 (bH f2) (fun q => ?_) (fun q => ?_)
      · exact w_m_rounds_11 hz (fun _ => kk σ' n u hs ⟨hm, q⟩ f2 f3 f4 f5) (fun z => absurd (by decide) z)
      · refine w_m_rounds_11 hz (fun z => absurd rfl z) (fun _ => ?_)
        refine first n u (rdN G h n) f2 (fun σ2 g1 g2 => ?_) 0 σ' (Nat.zero_le _) ⟨hf, hs, fun j hj => absurd hj (Nat.not_lt_zero _)⟩
        refine ih (n + 1) σ2 (ru1 G (rdN G h n) u 16) g1 g2 (fun m hmn => ?_) ?_
        · by_cases e : m = n
          · subst e; exact q
          · exact hm m (by omega)
        · obtain ⟨c, p1, p2⟩ := q
          have := (ru1_sum (u := u) (H := rdN G h n) hG 16).2 ⟨c, Nat.lt_of_lt_of_le p1.1 h16, rdy_iff.mpr ⟨p1, p2⟩⟩
          omega
  refine w_m_rounds_0 hz ?_
  refine e_m_begins (fun σ1 g1 g2 g3 => ?_)
  have hs1 : sm [k, 5, 6] [7] σ σ1 := g1.mono (by simp) (by simp)
  refine w_m_rounds_4 hz ?_
  refine outer 480001 0 σ1 (fun _ => 0) ⟨kg hs1 hg, sg_rc_0 G h, fun j hj => ?_, g2, ?_⟩ hs1 (fun m hm => absurd hm (Nat.not_lt_zero _)) (by omega)
  · rw [g1.1 k k0 (by simp; omega)]; exact hh j hj
  · rw [sg_lost_0]; exact g3
theorem e_m_toppled {Q : Option Value → sy_S → Prop} {σ : sy_S} {G : sg_G} {u : Nat → Nat} (hg : gm G σ.1) (hu : ar σ.1 5 u) (hB : ∀ j, j < 16 → u j < 2 ^ 31) (h0 : ∀ j, ¬ sg_p G j → u j = 0) (kk : Q (some (.int (bts (fun c => decide (0 < u c)) (List.range 16)))) σ) : sy_E shM mX12_toppled (0, sy_ent [.ref 0] 3, [], σ) Q := by
  have h16 := sg_n16 hg.1
  have ecl := gm_cells hg.2.1
  refine w_m_toppled_0 ?_
  have hl := sy_loop (sh := shM) (y := mX12_toppled) (Q := Q) (fun i σ' => (4, [some (.ref 0), some (.int (bts (fun c => decide (0 < u c)) (List.range i))), some (.int (nI i))], [], σ')) (fun i σ' => σ' = σ) (sg_n G) ?_ ?_ 0 σ (Nat.zero_le _) rfl
  · exact hl
  · rintro i σ' hi rfl ih
    have ei : (nI i).toNatClampNeg = i := nI_clamp (by omega)
    refine w_m_toppled_4 (fun _ => vp_in_nI (by omega) (by decide)) (fun q => ?_) (fun _ q => ?_) (fun _ q => ?_)
    · rw [ecl] at q; exact absurd q (nI_ge hi (by omega))
    · rw [ei, hu i (by omega), nI_lit0, nI_leI (hB i (by omega)) (by decide)] at q
      have h := ih σ' rfl
      rw [bts_s, decide_eq_false (show ¬ 0 < u i by omega)] at h
      rw [nI_1, show ∀ x : Int32, x ||| 0 = x from fun x => Int32.or_zero]
      exact h
    · rw [ei, hu i (by omega), nI_lit0, nI_leI (hB i (by omega)) (by decide)] at q
      have h := ih σ' rfl
      rw [bts_s, decide_eq_true (show 0 < u i by omega)] at h
      rw [nI_1]
      exact h
  · rintro σ' rfl
    refine w_m_toppled_4 (fun q => ?_) (fun _ => ?_) (fun q => ?_) (fun q => ?_)
    · exact absurd (by rw [ecl]; exact nI_le (Nat.le_refl _) (by omega)) q
    · rw [← bts_ext (p := fun c => decide (0 < u c)) h16 (fun c h1 _ => decide_eq_false (by rw [h0 c (fun q => by have := q.1; omega)]; omega))]
      exact kk
    · exact absurd (by rw [ecl]; exact nI_le (Nat.le_refl _) (by omega)) q
    · exact absurd (by rw [ecl]; exact nI_le (Nat.le_refl _) (by omega)) q
theorem e_m_grains {Q : Option Value → sy_S → Prop} {σ : sy_S} {G : sg_G} {k : Nat} {H : Nat → Nat} (hk : shM[k]? = some (0, 16, [])) (hg : gm G σ.1) (hH : ar σ.1 k H) (kk : Q (some (.int (nI (sg_sum G H)))) σ) : sy_E shM mX12_grains (0, sy_ent [.ref 0, .ref k] 4, [], σ) Q := by
  have h16 := sg_n16 hg.1
  have ecl := gm_cells hg.2.1
  refine w_m_grains_0 hk ?_
  have hl := sy_loop (sh := shM) (y := mX12_grains) (Q := Q) (fun i σ' => (4, [some (.ref 0), some (.ref k), some (.int (nI (ssum i fun c => if G.2.2 c then 0 else H c))), some (.int (nI i))], [], σ')) (fun i σ' => σ' = σ) (sg_n G) ?_ ?_ 0 σ (Nat.zero_le _) rfl
  · exact hl
  · rintro i σ' hi rfl ih
    have ei : (nI i).toNatClampNeg = i := nI_clamp (by omega)
    have h := ih σ' rfl
    rw [ssum] at h
    refine w_m_grains_4 hk (fun _ => vp_in_nI (by omega) (by decide)) (fun q => ?_) (fun _ q => ?_) (fun _ q => ?_)
    · rw [ecl] at q; exact absurd q (nI_ge hi (by omega))
    · rw [ei, hg.2.1.2.2 i hi] at q
      have hw : G.2.2 i = false := by cases z : G.2.2 i <;> simp_all
      rw [hw] at h
      rw [ei, hH i (by omega), nI_add, nI_1]
      exact h
    · rw [ei, hg.2.1.2.2 i hi] at q
      have hw : G.2.2 i = true := by cases z : G.2.2 i <;> simp_all
      rw [hw] at h
      rw [nI_1, nI_lit0, nI_add]
      exact h
  · rintro σ' rfl
    refine w_m_grains_4 hk (fun q => ?_) (fun _ => kk) (fun q => ?_) (fun q => ?_)
    all_goals exact absurd (by rw [ecl]; exact nI_le (Nat.le_refl _) (by omega)) q
theorem sg_P_lenS (G : sg_G) (m : Nat) : (sg_pm G m).length = ssum m fun c => if G.2.2 c then 0 else 1 := by
  induction m with
  | zero => rfl
  | succ m ih =>
    rw [sg_pm_s, List.length_append, ih, ssum]
    cases G.2.2 m <;> rfl
theorem e_m_places {Q : Option Value → sy_S → Prop} {σ : sy_S} {G : sg_G} (hg : gm G σ.1) (kk : Q (some (.int (nI (sg_P G).length))) σ) : sy_E shM mX12_places (0, sy_ent [.ref 0] 3, [], σ) Q := by
  have h16 := sg_n16 hg.1
  have ecl := gm_cells hg.2.1
  refine w_m_places_0 ?_
  have hl := sy_loop (sh := shM) (y := mX12_places) (Q := Q) (fun i σ' => (4, [some (.ref 0), some (.int (nI (ssum i fun c => if G.2.2 c then 0 else 1))), some (.int (nI i))], [], σ')) (fun i σ' => σ' = σ) (sg_n G) ?_ ?_ 0 σ (Nat.zero_le _) rfl
  · exact hl
  · rintro i σ' hi rfl ih
    have ei : (nI i).toNatClampNeg = i := nI_clamp (by omega)
    have h := ih σ' rfl
    rw [ssum] at h
    refine w_m_places_4 (fun _ => vp_in_nI (by omega) (by decide)) (fun q => ?_) (fun _ q => ?_) (fun _ q => ?_)
    · rw [ecl] at q; exact absurd q (nI_ge hi (by omega))
    · rw [ei, hg.2.1.2.2 i hi] at q
      have hw : G.2.2 i = false := by cases z : G.2.2 i <;> simp_all
      rw [hw] at h
      rw [nI_1, nI_1]
      exact h
    · rw [ei, hg.2.1.2.2 i hi] at q
      have hw : G.2.2 i = true := by cases z : G.2.2 i <;> simp_all
      rw [hw] at h
      rw [nI_1, nI_lit0, nI_add]
      exact h
  · rintro σ' rfl
    refine w_m_places_4 (fun q => ?_) (fun _ => ?_) (fun q => ?_) (fun q => ?_)
    · exact absurd (by rw [ecl]; exact nI_le (Nat.le_refl _) (by omega)) q
    · rw [← sg_P_lenS]; exact kk
    · exact absurd (by rw [ecl]; exact nI_le (Nat.le_refl _) (by omega)) q
    · exact absurd (by rw [ecl]; exact nI_le (Nat.le_refl _) (by omega)) q
theorem e_m_copies {Q : Option Value → sy_S → Prop} {σ : sy_S} {a k : Nat} {H : Nat → Nat} (ha : shM[a]? = some (0, 16, [])) (hk : shM[k]? = some (0, 16, [])) (hka : k ≠ a) (hk0 : k ≠ 0) (hH : ar σ.1 a H) (kk : ∀ σ' : sy_S, sm [k] [] σ σ' → ar σ'.1 k H → Q none σ') : sy_E shM mX12_copies (0, sy_ent [.ref a, .ref k] 3, [], σ) Q := by
  refine w_m_copies_0 ha hk ?_
  have hl := sy_loop (sh := shM) (y := mX12_copies) (Q := Q) (fun i σ' => (2, [some (.ref a), some (.ref k), some (.int (nI i))], [], σ')) (fun i σ' => sm [k] [] σ σ' ∧ ∀ j, j < i → σ'.1 k j = nI (H j)) 16 ?_ ?_ 0 σ (by decide) ⟨sm.rf, fun j hj => absurd hj (Nat.not_lt_zero _)⟩
  · exact hl
  · rintro i σ' hi ⟨i1, i2⟩ ih
    have ei : (nI i).toNatClampNeg = i := nI_clamp (by omega)
    have ea : σ'.1 a i = nI (H i) := by
      by_cases z : a = 0
      · subst z; rw [i1.2.1 i (by simp)]; exact hH i hi
      · rw [i1.1 a z (by simp; omega)]; exact hH i hi
    refine w_m_copies_2 ha hk (fun _ => vp_in_nI hi (by decide)) (fun q => absurd q (nI_ge hi (by decide))) (fun _ => ?_)
    rw [ei, ea, nI_1]
    refine ih _ ⟨i1.tr (sm.up (by simp) hk0), fun j hj => ?_⟩
    show sy_up σ'.1 k i (nI (H i)) k j = _
    rw [sy_up2]
    by_cases e : j = i
    · subst e; rw [if_pos ⟨rfl, rfl⟩]
    · rw [if_neg (fun q => e q.2)]; exact i2 j (by omega)
  · rintro σ' ⟨i1, i2⟩
    exact w_m_copies_2 ha hk (fun q => absurd (nI_le (Nat.le_refl 16) (by decide)) q) (fun _ => kk σ' i1 i2) (fun q => absurd (nI_le (Nat.le_refl 16) (by decide)) q)
end
section
/-! the orders of toppling, as mathematics; the odometer and what is settled, as functions -/
noncomputable def od (G : sg_G) (h : Nat → Nat) : Nat → Nat := by
  classical
  exact if e : ∃ u, sg_odo G h u then Classical.choose e else fun _ => 0
theorem od_eq {G : sg_G} {h u : Nat → Nat} (hu : sg_odo G h u) : u = od G h := by
  have e : ∃ u, sg_odo G h u := ⟨u, hu⟩
  unfold od
  rw [dif_pos e]
  exact sg_odo_one hu (Classical.choose_spec e)
noncomputable def stt (G : sg_G) (h : Nat → Nat) : Nat → Nat := by
  classical
  exact fun k => if sg_p G k then h k + sg_su G (od G h) k - 4 * od G h k else h k
theorem stt_eq {G : sg_G} {h u H : Nat → Nat} (hr : sg_rc G h u H) (hs : ∀ k, sg_p G k → H k ≤ 3) : u = od G h ∧ H = stt G h := by
  have e := od_eq (sg_rc_odo hr hs)
  refine ⟨e, ?_⟩
  funext k
  unfold stt
  by_cases q : sg_p G k
  · rw [if_pos q, ← e]
    have := hr.1 k q
    omega
  · rw [if_neg q]
    exact (hr.2.2.1 k q).2
noncomputable def rdn (G : sg_G) (h : Nat → Nat) : Nat := by
  classical
  exact if e : ∃ N, rdE G h N then Classical.choose e else 0
theorem rdn_eq {G : sg_G} {h : Nat → Nat} {N : Nat} (hN : rdE G h N) : N = rdn G h := by
  have e : ∃ N, rdE G h N := ⟨N, hN⟩
  unfold rdn
  rw [dif_pos e]
  exact rdE_one hN (Classical.choose_spec e)
/-! the orders -/
def mline (H : Nat → Nat) (L : List Nat) (c : Nat) : List Nat := if c ∉ L ∧ 3 < H c then L ++ [c] else L
def mtall (H : Nat → Nat) (b : Option Nat) (c : Nat) : Option Nat := match b with
  | none => if 3 < H c then some c else none
  | some d => if H d < H c then some c else some d
def mpick (G : sg_G) (o : Nat) (H : Nat → Nat) (L : List Nat) : Option Nat := match o with
  | 0 => (sg_P G).find? fun c => decide (3 < H c)
  | 1 => L.head?
  | 2 => L.getLast?
  | _ => (sg_P G).foldl (mtall H) none
def mrest (o : Nat) (L : List Nat) : List Nat := if o = 1 then L.tail else L.dropLast
def mnext (G : sg_G) (o : Nat) (s : (Nat → Nat) × List Nat) : Option (Nat × (Nat → Nat) × List Nat) := match mpick G o s.1 s.2 with
  | none => none
  | some c => some (c, sg_tp G s.1 c 1, if o = 1 ∨ o = 2 then (sg_nb G c ++ [c]).foldl (mline (sg_tp G s.1 c 1)) (mrest o s.2) else s.2)
def m0 (G : sg_G) (o : Nat) (h : Nat → Nat) : (Nat → Nat) × List Nat := (h, if o = 1 ∨ o = 2 then (sg_P G).foldl (mline h) [] else [])
def mrun (G : sg_G) (o : Nat) (h : Nat → Nat) : Nat → (Nat → Nat) × List Nat
  | 0 => m0 G o h
  | n + 1 => match mnext G o (mrun G o h n) with
    | some (_, s) => s
    | none => mrun G o h n
def mcell (G : sg_G) (o : Nat) (h : Nat → Nat) (n : Nat) : Option Nat := mpick G o (mrun G o h n).1 (mrun G o h n).2
/-- the row holds just those that may topple -/
def minv (G : sg_G) (o : Nat) (H : Nat → Nat) (L : List Nat) : Prop := (o = 1 ∨ o = 2) → L.Nodup ∧ ∀ c, c ∈ L ↔ sg_p G c ∧ 3 < H c
theorem mline_mem {H : Nat → Nat} {L : List Nat} {c x : Nat} : x ∈ mline H L c ↔ x ∈ L ∨ (x = c ∧ 3 < H c) := by
  unfold mline
  split
  · rename_i q
    rw [List.mem_append, List.mem_singleton]
    exact ⟨fun h => h.elim Or.inl (fun h => Or.inr ⟨h, q.2⟩), fun h => h.elim Or.inl (fun h => Or.inr h.1)⟩
  · rename_i q
    refine ⟨Or.inl, fun h => h.elim id (fun h => ?_)⟩
    obtain ⟨rfl, h2⟩ := h
    exact Classical.byContradiction fun z => q ⟨z, h2⟩
theorem mline_nodup {H : Nat → Nat} {L : List Nat} {c : Nat} (h : L.Nodup) : (mline H L c).Nodup := by
  unfold mline
  split
  · rename_i q
    rw [List.nodup_append]
    exact ⟨h, by simp, fun a ha b hb => by rw [List.mem_singleton] at hb; subst hb; exact fun e => q.1 (e ▸ ha)⟩
  · exact h
theorem mfold_mem {H : Nat → Nat} (l : List Nat) : ∀ (L : List Nat) (x : Nat), x ∈ l.foldl (mline H) L ↔ x ∈ L ∨ (x ∈ l ∧ 3 < H x) := by
  induction l with
  | nil => intro L x; simp
  | cons a l ih =>
    intro L x
    rw [List.foldl_cons, ih, mline_mem, List.mem_cons]
    constructor
    · rintro ((h | ⟨rfl, h⟩) | h)
      · exact Or.inl h
      · exact Or.inr ⟨Or.inl rfl, h⟩
      · exact Or.inr ⟨Or.inr h.1, h.2⟩
    · rintro (h | ⟨rfl | h, h2⟩)
      · exact Or.inl (Or.inl h)
      · exact Or.inl (Or.inr ⟨rfl, h2⟩)
      · exact Or.inr ⟨h, h2⟩
theorem mfold_nodup {H : Nat → Nat} (l : List Nat) : ∀ (L : List Nat), L.Nodup → (l.foldl (mline H) L).Nodup := by
  induction l with
  | nil => intro L h; exact h
  | cons a l ih => intro L h; exact ih _ (mline_nodup h)
theorem m0_inv (G : sg_G) (o : Nat) (h : Nat → Nat) : minv G o (m0 G o h).1 (m0 G o h).2 := by
  intro ho
  unfold m0
  rw [if_pos ho]
  refine ⟨mfold_nodup _ _ (by simp), fun c => ?_⟩
  rw [mfold_mem, sg_P_mem]
  simp
theorem mtall_fold {G : sg_G} {H : Nat → Nat} (l : List Nat) (hl : ∀ c, c ∈ l → sg_p G c) : ∀ b : Option Nat, (∀ d, b = some d → sg_p G d ∧ 3 < H d) → (∀ c, l.foldl (mtall H) b = some c → sg_p G c ∧ 3 < H c) ∧ (l.foldl (mtall H) b = none → b = none ∧ ∀ c, c ∈ l → H c ≤ 3) := by
  induction l with
  | nil => intro b hb; exact ⟨fun c hc => hb c hc, fun h => ⟨h, fun c hc => absurd hc List.not_mem_nil⟩⟩
  | cons a l ih =>
    intro b hb
    rw [List.foldl_cons]
    have hn : ∀ d, mtall H b a = some d → sg_p G d ∧ 3 < H d := by
      intro d hd
      unfold mtall at hd
      split at hd
      · split at hd
        · rename_i q
          cases hd
          exact ⟨hl a List.mem_cons_self, q⟩
        · cases hd
      · rename_i d'
        have h9 := hb d' rfl
        split at hd
        · rename_i q
          cases hd
          exact ⟨hl a List.mem_cons_self, by omega⟩
        · cases hd; exact h9
    obtain ⟨i1, i2⟩ := ih (fun c hc => hl c (List.mem_cons_of_mem _ hc)) _ hn
    refine ⟨i1, fun h => ?_⟩
    obtain ⟨j1, j2⟩ := i2 h
    unfold mtall at j1
    split at j1
    · split at j1
      · cases j1
      · rename_i q
        refine ⟨rfl, fun c hc => ?_⟩
        rcases List.mem_cons.mp hc with rfl | hc
        · omega
        · exact j2 c hc
    · split at j1 <;> cases j1
theorem mpick_ok {G : sg_G} {o : Nat} {H : Nat → Nat} {L : List Nat} (hi : minv G o H L) : (∀ c, mpick G o H L = some c → sg_p G c ∧ 3 < H c) ∧ (mpick G o H L = none ↔ ∀ c, sg_p G c → H c ≤ 3) := by
  have some_none : (∀ c, mpick G o H L = some c → sg_p G c ∧ 3 < H c) → (mpick G o H L = none → ∀ c, sg_p G c → H c ≤ 3) → (∀ c, mpick G o H L = some c → sg_p G c ∧ 3 < H c) ∧ (mpick G o H L = none ↔ ∀ c, sg_p G c → H c ≤ 3) := by
    intro a b
    refine ⟨a, b, fun h => ?_⟩
    cases hp : mpick G o H L with
    | none => rfl
    | some c =>
      obtain ⟨a1, a2⟩ := a c hp
      have := h c a1
      omega
  match o, hi, some_none with
  | 0, hi, sn =>
    refine sn (fun c hc => ?_) (fun h c hc => ?_)
    · have h1 := List.mem_of_find?_eq_some hc
      have h2 := List.find?_some hc
      exact ⟨sg_P_mem.mp h1, by simpa using h2⟩
    · have := (List.find?_eq_none.mp h) c (sg_P_mem.mpr hc)
      simp at this
      omega
  | 1, hi, sn =>
    obtain ⟨-, h2⟩ := hi (Or.inl rfl)
    refine sn (fun c hc => (h2 c).mp (List.mem_of_head? hc)) (fun h c hc => ?_)
    have e : L = [] := List.head?_eq_none_iff.mp h
    rcases Nat.lt_or_ge 3 (H c) with q | q
    · have := (h2 c).mpr ⟨hc, q⟩
      rw [e] at this
      exact absurd this List.not_mem_nil
    · exact q
  | 2, hi, sn =>
    obtain ⟨-, h2⟩ := hi (Or.inr rfl)
    refine sn (fun c hc => (h2 c).mp (List.mem_of_getLast? hc)) (fun h c hc => ?_)
    have e : L = [] := List.getLast?_eq_none_iff.mp h
    rcases Nat.lt_or_ge 3 (H c) with q | q
    · have := (h2 c).mpr ⟨hc, q⟩
      rw [e] at this
      exact absurd this List.not_mem_nil
    · exact q
  | o + 3, hi, sn =>
    obtain ⟨t1, t2⟩ := mtall_fold (G := G) (H := H) (sg_P G) (fun c hc => sg_P_mem.mp hc) none (fun d hd => by cases hd)
    exact sn t1 (fun h c hc => (t2 h).2 c (sg_P_mem.mpr hc))
theorem mrest_mem {G : sg_G} {o : Nat} {H : Nat → Nat} {L : List Nat} {c : Nat} (ho : o = 1 ∨ o = 2) (hn : L.Nodup) (hp : mpick G o H L = some c) : (mrest o L).Nodup ∧ ∀ x, x ∈ mrest o L ↔ x ∈ L ∧ x ≠ c := by
  unfold mrest
  rcases ho with rfl | rfl
  · rw [if_pos rfl]
    have hp : L.head? = some c := hp
    match L, hp, hn with
    | d :: L', hp, hn =>
      cases hp
      rw [List.nodup_cons] at hn
      refine ⟨hn.2, fun x => ?_⟩
      rw [List.tail_cons, List.mem_cons]
      exact ⟨fun h => ⟨Or.inr h, fun e => hn.1 (e ▸ h)⟩, fun h => h.1.elim (fun e => absurd e h.2) id⟩
  · rw [if_neg (by decide)]
    have hp : L.getLast? = some c := hp
    have e : L = L.dropLast ++ [c] := by
      have hne : L ≠ [] := fun z => by rw [z] at hp; cases hp
      have h1 := List.dropLast_concat_getLast hne
      rw [List.getLast?_eq_some_getLast hne] at hp
      cases hp
      exact h1.symm
    rw [e, List.nodup_append] at hn
    refine ⟨hn.1, fun x => ?_⟩
    conv => rhs; rw [e]
    rw [List.mem_append, List.mem_singleton]
    exact ⟨fun h => ⟨Or.inl h, fun z => hn.2.2 x h c (List.mem_singleton.mpr rfl) z⟩, fun h => h.1.elim id (fun z => absurd z h.2)⟩
theorem mnext_inv {G : sg_G} (hG : sg_ok G) {o : Nat} {H H' : Nat → Nat} {L L' : List Nat} {c : Nat} (hi : minv G o H L) (hn : mnext G o (H, L) = some (c, H', L')) : mpick G o H L = some c ∧ H' = sg_tp G H c 1 ∧ minv G o H' L' := by
  unfold mnext at hn
  dsimp only at hn
  cases hp : mpick G o H L with
  | none => rw [hp] at hn; cases hn
  | some d =>
    rw [hp] at hn
    cases hn
    refine ⟨rfl, rfl, fun ho => ?_⟩
    rw [if_pos ho]
    obtain ⟨p1, p2⟩ := (mpick_ok hi).1 c hp
    obtain ⟨hnd, hmem⟩ := hi ho
    obtain ⟨r1, r2⟩ := mrest_mem ho hnd hp
    refine ⟨mfold_nodup _ _ r1, fun x => ?_⟩
    rw [mfold_mem, r2, hmem, List.mem_append, List.mem_singleton]
    constructor
    · rintro (⟨⟨h1, h2⟩, h3⟩ | ⟨h1, h2⟩)
      · refine ⟨h1, ?_⟩
        unfold sg_tp
        rw [if_neg h3]
        omega
      · refine ⟨?_, h2⟩
        rcases h1 with h1 | rfl
        · exact (sg_nb_p hG p1.1 h1).1
        · exact p1
    · rintro ⟨h1, h2⟩
      by_cases e : x = c
      · exact Or.inr ⟨Or.inr e, h2⟩
      · by_cases m : x ∈ sg_nb G c
        · exact Or.inr ⟨Or.inl m, h2⟩
        · left
          unfold sg_tp at h2
          rw [if_neg e, if_neg m] at h2
          exact ⟨⟨h1, by omega⟩, e⟩
/-- the run by an order: legal, and it ends when all is settled -/
theorem mrun_ok {G : sg_G} (hG : sg_ok G) (o : Nat) (h : Nat → Nat) (n : Nat) : minv G o (mrun G o h n).1 (mrun G o h n).2 ∧ ∃ u, sg_rc G h u (mrun G o h n).1 ∧ (ssum 16 u = n ∨ (ssum 16 u ≤ n ∧ ∀ c, sg_p G c → (mrun G o h n).1 c ≤ 3)) := by
  have h16 := sg_n16 hG
  induction n with
  | zero => exact ⟨m0_inv G o h, fun _ => 0, sg_rc_0 G h, Or.inl (ssum_zero 16)⟩
  | succ n ih =>
    obtain ⟨i1, u, i2, i3⟩ := ih
    rw [mrun]
    cases hn : mnext G o (mrun G o h n) with
    | none =>
      have hst : ∀ c, sg_p G c → (mrun G o h n).1 c ≤ 3 := by
        refine (mpick_ok i1).2.mp ?_
        unfold mnext at hn
        cases hp : mpick G o (mrun G o h n).1 (mrun G o h n).2 with
        | none => rfl
        | some c => rw [hp] at hn; cases hn
      refine ⟨i1, u, i2, Or.inr ⟨?_, hst⟩⟩
      rcases i3 with i3 | i3
      · omega
      · have := i3.1; omega
    | some q =>
      obtain ⟨c, H', L'⟩ := q
      obtain ⟨j1, j2, j3⟩ := mnext_inv hG i1 hn
      obtain ⟨p1, p2⟩ := (mpick_ok i1).1 c j1
      refine ⟨j3, sg_ad u c 1, ?_, Or.inl ?_⟩
      · show sg_rc G h (sg_ad u c 1) H'
        rw [j2]
        exact sg_rc_tp hG i2 p1 (by omega)
      · rw [ssum_ad (Nat.lt_of_lt_of_le p1.1 h16)]
        rcases i3 with i3 | i3
        · omega
        · have := i3.2 c p1; omega
theorem mcell_iff {G : sg_G} (hG : sg_ok G) (o : Nat) {h : Nat → Nat} (he : ∃ u, sg_odo G h u) (n : Nat) : mcell G o h n = none ↔ ssum 16 (od G h) ≤ n := by
  have h16 := sg_n16 hG
  obtain ⟨i1, u, i2, i3⟩ := mrun_ok hG o h n
  have hod : sg_odo G h (od G h) := by
    obtain ⟨v, hv⟩ := he
    rw [← od_eq hv]; exact hv
  unfold mcell
  rw [(mpick_ok i1).2]
  constructor
  · intro hst
    have e := od_eq (sg_rc_odo i2 hst)
    rw [← e]
    rcases i3 with i3 | i3
    · omega
    · exact i3.1
  · intro hle
    rcases i3 with i3 | i3
    · have hle2 : ∀ k, u k ≤ od G h k := fun k => by
        by_cases q : sg_p G k
        · exact i2.2.1 _ hod.1 k q
        · rw [(i2.2.2.1 k q).1]; exact Nat.zero_le _
      have heq : ∀ k, k < 16 → u k = od G h k := by
        have key : ∀ m, (∀ k, k < m → u k = od G h k) ∨ ssum m u < ssum m (od G h) := by
          intro m
          induction m with
          | zero => exact Or.inl (fun k hk => absurd hk (Nat.not_lt_zero _))
          | succ m ihm =>
            rw [ssum, ssum]
            have h1 := hle2 m
            have h2 : ssum m u ≤ ssum m (od G h) := ssum_le (fun j _ => hle2 j)
            rcases ihm with ihm | ihm
            · by_cases e : u m = od G h m
              · left
                intro k hk
                by_cases z : k = m
                · subst z; exact e
                · exact ihm k (by omega)
              · right; omega
            · right; omega
        rcases key 16 with z | z
        · exact z
        · omega
      intro c hc
      have h1 := i2.1 c hc
      have h2 := hod.1 c hc
      have h3 : sg_su G u c = sg_su G (od G h) c := by
        unfold sg_su
        apply ssum_congr
        intro j hj
        rw [heq j hj]
      have h4 := heq c (Nat.lt_of_lt_of_le hc.1 h16)
      omega
    · exact i3.2
end
section
/-! walks of March (by program: wip/whole/gen/p36.py) -/
set_option maxRecDepth 20000 in
theorem w_a_lineUp {Q : Option Value → sy_S → Prop} {σ : sy_S} {cell : Int32}  (b1 : (((σ.1 42 6) >>> (cell &&& 31)) &&& 1) = 0 → vp_in cell 16) (b2 : (((σ.1 42 6) >>> (cell &&& 31)) &&& 1) = 0 → ¬ ((σ.1 43 cell.toNatClampNeg) ≤ 3) → vp_in (((σ.1 42 4) + (σ.1 42 5)) - ((σ.1 42 4) + (σ.1 42 5)) / 16 * 16) 16) (k1 : (((σ.1 42 6) >>> (cell &&& 31)) &&& 1) = 0 → (σ.1 43 cell.toNatClampNeg) ≤ 3 → Q none σ) (k2 : (((σ.1 42 6) >>> (cell &&& 31)) &&& 1) = 0 → ¬ ((σ.1 43 cell.toNatClampNeg) ≤ 3) → Q none (sy_up (sy_up (sy_up σ.1 44 ((((σ.1 42 4) + (σ.1 42 5)) - ((σ.1 42 4) + (σ.1 42 5)) / 16 * 16).toNatClampNeg) cell) 42 5 ((σ.1 42 5) + 1)) 42 6 ((σ.1 42 6) ||| (1 <<< (cell &&& 31))), σ.2)) (k3 : ¬ ((((σ.1 42 6) >>> (cell &&& 31)) &&& 1) = 0) → Q none σ) : sy_E shX mX4_lineUp (0, sy_ent [.ref 42, .int cell] 3, [], σ) Q := by
  show sy_E shX mX4_lineUp (0, [some (.ref 42), some (.int cell), none], [], σ) _
  refine sy_bk [(.aload_n 0, 0, 0, 0, 0), (.getfield 38, 4, 6, 0, 0), (.iload_n 1, 0, 0, 0, 0), (.ishr, 0, 0, 0, 0), (.iconst 1, 0, 0, 1, 0), (.iand, 0, 0, 0, 0)] (8, [some (.ref 42), some (.int cell), none], [.int (((σ.1 42 6) >>> (cell &&& 31)) &&& 1)], σ) [] (by decide +kernel) rfl trivial ?_
  by_cases c1 : (((σ.1 42 6) >>> (cell &&& 31)) &&& 1) = 0
  · refine sy_bk [(.ifCond .eq 7, 1, 15, 0, 0)] (15, [some (.ref 42), some (.int cell), none], [], σ) [sy_cc .eq (((σ.1 42 6) >>> (cell &&& 31)) &&& 1) 0] (by decide +kernel) rfl ⟨c1, trivial⟩ ?_
    refine sy_bk [(.iconst 0, 0, 0, 0, 0), (.istore_n 2, 0, 0, 0, 0), (.iload_n 2, 0, 0, 0, 0), (.ifCond .ne 53, 0, 71, 0, 0), (.aload_n 0, 0, 0, 0, 0), (.getfield 9, 4, 1, 0, 0), (.iload_n 1, 0, 0, 0, 0), (.iaload, 0, 0, 0, 0), (.iconst 3, 0, 0, 3, 0)] (28, [some (.ref 42), some (.int cell), some (.int 0)], [.int 3, .int (σ.1 43 cell.toNatClampNeg)], σ) [¬ sy_cc .ne 0 0, sy_okA shX 0 43 cell] (by decide +kernel) rfl ⟨(by decide : ¬ (¬ (0 : Int32) = 0)), ⟨16, _, rfl, (b1 c1)⟩, trivial⟩ ?_
    by_cases c2 : (σ.1 43 cell.toNatClampNeg) ≤ 3
    · refine sy_bk [(.if_icmp .le 43, 1, 71, 0, 0)] (71, [some (.ref 42), some (.int cell), some (.int 0)], [], σ) [sy_cc .le (σ.1 43 cell.toNatClampNeg) 3] (by decide +kernel) rfl ⟨c2, trivial⟩ ?_
      exact sy_retv rfl (by decide +kernel) (k1 c1 c2)
    · refine sy_bk [(.if_icmp .le 43, 0, 71, 0, 0)] (31, [some (.ref 42), some (.int cell), some (.int 0)], [], σ) [¬ sy_cc .le (σ.1 43 cell.toNatClampNeg) 3] (by decide +kernel) rfl ⟨c2, trivial⟩ ?_
      refine sy_bk [(.aload_n 0, 0, 0, 0, 0), (.getfield 15, 4, 2, 0, 0), (.aload_n 0, 0, 0, 0, 0), (.getfield 32, 4, 4, 0, 0), (.aload_n 0, 0, 0, 0, 0), (.getfield 35, 4, 5, 0, 0), (.iadd, 0, 0, 0, 0), (.bipush 16, 0, 0, 16, 0), (.irem, 0, 0, 0, 0), (.iload_n 1, 0, 0, 0, 0), (.iastore, 0, 0, 0, 0), (.aload_n 0, 0, 0, 0, 0), (.dup, 0, 0, 0, 0), (.getfield 35, 4, 5, 0, 0), (.iconst 1, 0, 0, 1, 0), (.iadd, 0, 0, 0, 0), (.putfield 35, 4, 5, 0, 0), (.aload_n 0, 0, 0, 0, 0), (.dup, 0, 0, 0, 0), (.getfield 38, 4, 6, 0, 0), (.iconst 1, 0, 0, 1, 0), (.iload_n 1, 0, 0, 0, 0), (.ishl, 0, 0, 0, 0), (.ior, 0, 0, 0, 0), (.putfield 38, 4, 6, 0, 0)] (71, [some (.ref 42), some (.int cell), some (.int 0)], [], (sy_up (sy_up (sy_up σ.1 44 ((((σ.1 42 4) + (σ.1 42 5)) - ((σ.1 42 4) + (σ.1 42 5)) / 16 * 16).toNatClampNeg) cell) 42 5 ((σ.1 42 5) + 1)) 42 6 ((σ.1 42 6) ||| (1 <<< (cell &&& 31))), σ.2)) [¬ (16 : Int32) = 0, sy_okA shX 0 44 (((σ.1 42 4) + (σ.1 42 5)) - ((σ.1 42 4) + (σ.1 42 5)) / 16 * 16)] (by decide +kernel) rfl ⟨(by decide), ⟨16, _, rfl, (b2 c1 c2)⟩, trivial⟩ ?_
      exact sy_retv rfl (by decide +kernel) (k2 c1 c2)
  · refine sy_bk [(.ifCond .eq 7, 0, 15, 0, 0)] (11, [some (.ref 42), some (.int cell), none], [], σ) [¬ sy_cc .eq (((σ.1 42 6) >>> (cell &&& 31)) &&& 1) 0] (by decide +kernel) rfl ⟨c1, trivial⟩ ?_
    refine sy_bk [(.iconst 1, 0, 0, 1, 0), (.goto 4, 0, 16, 0, 0), (.istore_n 2, 0, 0, 0, 0), (.iload_n 2, 0, 0, 0, 0), (.ifCond .ne 53, 1, 71, 0, 0)] (71, [some (.ref 42), some (.int cell), some (.int 1)], [], σ) [sy_cc .ne 1 0] (by decide +kernel) rfl ⟨(by decide : (¬ (1 : Int32) = 0)), trivial⟩ ?_
    exact sy_retv rfl (by decide +kernel) (k3 c1)

set_option maxRecDepth 20000 in
theorem w_a_leave1 {Q : Option Value → sy_S → Prop} {σ : sy_S}   (b1 : ¬ (σ.1 42 5) = 0 → vp_in (σ.1 42 4) 16) (k1 : ¬ (σ.1 42 5) = 0 → Q (some (.int (σ.1 44 ((σ.1 42 4).toNatClampNeg)))) (sy_up (sy_up (sy_up σ.1 42 4 (((σ.1 42 4) + 1) - ((σ.1 42 4) + 1) / 16 * 16)) 42 5 ((σ.1 42 5) - 1)) 42 6 ((σ.1 42 6) &&& ((1 <<< ((σ.1 44 ((σ.1 42 4).toNatClampNeg)) &&& 31)) ^^^ (-1))), σ.2)) (k2 : ¬ (¬ (σ.1 42 5) = 0) → Q (some (.int (-1))) σ) : sy_E shX mX4_leave (0, sy_ent [.ref 42, .int 1] 3, [], σ) Q := by
  show sy_E shX mX4_leave (0, [some (.ref 42), some (.int 1), none], [], σ) _
  refine sy_bk [(.aload_n 0, 0, 0, 0, 0), (.getfield 35, 4, 5, 0, 0)] (4, [some (.ref 42), some (.int 1), none], [.int (σ.1 42 5)], σ) [] (by decide +kernel) rfl trivial ?_
  by_cases c1 : ¬ (σ.1 42 5) = 0
  · refine sy_bk [(.ifCond .ne 5, 1, 9, 0, 0)] (9, [some (.ref 42), some (.int 1), none], [], σ) [sy_cc .ne (σ.1 42 5) 0] (by decide +kernel) rfl ⟨c1, trivial⟩ ?_
    refine sy_bk [(.iload_n 1, 0, 0, 0, 0), (.ifCond .eq 10, 0, 20, 0, 0), (.aload_n 0, 0, 0, 0, 0), (.getfield 32, 4, 4, 0, 0), (.goto 17, 0, 34, 0, 0), (.istore_n 2, 0, 0, 0, 0), (.iload_n 1, 0, 0, 0, 0), (.ifCond .eq 16, 0, 52, 0, 0), (.aload_n 0, 0, 0, 0, 0), (.aload_n 0, 0, 0, 0, 0), (.getfield 32, 4, 4, 0, 0), (.iconst 1, 0, 0, 1, 0), (.iadd, 0, 0, 0, 0), (.bipush 16, 0, 0, 16, 0), (.irem, 0, 0, 0, 0), (.putfield 32, 4, 4, 0, 0), (.aload_n 0, 0, 0, 0, 0), (.dup, 0, 0, 0, 0), (.getfield 35, 4, 5, 0, 0), (.iconst 1, 0, 0, 1, 0), (.isub, 0, 0, 0, 0), (.putfield 35, 4, 5, 0, 0), (.aload_n 0, 0, 0, 0, 0), (.dup, 0, 0, 0, 0), (.getfield 38, 4, 6, 0, 0), (.iconst 1, 0, 0, 1, 0), (.aload_n 0, 0, 0, 0, 0), (.getfield 15, 4, 2, 0, 0), (.iload_n 2, 0, 0, 0, 0), (.iaload, 0, 0, 0, 0), (.ishl, 0, 0, 0, 0), (.iconst (-1), 0, 0, (-1), 0), (.ixor, 0, 0, 0, 0), (.iand, 0, 0, 0, 0), (.putfield 38, 4, 6, 0, 0), (.aload_n 0, 0, 0, 0, 0), (.getfield 15, 4, 2, 0, 0), (.iload_n 2, 0, 0, 0, 0), (.iaload, 0, 0, 0, 0)] (87, [some (.ref 42), some (.int 1), some (.int (σ.1 42 4))], [.int (σ.1 44 ((σ.1 42 4).toNatClampNeg))], (sy_up (sy_up (sy_up σ.1 42 4 (((σ.1 42 4) + 1) - ((σ.1 42 4) + 1) / 16 * 16)) 42 5 ((σ.1 42 5) - 1)) 42 6 ((σ.1 42 6) &&& ((1 <<< ((σ.1 44 ((σ.1 42 4).toNatClampNeg)) &&& 31)) ^^^ (-1))), σ.2)) [¬ sy_cc .eq 1 0, ¬ sy_cc .eq 1 0, ¬ (16 : Int32) = 0, sy_okA shX 0 44 (σ.1 42 4), sy_okA shX 0 44 (σ.1 42 4)] (by decide +kernel) rfl ⟨(by decide : ¬ ((1 : Int32) = 0)), (by decide : ¬ ((1 : Int32) = 0)), (by decide), ⟨16, _, rfl, (b1 c1)⟩, ⟨16, _, rfl, (b1 c1)⟩, trivial⟩ ?_
    exact sy_reti rfl (by decide +kernel) (k1 c1)
  · refine sy_bk [(.ifCond .ne 5, 0, 9, 0, 0)] (7, [some (.ref 42), some (.int 1), none], [], σ) [¬ sy_cc .ne (σ.1 42 5) 0] (by decide +kernel) rfl ⟨c1, trivial⟩ ?_
    refine sy_bk [(.iconst (-1), 0, 0, (-1), 0)] (8, [some (.ref 42), some (.int 1), none], [.int (-1)], σ) [] (by decide +kernel) rfl trivial ?_
    exact sy_reti rfl (by decide +kernel) (k2 c1)

set_option maxRecDepth 20000 in
theorem w_a_leave0 {Q : Option Value → sy_S → Prop} {σ : sy_S}   (b1 : ¬ (σ.1 42 5) = 0 → vp_in ((((σ.1 42 4) + (σ.1 42 5)) - 1) - (((σ.1 42 4) + (σ.1 42 5)) - 1) / 16 * 16) 16) (k1 : ¬ (σ.1 42 5) = 0 → Q (some (.int (σ.1 44 (((((σ.1 42 4) + (σ.1 42 5)) - 1) - (((σ.1 42 4) + (σ.1 42 5)) - 1) / 16 * 16).toNatClampNeg)))) (sy_up (sy_up σ.1 42 5 ((σ.1 42 5) - 1)) 42 6 ((σ.1 42 6) &&& ((1 <<< ((σ.1 44 (((((σ.1 42 4) + (σ.1 42 5)) - 1) - (((σ.1 42 4) + (σ.1 42 5)) - 1) / 16 * 16).toNatClampNeg)) &&& 31)) ^^^ (-1))), σ.2)) (k2 : ¬ (¬ (σ.1 42 5) = 0) → Q (some (.int (-1))) σ) : sy_E shX mX4_leave (0, sy_ent [.ref 42, .int 0] 3, [], σ) Q := by
  show sy_E shX mX4_leave (0, [some (.ref 42), some (.int 0), none], [], σ) _
  refine sy_bk [(.aload_n 0, 0, 0, 0, 0), (.getfield 35, 4, 5, 0, 0)] (4, [some (.ref 42), some (.int 0), none], [.int (σ.1 42 5)], σ) [] (by decide +kernel) rfl trivial ?_
  by_cases c1 : ¬ (σ.1 42 5) = 0
  · refine sy_bk [(.ifCond .ne 5, 1, 9, 0, 0)] (9, [some (.ref 42), some (.int 0), none], [], σ) [sy_cc .ne (σ.1 42 5) 0] (by decide +kernel) rfl ⟨c1, trivial⟩ ?_
    refine sy_bk [(.iload_n 1, 0, 0, 0, 0), (.ifCond .eq 10, 1, 20, 0, 0), (.aload_n 0, 0, 0, 0, 0), (.getfield 32, 4, 4, 0, 0), (.aload_n 0, 0, 0, 0, 0), (.getfield 35, 4, 5, 0, 0), (.iadd, 0, 0, 0, 0), (.iconst 1, 0, 0, 1, 0), (.isub, 0, 0, 0, 0), (.bipush 16, 0, 0, 16, 0), (.irem, 0, 0, 0, 0), (.istore_n 2, 0, 0, 0, 0), (.iload_n 1, 0, 0, 0, 0), (.ifCond .eq 16, 1, 52, 0, 0), (.aload_n 0, 0, 0, 0, 0), (.dup, 0, 0, 0, 0), (.getfield 35, 4, 5, 0, 0), (.iconst 1, 0, 0, 1, 0), (.isub, 0, 0, 0, 0), (.putfield 35, 4, 5, 0, 0), (.aload_n 0, 0, 0, 0, 0), (.dup, 0, 0, 0, 0), (.getfield 38, 4, 6, 0, 0), (.iconst 1, 0, 0, 1, 0), (.aload_n 0, 0, 0, 0, 0), (.getfield 15, 4, 2, 0, 0), (.iload_n 2, 0, 0, 0, 0), (.iaload, 0, 0, 0, 0), (.ishl, 0, 0, 0, 0), (.iconst (-1), 0, 0, (-1), 0), (.ixor, 0, 0, 0, 0), (.iand, 0, 0, 0, 0), (.putfield 38, 4, 6, 0, 0), (.aload_n 0, 0, 0, 0, 0), (.getfield 15, 4, 2, 0, 0), (.iload_n 2, 0, 0, 0, 0), (.iaload, 0, 0, 0, 0)] (87, [some (.ref 42), some (.int 0), some (.int ((((σ.1 42 4) + (σ.1 42 5)) - 1) - (((σ.1 42 4) + (σ.1 42 5)) - 1) / 16 * 16))], [.int (σ.1 44 (((((σ.1 42 4) + (σ.1 42 5)) - 1) - (((σ.1 42 4) + (σ.1 42 5)) - 1) / 16 * 16).toNatClampNeg))], (sy_up (sy_up σ.1 42 5 ((σ.1 42 5) - 1)) 42 6 ((σ.1 42 6) &&& ((1 <<< ((σ.1 44 (((((σ.1 42 4) + (σ.1 42 5)) - 1) - (((σ.1 42 4) + (σ.1 42 5)) - 1) / 16 * 16).toNatClampNeg)) &&& 31)) ^^^ (-1))), σ.2)) [sy_cc .eq 0 0, ¬ (16 : Int32) = 0, sy_cc .eq 0 0, sy_okA shX 0 44 ((((σ.1 42 4) + (σ.1 42 5)) - 1) - (((σ.1 42 4) + (σ.1 42 5)) - 1) / 16 * 16), sy_okA shX 0 44 ((((σ.1 42 4) + (σ.1 42 5)) - 1) - (((σ.1 42 4) + (σ.1 42 5)) - 1) / 16 * 16)] (by decide +kernel) rfl ⟨(by decide : ((0 : Int32) = 0)), (by decide), (by decide : ((0 : Int32) = 0)), ⟨16, _, rfl, (b1 c1)⟩, ⟨16, _, rfl, (b1 c1)⟩, trivial⟩ ?_
    exact sy_reti rfl (by decide +kernel) (k1 c1)
  · refine sy_bk [(.ifCond .ne 5, 0, 9, 0, 0)] (7, [some (.ref 42), some (.int 0), none], [], σ) [¬ sy_cc .ne (σ.1 42 5) 0] (by decide +kernel) rfl ⟨c1, trivial⟩ ?_
    refine sy_bk [(.iconst (-1), 0, 0, (-1), 0)] (8, [some (.ref 42), some (.int 0), none], [.int (-1)], σ) [] (by decide +kernel) rfl trivial ?_
    exact sy_reti rfl (by decide +kernel) (k2 c1)

set_option maxRecDepth 20000 in
theorem w_a_least_0 {Q : Option Value → sy_S → Prop} {σ : sy_S}    (k1 : sy_E shX mX4_leastCell (2, [some (.ref 42), some (.int 0), none], [], σ) Q) : sy_E shX mX4_leastCell (0, sy_ent [.ref 42] 3, [], σ) Q := by
  show sy_E shX mX4_leastCell (0, [some (.ref 42), none, none], [], σ) _
  refine sy_bk [(.iconst 0, 0, 0, 0, 0), (.istore_n 1, 0, 0, 0, 0)] (2, [some (.ref 42), some (.int 0), none], [], σ) [] (by decide +kernel) rfl trivial ?_
  exact k1

set_option maxRecDepth 20000 in
theorem w_a_least_2 {Q : Option Value → sy_S → Prop} {σ : sy_S} {i : Int32}  (b1 : ¬ ((σ.1 0 7) ≤ i) → vp_in i 16) (b2 : ¬ ((σ.1 0 7) ≤ i) → vp_in (σ.1 2 i.toNatClampNeg) 16) (k1 : (σ.1 0 7) ≤ i → Q (some (.int (-1))) σ) (k2 : ¬ ((σ.1 0 7) ≤ i) → (σ.1 43 ((σ.1 2 i.toNatClampNeg).toNatClampNeg)) ≤ 3 → sy_E shX mX4_leastCell (2, [some (.ref 42), some (.int (i + 1)), none], [], σ) Q) (k3 : ¬ ((σ.1 0 7) ≤ i) → ¬ ((σ.1 43 ((σ.1 2 i.toNatClampNeg).toNatClampNeg)) ≤ 3) → Q (some (.int (σ.1 2 i.toNatClampNeg))) σ) : sy_E shX mX4_leastCell (2, [some (.ref 42), some (.int i), none], [], σ) Q := by
  refine sy_bk [(.iload_n 1, 0, 0, 0, 0), (.aload_n 0, 0, 0, 0, 0), (.getfield 18, 4, 0, 0, 0)] (7, [some (.ref 42), some (.int i), none], [.ref 0, .int i], σ) [] (by decide +kernel) rfl trivial ?_
  refine sy_callV mX3_placeCount 0 [] [.int i] kX3_placeCount jX4_41 (by decide +kernel) rfl rfl (Nat.le_of_ble_eq_true rfl) (Nat.le_of_ble_eq_true rfl) (by decide) rfl ?_
  refine w_x_placeCount (σ := σ) ?_
  show sy_E shX mX4_leastCell (10, [some (.ref 42), some (.int i), none], [.int (σ.1 0 7), .int i], σ) _
  by_cases c1 : (σ.1 0 7) ≤ i
  · refine sy_bk [(.if_icmp .ge 30, 1, 40, 0, 0)] (40, [some (.ref 42), some (.int i), none], [], σ) [sy_cc .ge i (σ.1 0 7)] (by decide +kernel) rfl ⟨c1, trivial⟩ ?_
    refine sy_bk [(.iconst (-1), 0, 0, (-1), 0)] (41, [some (.ref 42), some (.int i), none], [.int (-1)], σ) [] (by decide +kernel) rfl trivial ?_
    exact sy_reti rfl (by decide +kernel) (k1 c1)
  · refine sy_bk [(.if_icmp .ge 30, 0, 40, 0, 0)] (13, [some (.ref 42), some (.int i), none], [], σ) [¬ sy_cc .ge i (σ.1 0 7)] (by decide +kernel) rfl ⟨c1, trivial⟩ ?_
    refine sy_bk [(.aload_n 0, 0, 0, 0, 0), (.getfield 18, 4, 0, 0, 0), (.iload_n 1, 0, 0, 0, 0)] (18, [some (.ref 42), some (.int i), none], [.int i, .ref 0], σ) [] (by decide +kernel) rfl trivial ?_
    refine sy_callV mX3_placeAt 0 [.int i] [] kX3_placeAt jX4_47 (by decide +kernel) rfl rfl (Nat.le_of_ble_eq_true rfl) (Nat.le_of_ble_eq_true rfl) (by decide) rfl ?_
    refine w_x_placeAt (σ := σ) (cell := i) (b1 c1) ?_
    show sy_E shX mX4_leastCell (21, [some (.ref 42), some (.int i), none], [.int (σ.1 2 i.toNatClampNeg)], σ) _
    refine sy_bk [(.istore_n 2, 0, 0, 0, 0), (.aload_n 0, 0, 0, 0, 0), (.getfield 9, 4, 1, 0, 0), (.iload_n 2, 0, 0, 0, 0), (.iaload, 0, 0, 0, 0), (.iconst 3, 0, 0, 3, 0)] (29, [some (.ref 42), some (.int i), some (.int (σ.1 2 i.toNatClampNeg))], [.int 3, .int (σ.1 43 ((σ.1 2 i.toNatClampNeg).toNatClampNeg))], σ) [sy_okA shX 0 43 (σ.1 2 i.toNatClampNeg)] (by decide +kernel) rfl ⟨⟨16, _, rfl, (b2 c1)⟩, trivial⟩ ?_
    by_cases c2 : (σ.1 43 ((σ.1 2 i.toNatClampNeg).toNatClampNeg)) ≤ 3
    · refine sy_bk [(.if_icmp .le 5, 1, 34, 0, 0)] (34, [some (.ref 42), some (.int i), some (.int (σ.1 2 i.toNatClampNeg))], [], σ) [sy_cc .le (σ.1 43 ((σ.1 2 i.toNatClampNeg).toNatClampNeg)) 3] (by decide +kernel) rfl ⟨c2, trivial⟩ ?_
      refine sy_bk [(.iinc 1 1, 0, 0, 1, 0), (.goto (-35), 0, 2, 0, 0)] (2, [some (.ref 42), some (.int (i + 1)), some (.int (σ.1 2 i.toNatClampNeg))], [], σ) [] (by decide +kernel) rfl trivial ?_
      refine sy_drop [some (.ref 42), some (.int (i + 1)), none] ⟨rfl, rfl, trivial⟩ ?_
      exact k2 c1 c2
    · refine sy_bk [(.if_icmp .le 5, 0, 34, 0, 0)] (32, [some (.ref 42), some (.int i), some (.int (σ.1 2 i.toNatClampNeg))], [], σ) [¬ sy_cc .le (σ.1 43 ((σ.1 2 i.toNatClampNeg).toNatClampNeg)) 3] (by decide +kernel) rfl ⟨c2, trivial⟩ ?_
      refine sy_bk [(.iload_n 2, 0, 0, 0, 0)] (33, [some (.ref 42), some (.int i), some (.int (σ.1 2 i.toNatClampNeg))], [.int (σ.1 2 i.toNatClampNeg)], σ) [] (by decide +kernel) rfl trivial ?_
      exact sy_reti rfl (by decide +kernel) (k3 c1 c2)

set_option maxRecDepth 20000 in
theorem w_a_tall_0 {Q : Option Value → sy_S → Prop} {σ : sy_S}    (k1 : sy_E shX mX4_tallestCell (6, [some (.ref 42), some (.int (-1)), some (.int 3), some (.int 0), none], [], σ) Q) : sy_E shX mX4_tallestCell (0, sy_ent [.ref 42] 5, [], σ) Q := by
  show sy_E shX mX4_tallestCell (0, [some (.ref 42), none, none, none, none], [], σ) _
  refine sy_bk [(.iconst (-1), 0, 0, (-1), 0), (.istore_n 1, 0, 0, 0, 0), (.iconst 3, 0, 0, 3, 0), (.istore_n 2, 0, 0, 0, 0), (.iconst 0, 0, 0, 0, 0), (.istore_n 3, 0, 0, 0, 0)] (6, [some (.ref 42), some (.int (-1)), some (.int 3), some (.int 0), none], [], σ) [] (by decide +kernel) rfl trivial ?_
  exact k1

set_option maxRecDepth 20000 in
theorem w_a_tall_6 {Q : Option Value → sy_S → Prop} {σ : sy_S} {best : Int32} {most : Int32} {i : Int32}  (b1 : ¬ ((σ.1 0 7) ≤ i) → vp_in i 16) (b2 : ¬ ((σ.1 0 7) ≤ i) → vp_in (σ.1 2 i.toNatClampNeg) 16) (k1 : (σ.1 0 7) ≤ i → Q (some (.int best)) σ) (k2 : ¬ ((σ.1 0 7) ≤ i) → (σ.1 43 ((σ.1 2 i.toNatClampNeg).toNatClampNeg)) ≤ most → sy_E shX mX4_tallestCell (6, [some (.ref 42), some (.int best), some (.int most), some (.int (i + 1)), none], [], σ) Q) (k3 : ¬ ((σ.1 0 7) ≤ i) → ¬ ((σ.1 43 ((σ.1 2 i.toNatClampNeg).toNatClampNeg)) ≤ most) → sy_E shX mX4_tallestCell (6, [some (.ref 42), some (.int (σ.1 2 i.toNatClampNeg)), some (.int (σ.1 43 ((σ.1 2 i.toNatClampNeg).toNatClampNeg))), some (.int (i + 1)), none], [], σ) Q) : sy_E shX mX4_tallestCell (6, [some (.ref 42), some (.int best), some (.int most), some (.int i), none], [], σ) Q := by
  refine sy_bk [(.iload_n 3, 0, 0, 0, 0), (.aload_n 0, 0, 0, 0, 0), (.getfield 18, 4, 0, 0, 0)] (11, [some (.ref 42), some (.int best), some (.int most), some (.int i), none], [.ref 0, .int i], σ) [] (by decide +kernel) rfl trivial ?_
  refine sy_callV mX3_placeCount 0 [] [.int i] kX3_placeCount jX4_41 (by decide +kernel) rfl rfl (Nat.le_of_ble_eq_true rfl) (Nat.le_of_ble_eq_true rfl) (by decide) rfl ?_
  refine w_x_placeCount (σ := σ) ?_
  show sy_E shX mX4_tallestCell (14, [some (.ref 42), some (.int best), some (.int most), some (.int i), none], [.int (σ.1 0 7), .int i], σ) _
  by_cases c1 : (σ.1 0 7) ≤ i
  · refine sy_bk [(.if_icmp .ge 41, 1, 55, 0, 0)] (55, [some (.ref 42), some (.int best), some (.int most), some (.int i), none], [], σ) [sy_cc .ge i (σ.1 0 7)] (by decide +kernel) rfl ⟨c1, trivial⟩ ?_
    refine sy_bk [(.iload_n 1, 0, 0, 0, 0)] (56, [some (.ref 42), some (.int best), some (.int most), some (.int i), none], [.int best], σ) [] (by decide +kernel) rfl trivial ?_
    exact sy_reti rfl (by decide +kernel) (k1 c1)
  · refine sy_bk [(.if_icmp .ge 41, 0, 55, 0, 0)] (17, [some (.ref 42), some (.int best), some (.int most), some (.int i), none], [], σ) [¬ sy_cc .ge i (σ.1 0 7)] (by decide +kernel) rfl ⟨c1, trivial⟩ ?_
    refine sy_bk [(.aload_n 0, 0, 0, 0, 0), (.getfield 18, 4, 0, 0, 0), (.iload_n 3, 0, 0, 0, 0)] (22, [some (.ref 42), some (.int best), some (.int most), some (.int i), none], [.int i, .ref 0], σ) [] (by decide +kernel) rfl trivial ?_
    refine sy_callV mX3_placeAt 0 [.int i] [] kX3_placeAt jX4_47 (by decide +kernel) rfl rfl (Nat.le_of_ble_eq_true rfl) (Nat.le_of_ble_eq_true rfl) (by decide) rfl ?_
    refine w_x_placeAt (σ := σ) (cell := i) (b1 c1) ?_
    show sy_E shX mX4_tallestCell (25, [some (.ref 42), some (.int best), some (.int most), some (.int i), none], [.int (σ.1 2 i.toNatClampNeg)], σ) _
    refine sy_bk [(.istore 4, 0, 0, 0, 0), (.aload_n 0, 0, 0, 0, 0), (.getfield 9, 4, 1, 0, 0), (.iload 4, 0, 0, 0, 0), (.iaload, 0, 0, 0, 0), (.iload_n 2, 0, 0, 0, 0)] (35, [some (.ref 42), some (.int best), some (.int most), some (.int i), some (.int (σ.1 2 i.toNatClampNeg))], [.int most, .int (σ.1 43 ((σ.1 2 i.toNatClampNeg).toNatClampNeg))], σ) [sy_okA shX 0 43 (σ.1 2 i.toNatClampNeg)] (by decide +kernel) rfl ⟨⟨16, _, rfl, (b2 c1)⟩, trivial⟩ ?_
    by_cases c2 : (σ.1 43 ((σ.1 2 i.toNatClampNeg).toNatClampNeg)) ≤ most
    · refine sy_bk [(.if_icmp .le 14, 1, 49, 0, 0)] (49, [some (.ref 42), some (.int best), some (.int most), some (.int i), some (.int (σ.1 2 i.toNatClampNeg))], [], σ) [sy_cc .le (σ.1 43 ((σ.1 2 i.toNatClampNeg).toNatClampNeg)) most] (by decide +kernel) rfl ⟨c2, trivial⟩ ?_
      refine sy_bk [(.iinc 3 1, 0, 0, 1, 0), (.goto (-46), 0, 6, 0, 0)] (6, [some (.ref 42), some (.int best), some (.int most), some (.int (i + 1)), some (.int (σ.1 2 i.toNatClampNeg))], [], σ) [] (by decide +kernel) rfl trivial ?_
      refine sy_drop [some (.ref 42), some (.int best), some (.int most), some (.int (i + 1)), none] ⟨rfl, rfl, rfl, rfl, trivial⟩ ?_
      exact k2 c1 c2
    · refine sy_bk [(.if_icmp .le 14, 0, 49, 0, 0)] (38, [some (.ref 42), some (.int best), some (.int most), some (.int i), some (.int (σ.1 2 i.toNatClampNeg))], [], σ) [¬ sy_cc .le (σ.1 43 ((σ.1 2 i.toNatClampNeg).toNatClampNeg)) most] (by decide +kernel) rfl ⟨c2, trivial⟩ ?_
      refine sy_bk [(.aload_n 0, 0, 0, 0, 0), (.getfield 9, 4, 1, 0, 0), (.iload 4, 0, 0, 0, 0), (.iaload, 0, 0, 0, 0), (.istore_n 2, 0, 0, 0, 0), (.iload 4, 0, 0, 0, 0), (.istore_n 1, 0, 0, 0, 0), (.iinc 3 1, 0, 0, 1, 0), (.goto (-46), 0, 6, 0, 0)] (6, [some (.ref 42), some (.int (σ.1 2 i.toNatClampNeg)), some (.int (σ.1 43 ((σ.1 2 i.toNatClampNeg).toNatClampNeg))), some (.int (i + 1)), some (.int (σ.1 2 i.toNatClampNeg))], [], σ) [sy_okA shX 0 43 (σ.1 2 i.toNatClampNeg)] (by decide +kernel) rfl ⟨⟨16, _, rfl, (b2 c1)⟩, trivial⟩ ?_
      refine sy_drop [some (.ref 42), some (.int (σ.1 2 i.toNatClampNeg)), some (.int (σ.1 43 ((σ.1 2 i.toNatClampNeg).toNatClampNeg))), some (.int (i + 1)), none] ⟨rfl, rfl, rfl, rfl, trivial⟩ ?_
      exact k3 c1 c2

set_option maxRecDepth 20000 in
theorem w_a_chosen_0 {Q : Option Value → sy_S → Prop} {σ : sy_S}    (k1 : (σ.1 42 3) = 0 → sy_E shX mX4_leastCell (0, sy_ent [.ref 42] 3, [], σ) (fun r9 σ9 => sy_E shX mX4_chosen (36, [none], r9.toList ++ [], σ9) Q)) (k2 : ¬ (σ.1 42 3) = 0 → (σ.1 42 3) = 1 → sy_E shX mX4_leave (0, sy_ent [.ref 42, .int 1] 3, [], σ) (fun r9 σ9 => sy_E shX mX4_chosen (42, [none], r9.toList ++ [], σ9) Q)) (k3 : ¬ (σ.1 42 3) = 0 → ¬ (σ.1 42 3) = 1 → (σ.1 42 3) = 2 → sy_E shX mX4_leave (0, sy_ent [.ref 42, .int 0] 3, [], σ) (fun r9 σ9 => sy_E shX mX4_chosen (48, [none], r9.toList ++ [], σ9) Q)) (k4 : ¬ (σ.1 42 3) = 0 → ¬ (σ.1 42 3) = 1 → ¬ (σ.1 42 3) = 2 → sy_E shX mX4_tallestCell (0, sy_ent [.ref 42] 5, [], σ) (fun r9 σ9 => sy_E shX mX4_chosen (53, [none], r9.toList ++ [], σ9) Q)) : sy_E shX mX4_chosen (0, sy_ent [.ref 42] 1, [], σ) Q := by
  show sy_E shX mX4_chosen (0, [some (.ref 42)], [], σ) _
  refine sy_bk [(.aload_n 0, 0, 0, 0, 0), (.getfield 28, 4, 3, 0, 0)] (4, [some (.ref 42)], [.int (σ.1 42 3)], σ) [] (by decide +kernel) rfl trivial ?_
  by_cases c1 : (σ.1 42 3) = 0
  · refine sy_bk [(.tableswitch 45 0 2 #[28, 33, 39], 1, 32, 0, 0)] (32, [some (.ref 42)], [], σ) [(σ.1 42 3) = 0] (by decide +kernel) rfl ⟨c1, trivial⟩ ?_
    refine sy_bk [(.aload_n 0, 0, 0, 0, 0)] (33, [some (.ref 42)], [.ref 42], σ) [] (by decide +kernel) rfl trivial ?_
    refine sy_drop [none] trivial ?_
    refine sy_callV mX4_leastCell 42 [] [] kX4_leastCell jX4_69 (by decide +kernel) rfl rfl (Nat.le_of_ble_eq_true rfl) (Nat.le_of_ble_eq_true rfl) (by decide) rfl ?_
    exact k1 c1
  by_cases c2 : (σ.1 42 3) = 1
  · refine sy_bk [(.tableswitch 45 0 2 #[28, 33, 39], 1, 37, 1, 0)] (37, [some (.ref 42)], [], σ) [(σ.1 42 3) = 1] (by decide +kernel) rfl ⟨c2, trivial⟩ ?_
    refine sy_bk [(.aload_n 0, 0, 0, 0, 0), (.iconst 1, 0, 0, 1, 0)] (39, [some (.ref 42)], [.int 1, .ref 42], σ) [] (by decide +kernel) rfl trivial ?_
    refine sy_drop [none] trivial ?_
    refine sy_callV mX4_leave 42 [.int 1] [] kX4_leave jX4_72 (by decide +kernel) rfl rfl (Nat.le_of_ble_eq_true rfl) (Nat.le_of_ble_eq_true rfl) (by decide) rfl ?_
    exact k2 c1 c2
  by_cases c3 : (σ.1 42 3) = 2
  · refine sy_bk [(.tableswitch 45 0 2 #[28, 33, 39], 1, 43, 2, 0)] (43, [some (.ref 42)], [], σ) [(σ.1 42 3) = 2] (by decide +kernel) rfl ⟨c3, trivial⟩ ?_
    refine sy_bk [(.aload_n 0, 0, 0, 0, 0), (.iconst 0, 0, 0, 0, 0)] (45, [some (.ref 42)], [.int 0, .ref 42], σ) [] (by decide +kernel) rfl trivial ?_
    refine sy_drop [none] trivial ?_
    refine sy_callV mX4_leave 42 [.int 0] [] kX4_leave jX4_72 (by decide +kernel) rfl rfl (Nat.le_of_ble_eq_true rfl) (Nat.le_of_ble_eq_true rfl) (by decide) rfl ?_
    exact k3 c1 c2 c3
  refine sy_bk [(.tableswitch 45 0 2 #[28, 33, 39], 0, 49, 0, 0)] (49, [some (.ref 42)], [], σ) [(σ.1 42 3).toInt < 0 ∨ 2 < (σ.1 42 3).toInt] (by decide +kernel) rfl ⟨sy_sw3 c1 c2 c3, trivial⟩ ?_
  refine sy_bk [(.aload_n 0, 0, 0, 0, 0)] (50, [some (.ref 42)], [.ref 42], σ) [] (by decide +kernel) rfl trivial ?_
  refine sy_drop [none] trivial ?_
  refine sy_callV mX4_tallestCell 42 [] [] kX4_tallestCell jX4_76 (by decide +kernel) rfl rfl (Nat.le_of_ble_eq_true rfl) (Nat.le_of_ble_eq_true rfl) (by decide) rfl ?_
  exact k4 c1 c2 c3

set_option maxRecDepth 20000 in
theorem w_a_chosen_36 {Q : Option Value → sy_S → Prop} {σ : sy_S} {v : Int32}   (k1 : Q (some (.int v)) σ) : sy_E shX mX4_chosen (36, [none], [.int v], σ) Q := by
  exact sy_reti rfl (by decide +kernel) (k1)

set_option maxRecDepth 20000 in
theorem w_a_chosen_42 {Q : Option Value → sy_S → Prop} {σ : sy_S} {v : Int32}   (k1 : Q (some (.int v)) σ) : sy_E shX mX4_chosen (42, [none], [.int v], σ) Q := by
  exact sy_reti rfl (by decide +kernel) (k1)

set_option maxRecDepth 20000 in
theorem w_a_chosen_48 {Q : Option Value → sy_S → Prop} {σ : sy_S} {v : Int32}   (k1 : Q (some (.int v)) σ) : sy_E shX mX4_chosen (48, [none], [.int v], σ) Q := by
  exact sy_reti rfl (by decide +kernel) (k1)

set_option maxRecDepth 20000 in
theorem w_a_chosen_53 {Q : Option Value → sy_S → Prop} {σ : sy_S} {v : Int32}   (k1 : Q (some (.int v)) σ) : sy_E shX mX4_chosen (53, [none], [.int v], σ) Q := by
  exact sy_reti rfl (by decide +kernel) (k1)

set_option maxRecDepth 20000 in
theorem w_a_begin_0 {Q : Option Value → sy_S → Prop} {σ : sy_S} {k : Nat} {ordr : Int32} (hk : shX[k]? = some (0, 16, []))  (k1 : ordr = 1 → sy_E shX mX4_begin (50, [some (.ref 42), none, none, some (.int 0)], [], (sy_up (sy_up (sy_up (sy_up (sy_cp σ.1 k 43 16) 42 3 ordr) 42 4 0) 42 5 0) 42 6 0, σ.2)) Q) (k2 : ¬ (ordr = 1) → ¬ ordr = 2 → Q none (sy_up (sy_up (sy_up (sy_up (sy_cp σ.1 k 43 16) 42 3 ordr) 42 4 0) 42 5 0) 42 6 0, σ.2)) (k3 : ¬ (ordr = 1) → ¬ (¬ ordr = 2) → sy_E shX mX4_begin (50, [some (.ref 42), none, none, some (.int 0)], [], (sy_up (sy_up (sy_up (sy_up (sy_cp σ.1 k 43 16) 42 3 ordr) 42 4 0) 42 5 0) 42 6 0, σ.2)) Q) : sy_E shX mX4_begin (0, sy_ent [.ref 42, .ref k, .int ordr] 4, [], σ) Q := by
  show sy_E shX mX4_begin (0, [some (.ref 42), some (.ref k), some (.int ordr), none], [], σ) _
  refine sy_bk [(.aload_n 1, 0, 0, 0, 0), (.iconst 0, 0, 0, 0, 0), (.aload_n 0, 0, 0, 0, 0), (.getfield 9, 4, 1, 0, 0), (.iconst 0, 0, 0, 0, 0), (.bipush 16, 0, 0, 16, 0)] (9, [some (.ref 42), some (.ref k), some (.int ordr), none], [.int 16, .int 0, .ref 43, .int 0, .ref k], σ) [] (by decide +kernel) rfl trivial ?_
  refine sy_copy [] jX4_22 (by decide +kernel) rfl hk rfl (by decide) (by decide) (Nat.le_of_ble_eq_true rfl) (by decide) (by decide) ?_
  show sy_E shX mX4_begin (12, [some (.ref 42), some (.ref k), some (.int ordr), none], [], (sy_cp σ.1 k 43 16, σ.2)) _
  refine sy_bk [(.aload_n 0, 0, 0, 0, 0), (.iload_n 2, 0, 0, 0, 0), (.putfield 28, 4, 3, 0, 0), (.aload_n 0, 0, 0, 0, 0), (.iconst 0, 0, 0, 0, 0), (.putfield 32, 4, 4, 0, 0), (.aload_n 0, 0, 0, 0, 0), (.iconst 0, 0, 0, 0, 0), (.putfield 35, 4, 5, 0, 0), (.aload_n 0, 0, 0, 0, 0), (.iconst 0, 0, 0, 0, 0), (.putfield 38, 4, 6, 0, 0), (.aload_n 0, 0, 0, 0, 0), (.getfield 28, 4, 3, 0, 0), (.iconst 1, 0, 0, 1, 0)] (37, [some (.ref 42), some (.ref k), some (.int ordr), none], [.int 1, .int ordr], (sy_up (sy_up (sy_up (sy_up (sy_cp σ.1 k 43 16) 42 3 ordr) 42 4 0) 42 5 0) 42 6 0, σ.2)) [] (by decide +kernel) rfl trivial ?_
  by_cases c1 : ordr = 1
  · refine sy_bk [(.if_icmp .eq 11, 1, 48, 0, 0)] (48, [some (.ref 42), some (.ref k), some (.int ordr), none], [], (sy_up (sy_up (sy_up (sy_up (sy_cp σ.1 k 43 16) 42 3 ordr) 42 4 0) 42 5 0) 42 6 0, σ.2)) [sy_cc .eq ordr 1] (by decide +kernel) rfl ⟨c1, trivial⟩ ?_
    refine sy_bk [(.iconst 0, 0, 0, 0, 0), (.istore_n 3, 0, 0, 0, 0)] (50, [some (.ref 42), some (.ref k), some (.int ordr), some (.int 0)], [], (sy_up (sy_up (sy_up (sy_up (sy_cp σ.1 k 43 16) 42 3 ordr) 42 4 0) 42 5 0) 42 6 0, σ.2)) [] (by decide +kernel) rfl trivial ?_
    refine sy_drop [some (.ref 42), none, none, some (.int 0)] ⟨rfl, rfl, trivial⟩ ?_
    exact k1 c1
  · refine sy_bk [(.if_icmp .eq 11, 0, 48, 0, 0)] (40, [some (.ref 42), some (.ref k), some (.int ordr), none], [], (sy_up (sy_up (sy_up (sy_up (sy_cp σ.1 k 43 16) 42 3 ordr) 42 4 0) 42 5 0) 42 6 0, σ.2)) [¬ sy_cc .eq ordr 1] (by decide +kernel) rfl ⟨c1, trivial⟩ ?_
    refine sy_bk [(.aload_n 0, 0, 0, 0, 0), (.getfield 28, 4, 3, 0, 0), (.iconst 2, 0, 0, 2, 0)] (45, [some (.ref 42), some (.ref k), some (.int ordr), none], [.int 2, .int ordr], (sy_up (sy_up (sy_up (sy_up (sy_cp σ.1 k 43 16) 42 3 ordr) 42 4 0) 42 5 0) 42 6 0, σ.2)) [] (by decide +kernel) rfl trivial ?_
    by_cases c2 : ¬ ordr = 2
    · refine sy_bk [(.if_icmp .ne 34, 1, 79, 0, 0)] (79, [some (.ref 42), some (.ref k), some (.int ordr), none], [], (sy_up (sy_up (sy_up (sy_up (sy_cp σ.1 k 43 16) 42 3 ordr) 42 4 0) 42 5 0) 42 6 0, σ.2)) [sy_cc .ne ordr 2] (by decide +kernel) rfl ⟨c2, trivial⟩ ?_
      exact sy_retv rfl (by decide +kernel) (k2 c1 c2)
    · refine sy_bk [(.if_icmp .ne 34, 0, 79, 0, 0)] (48, [some (.ref 42), some (.ref k), some (.int ordr), none], [], (sy_up (sy_up (sy_up (sy_up (sy_cp σ.1 k 43 16) 42 3 ordr) 42 4 0) 42 5 0) 42 6 0, σ.2)) [¬ sy_cc .ne ordr 2] (by decide +kernel) rfl ⟨c2, trivial⟩ ?_
      refine sy_bk [(.iconst 0, 0, 0, 0, 0), (.istore_n 3, 0, 0, 0, 0)] (50, [some (.ref 42), some (.ref k), some (.int ordr), some (.int 0)], [], (sy_up (sy_up (sy_up (sy_up (sy_cp σ.1 k 43 16) 42 3 ordr) 42 4 0) 42 5 0) 42 6 0, σ.2)) [] (by decide +kernel) rfl trivial ?_
      refine sy_drop [some (.ref 42), none, none, some (.int 0)] ⟨rfl, rfl, trivial⟩ ?_
      exact k3 c1 c2

set_option maxRecDepth 20000 in
theorem w_a_begin_50 {Q : Option Value → sy_S → Prop} {σ : sy_S} {i : Int32}  (b1 : ¬ ((σ.1 0 7) ≤ i) → vp_in i 16) (k1 : (σ.1 0 7) ≤ i → Q none σ) (k2 : ¬ ((σ.1 0 7) ≤ i) → sy_E shX mX4_lineUp (0, sy_ent [.ref 42, .int (σ.1 2 i.toNatClampNeg)] 3, [], σ) (fun r9 σ9 => sy_E shX mX4_begin (73, [some (.ref 42), none, none, some (.int i)], r9.toList ++ [], σ9) Q)) : sy_E shX mX4_begin (50, [some (.ref 42), none, none, some (.int i)], [], σ) Q := by
  refine sy_bk [(.iload_n 3, 0, 0, 0, 0), (.aload_n 0, 0, 0, 0, 0), (.getfield 18, 4, 0, 0, 0)] (55, [some (.ref 42), none, none, some (.int i)], [.ref 0, .int i], σ) [] (by decide +kernel) rfl trivial ?_
  refine sy_callV mX3_placeCount 0 [] [.int i] kX3_placeCount jX4_41 (by decide +kernel) rfl rfl (Nat.le_of_ble_eq_true rfl) (Nat.le_of_ble_eq_true rfl) (by decide) rfl ?_
  refine w_x_placeCount (σ := σ) ?_
  show sy_E shX mX4_begin (58, [some (.ref 42), none, none, some (.int i)], [.int (σ.1 0 7), .int i], σ) _
  by_cases c1 : (σ.1 0 7) ≤ i
  · refine sy_bk [(.if_icmp .ge 21, 1, 79, 0, 0)] (79, [some (.ref 42), none, none, some (.int i)], [], σ) [sy_cc .ge i (σ.1 0 7)] (by decide +kernel) rfl ⟨c1, trivial⟩ ?_
    exact sy_retv rfl (by decide +kernel) (k1 c1)
  · refine sy_bk [(.if_icmp .ge 21, 0, 79, 0, 0)] (61, [some (.ref 42), none, none, some (.int i)], [], σ) [¬ sy_cc .ge i (σ.1 0 7)] (by decide +kernel) rfl ⟨c1, trivial⟩ ?_
    refine sy_bk [(.aload_n 0, 0, 0, 0, 0), (.aload_n 0, 0, 0, 0, 0), (.getfield 18, 4, 0, 0, 0), (.iload_n 3, 0, 0, 0, 0)] (67, [some (.ref 42), none, none, some (.int i)], [.int i, .ref 0, .ref 42], σ) [] (by decide +kernel) rfl trivial ?_
    refine sy_callV mX3_placeAt 0 [.int i] [.ref 42] kX3_placeAt jX4_47 (by decide +kernel) rfl rfl (Nat.le_of_ble_eq_true rfl) (Nat.le_of_ble_eq_true rfl) (by decide) rfl ?_
    refine w_x_placeAt (σ := σ) (cell := i) (b1 c1) ?_
    show sy_E shX mX4_begin (70, [some (.ref 42), none, none, some (.int i)], [.int (σ.1 2 i.toNatClampNeg), .ref 42], σ) _
    refine sy_callV mX4_lineUp 42 [.int (σ.1 2 i.toNatClampNeg)] [] kX4_lineUp jX4_51 (by decide +kernel) rfl rfl (Nat.le_of_ble_eq_true rfl) (Nat.le_of_ble_eq_true rfl) (by decide) rfl ?_
    exact k2 c1

set_option maxRecDepth 20000 in
theorem w_a_begin_73 {Q : Option Value → sy_S → Prop} {σ : sy_S} {i : Int32}   (k1 : sy_E shX mX4_begin (50, [some (.ref 42), none, none, some (.int (i + 1))], [], σ) Q) : sy_E shX mX4_begin (73, [some (.ref 42), none, none, some (.int i)], [], σ) Q := by
  refine sy_bk [(.iinc 3 1, 0, 0, 1, 0), (.goto (-26), 0, 50, 0, 0)] (50, [some (.ref 42), none, none, some (.int (i + 1))], [], σ) [] (by decide +kernel) rfl trivial ?_
  exact k1

set_option maxRecDepth 20000 in
theorem w_a_step_0 {Q : Option Value → sy_S → Prop} {σ : sy_S}    (k1 : sy_E shX mX4_chosen (0, sy_ent [.ref 42] 1, [], σ) (fun r9 σ9 => sy_E shX mX4_step (4, [some (.ref 42), none, none], r9.toList ++ [], σ9) Q)) : sy_E shX mX4_step (0, sy_ent [.ref 42] 3, [], σ) Q := by
  show sy_E shX mX4_step (0, [some (.ref 42), none, none], [], σ) _
  refine sy_bk [(.aload_n 0, 0, 0, 0, 0)] (1, [some (.ref 42), none, none], [.ref 42], σ) [] (by decide +kernel) rfl trivial ?_
  refine sy_callV mX4_chosen 42 [] [] kX4_chosen jX4_55 (by decide +kernel) rfl rfl (Nat.le_of_ble_eq_true rfl) (Nat.le_of_ble_eq_true rfl) (by decide) rfl ?_
  exact k1

set_option maxRecDepth 20000 in
theorem w_a_step_4 {Q : Option Value → sy_S → Prop} {σ : sy_S} {c : Int32}   (k1 : 0 ≤ c → sy_E shX mX3_spill (0, sy_ent [.ref 0, .ref 43, .int c, .int 1] 7, [], σ) (fun r9 σ9 => sy_E shX mX4_step (24, [some (.ref 42), some (.int c), none], r9.toList ++ [], σ9) Q)) (k2 : ¬ (0 ≤ c) → Q (some (.int (-1))) σ) : sy_E shX mX4_step (4, [some (.ref 42), none, none], [.int c], σ) Q := by
  refine sy_bk [(.istore_n 1, 0, 0, 0, 0), (.iload_n 1, 0, 0, 0, 0)] (6, [some (.ref 42), some (.int c), none], [.int c], σ) [] (by decide +kernel) rfl trivial ?_
  by_cases c1 : 0 ≤ c
  · refine sy_bk [(.ifCond .ge 5, 1, 11, 0, 0)] (11, [some (.ref 42), some (.int c), none], [], σ) [sy_cc .ge c 0] (by decide +kernel) rfl ⟨c1, trivial⟩ ?_
    refine sy_bk [(.aload_n 0, 0, 0, 0, 0), (.getfield 18, 4, 0, 0, 0), (.aload_n 0, 0, 0, 0, 0), (.getfield 9, 4, 1, 0, 0), (.iload_n 1, 0, 0, 0, 0), (.iconst 1, 0, 0, 1, 0)] (21, [some (.ref 42), some (.int c), none], [.int 1, .int c, .ref 43, .ref 0], σ) [] (by decide +kernel) rfl trivial ?_
    refine sy_callV mX3_spill 0 [.ref 43, .int c, .int 1] [] kX3_spill jX4_58 (by decide +kernel) rfl rfl (Nat.le_of_ble_eq_true rfl) (Nat.le_of_ble_eq_true rfl) (by decide) rfl ?_
    exact k1 c1
  · refine sy_bk [(.ifCond .ge 5, 0, 11, 0, 0)] (9, [some (.ref 42), some (.int c), none], [], σ) [¬ sy_cc .ge c 0] (by decide +kernel) rfl ⟨c1, trivial⟩ ?_
    refine sy_bk [(.iconst (-1), 0, 0, (-1), 0)] (10, [some (.ref 42), some (.int c), none], [.int (-1)], σ) [] (by decide +kernel) rfl trivial ?_
    exact sy_reti rfl (by decide +kernel) (k2 c1)

set_option maxRecDepth 20000 in
theorem w_a_step_24 {Q : Option Value → sy_S → Prop} {σ : sy_S} {c : Int32}   (k1 : (σ.1 42 3) = 1 → sy_E shX mX4_step (42, [some (.ref 42), some (.int c), some (.int 0)], [], σ) Q) (k2 : ¬ ((σ.1 42 3) = 1) → ¬ (σ.1 42 3) = 2 → Q (some (.int c)) σ) (k3 : ¬ ((σ.1 42 3) = 1) → ¬ (¬ (σ.1 42 3) = 2) → sy_E shX mX4_step (42, [some (.ref 42), some (.int c), some (.int 0)], [], σ) Q) : sy_E shX mX4_step (24, [some (.ref 42), some (.int c), none], [], σ) Q := by
  refine sy_bk [(.aload_n 0, 0, 0, 0, 0), (.getfield 28, 4, 3, 0, 0), (.iconst 1, 0, 0, 1, 0)] (29, [some (.ref 42), some (.int c), none], [.int 1, .int (σ.1 42 3)], σ) [] (by decide +kernel) rfl trivial ?_
  by_cases c1 : (σ.1 42 3) = 1
  · refine sy_bk [(.if_icmp .eq 11, 1, 40, 0, 0)] (40, [some (.ref 42), some (.int c), none], [], σ) [sy_cc .eq (σ.1 42 3) 1] (by decide +kernel) rfl ⟨c1, trivial⟩ ?_
    refine sy_bk [(.iconst 0, 0, 0, 0, 0), (.istore_n 2, 0, 0, 0, 0)] (42, [some (.ref 42), some (.int c), some (.int 0)], [], σ) [] (by decide +kernel) rfl trivial ?_
    exact k1 c1
  · refine sy_bk [(.if_icmp .eq 11, 0, 40, 0, 0)] (32, [some (.ref 42), some (.int c), none], [], σ) [¬ sy_cc .eq (σ.1 42 3) 1] (by decide +kernel) rfl ⟨c1, trivial⟩ ?_
    refine sy_bk [(.aload_n 0, 0, 0, 0, 0), (.getfield 28, 4, 3, 0, 0), (.iconst 2, 0, 0, 2, 0)] (37, [some (.ref 42), some (.int c), none], [.int 2, .int (σ.1 42 3)], σ) [] (by decide +kernel) rfl trivial ?_
    by_cases c2 : ¬ (σ.1 42 3) = 2
    · refine sy_bk [(.if_icmp .ne 41, 1, 78, 0, 0)] (78, [some (.ref 42), some (.int c), none], [], σ) [sy_cc .ne (σ.1 42 3) 2] (by decide +kernel) rfl ⟨c2, trivial⟩ ?_
      refine sy_bk [(.iload_n 1, 0, 0, 0, 0)] (79, [some (.ref 42), some (.int c), none], [.int c], σ) [] (by decide +kernel) rfl trivial ?_
      exact sy_reti rfl (by decide +kernel) (k2 c1 c2)
    · refine sy_bk [(.if_icmp .ne 41, 0, 78, 0, 0)] (40, [some (.ref 42), some (.int c), none], [], σ) [¬ sy_cc .ne (σ.1 42 3) 2] (by decide +kernel) rfl ⟨c2, trivial⟩ ?_
      refine sy_bk [(.iconst 0, 0, 0, 0, 0), (.istore_n 2, 0, 0, 0, 0)] (42, [some (.ref 42), some (.int c), some (.int 0)], [], σ) [] (by decide +kernel) rfl trivial ?_
      exact k3 c1 c2

set_option maxRecDepth 20000 in
theorem w_a_step_42 {Q : Option Value → sy_S → Prop} {σ : sy_S} {c : Int32} {i : Int32}  (b1 : vp_in c 16) (b2 : ¬ ((σ.1 5 c.toNatClampNeg) ≤ i) → vp_in ((c * 4) + i) 64) (k1 : (σ.1 5 c.toNatClampNeg) ≤ i → sy_E shX mX4_lineUp (0, sy_ent [.ref 42, .int c] 3, [], σ) (fun r9 σ9 => sy_E shX mX4_step (78, [none, some (.int c), none], r9.toList ++ [], σ9) Q)) (k2 : ¬ ((σ.1 5 c.toNatClampNeg) ≤ i) → sy_E shX mX4_lineUp (0, sy_ent [.ref 42, .int (σ.1 4 (((c * 4) + i).toNatClampNeg))] 3, [], σ) (fun r9 σ9 => sy_E shX mX4_step (67, [some (.ref 42), some (.int c), some (.int i)], r9.toList ++ [], σ9) Q)) : sy_E shX mX4_step (42, [some (.ref 42), some (.int c), some (.int i)], [], σ) Q := by
  refine sy_bk [(.iload_n 2, 0, 0, 0, 0), (.aload_n 0, 0, 0, 0, 0), (.getfield 18, 4, 0, 0, 0), (.iload_n 1, 0, 0, 0, 0)] (48, [some (.ref 42), some (.int c), some (.int i)], [.int c, .ref 0, .int i], σ) [] (by decide +kernel) rfl trivial ?_
  refine sy_callV mX3_nextCount 0 [.int c] [.int i] kX3_nextCount jX4_62 (by decide +kernel) rfl rfl (Nat.le_of_ble_eq_true rfl) (Nat.le_of_ble_eq_true rfl) (by decide) rfl ?_
  refine w_x_nextCount (σ := σ) (cell := c) b1 ?_
  show sy_E shX mX4_step (51, [some (.ref 42), some (.int c), some (.int i)], [.int (σ.1 5 c.toNatClampNeg), .int i], σ) _
  by_cases c1 : (σ.1 5 c.toNatClampNeg) ≤ i
  · refine sy_bk [(.if_icmp .ge 22, 1, 73, 0, 0)] (73, [some (.ref 42), some (.int c), some (.int i)], [], σ) [sy_cc .ge i (σ.1 5 c.toNatClampNeg)] (by decide +kernel) rfl ⟨c1, trivial⟩ ?_
    refine sy_bk [(.aload_n 0, 0, 0, 0, 0), (.iload_n 1, 0, 0, 0, 0)] (75, [some (.ref 42), some (.int c), some (.int i)], [.int c, .ref 42], σ) [] (by decide +kernel) rfl trivial ?_
    refine sy_drop [none, some (.int c), none] ⟨rfl, trivial⟩ ?_
    refine sy_callV mX4_lineUp 42 [.int c] [] kX4_lineUp jX4_51 (by decide +kernel) rfl rfl (Nat.le_of_ble_eq_true rfl) (Nat.le_of_ble_eq_true rfl) (by decide) rfl ?_
    exact k1 c1
  · refine sy_bk [(.if_icmp .ge 22, 0, 73, 0, 0)] (54, [some (.ref 42), some (.int c), some (.int i)], [], σ) [¬ sy_cc .ge i (σ.1 5 c.toNatClampNeg)] (by decide +kernel) rfl ⟨c1, trivial⟩ ?_
    refine sy_bk [(.aload_n 0, 0, 0, 0, 0), (.aload_n 0, 0, 0, 0, 0), (.getfield 18, 4, 0, 0, 0), (.iload_n 1, 0, 0, 0, 0), (.iload_n 2, 0, 0, 0, 0)] (61, [some (.ref 42), some (.int c), some (.int i)], [.int i, .int c, .ref 0, .ref 42], σ) [] (by decide +kernel) rfl trivial ?_
    refine sy_callV mX3_nextAt 0 [.int c, .int i] [.ref 42] kX3_nextAt jX4_65 (by decide +kernel) rfl rfl (Nat.le_of_ble_eq_true rfl) (Nat.le_of_ble_eq_true rfl) (by decide) rfl ?_
    refine w_x_nextAt (σ := σ) (cell := c) (side := i) (b2 c1) ?_
    show sy_E shX mX4_step (64, [some (.ref 42), some (.int c), some (.int i)], [.int (σ.1 4 (((c * 4) + i).toNatClampNeg)), .ref 42], σ) _
    refine sy_callV mX4_lineUp 42 [.int (σ.1 4 (((c * 4) + i).toNatClampNeg))] [] kX4_lineUp jX4_51 (by decide +kernel) rfl rfl (Nat.le_of_ble_eq_true rfl) (Nat.le_of_ble_eq_true rfl) (by decide) rfl ?_
    exact k2 c1

set_option maxRecDepth 20000 in
theorem w_a_step_67 {Q : Option Value → sy_S → Prop} {σ : sy_S} {c : Int32} {i : Int32}   (k1 : sy_E shX mX4_step (42, [some (.ref 42), some (.int c), some (.int (i + 1))], [], σ) Q) : sy_E shX mX4_step (67, [some (.ref 42), some (.int c), some (.int i)], [], σ) Q := by
  refine sy_bk [(.iinc 2 1, 0, 0, 1, 0), (.goto (-28), 0, 42, 0, 0)] (42, [some (.ref 42), some (.int c), some (.int (i + 1))], [], σ) [] (by decide +kernel) rfl trivial ?_
  exact k1

set_option maxRecDepth 20000 in
theorem w_a_step_78 {Q : Option Value → sy_S → Prop} {σ : sy_S} {c : Int32}   (k1 : Q (some (.int c)) σ) : sy_E shX mX4_step (78, [none, some (.int c), none], [], σ) Q := by
  refine sy_bk [(.iload_n 1, 0, 0, 0, 0)] (79, [none, some (.int c), none], [.int c], σ) [] (by decide +kernel) rfl trivial ?_
  exact sy_reti rfl (by decide +kernel) (k1)

set_option maxRecDepth 20000 in
theorem w_b_lineUp {Q : Option Value → sy_S → Prop} {σ : sy_S} {cell : Int32}  (b1 : (((σ.1 45 6) >>> (cell &&& 31)) &&& 1) = 0 → vp_in cell 16) (b2 : (((σ.1 45 6) >>> (cell &&& 31)) &&& 1) = 0 → ¬ ((σ.1 46 cell.toNatClampNeg) ≤ 3) → vp_in (((σ.1 45 4) + (σ.1 45 5)) - ((σ.1 45 4) + (σ.1 45 5)) / 16 * 16) 16) (k1 : (((σ.1 45 6) >>> (cell &&& 31)) &&& 1) = 0 → (σ.1 46 cell.toNatClampNeg) ≤ 3 → Q none σ) (k2 : (((σ.1 45 6) >>> (cell &&& 31)) &&& 1) = 0 → ¬ ((σ.1 46 cell.toNatClampNeg) ≤ 3) → Q none (sy_up (sy_up (sy_up σ.1 47 ((((σ.1 45 4) + (σ.1 45 5)) - ((σ.1 45 4) + (σ.1 45 5)) / 16 * 16).toNatClampNeg) cell) 45 5 ((σ.1 45 5) + 1)) 45 6 ((σ.1 45 6) ||| (1 <<< (cell &&& 31))), σ.2)) (k3 : ¬ ((((σ.1 45 6) >>> (cell &&& 31)) &&& 1) = 0) → Q none σ) : sy_E shX mX4_lineUp (0, sy_ent [.ref 45, .int cell] 3, [], σ) Q := by
  show sy_E shX mX4_lineUp (0, [some (.ref 45), some (.int cell), none], [], σ) _
  refine sy_bk [(.aload_n 0, 0, 0, 0, 0), (.getfield 38, 4, 6, 0, 0), (.iload_n 1, 0, 0, 0, 0), (.ishr, 0, 0, 0, 0), (.iconst 1, 0, 0, 1, 0), (.iand, 0, 0, 0, 0)] (8, [some (.ref 45), some (.int cell), none], [.int (((σ.1 45 6) >>> (cell &&& 31)) &&& 1)], σ) [] (by decide +kernel) rfl trivial ?_
  by_cases c1 : (((σ.1 45 6) >>> (cell &&& 31)) &&& 1) = 0
  · refine sy_bk [(.ifCond .eq 7, 1, 15, 0, 0)] (15, [some (.ref 45), some (.int cell), none], [], σ) [sy_cc .eq (((σ.1 45 6) >>> (cell &&& 31)) &&& 1) 0] (by decide +kernel) rfl ⟨c1, trivial⟩ ?_
    refine sy_bk [(.iconst 0, 0, 0, 0, 0), (.istore_n 2, 0, 0, 0, 0), (.iload_n 2, 0, 0, 0, 0), (.ifCond .ne 53, 0, 71, 0, 0), (.aload_n 0, 0, 0, 0, 0), (.getfield 9, 4, 1, 0, 0), (.iload_n 1, 0, 0, 0, 0), (.iaload, 0, 0, 0, 0), (.iconst 3, 0, 0, 3, 0)] (28, [some (.ref 45), some (.int cell), some (.int 0)], [.int 3, .int (σ.1 46 cell.toNatClampNeg)], σ) [¬ sy_cc .ne 0 0, sy_okA shX 0 46 cell] (by decide +kernel) rfl ⟨(by decide : ¬ (¬ (0 : Int32) = 0)), ⟨16, _, rfl, (b1 c1)⟩, trivial⟩ ?_
    by_cases c2 : (σ.1 46 cell.toNatClampNeg) ≤ 3
    · refine sy_bk [(.if_icmp .le 43, 1, 71, 0, 0)] (71, [some (.ref 45), some (.int cell), some (.int 0)], [], σ) [sy_cc .le (σ.1 46 cell.toNatClampNeg) 3] (by decide +kernel) rfl ⟨c2, trivial⟩ ?_
      exact sy_retv rfl (by decide +kernel) (k1 c1 c2)
    · refine sy_bk [(.if_icmp .le 43, 0, 71, 0, 0)] (31, [some (.ref 45), some (.int cell), some (.int 0)], [], σ) [¬ sy_cc .le (σ.1 46 cell.toNatClampNeg) 3] (by decide +kernel) rfl ⟨c2, trivial⟩ ?_
      refine sy_bk [(.aload_n 0, 0, 0, 0, 0), (.getfield 15, 4, 2, 0, 0), (.aload_n 0, 0, 0, 0, 0), (.getfield 32, 4, 4, 0, 0), (.aload_n 0, 0, 0, 0, 0), (.getfield 35, 4, 5, 0, 0), (.iadd, 0, 0, 0, 0), (.bipush 16, 0, 0, 16, 0), (.irem, 0, 0, 0, 0), (.iload_n 1, 0, 0, 0, 0), (.iastore, 0, 0, 0, 0), (.aload_n 0, 0, 0, 0, 0), (.dup, 0, 0, 0, 0), (.getfield 35, 4, 5, 0, 0), (.iconst 1, 0, 0, 1, 0), (.iadd, 0, 0, 0, 0), (.putfield 35, 4, 5, 0, 0), (.aload_n 0, 0, 0, 0, 0), (.dup, 0, 0, 0, 0), (.getfield 38, 4, 6, 0, 0), (.iconst 1, 0, 0, 1, 0), (.iload_n 1, 0, 0, 0, 0), (.ishl, 0, 0, 0, 0), (.ior, 0, 0, 0, 0), (.putfield 38, 4, 6, 0, 0)] (71, [some (.ref 45), some (.int cell), some (.int 0)], [], (sy_up (sy_up (sy_up σ.1 47 ((((σ.1 45 4) + (σ.1 45 5)) - ((σ.1 45 4) + (σ.1 45 5)) / 16 * 16).toNatClampNeg) cell) 45 5 ((σ.1 45 5) + 1)) 45 6 ((σ.1 45 6) ||| (1 <<< (cell &&& 31))), σ.2)) [¬ (16 : Int32) = 0, sy_okA shX 0 47 (((σ.1 45 4) + (σ.1 45 5)) - ((σ.1 45 4) + (σ.1 45 5)) / 16 * 16)] (by decide +kernel) rfl ⟨(by decide), ⟨16, _, rfl, (b2 c1 c2)⟩, trivial⟩ ?_
      exact sy_retv rfl (by decide +kernel) (k2 c1 c2)
  · refine sy_bk [(.ifCond .eq 7, 0, 15, 0, 0)] (11, [some (.ref 45), some (.int cell), none], [], σ) [¬ sy_cc .eq (((σ.1 45 6) >>> (cell &&& 31)) &&& 1) 0] (by decide +kernel) rfl ⟨c1, trivial⟩ ?_
    refine sy_bk [(.iconst 1, 0, 0, 1, 0), (.goto 4, 0, 16, 0, 0), (.istore_n 2, 0, 0, 0, 0), (.iload_n 2, 0, 0, 0, 0), (.ifCond .ne 53, 1, 71, 0, 0)] (71, [some (.ref 45), some (.int cell), some (.int 1)], [], σ) [sy_cc .ne 1 0] (by decide +kernel) rfl ⟨(by decide : (¬ (1 : Int32) = 0)), trivial⟩ ?_
    exact sy_retv rfl (by decide +kernel) (k3 c1)

set_option maxRecDepth 20000 in
theorem w_b_leave1 {Q : Option Value → sy_S → Prop} {σ : sy_S}   (b1 : ¬ (σ.1 45 5) = 0 → vp_in (σ.1 45 4) 16) (k1 : ¬ (σ.1 45 5) = 0 → Q (some (.int (σ.1 47 ((σ.1 45 4).toNatClampNeg)))) (sy_up (sy_up (sy_up σ.1 45 4 (((σ.1 45 4) + 1) - ((σ.1 45 4) + 1) / 16 * 16)) 45 5 ((σ.1 45 5) - 1)) 45 6 ((σ.1 45 6) &&& ((1 <<< ((σ.1 47 ((σ.1 45 4).toNatClampNeg)) &&& 31)) ^^^ (-1))), σ.2)) (k2 : ¬ (¬ (σ.1 45 5) = 0) → Q (some (.int (-1))) σ) : sy_E shX mX4_leave (0, sy_ent [.ref 45, .int 1] 3, [], σ) Q := by
  show sy_E shX mX4_leave (0, [some (.ref 45), some (.int 1), none], [], σ) _
  refine sy_bk [(.aload_n 0, 0, 0, 0, 0), (.getfield 35, 4, 5, 0, 0)] (4, [some (.ref 45), some (.int 1), none], [.int (σ.1 45 5)], σ) [] (by decide +kernel) rfl trivial ?_
  by_cases c1 : ¬ (σ.1 45 5) = 0
  · refine sy_bk [(.ifCond .ne 5, 1, 9, 0, 0)] (9, [some (.ref 45), some (.int 1), none], [], σ) [sy_cc .ne (σ.1 45 5) 0] (by decide +kernel) rfl ⟨c1, trivial⟩ ?_
    refine sy_bk [(.iload_n 1, 0, 0, 0, 0), (.ifCond .eq 10, 0, 20, 0, 0), (.aload_n 0, 0, 0, 0, 0), (.getfield 32, 4, 4, 0, 0), (.goto 17, 0, 34, 0, 0), (.istore_n 2, 0, 0, 0, 0), (.iload_n 1, 0, 0, 0, 0), (.ifCond .eq 16, 0, 52, 0, 0), (.aload_n 0, 0, 0, 0, 0), (.aload_n 0, 0, 0, 0, 0), (.getfield 32, 4, 4, 0, 0), (.iconst 1, 0, 0, 1, 0), (.iadd, 0, 0, 0, 0), (.bipush 16, 0, 0, 16, 0), (.irem, 0, 0, 0, 0), (.putfield 32, 4, 4, 0, 0), (.aload_n 0, 0, 0, 0, 0), (.dup, 0, 0, 0, 0), (.getfield 35, 4, 5, 0, 0), (.iconst 1, 0, 0, 1, 0), (.isub, 0, 0, 0, 0), (.putfield 35, 4, 5, 0, 0), (.aload_n 0, 0, 0, 0, 0), (.dup, 0, 0, 0, 0), (.getfield 38, 4, 6, 0, 0), (.iconst 1, 0, 0, 1, 0), (.aload_n 0, 0, 0, 0, 0), (.getfield 15, 4, 2, 0, 0), (.iload_n 2, 0, 0, 0, 0), (.iaload, 0, 0, 0, 0), (.ishl, 0, 0, 0, 0), (.iconst (-1), 0, 0, (-1), 0), (.ixor, 0, 0, 0, 0), (.iand, 0, 0, 0, 0), (.putfield 38, 4, 6, 0, 0), (.aload_n 0, 0, 0, 0, 0), (.getfield 15, 4, 2, 0, 0), (.iload_n 2, 0, 0, 0, 0), (.iaload, 0, 0, 0, 0)] (87, [some (.ref 45), some (.int 1), some (.int (σ.1 45 4))], [.int (σ.1 47 ((σ.1 45 4).toNatClampNeg))], (sy_up (sy_up (sy_up σ.1 45 4 (((σ.1 45 4) + 1) - ((σ.1 45 4) + 1) / 16 * 16)) 45 5 ((σ.1 45 5) - 1)) 45 6 ((σ.1 45 6) &&& ((1 <<< ((σ.1 47 ((σ.1 45 4).toNatClampNeg)) &&& 31)) ^^^ (-1))), σ.2)) [¬ sy_cc .eq 1 0, ¬ sy_cc .eq 1 0, ¬ (16 : Int32) = 0, sy_okA shX 0 47 (σ.1 45 4), sy_okA shX 0 47 (σ.1 45 4)] (by decide +kernel) rfl ⟨(by decide : ¬ ((1 : Int32) = 0)), (by decide : ¬ ((1 : Int32) = 0)), (by decide), ⟨16, _, rfl, (b1 c1)⟩, ⟨16, _, rfl, (b1 c1)⟩, trivial⟩ ?_
    exact sy_reti rfl (by decide +kernel) (k1 c1)
  · refine sy_bk [(.ifCond .ne 5, 0, 9, 0, 0)] (7, [some (.ref 45), some (.int 1), none], [], σ) [¬ sy_cc .ne (σ.1 45 5) 0] (by decide +kernel) rfl ⟨c1, trivial⟩ ?_
    refine sy_bk [(.iconst (-1), 0, 0, (-1), 0)] (8, [some (.ref 45), some (.int 1), none], [.int (-1)], σ) [] (by decide +kernel) rfl trivial ?_
    exact sy_reti rfl (by decide +kernel) (k2 c1)

set_option maxRecDepth 20000 in
theorem w_b_leave0 {Q : Option Value → sy_S → Prop} {σ : sy_S}   (b1 : ¬ (σ.1 45 5) = 0 → vp_in ((((σ.1 45 4) + (σ.1 45 5)) - 1) - (((σ.1 45 4) + (σ.1 45 5)) - 1) / 16 * 16) 16) (k1 : ¬ (σ.1 45 5) = 0 → Q (some (.int (σ.1 47 (((((σ.1 45 4) + (σ.1 45 5)) - 1) - (((σ.1 45 4) + (σ.1 45 5)) - 1) / 16 * 16).toNatClampNeg)))) (sy_up (sy_up σ.1 45 5 ((σ.1 45 5) - 1)) 45 6 ((σ.1 45 6) &&& ((1 <<< ((σ.1 47 (((((σ.1 45 4) + (σ.1 45 5)) - 1) - (((σ.1 45 4) + (σ.1 45 5)) - 1) / 16 * 16).toNatClampNeg)) &&& 31)) ^^^ (-1))), σ.2)) (k2 : ¬ (¬ (σ.1 45 5) = 0) → Q (some (.int (-1))) σ) : sy_E shX mX4_leave (0, sy_ent [.ref 45, .int 0] 3, [], σ) Q := by
  show sy_E shX mX4_leave (0, [some (.ref 45), some (.int 0), none], [], σ) _
  refine sy_bk [(.aload_n 0, 0, 0, 0, 0), (.getfield 35, 4, 5, 0, 0)] (4, [some (.ref 45), some (.int 0), none], [.int (σ.1 45 5)], σ) [] (by decide +kernel) rfl trivial ?_
  by_cases c1 : ¬ (σ.1 45 5) = 0
  · refine sy_bk [(.ifCond .ne 5, 1, 9, 0, 0)] (9, [some (.ref 45), some (.int 0), none], [], σ) [sy_cc .ne (σ.1 45 5) 0] (by decide +kernel) rfl ⟨c1, trivial⟩ ?_
    refine sy_bk [(.iload_n 1, 0, 0, 0, 0), (.ifCond .eq 10, 1, 20, 0, 0), (.aload_n 0, 0, 0, 0, 0), (.getfield 32, 4, 4, 0, 0), (.aload_n 0, 0, 0, 0, 0), (.getfield 35, 4, 5, 0, 0), (.iadd, 0, 0, 0, 0), (.iconst 1, 0, 0, 1, 0), (.isub, 0, 0, 0, 0), (.bipush 16, 0, 0, 16, 0), (.irem, 0, 0, 0, 0), (.istore_n 2, 0, 0, 0, 0), (.iload_n 1, 0, 0, 0, 0), (.ifCond .eq 16, 1, 52, 0, 0), (.aload_n 0, 0, 0, 0, 0), (.dup, 0, 0, 0, 0), (.getfield 35, 4, 5, 0, 0), (.iconst 1, 0, 0, 1, 0), (.isub, 0, 0, 0, 0), (.putfield 35, 4, 5, 0, 0), (.aload_n 0, 0, 0, 0, 0), (.dup, 0, 0, 0, 0), (.getfield 38, 4, 6, 0, 0), (.iconst 1, 0, 0, 1, 0), (.aload_n 0, 0, 0, 0, 0), (.getfield 15, 4, 2, 0, 0), (.iload_n 2, 0, 0, 0, 0), (.iaload, 0, 0, 0, 0), (.ishl, 0, 0, 0, 0), (.iconst (-1), 0, 0, (-1), 0), (.ixor, 0, 0, 0, 0), (.iand, 0, 0, 0, 0), (.putfield 38, 4, 6, 0, 0), (.aload_n 0, 0, 0, 0, 0), (.getfield 15, 4, 2, 0, 0), (.iload_n 2, 0, 0, 0, 0), (.iaload, 0, 0, 0, 0)] (87, [some (.ref 45), some (.int 0), some (.int ((((σ.1 45 4) + (σ.1 45 5)) - 1) - (((σ.1 45 4) + (σ.1 45 5)) - 1) / 16 * 16))], [.int (σ.1 47 (((((σ.1 45 4) + (σ.1 45 5)) - 1) - (((σ.1 45 4) + (σ.1 45 5)) - 1) / 16 * 16).toNatClampNeg))], (sy_up (sy_up σ.1 45 5 ((σ.1 45 5) - 1)) 45 6 ((σ.1 45 6) &&& ((1 <<< ((σ.1 47 (((((σ.1 45 4) + (σ.1 45 5)) - 1) - (((σ.1 45 4) + (σ.1 45 5)) - 1) / 16 * 16).toNatClampNeg)) &&& 31)) ^^^ (-1))), σ.2)) [sy_cc .eq 0 0, ¬ (16 : Int32) = 0, sy_cc .eq 0 0, sy_okA shX 0 47 ((((σ.1 45 4) + (σ.1 45 5)) - 1) - (((σ.1 45 4) + (σ.1 45 5)) - 1) / 16 * 16), sy_okA shX 0 47 ((((σ.1 45 4) + (σ.1 45 5)) - 1) - (((σ.1 45 4) + (σ.1 45 5)) - 1) / 16 * 16)] (by decide +kernel) rfl ⟨(by decide : ((0 : Int32) = 0)), (by decide), (by decide : ((0 : Int32) = 0)), ⟨16, _, rfl, (b1 c1)⟩, ⟨16, _, rfl, (b1 c1)⟩, trivial⟩ ?_
    exact sy_reti rfl (by decide +kernel) (k1 c1)
  · refine sy_bk [(.ifCond .ne 5, 0, 9, 0, 0)] (7, [some (.ref 45), some (.int 0), none], [], σ) [¬ sy_cc .ne (σ.1 45 5) 0] (by decide +kernel) rfl ⟨c1, trivial⟩ ?_
    refine sy_bk [(.iconst (-1), 0, 0, (-1), 0)] (8, [some (.ref 45), some (.int 0), none], [.int (-1)], σ) [] (by decide +kernel) rfl trivial ?_
    exact sy_reti rfl (by decide +kernel) (k2 c1)

set_option maxRecDepth 20000 in
theorem w_b_least_0 {Q : Option Value → sy_S → Prop} {σ : sy_S}    (k1 : sy_E shX mX4_leastCell (2, [some (.ref 45), some (.int 0), none], [], σ) Q) : sy_E shX mX4_leastCell (0, sy_ent [.ref 45] 3, [], σ) Q := by
  show sy_E shX mX4_leastCell (0, [some (.ref 45), none, none], [], σ) _
  refine sy_bk [(.iconst 0, 0, 0, 0, 0), (.istore_n 1, 0, 0, 0, 0)] (2, [some (.ref 45), some (.int 0), none], [], σ) [] (by decide +kernel) rfl trivial ?_
  exact k1

set_option maxRecDepth 20000 in
theorem w_b_least_2 {Q : Option Value → sy_S → Prop} {σ : sy_S} {i : Int32}  (b1 : ¬ ((σ.1 0 7) ≤ i) → vp_in i 16) (b2 : ¬ ((σ.1 0 7) ≤ i) → vp_in (σ.1 2 i.toNatClampNeg) 16) (k1 : (σ.1 0 7) ≤ i → Q (some (.int (-1))) σ) (k2 : ¬ ((σ.1 0 7) ≤ i) → (σ.1 46 ((σ.1 2 i.toNatClampNeg).toNatClampNeg)) ≤ 3 → sy_E shX mX4_leastCell (2, [some (.ref 45), some (.int (i + 1)), none], [], σ) Q) (k3 : ¬ ((σ.1 0 7) ≤ i) → ¬ ((σ.1 46 ((σ.1 2 i.toNatClampNeg).toNatClampNeg)) ≤ 3) → Q (some (.int (σ.1 2 i.toNatClampNeg))) σ) : sy_E shX mX4_leastCell (2, [some (.ref 45), some (.int i), none], [], σ) Q := by
  refine sy_bk [(.iload_n 1, 0, 0, 0, 0), (.aload_n 0, 0, 0, 0, 0), (.getfield 18, 4, 0, 0, 0)] (7, [some (.ref 45), some (.int i), none], [.ref 0, .int i], σ) [] (by decide +kernel) rfl trivial ?_
  refine sy_callV mX3_placeCount 0 [] [.int i] kX3_placeCount jX4_41 (by decide +kernel) rfl rfl (Nat.le_of_ble_eq_true rfl) (Nat.le_of_ble_eq_true rfl) (by decide) rfl ?_
  refine w_x_placeCount (σ := σ) ?_
  show sy_E shX mX4_leastCell (10, [some (.ref 45), some (.int i), none], [.int (σ.1 0 7), .int i], σ) _
  by_cases c1 : (σ.1 0 7) ≤ i
  · refine sy_bk [(.if_icmp .ge 30, 1, 40, 0, 0)] (40, [some (.ref 45), some (.int i), none], [], σ) [sy_cc .ge i (σ.1 0 7)] (by decide +kernel) rfl ⟨c1, trivial⟩ ?_
    refine sy_bk [(.iconst (-1), 0, 0, (-1), 0)] (41, [some (.ref 45), some (.int i), none], [.int (-1)], σ) [] (by decide +kernel) rfl trivial ?_
    exact sy_reti rfl (by decide +kernel) (k1 c1)
  · refine sy_bk [(.if_icmp .ge 30, 0, 40, 0, 0)] (13, [some (.ref 45), some (.int i), none], [], σ) [¬ sy_cc .ge i (σ.1 0 7)] (by decide +kernel) rfl ⟨c1, trivial⟩ ?_
    refine sy_bk [(.aload_n 0, 0, 0, 0, 0), (.getfield 18, 4, 0, 0, 0), (.iload_n 1, 0, 0, 0, 0)] (18, [some (.ref 45), some (.int i), none], [.int i, .ref 0], σ) [] (by decide +kernel) rfl trivial ?_
    refine sy_callV mX3_placeAt 0 [.int i] [] kX3_placeAt jX4_47 (by decide +kernel) rfl rfl (Nat.le_of_ble_eq_true rfl) (Nat.le_of_ble_eq_true rfl) (by decide) rfl ?_
    refine w_x_placeAt (σ := σ) (cell := i) (b1 c1) ?_
    show sy_E shX mX4_leastCell (21, [some (.ref 45), some (.int i), none], [.int (σ.1 2 i.toNatClampNeg)], σ) _
    refine sy_bk [(.istore_n 2, 0, 0, 0, 0), (.aload_n 0, 0, 0, 0, 0), (.getfield 9, 4, 1, 0, 0), (.iload_n 2, 0, 0, 0, 0), (.iaload, 0, 0, 0, 0), (.iconst 3, 0, 0, 3, 0)] (29, [some (.ref 45), some (.int i), some (.int (σ.1 2 i.toNatClampNeg))], [.int 3, .int (σ.1 46 ((σ.1 2 i.toNatClampNeg).toNatClampNeg))], σ) [sy_okA shX 0 46 (σ.1 2 i.toNatClampNeg)] (by decide +kernel) rfl ⟨⟨16, _, rfl, (b2 c1)⟩, trivial⟩ ?_
    by_cases c2 : (σ.1 46 ((σ.1 2 i.toNatClampNeg).toNatClampNeg)) ≤ 3
    · refine sy_bk [(.if_icmp .le 5, 1, 34, 0, 0)] (34, [some (.ref 45), some (.int i), some (.int (σ.1 2 i.toNatClampNeg))], [], σ) [sy_cc .le (σ.1 46 ((σ.1 2 i.toNatClampNeg).toNatClampNeg)) 3] (by decide +kernel) rfl ⟨c2, trivial⟩ ?_
      refine sy_bk [(.iinc 1 1, 0, 0, 1, 0), (.goto (-35), 0, 2, 0, 0)] (2, [some (.ref 45), some (.int (i + 1)), some (.int (σ.1 2 i.toNatClampNeg))], [], σ) [] (by decide +kernel) rfl trivial ?_
      refine sy_drop [some (.ref 45), some (.int (i + 1)), none] ⟨rfl, rfl, trivial⟩ ?_
      exact k2 c1 c2
    · refine sy_bk [(.if_icmp .le 5, 0, 34, 0, 0)] (32, [some (.ref 45), some (.int i), some (.int (σ.1 2 i.toNatClampNeg))], [], σ) [¬ sy_cc .le (σ.1 46 ((σ.1 2 i.toNatClampNeg).toNatClampNeg)) 3] (by decide +kernel) rfl ⟨c2, trivial⟩ ?_
      refine sy_bk [(.iload_n 2, 0, 0, 0, 0)] (33, [some (.ref 45), some (.int i), some (.int (σ.1 2 i.toNatClampNeg))], [.int (σ.1 2 i.toNatClampNeg)], σ) [] (by decide +kernel) rfl trivial ?_
      exact sy_reti rfl (by decide +kernel) (k3 c1 c2)

set_option maxRecDepth 20000 in
theorem w_b_tall_0 {Q : Option Value → sy_S → Prop} {σ : sy_S}    (k1 : sy_E shX mX4_tallestCell (6, [some (.ref 45), some (.int (-1)), some (.int 3), some (.int 0), none], [], σ) Q) : sy_E shX mX4_tallestCell (0, sy_ent [.ref 45] 5, [], σ) Q := by
  show sy_E shX mX4_tallestCell (0, [some (.ref 45), none, none, none, none], [], σ) _
  refine sy_bk [(.iconst (-1), 0, 0, (-1), 0), (.istore_n 1, 0, 0, 0, 0), (.iconst 3, 0, 0, 3, 0), (.istore_n 2, 0, 0, 0, 0), (.iconst 0, 0, 0, 0, 0), (.istore_n 3, 0, 0, 0, 0)] (6, [some (.ref 45), some (.int (-1)), some (.int 3), some (.int 0), none], [], σ) [] (by decide +kernel) rfl trivial ?_
  exact k1

set_option maxRecDepth 20000 in
theorem w_b_tall_6 {Q : Option Value → sy_S → Prop} {σ : sy_S} {best : Int32} {most : Int32} {i : Int32}  (b1 : ¬ ((σ.1 0 7) ≤ i) → vp_in i 16) (b2 : ¬ ((σ.1 0 7) ≤ i) → vp_in (σ.1 2 i.toNatClampNeg) 16) (k1 : (σ.1 0 7) ≤ i → Q (some (.int best)) σ) (k2 : ¬ ((σ.1 0 7) ≤ i) → (σ.1 46 ((σ.1 2 i.toNatClampNeg).toNatClampNeg)) ≤ most → sy_E shX mX4_tallestCell (6, [some (.ref 45), some (.int best), some (.int most), some (.int (i + 1)), none], [], σ) Q) (k3 : ¬ ((σ.1 0 7) ≤ i) → ¬ ((σ.1 46 ((σ.1 2 i.toNatClampNeg).toNatClampNeg)) ≤ most) → sy_E shX mX4_tallestCell (6, [some (.ref 45), some (.int (σ.1 2 i.toNatClampNeg)), some (.int (σ.1 46 ((σ.1 2 i.toNatClampNeg).toNatClampNeg))), some (.int (i + 1)), none], [], σ) Q) : sy_E shX mX4_tallestCell (6, [some (.ref 45), some (.int best), some (.int most), some (.int i), none], [], σ) Q := by
  refine sy_bk [(.iload_n 3, 0, 0, 0, 0), (.aload_n 0, 0, 0, 0, 0), (.getfield 18, 4, 0, 0, 0)] (11, [some (.ref 45), some (.int best), some (.int most), some (.int i), none], [.ref 0, .int i], σ) [] (by decide +kernel) rfl trivial ?_
  refine sy_callV mX3_placeCount 0 [] [.int i] kX3_placeCount jX4_41 (by decide +kernel) rfl rfl (Nat.le_of_ble_eq_true rfl) (Nat.le_of_ble_eq_true rfl) (by decide) rfl ?_
  refine w_x_placeCount (σ := σ) ?_
  show sy_E shX mX4_tallestCell (14, [some (.ref 45), some (.int best), some (.int most), some (.int i), none], [.int (σ.1 0 7), .int i], σ) _
  by_cases c1 : (σ.1 0 7) ≤ i
  · refine sy_bk [(.if_icmp .ge 41, 1, 55, 0, 0)] (55, [some (.ref 45), some (.int best), some (.int most), some (.int i), none], [], σ) [sy_cc .ge i (σ.1 0 7)] (by decide +kernel) rfl ⟨c1, trivial⟩ ?_
    refine sy_bk [(.iload_n 1, 0, 0, 0, 0)] (56, [some (.ref 45), some (.int best), some (.int most), some (.int i), none], [.int best], σ) [] (by decide +kernel) rfl trivial ?_
    exact sy_reti rfl (by decide +kernel) (k1 c1)
  · refine sy_bk [(.if_icmp .ge 41, 0, 55, 0, 0)] (17, [some (.ref 45), some (.int best), some (.int most), some (.int i), none], [], σ) [¬ sy_cc .ge i (σ.1 0 7)] (by decide +kernel) rfl ⟨c1, trivial⟩ ?_
    refine sy_bk [(.aload_n 0, 0, 0, 0, 0), (.getfield 18, 4, 0, 0, 0), (.iload_n 3, 0, 0, 0, 0)] (22, [some (.ref 45), some (.int best), some (.int most), some (.int i), none], [.int i, .ref 0], σ) [] (by decide +kernel) rfl trivial ?_
    refine sy_callV mX3_placeAt 0 [.int i] [] kX3_placeAt jX4_47 (by decide +kernel) rfl rfl (Nat.le_of_ble_eq_true rfl) (Nat.le_of_ble_eq_true rfl) (by decide) rfl ?_
    refine w_x_placeAt (σ := σ) (cell := i) (b1 c1) ?_
    show sy_E shX mX4_tallestCell (25, [some (.ref 45), some (.int best), some (.int most), some (.int i), none], [.int (σ.1 2 i.toNatClampNeg)], σ) _
    refine sy_bk [(.istore 4, 0, 0, 0, 0), (.aload_n 0, 0, 0, 0, 0), (.getfield 9, 4, 1, 0, 0), (.iload 4, 0, 0, 0, 0), (.iaload, 0, 0, 0, 0), (.iload_n 2, 0, 0, 0, 0)] (35, [some (.ref 45), some (.int best), some (.int most), some (.int i), some (.int (σ.1 2 i.toNatClampNeg))], [.int most, .int (σ.1 46 ((σ.1 2 i.toNatClampNeg).toNatClampNeg))], σ) [sy_okA shX 0 46 (σ.1 2 i.toNatClampNeg)] (by decide +kernel) rfl ⟨⟨16, _, rfl, (b2 c1)⟩, trivial⟩ ?_
    by_cases c2 : (σ.1 46 ((σ.1 2 i.toNatClampNeg).toNatClampNeg)) ≤ most
    · refine sy_bk [(.if_icmp .le 14, 1, 49, 0, 0)] (49, [some (.ref 45), some (.int best), some (.int most), some (.int i), some (.int (σ.1 2 i.toNatClampNeg))], [], σ) [sy_cc .le (σ.1 46 ((σ.1 2 i.toNatClampNeg).toNatClampNeg)) most] (by decide +kernel) rfl ⟨c2, trivial⟩ ?_
      refine sy_bk [(.iinc 3 1, 0, 0, 1, 0), (.goto (-46), 0, 6, 0, 0)] (6, [some (.ref 45), some (.int best), some (.int most), some (.int (i + 1)), some (.int (σ.1 2 i.toNatClampNeg))], [], σ) [] (by decide +kernel) rfl trivial ?_
      refine sy_drop [some (.ref 45), some (.int best), some (.int most), some (.int (i + 1)), none] ⟨rfl, rfl, rfl, rfl, trivial⟩ ?_
      exact k2 c1 c2
    · refine sy_bk [(.if_icmp .le 14, 0, 49, 0, 0)] (38, [some (.ref 45), some (.int best), some (.int most), some (.int i), some (.int (σ.1 2 i.toNatClampNeg))], [], σ) [¬ sy_cc .le (σ.1 46 ((σ.1 2 i.toNatClampNeg).toNatClampNeg)) most] (by decide +kernel) rfl ⟨c2, trivial⟩ ?_
      refine sy_bk [(.aload_n 0, 0, 0, 0, 0), (.getfield 9, 4, 1, 0, 0), (.iload 4, 0, 0, 0, 0), (.iaload, 0, 0, 0, 0), (.istore_n 2, 0, 0, 0, 0), (.iload 4, 0, 0, 0, 0), (.istore_n 1, 0, 0, 0, 0), (.iinc 3 1, 0, 0, 1, 0), (.goto (-46), 0, 6, 0, 0)] (6, [some (.ref 45), some (.int (σ.1 2 i.toNatClampNeg)), some (.int (σ.1 46 ((σ.1 2 i.toNatClampNeg).toNatClampNeg))), some (.int (i + 1)), some (.int (σ.1 2 i.toNatClampNeg))], [], σ) [sy_okA shX 0 46 (σ.1 2 i.toNatClampNeg)] (by decide +kernel) rfl ⟨⟨16, _, rfl, (b2 c1)⟩, trivial⟩ ?_
      refine sy_drop [some (.ref 45), some (.int (σ.1 2 i.toNatClampNeg)), some (.int (σ.1 46 ((σ.1 2 i.toNatClampNeg).toNatClampNeg))), some (.int (i + 1)), none] ⟨rfl, rfl, rfl, rfl, trivial⟩ ?_
      exact k3 c1 c2

set_option maxRecDepth 20000 in
theorem w_b_chosen_0 {Q : Option Value → sy_S → Prop} {σ : sy_S}    (k1 : (σ.1 45 3) = 0 → sy_E shX mX4_leastCell (0, sy_ent [.ref 45] 3, [], σ) (fun r9 σ9 => sy_E shX mX4_chosen (36, [none], r9.toList ++ [], σ9) Q)) (k2 : ¬ (σ.1 45 3) = 0 → (σ.1 45 3) = 1 → sy_E shX mX4_leave (0, sy_ent [.ref 45, .int 1] 3, [], σ) (fun r9 σ9 => sy_E shX mX4_chosen (42, [none], r9.toList ++ [], σ9) Q)) (k3 : ¬ (σ.1 45 3) = 0 → ¬ (σ.1 45 3) = 1 → (σ.1 45 3) = 2 → sy_E shX mX4_leave (0, sy_ent [.ref 45, .int 0] 3, [], σ) (fun r9 σ9 => sy_E shX mX4_chosen (48, [none], r9.toList ++ [], σ9) Q)) (k4 : ¬ (σ.1 45 3) = 0 → ¬ (σ.1 45 3) = 1 → ¬ (σ.1 45 3) = 2 → sy_E shX mX4_tallestCell (0, sy_ent [.ref 45] 5, [], σ) (fun r9 σ9 => sy_E shX mX4_chosen (53, [none], r9.toList ++ [], σ9) Q)) : sy_E shX mX4_chosen (0, sy_ent [.ref 45] 1, [], σ) Q := by
  show sy_E shX mX4_chosen (0, [some (.ref 45)], [], σ) _
  refine sy_bk [(.aload_n 0, 0, 0, 0, 0), (.getfield 28, 4, 3, 0, 0)] (4, [some (.ref 45)], [.int (σ.1 45 3)], σ) [] (by decide +kernel) rfl trivial ?_
  by_cases c1 : (σ.1 45 3) = 0
  · refine sy_bk [(.tableswitch 45 0 2 #[28, 33, 39], 1, 32, 0, 0)] (32, [some (.ref 45)], [], σ) [(σ.1 45 3) = 0] (by decide +kernel) rfl ⟨c1, trivial⟩ ?_
    refine sy_bk [(.aload_n 0, 0, 0, 0, 0)] (33, [some (.ref 45)], [.ref 45], σ) [] (by decide +kernel) rfl trivial ?_
    refine sy_drop [none] trivial ?_
    refine sy_callV mX4_leastCell 45 [] [] kX4_leastCell jX4_69 (by decide +kernel) rfl rfl (Nat.le_of_ble_eq_true rfl) (Nat.le_of_ble_eq_true rfl) (by decide) rfl ?_
    exact k1 c1
  by_cases c2 : (σ.1 45 3) = 1
  · refine sy_bk [(.tableswitch 45 0 2 #[28, 33, 39], 1, 37, 1, 0)] (37, [some (.ref 45)], [], σ) [(σ.1 45 3) = 1] (by decide +kernel) rfl ⟨c2, trivial⟩ ?_
    refine sy_bk [(.aload_n 0, 0, 0, 0, 0), (.iconst 1, 0, 0, 1, 0)] (39, [some (.ref 45)], [.int 1, .ref 45], σ) [] (by decide +kernel) rfl trivial ?_
    refine sy_drop [none] trivial ?_
    refine sy_callV mX4_leave 45 [.int 1] [] kX4_leave jX4_72 (by decide +kernel) rfl rfl (Nat.le_of_ble_eq_true rfl) (Nat.le_of_ble_eq_true rfl) (by decide) rfl ?_
    exact k2 c1 c2
  by_cases c3 : (σ.1 45 3) = 2
  · refine sy_bk [(.tableswitch 45 0 2 #[28, 33, 39], 1, 43, 2, 0)] (43, [some (.ref 45)], [], σ) [(σ.1 45 3) = 2] (by decide +kernel) rfl ⟨c3, trivial⟩ ?_
    refine sy_bk [(.aload_n 0, 0, 0, 0, 0), (.iconst 0, 0, 0, 0, 0)] (45, [some (.ref 45)], [.int 0, .ref 45], σ) [] (by decide +kernel) rfl trivial ?_
    refine sy_drop [none] trivial ?_
    refine sy_callV mX4_leave 45 [.int 0] [] kX4_leave jX4_72 (by decide +kernel) rfl rfl (Nat.le_of_ble_eq_true rfl) (Nat.le_of_ble_eq_true rfl) (by decide) rfl ?_
    exact k3 c1 c2 c3
  refine sy_bk [(.tableswitch 45 0 2 #[28, 33, 39], 0, 49, 0, 0)] (49, [some (.ref 45)], [], σ) [(σ.1 45 3).toInt < 0 ∨ 2 < (σ.1 45 3).toInt] (by decide +kernel) rfl ⟨sy_sw3 c1 c2 c3, trivial⟩ ?_
  refine sy_bk [(.aload_n 0, 0, 0, 0, 0)] (50, [some (.ref 45)], [.ref 45], σ) [] (by decide +kernel) rfl trivial ?_
  refine sy_drop [none] trivial ?_
  refine sy_callV mX4_tallestCell 45 [] [] kX4_tallestCell jX4_76 (by decide +kernel) rfl rfl (Nat.le_of_ble_eq_true rfl) (Nat.le_of_ble_eq_true rfl) (by decide) rfl ?_
  exact k4 c1 c2 c3

set_option maxRecDepth 20000 in
theorem w_b_chosen_36 {Q : Option Value → sy_S → Prop} {σ : sy_S} {v : Int32}   (k1 : Q (some (.int v)) σ) : sy_E shX mX4_chosen (36, [none], [.int v], σ) Q := by
  exact sy_reti rfl (by decide +kernel) (k1)

set_option maxRecDepth 20000 in
theorem w_b_chosen_42 {Q : Option Value → sy_S → Prop} {σ : sy_S} {v : Int32}   (k1 : Q (some (.int v)) σ) : sy_E shX mX4_chosen (42, [none], [.int v], σ) Q := by
  exact sy_reti rfl (by decide +kernel) (k1)

set_option maxRecDepth 20000 in
theorem w_b_chosen_48 {Q : Option Value → sy_S → Prop} {σ : sy_S} {v : Int32}   (k1 : Q (some (.int v)) σ) : sy_E shX mX4_chosen (48, [none], [.int v], σ) Q := by
  exact sy_reti rfl (by decide +kernel) (k1)

set_option maxRecDepth 20000 in
theorem w_b_chosen_53 {Q : Option Value → sy_S → Prop} {σ : sy_S} {v : Int32}   (k1 : Q (some (.int v)) σ) : sy_E shX mX4_chosen (53, [none], [.int v], σ) Q := by
  exact sy_reti rfl (by decide +kernel) (k1)

set_option maxRecDepth 20000 in
theorem w_b_begin_0 {Q : Option Value → sy_S → Prop} {σ : sy_S} {k : Nat} {ordr : Int32} (hk : shX[k]? = some (0, 16, []))  (k1 : ordr = 1 → sy_E shX mX4_begin (50, [some (.ref 45), none, none, some (.int 0)], [], (sy_up (sy_up (sy_up (sy_up (sy_cp σ.1 k 46 16) 45 3 ordr) 45 4 0) 45 5 0) 45 6 0, σ.2)) Q) (k2 : ¬ (ordr = 1) → ¬ ordr = 2 → Q none (sy_up (sy_up (sy_up (sy_up (sy_cp σ.1 k 46 16) 45 3 ordr) 45 4 0) 45 5 0) 45 6 0, σ.2)) (k3 : ¬ (ordr = 1) → ¬ (¬ ordr = 2) → sy_E shX mX4_begin (50, [some (.ref 45), none, none, some (.int 0)], [], (sy_up (sy_up (sy_up (sy_up (sy_cp σ.1 k 46 16) 45 3 ordr) 45 4 0) 45 5 0) 45 6 0, σ.2)) Q) : sy_E shX mX4_begin (0, sy_ent [.ref 45, .ref k, .int ordr] 4, [], σ) Q := by
  show sy_E shX mX4_begin (0, [some (.ref 45), some (.ref k), some (.int ordr), none], [], σ) _
  refine sy_bk [(.aload_n 1, 0, 0, 0, 0), (.iconst 0, 0, 0, 0, 0), (.aload_n 0, 0, 0, 0, 0), (.getfield 9, 4, 1, 0, 0), (.iconst 0, 0, 0, 0, 0), (.bipush 16, 0, 0, 16, 0)] (9, [some (.ref 45), some (.ref k), some (.int ordr), none], [.int 16, .int 0, .ref 46, .int 0, .ref k], σ) [] (by decide +kernel) rfl trivial ?_
  refine sy_copy [] jX4_22 (by decide +kernel) rfl hk rfl (by decide) (by decide) (Nat.le_of_ble_eq_true rfl) (by decide) (by decide) ?_
  show sy_E shX mX4_begin (12, [some (.ref 45), some (.ref k), some (.int ordr), none], [], (sy_cp σ.1 k 46 16, σ.2)) _
  refine sy_bk [(.aload_n 0, 0, 0, 0, 0), (.iload_n 2, 0, 0, 0, 0), (.putfield 28, 4, 3, 0, 0), (.aload_n 0, 0, 0, 0, 0), (.iconst 0, 0, 0, 0, 0), (.putfield 32, 4, 4, 0, 0), (.aload_n 0, 0, 0, 0, 0), (.iconst 0, 0, 0, 0, 0), (.putfield 35, 4, 5, 0, 0), (.aload_n 0, 0, 0, 0, 0), (.iconst 0, 0, 0, 0, 0), (.putfield 38, 4, 6, 0, 0), (.aload_n 0, 0, 0, 0, 0), (.getfield 28, 4, 3, 0, 0), (.iconst 1, 0, 0, 1, 0)] (37, [some (.ref 45), some (.ref k), some (.int ordr), none], [.int 1, .int ordr], (sy_up (sy_up (sy_up (sy_up (sy_cp σ.1 k 46 16) 45 3 ordr) 45 4 0) 45 5 0) 45 6 0, σ.2)) [] (by decide +kernel) rfl trivial ?_
  by_cases c1 : ordr = 1
  · refine sy_bk [(.if_icmp .eq 11, 1, 48, 0, 0)] (48, [some (.ref 45), some (.ref k), some (.int ordr), none], [], (sy_up (sy_up (sy_up (sy_up (sy_cp σ.1 k 46 16) 45 3 ordr) 45 4 0) 45 5 0) 45 6 0, σ.2)) [sy_cc .eq ordr 1] (by decide +kernel) rfl ⟨c1, trivial⟩ ?_
    refine sy_bk [(.iconst 0, 0, 0, 0, 0), (.istore_n 3, 0, 0, 0, 0)] (50, [some (.ref 45), some (.ref k), some (.int ordr), some (.int 0)], [], (sy_up (sy_up (sy_up (sy_up (sy_cp σ.1 k 46 16) 45 3 ordr) 45 4 0) 45 5 0) 45 6 0, σ.2)) [] (by decide +kernel) rfl trivial ?_
    refine sy_drop [some (.ref 45), none, none, some (.int 0)] ⟨rfl, rfl, trivial⟩ ?_
    exact k1 c1
  · refine sy_bk [(.if_icmp .eq 11, 0, 48, 0, 0)] (40, [some (.ref 45), some (.ref k), some (.int ordr), none], [], (sy_up (sy_up (sy_up (sy_up (sy_cp σ.1 k 46 16) 45 3 ordr) 45 4 0) 45 5 0) 45 6 0, σ.2)) [¬ sy_cc .eq ordr 1] (by decide +kernel) rfl ⟨c1, trivial⟩ ?_
    refine sy_bk [(.aload_n 0, 0, 0, 0, 0), (.getfield 28, 4, 3, 0, 0), (.iconst 2, 0, 0, 2, 0)] (45, [some (.ref 45), some (.ref k), some (.int ordr), none], [.int 2, .int ordr], (sy_up (sy_up (sy_up (sy_up (sy_cp σ.1 k 46 16) 45 3 ordr) 45 4 0) 45 5 0) 45 6 0, σ.2)) [] (by decide +kernel) rfl trivial ?_
    by_cases c2 : ¬ ordr = 2
    · refine sy_bk [(.if_icmp .ne 34, 1, 79, 0, 0)] (79, [some (.ref 45), some (.ref k), some (.int ordr), none], [], (sy_up (sy_up (sy_up (sy_up (sy_cp σ.1 k 46 16) 45 3 ordr) 45 4 0) 45 5 0) 45 6 0, σ.2)) [sy_cc .ne ordr 2] (by decide +kernel) rfl ⟨c2, trivial⟩ ?_
      exact sy_retv rfl (by decide +kernel) (k2 c1 c2)
    · refine sy_bk [(.if_icmp .ne 34, 0, 79, 0, 0)] (48, [some (.ref 45), some (.ref k), some (.int ordr), none], [], (sy_up (sy_up (sy_up (sy_up (sy_cp σ.1 k 46 16) 45 3 ordr) 45 4 0) 45 5 0) 45 6 0, σ.2)) [¬ sy_cc .ne ordr 2] (by decide +kernel) rfl ⟨c2, trivial⟩ ?_
      refine sy_bk [(.iconst 0, 0, 0, 0, 0), (.istore_n 3, 0, 0, 0, 0)] (50, [some (.ref 45), some (.ref k), some (.int ordr), some (.int 0)], [], (sy_up (sy_up (sy_up (sy_up (sy_cp σ.1 k 46 16) 45 3 ordr) 45 4 0) 45 5 0) 45 6 0, σ.2)) [] (by decide +kernel) rfl trivial ?_
      refine sy_drop [some (.ref 45), none, none, some (.int 0)] ⟨rfl, rfl, trivial⟩ ?_
      exact k3 c1 c2

set_option maxRecDepth 20000 in
theorem w_b_begin_50 {Q : Option Value → sy_S → Prop} {σ : sy_S} {i : Int32}  (b1 : ¬ ((σ.1 0 7) ≤ i) → vp_in i 16) (k1 : (σ.1 0 7) ≤ i → Q none σ) (k2 : ¬ ((σ.1 0 7) ≤ i) → sy_E shX mX4_lineUp (0, sy_ent [.ref 45, .int (σ.1 2 i.toNatClampNeg)] 3, [], σ) (fun r9 σ9 => sy_E shX mX4_begin (73, [some (.ref 45), none, none, some (.int i)], r9.toList ++ [], σ9) Q)) : sy_E shX mX4_begin (50, [some (.ref 45), none, none, some (.int i)], [], σ) Q := by
  refine sy_bk [(.iload_n 3, 0, 0, 0, 0), (.aload_n 0, 0, 0, 0, 0), (.getfield 18, 4, 0, 0, 0)] (55, [some (.ref 45), none, none, some (.int i)], [.ref 0, .int i], σ) [] (by decide +kernel) rfl trivial ?_
  refine sy_callV mX3_placeCount 0 [] [.int i] kX3_placeCount jX4_41 (by decide +kernel) rfl rfl (Nat.le_of_ble_eq_true rfl) (Nat.le_of_ble_eq_true rfl) (by decide) rfl ?_
  refine w_x_placeCount (σ := σ) ?_
  show sy_E shX mX4_begin (58, [some (.ref 45), none, none, some (.int i)], [.int (σ.1 0 7), .int i], σ) _
  by_cases c1 : (σ.1 0 7) ≤ i
  · refine sy_bk [(.if_icmp .ge 21, 1, 79, 0, 0)] (79, [some (.ref 45), none, none, some (.int i)], [], σ) [sy_cc .ge i (σ.1 0 7)] (by decide +kernel) rfl ⟨c1, trivial⟩ ?_
    exact sy_retv rfl (by decide +kernel) (k1 c1)
  · refine sy_bk [(.if_icmp .ge 21, 0, 79, 0, 0)] (61, [some (.ref 45), none, none, some (.int i)], [], σ) [¬ sy_cc .ge i (σ.1 0 7)] (by decide +kernel) rfl ⟨c1, trivial⟩ ?_
    refine sy_bk [(.aload_n 0, 0, 0, 0, 0), (.aload_n 0, 0, 0, 0, 0), (.getfield 18, 4, 0, 0, 0), (.iload_n 3, 0, 0, 0, 0)] (67, [some (.ref 45), none, none, some (.int i)], [.int i, .ref 0, .ref 45], σ) [] (by decide +kernel) rfl trivial ?_
    refine sy_callV mX3_placeAt 0 [.int i] [.ref 45] kX3_placeAt jX4_47 (by decide +kernel) rfl rfl (Nat.le_of_ble_eq_true rfl) (Nat.le_of_ble_eq_true rfl) (by decide) rfl ?_
    refine w_x_placeAt (σ := σ) (cell := i) (b1 c1) ?_
    show sy_E shX mX4_begin (70, [some (.ref 45), none, none, some (.int i)], [.int (σ.1 2 i.toNatClampNeg), .ref 45], σ) _
    refine sy_callV mX4_lineUp 45 [.int (σ.1 2 i.toNatClampNeg)] [] kX4_lineUp jX4_51 (by decide +kernel) rfl rfl (Nat.le_of_ble_eq_true rfl) (Nat.le_of_ble_eq_true rfl) (by decide) rfl ?_
    exact k2 c1

set_option maxRecDepth 20000 in
theorem w_b_begin_73 {Q : Option Value → sy_S → Prop} {σ : sy_S} {i : Int32}   (k1 : sy_E shX mX4_begin (50, [some (.ref 45), none, none, some (.int (i + 1))], [], σ) Q) : sy_E shX mX4_begin (73, [some (.ref 45), none, none, some (.int i)], [], σ) Q := by
  refine sy_bk [(.iinc 3 1, 0, 0, 1, 0), (.goto (-26), 0, 50, 0, 0)] (50, [some (.ref 45), none, none, some (.int (i + 1))], [], σ) [] (by decide +kernel) rfl trivial ?_
  exact k1

set_option maxRecDepth 20000 in
theorem w_b_step_0 {Q : Option Value → sy_S → Prop} {σ : sy_S}    (k1 : sy_E shX mX4_chosen (0, sy_ent [.ref 45] 1, [], σ) (fun r9 σ9 => sy_E shX mX4_step (4, [some (.ref 45), none, none], r9.toList ++ [], σ9) Q)) : sy_E shX mX4_step (0, sy_ent [.ref 45] 3, [], σ) Q := by
  show sy_E shX mX4_step (0, [some (.ref 45), none, none], [], σ) _
  refine sy_bk [(.aload_n 0, 0, 0, 0, 0)] (1, [some (.ref 45), none, none], [.ref 45], σ) [] (by decide +kernel) rfl trivial ?_
  refine sy_callV mX4_chosen 45 [] [] kX4_chosen jX4_55 (by decide +kernel) rfl rfl (Nat.le_of_ble_eq_true rfl) (Nat.le_of_ble_eq_true rfl) (by decide) rfl ?_
  exact k1

set_option maxRecDepth 20000 in
theorem w_b_step_4 {Q : Option Value → sy_S → Prop} {σ : sy_S} {c : Int32}   (k1 : 0 ≤ c → sy_E shX mX3_spill (0, sy_ent [.ref 0, .ref 46, .int c, .int 1] 7, [], σ) (fun r9 σ9 => sy_E shX mX4_step (24, [some (.ref 45), some (.int c), none], r9.toList ++ [], σ9) Q)) (k2 : ¬ (0 ≤ c) → Q (some (.int (-1))) σ) : sy_E shX mX4_step (4, [some (.ref 45), none, none], [.int c], σ) Q := by
  refine sy_bk [(.istore_n 1, 0, 0, 0, 0), (.iload_n 1, 0, 0, 0, 0)] (6, [some (.ref 45), some (.int c), none], [.int c], σ) [] (by decide +kernel) rfl trivial ?_
  by_cases c1 : 0 ≤ c
  · refine sy_bk [(.ifCond .ge 5, 1, 11, 0, 0)] (11, [some (.ref 45), some (.int c), none], [], σ) [sy_cc .ge c 0] (by decide +kernel) rfl ⟨c1, trivial⟩ ?_
    refine sy_bk [(.aload_n 0, 0, 0, 0, 0), (.getfield 18, 4, 0, 0, 0), (.aload_n 0, 0, 0, 0, 0), (.getfield 9, 4, 1, 0, 0), (.iload_n 1, 0, 0, 0, 0), (.iconst 1, 0, 0, 1, 0)] (21, [some (.ref 45), some (.int c), none], [.int 1, .int c, .ref 46, .ref 0], σ) [] (by decide +kernel) rfl trivial ?_
    refine sy_callV mX3_spill 0 [.ref 46, .int c, .int 1] [] kX3_spill jX4_58 (by decide +kernel) rfl rfl (Nat.le_of_ble_eq_true rfl) (Nat.le_of_ble_eq_true rfl) (by decide) rfl ?_
    exact k1 c1
  · refine sy_bk [(.ifCond .ge 5, 0, 11, 0, 0)] (9, [some (.ref 45), some (.int c), none], [], σ) [¬ sy_cc .ge c 0] (by decide +kernel) rfl ⟨c1, trivial⟩ ?_
    refine sy_bk [(.iconst (-1), 0, 0, (-1), 0)] (10, [some (.ref 45), some (.int c), none], [.int (-1)], σ) [] (by decide +kernel) rfl trivial ?_
    exact sy_reti rfl (by decide +kernel) (k2 c1)

set_option maxRecDepth 20000 in
theorem w_b_step_24 {Q : Option Value → sy_S → Prop} {σ : sy_S} {c : Int32}   (k1 : (σ.1 45 3) = 1 → sy_E shX mX4_step (42, [some (.ref 45), some (.int c), some (.int 0)], [], σ) Q) (k2 : ¬ ((σ.1 45 3) = 1) → ¬ (σ.1 45 3) = 2 → Q (some (.int c)) σ) (k3 : ¬ ((σ.1 45 3) = 1) → ¬ (¬ (σ.1 45 3) = 2) → sy_E shX mX4_step (42, [some (.ref 45), some (.int c), some (.int 0)], [], σ) Q) : sy_E shX mX4_step (24, [some (.ref 45), some (.int c), none], [], σ) Q := by
  refine sy_bk [(.aload_n 0, 0, 0, 0, 0), (.getfield 28, 4, 3, 0, 0), (.iconst 1, 0, 0, 1, 0)] (29, [some (.ref 45), some (.int c), none], [.int 1, .int (σ.1 45 3)], σ) [] (by decide +kernel) rfl trivial ?_
  by_cases c1 : (σ.1 45 3) = 1
  · refine sy_bk [(.if_icmp .eq 11, 1, 40, 0, 0)] (40, [some (.ref 45), some (.int c), none], [], σ) [sy_cc .eq (σ.1 45 3) 1] (by decide +kernel) rfl ⟨c1, trivial⟩ ?_
    refine sy_bk [(.iconst 0, 0, 0, 0, 0), (.istore_n 2, 0, 0, 0, 0)] (42, [some (.ref 45), some (.int c), some (.int 0)], [], σ) [] (by decide +kernel) rfl trivial ?_
    exact k1 c1
  · refine sy_bk [(.if_icmp .eq 11, 0, 40, 0, 0)] (32, [some (.ref 45), some (.int c), none], [], σ) [¬ sy_cc .eq (σ.1 45 3) 1] (by decide +kernel) rfl ⟨c1, trivial⟩ ?_
    refine sy_bk [(.aload_n 0, 0, 0, 0, 0), (.getfield 28, 4, 3, 0, 0), (.iconst 2, 0, 0, 2, 0)] (37, [some (.ref 45), some (.int c), none], [.int 2, .int (σ.1 45 3)], σ) [] (by decide +kernel) rfl trivial ?_
    by_cases c2 : ¬ (σ.1 45 3) = 2
    · refine sy_bk [(.if_icmp .ne 41, 1, 78, 0, 0)] (78, [some (.ref 45), some (.int c), none], [], σ) [sy_cc .ne (σ.1 45 3) 2] (by decide +kernel) rfl ⟨c2, trivial⟩ ?_
      refine sy_bk [(.iload_n 1, 0, 0, 0, 0)] (79, [some (.ref 45), some (.int c), none], [.int c], σ) [] (by decide +kernel) rfl trivial ?_
      exact sy_reti rfl (by decide +kernel) (k2 c1 c2)
    · refine sy_bk [(.if_icmp .ne 41, 0, 78, 0, 0)] (40, [some (.ref 45), some (.int c), none], [], σ) [¬ sy_cc .ne (σ.1 45 3) 2] (by decide +kernel) rfl ⟨c2, trivial⟩ ?_
      refine sy_bk [(.iconst 0, 0, 0, 0, 0), (.istore_n 2, 0, 0, 0, 0)] (42, [some (.ref 45), some (.int c), some (.int 0)], [], σ) [] (by decide +kernel) rfl trivial ?_
      exact k3 c1 c2

set_option maxRecDepth 20000 in
theorem w_b_step_42 {Q : Option Value → sy_S → Prop} {σ : sy_S} {c : Int32} {i : Int32}  (b1 : vp_in c 16) (b2 : ¬ ((σ.1 5 c.toNatClampNeg) ≤ i) → vp_in ((c * 4) + i) 64) (k1 : (σ.1 5 c.toNatClampNeg) ≤ i → sy_E shX mX4_lineUp (0, sy_ent [.ref 45, .int c] 3, [], σ) (fun r9 σ9 => sy_E shX mX4_step (78, [none, some (.int c), none], r9.toList ++ [], σ9) Q)) (k2 : ¬ ((σ.1 5 c.toNatClampNeg) ≤ i) → sy_E shX mX4_lineUp (0, sy_ent [.ref 45, .int (σ.1 4 (((c * 4) + i).toNatClampNeg))] 3, [], σ) (fun r9 σ9 => sy_E shX mX4_step (67, [some (.ref 45), some (.int c), some (.int i)], r9.toList ++ [], σ9) Q)) : sy_E shX mX4_step (42, [some (.ref 45), some (.int c), some (.int i)], [], σ) Q := by
  refine sy_bk [(.iload_n 2, 0, 0, 0, 0), (.aload_n 0, 0, 0, 0, 0), (.getfield 18, 4, 0, 0, 0), (.iload_n 1, 0, 0, 0, 0)] (48, [some (.ref 45), some (.int c), some (.int i)], [.int c, .ref 0, .int i], σ) [] (by decide +kernel) rfl trivial ?_
  refine sy_callV mX3_nextCount 0 [.int c] [.int i] kX3_nextCount jX4_62 (by decide +kernel) rfl rfl (Nat.le_of_ble_eq_true rfl) (Nat.le_of_ble_eq_true rfl) (by decide) rfl ?_
  refine w_x_nextCount (σ := σ) (cell := c) b1 ?_
  show sy_E shX mX4_step (51, [some (.ref 45), some (.int c), some (.int i)], [.int (σ.1 5 c.toNatClampNeg), .int i], σ) _
  by_cases c1 : (σ.1 5 c.toNatClampNeg) ≤ i
  · refine sy_bk [(.if_icmp .ge 22, 1, 73, 0, 0)] (73, [some (.ref 45), some (.int c), some (.int i)], [], σ) [sy_cc .ge i (σ.1 5 c.toNatClampNeg)] (by decide +kernel) rfl ⟨c1, trivial⟩ ?_
    refine sy_bk [(.aload_n 0, 0, 0, 0, 0), (.iload_n 1, 0, 0, 0, 0)] (75, [some (.ref 45), some (.int c), some (.int i)], [.int c, .ref 45], σ) [] (by decide +kernel) rfl trivial ?_
    refine sy_drop [none, some (.int c), none] ⟨rfl, trivial⟩ ?_
    refine sy_callV mX4_lineUp 45 [.int c] [] kX4_lineUp jX4_51 (by decide +kernel) rfl rfl (Nat.le_of_ble_eq_true rfl) (Nat.le_of_ble_eq_true rfl) (by decide) rfl ?_
    exact k1 c1
  · refine sy_bk [(.if_icmp .ge 22, 0, 73, 0, 0)] (54, [some (.ref 45), some (.int c), some (.int i)], [], σ) [¬ sy_cc .ge i (σ.1 5 c.toNatClampNeg)] (by decide +kernel) rfl ⟨c1, trivial⟩ ?_
    refine sy_bk [(.aload_n 0, 0, 0, 0, 0), (.aload_n 0, 0, 0, 0, 0), (.getfield 18, 4, 0, 0, 0), (.iload_n 1, 0, 0, 0, 0), (.iload_n 2, 0, 0, 0, 0)] (61, [some (.ref 45), some (.int c), some (.int i)], [.int i, .int c, .ref 0, .ref 45], σ) [] (by decide +kernel) rfl trivial ?_
    refine sy_callV mX3_nextAt 0 [.int c, .int i] [.ref 45] kX3_nextAt jX4_65 (by decide +kernel) rfl rfl (Nat.le_of_ble_eq_true rfl) (Nat.le_of_ble_eq_true rfl) (by decide) rfl ?_
    refine w_x_nextAt (σ := σ) (cell := c) (side := i) (b2 c1) ?_
    show sy_E shX mX4_step (64, [some (.ref 45), some (.int c), some (.int i)], [.int (σ.1 4 (((c * 4) + i).toNatClampNeg)), .ref 45], σ) _
    refine sy_callV mX4_lineUp 45 [.int (σ.1 4 (((c * 4) + i).toNatClampNeg))] [] kX4_lineUp jX4_51 (by decide +kernel) rfl rfl (Nat.le_of_ble_eq_true rfl) (Nat.le_of_ble_eq_true rfl) (by decide) rfl ?_
    exact k2 c1

set_option maxRecDepth 20000 in
theorem w_b_step_67 {Q : Option Value → sy_S → Prop} {σ : sy_S} {c : Int32} {i : Int32}   (k1 : sy_E shX mX4_step (42, [some (.ref 45), some (.int c), some (.int (i + 1))], [], σ) Q) : sy_E shX mX4_step (67, [some (.ref 45), some (.int c), some (.int i)], [], σ) Q := by
  refine sy_bk [(.iinc 2 1, 0, 0, 1, 0), (.goto (-28), 0, 42, 0, 0)] (42, [some (.ref 45), some (.int c), some (.int (i + 1))], [], σ) [] (by decide +kernel) rfl trivial ?_
  exact k1

set_option maxRecDepth 20000 in
theorem w_b_step_78 {Q : Option Value → sy_S → Prop} {σ : sy_S} {c : Int32}   (k1 : Q (some (.int c)) σ) : sy_E shX mX4_step (78, [none, some (.int c), none], [], σ) Q := by
  refine sy_bk [(.iload_n 1, 0, 0, 0, 0)] (79, [none, some (.int c), none], [.int c], σ) [] (by decide +kernel) rfl trivial ?_
  exact sy_reti rfl (by decide +kernel) (k1)
end
section
/-! March: contracts (by program: wip/whole/gen/p37.py) -/
theorem bts_or (p : Nat → Bool) {c : Nat} (hc : c < 16) : bts p (List.range 16) ||| (1 <<< (nI c &&& 31)) = bts (fun x => p x || decide (x = c)) (List.range 16) := by
  apply b_ext
  intro i hi
  rw [b_or, bts_bt _ (by decide) hi, bts_bt _ (by decide) hi, b_shl c (by omega) 1 hi, b_1 _ (by omega)]
  by_cases e : i = c
  · subst e; simp [hc]
  · rw [decide_eq_false e]
    by_cases l : c ≤ i
    · rw [decide_eq_false (show ¬ i - c = 0 by omega)]; simp
    · rw [decide_eq_false l]; simp
theorem bts_and (p : Nat → Bool) {c : Nat} (hc : c < 16) : bts p (List.range 16) &&& ((1 <<< (nI c &&& 31)) ^^^ (-1)) = bts (fun x => p x && !decide (x = c)) (List.range 16) := by
  apply b_ext
  intro i hi
  rw [b_and, bts_bt _ (by decide) hi, bts_bt _ (by decide) hi, b_xor, b_shl c (by omega) 1 hi, b_1 _ (by omega), b_m1 i hi]
  by_cases e : i = c
  · subst e; simp
  · rw [decide_eq_false e]
    by_cases l : c ≤ i
    · rw [decide_eq_false (show ¬ i - c = 0 by omega)]; simp
    · rw [decide_eq_false l]; simp
theorem nodup_len : ∀ (n : Nat) (l : List Nat), l.Nodup → (∀ x, x ∈ l → x < n) → l.length ≤ n := by
  intro n
  induction n with
  | zero =>
    intro l _ h
    cases l with
    | nil => exact Nat.le_refl _
    | cons a r => exact absurd (h a List.mem_cons_self) (Nat.not_lt_zero _)
  | succ n ih =>
    intro l hn h
    by_cases m : n ∈ l
    · have h1 := ih (l.erase n) (hn.erase n) (fun x hx => by
        obtain ⟨h2, h3⟩ := (hn.mem_erase_iff).mp hx
        have := h x h3
        omega)
      have h2 := List.length_erase_of_mem m
      have h3 : 0 < l.length := List.length_pos_of_mem m
      omega
    · have h1 := ih l hn (fun x hx => by
        have := h x hx
        have : x ≠ n := fun e => m (e ▸ hx)
        omega)
      omega
/-- the row of an order in the store: object M, ring M + 2 -/
def mq (M : Nat) (f : Nat → Nat → Int32) (L : List Nat) : Prop := L.Nodup ∧ (∀ c, c ∈ L → c < 16) ∧ ∃ a, a < 16 ∧ f M 4 = nI a ∧ f M 5 = nI L.length ∧ (∀ j o, L[j]? = some o → f (M + 2) ((a + j) % 16) = nI o) ∧ f M 6 = bts (fun c => decide (c ∈ L)) (List.range 16)
def mx (M o : Nat) (H : Nat → Nat) (L : List Nat) (f : Nat → Nat → Int32) : Prop := ar f (M + 1) H ∧ f M 3 = nI o ∧ ((o = 1 ∨ o = 2) → mq M f L)

theorem e_a_lineUp {Q : Option Value → sy_S → Prop} {σ : sy_S} {c : Nat} {H : Nat → Nat} {L : List Nat} (hc : c < 16) (hH : ar σ.1 43 H) (hB : H c < 2 ^ 31) (hq : mq 42 σ.1 L) (kk : ∀ σ' : sy_S, sx [42, 44] σ σ' → σ'.1 42 3 = σ.1 42 3 → mq 42 σ'.1 (mline H L c) → Q none σ') : sy_E shX mX4_lineUp (0, sy_ent [.ref 42, .int (nI c)] 3, [], σ) Q := by
  obtain ⟨q1, q2, a, q3, q4, q5, q6, q7⟩ := id hq
  have ec : (nI c).toNatClampNeg = c := nI_clamp (by omega)
  have hl16 := nodup_len 16 L q1 q2
  have et : (((σ.1 42 6) >>> (nI c &&& 31)) &&& 1) = 0 ↔ c ∉ L := by
    rw [q7, bts_test _ (by decide) hc]
    simp [hc]
  have eix : (σ.1 42 4 + σ.1 42 5) - (σ.1 42 4 + σ.1 42 5) / 16 * 16 = nI ((a + L.length) % 16) := by
    rw [q4, q5, nI_add, show (16 : Int32) = nI 16 from rfl, pk_rem (by omega) (by decide) (by decide)]
  have hm := Nat.mod_lt (a + L.length) (show 0 < 16 by decide)
  refine w_a_lineUp (fun _ => vp_in_nI hc (by decide)) (fun _ _ => by rw [eix]; exact vp_in_nI hm (by decide)) (fun z z2 => ?_) (fun z z2 => ?_) (fun z => ?_)
  · rw [et] at z
    rw [ec, hH c hc, show (3 : Int32) = nI 3 from rfl, nI_leI hB (by decide)] at z2
    refine kk σ sx.rf rfl ?_
    unfold mline
    rw [if_neg (by omega)]
    exact hq
  · rw [et] at z
    rw [ec, hH c hc, show (3 : Int32) = nI 3 from rfl, nI_leI hB (by decide)] at z2
    have hlen : L.length < 16 := by
      have h1 := nodup_len 16 (c :: L) (List.nodup_cons.mpr ⟨z, q1⟩) (fun x hx => (List.mem_cons.mp hx).elim (fun e => e ▸ hc) (q2 x))
      rw [List.length_cons] at h1
      omega
    rw [eix, nI_clamp (show (a + L.length) % 16 < 2 ^ 31 by omega)]
    refine kk _ ⟨fun q hq' => ?_, rfl⟩ ?_ ?_
    · show sy_up (sy_up (sy_up σ.1 44 _ _) 42 5 _) 42 6 _ q = σ.1 q
      simp only [List.mem_cons, List.not_mem_nil, or_false, not_or] at hq'
      rw [sy_up_ne _ _ _ hq'.1, sy_up_ne _ _ _ hq'.1, sy_up_ne _ _ _ hq'.2]
    · rfl
    · unfold mline
      rw [if_pos ⟨z, by omega⟩]
      refine ⟨?_, ?_, a, q3, ?_, ?_, fun j o hj => ?_, ?_⟩
      · rw [List.nodup_append]
        exact ⟨q1, by simp, fun x hx y hy => by rw [List.mem_singleton] at hy; subst hy; exact fun e => z (e ▸ hx)⟩
      · intro x hx
        rcases List.mem_append.mp hx with h | h
        · exact q2 x h
        · rw [List.mem_singleton] at h; subst h; exact hc
      · exact q4
      · show σ.1 42 5 + 1 = _
        rw [q5, nI_1, List.length_append, List.length_singleton]
      · show sy_up σ.1 44 ((a + L.length) % 16) (nI c) 44 ((a + j) % 16) = _
        rw [sy_up2]
        rw [List.getElem?_append] at hj
        split at hj
        · rename_i hlt
          rw [if_neg (by omega)]
          exact q6 j o hj
        · rename_i hge
          have hz : j - L.length = 0 := by
            rcases Nat.eq_zero_or_pos (j - L.length) with q | q
            · exact q
            · rw [List.getElem?_eq_none (by simp only [List.length_singleton]; omega)] at hj; cases hj
          rw [hz] at hj
          cases hj
          rw [if_pos ⟨rfl, by rw [show j = L.length by omega]⟩]
      · show σ.1 42 6 ||| (1 <<< (nI c &&& 31)) = _
        rw [q7, bts_or _ hc]
        apply bts_congr
        intro x _
        simp [List.mem_append]
  · rw [et] at z
    refine kk σ sx.rf rfl ?_
    unfold mline
    rw [if_neg (fun q => z q.1)]
    exact hq
theorem e_a_leave {Q : Option Value → sy_S → Prop} {σ : sy_S} {o : Nat} {L : List Nat} (ho : o = 1 ∨ o = 2) (hq : mq 42 σ.1 L) (k0 : L = [] → Q (some (.int (-1))) σ) (k1 : ∀ (σ' : sy_S) (c : Nat), (if o = 1 then L.head? else L.getLast?) = some c → sx [42] σ σ' → σ'.1 42 3 = σ.1 42 3 → mq 42 σ'.1 (mrest o L) → Q (some (.int (nI c))) σ') : sy_E shX mX4_leave (0, sy_ent [.ref 42, .int (if o = 1 then 1 else 0)] 3, [], σ) Q := by
  obtain ⟨q1, q2, a, q3, q4, q5, q6, q7⟩ := id hq
  have hl16 := nodup_len 16 L q1 q2
  have hz : σ.1 42 5 = 0 ↔ L = [] := by
    rw [q5, nI_lit0, nI_eq (by omega) (by decide)]
    exact List.length_eq_zero_iff
  rcases ho with rfl | rfl
  · rw [if_pos rfl]
    refine w_a_leave1 (fun _ => by rw [q4]; exact vp_in_nI q3 (by decide)) (fun z => ?_) (fun z => k0 (hz.mp (Classical.byContradiction z)))
    rw [hz] at z
    match L, z, q1, q2, q5, q6, q7, k1, hl16 with
    | c :: L', _, q1, q2, q5, q6, q7, k1, hl16 =>
      have hc : c < 16 := q2 c List.mem_cons_self
      have e0 : σ.1 44 ((σ.1 42 4).toNatClampNeg) = nI c := by
        rw [q4, nI_clamp (by omega)]
        have := q6 0 c rfl
        rw [show (a + 0) % 16 = a by omega] at this
        exact this
      have ef : (σ.1 42 4 + 1) - (σ.1 42 4 + 1) / 16 * 16 = nI ((a + 1) % 16) := by
        rw [q4, nI_1, show (16 : Int32) = nI 16 from rfl, pk_rem (by omega) (by decide) (by decide)]
      rw [e0, ef]
      rw [List.nodup_cons] at q1
      refine k1 _ c rfl ⟨fun q hq' => ?_, rfl⟩ ?_ ⟨q1.2, fun x hx => q2 x (List.mem_cons_of_mem _ hx), (a + 1) % 16, Nat.mod_lt _ (by decide), ?_, ?_, fun j o hj => ?_, ?_⟩
      · show sy_up (sy_up (sy_up σ.1 42 4 _) 42 5 _) 42 6 _ q = σ.1 q
        simp only [List.mem_singleton] at hq'
        rw [sy_up_ne _ _ _ hq', sy_up_ne _ _ _ hq', sy_up_ne _ _ _ hq']
      · rfl
      · rfl
      · show σ.1 42 5 - 1 = nI L'.length
        rw [q5, nI_lit1, pk_sub (by simp), List.length_cons, Nat.add_sub_cancel]
      · show σ.1 44 (((a + 1) % 16 + j) % 16) = nI o
        have := q6 (j + 1) o hj
        rw [show (a + (j + 1)) % 16 = ((a + 1) % 16 + j) % 16 by omega] at this
        exact this
      · show σ.1 42 6 &&& ((1 <<< (nI c &&& 31)) ^^^ (-1)) = bts (fun x => decide (x ∈ L')) (List.range 16)
        rw [q7, bts_and _ hc]
        apply bts_congr
        intro x _
        by_cases e : x = c
        · subst e; simp [q1.1]
        · simp [e]
  · rw [if_neg (by decide)]
    have evl : ∀ n, L.length = n + 1 → (σ.1 42 4 + σ.1 42 5 - 1) - (σ.1 42 4 + σ.1 42 5 - 1) / 16 * 16 = nI ((a + n) % 16) := by
      intro n hn
      rw [q4, q5, hn, nI_add, nI_lit1, pk_sub (by omega), show a + (n + 1) - 1 = a + n by omega, show (16 : Int32) = nI 16 from rfl, pk_rem (by omega) (by decide) (by decide)]
    refine w_a_leave0 (fun z => ?_) (fun z => ?_) (fun z => k0 (hz.mp (Classical.byContradiction z)))
    · rw [hz] at z
      obtain ⟨n, hn⟩ : ∃ n, L.length = n + 1 := ⟨L.length - 1, by have := List.length_pos_iff.mpr z; omega⟩
      rw [evl n hn]
      exact vp_in_nI (Nat.mod_lt _ (by decide)) (by decide)
    · rw [hz] at z
      obtain ⟨n, hn⟩ : ∃ n, L.length = n + 1 := ⟨L.length - 1, by have := List.length_pos_iff.mpr z; omega⟩
      have h1 := List.dropLast_concat_getLast z
      obtain ⟨c, hcL⟩ : ∃ c, c = L.getLast z := ⟨_, rfl⟩
      obtain ⟨D, hD⟩ : ∃ D, D = L.dropLast := ⟨_, rfl⟩
      rw [← hcL, ← hD] at h1
      have hmr : mrest 2 L = D := by unfold mrest; rw [if_neg (by decide), hD]
      have hdl : D.length = n := by
        have := congrArg List.length h1
        rw [List.length_append, List.length_singleton, hn] at this
        omega
      have hc : c < 16 := q2 c (by rw [← h1]; simp)
      have hidx : L[n]? = some c := by rw [← h1, List.getElem?_append_right (by omega), hdl, Nat.sub_self]; rfl
      have ern : (nI ((a + n) % 16)).toNatClampNeg = (a + n) % 16 := nI_clamp (by omega)
      rw [evl n hn, ern, q6 n c hidx]
      have hnd := q1
      rw [← h1, List.nodup_append] at hnd
      rw [hmr] at k1
      refine k1 _ c (by rw [if_neg (by decide), List.getLast?_eq_some_getLast z, hcL]) ⟨fun q hq' => ?_, rfl⟩ ?_ ⟨hnd.1, fun x hx => q2 x (by rw [← h1]; exact List.mem_append_left _ hx), a, q3, ?_, ?_, fun j o hj => ?_, ?_⟩
      · show sy_up (sy_up σ.1 42 5 _) 42 6 _ q = σ.1 q
        simp only [List.mem_singleton] at hq'
        rw [sy_up_ne _ _ _ hq', sy_up_ne _ _ _ hq']
      · rfl
      · exact q4
      · show σ.1 42 5 - 1 = nI D.length
        rw [q5, hn, nI_lit1, pk_sub (by omega), hdl]
        rfl
      · show σ.1 44 ((a + j) % 16) = nI o
        refine q6 j o ?_
        rw [← h1, List.getElem?_append_left (List.getElem?_eq_some_iff.mp hj).1]
        exact hj
      · show σ.1 42 6 &&& ((1 <<< (nI c &&& 31)) ^^^ (-1)) = bts (fun x => decide (x ∈ D)) (List.range 16)
        rw [q7, bts_and _ hc]
        apply bts_congr
        intro x _
        have hm : x ∈ L ↔ x ∈ D ∨ x = c := by rw [← h1, List.mem_append, List.mem_singleton]
        by_cases e : x = c
        · subst e
          have : x ∉ D := fun h => hnd.2.2 x h x (List.mem_singleton.mpr rfl) rfl
          simp [this]
        · simp [hm, e]
theorem e_a_least {Q : Option Value → sy_S → Prop} {σ : sy_S} {G : sg_G} {H : Nat → Nat} (hg : gx G σ.1) (hH : ar σ.1 43 H) (hB : ∀ j, j < 16 → H j < 2 ^ 31) (kk : Q (some (.int (((sg_P G).find? fun c => decide (3 < H c)).elim (-1) nI))) σ) : sy_E shX mX4_leastCell (0, sy_ent [.ref 42] 3, [], σ) Q := by
  have hP := sg_P_len hg.1
  refine w_a_least_0 ?_
  have hl := sy_loop (sh := shX) (y := mX4_leastCell) (Q := Q) (fun i σ' => (2, [some (.ref 42), some (.int (nI i)), none], [], σ')) (fun i σ' => σ' = σ ∧ (sg_P G).find? (fun c => decide (3 < H c)) = ((sg_P G).drop i).find? (fun c => decide (3 < H c))) (sg_P G).length ?_ ?_ 0 σ (Nat.zero_le _) ⟨rfl, rfl⟩
  · exact hl
  · rintro i σ' hi ⟨rfl, hI⟩ ih
    obtain ⟨c, p1, p2, p3, p4, p5⟩ := gx_pl hg hi
    have ei : (nI i).toNatClampNeg = i := nI_clamp (by omega)
    have hd : (sg_P G).drop i = c :: (sg_P G).drop (i + 1) := by
      rw [List.drop_eq_getElem_cons hi]
      rw [List.getElem?_eq_getElem hi] at p1
      cases p1
      rfl
    refine w_a_least_2 (fun _ => vp_in_nI (by omega) (by decide)) (fun _ => by rw [ei, p4]; exact vp_in_nI p3 (by decide)) (fun q => ?_) (fun _ q => ?_) (fun _ q => ?_)
    · rw [gx_n7 hg] at q; exact absurd q (nI_ge hi (by omega))
    · rw [ei, p5, hH c p3, show (3 : Int32) = nI 3 from rfl, nI_leI (hB c p3) (by decide)] at q
      rw [nI_1]
      refine ih σ' ⟨rfl, ?_⟩
      rw [hI, hd, List.find?_cons, decide_eq_false (show ¬ 3 < H c by omega)]
    · rw [ei, p5, hH c p3, show (3 : Int32) = nI 3 from rfl, nI_leI (hB c p3) (by decide)] at q
      rw [hI, hd, List.find?_cons, decide_eq_true (show 3 < H c by omega)] at kk
      rw [ei, p4]
      exact kk
  · rintro σ' ⟨rfl, hI⟩
    rw [hI, List.drop_length] at kk
    refine w_a_least_2 (fun q => ?_) (fun q => ?_) (fun _ => kk) (fun q => ?_) (fun q => ?_)
    all_goals exact absurd (by rw [gx_n7 hg]; exact nI_le (Nat.le_refl _) (by omega)) q
theorem e_a_tall {Q : Option Value → sy_S → Prop} {σ : sy_S} {G : sg_G} {H : Nat → Nat} (hg : gx G σ.1) (hH : ar σ.1 43 H) (hB : ∀ j, j < 16 → H j < 2 ^ 31) (kk : Q (some (.int (((sg_P G).foldl (mtall H) none).elim (-1) nI))) σ) : sy_E shX mX4_tallestCell (0, sy_ent [.ref 42] 5, [], σ) Q := by
  have hP := sg_P_len hg.1
  refine w_a_tall_0 ?_
  refine sx_fold (sg_P G) (fun l i => (6, [some (.ref 42), some (.int ((l.foldl (mtall H) none).elim (-1) nI)), some (.int ((l.foldl (mtall H) none).elim 3 (fun d => nI (H d)))), some (.int (nI i)), none], [], σ)) ?_ ?_
  · intro i c hc ih
    have hi := (List.getElem?_eq_some_iff.mp hc).1
    obtain ⟨c', p1, p2, p3, p4, p5⟩ := gx_pl hg hi
    rw [hc] at p1; cases p1
    have ei : (nI i).toNatClampNeg = i := nI_clamp (by omega)
    rw [List.foldl_append] at ih
    have hpl : ∀ d, ((sg_P G).take i).foldl (mtall H) none = some d → d < 16 := by
      intro d hd
      have := (mtall_fold (G := G) (H := H) ((sg_P G).take i) (fun x hx => sg_P_mem.mp (List.mem_of_mem_take hx)) none (fun d hd => by cases hd)).1 d hd
      exact Nat.lt_of_lt_of_le this.1.1 (sg_n16 hg.1)
    generalize hb : ((sg_P G).take i).foldl (mtall H) none = b at ih hpl
    refine w_a_tall_6 (fun _ => vp_in_nI (by omega) (by decide)) (fun _ => by rw [ei, p4]; exact vp_in_nI p3 (by decide)) (fun q => ?_) (fun _ q => ?_) (fun _ q => ?_)
    · rw [gx_n7 hg] at q; exact absurd q (nI_ge hi (by omega))
    · rw [ei, p5, hH c p3] at q
      have e : mtall H b c = b := by
        cases b with
        | none =>
          have q : nI (H c) ≤ nI 3 := q
          rw [nI_leI (hB c p3) (by decide)] at q
          show (if 3 < H c then some c else none) = none
          rw [if_neg (by omega)]
        | some d =>
          have q : nI (H c) ≤ nI (H d) := q
          rw [nI_leI (hB c p3) (hB d (hpl d rfl))] at q
          show (if H d < H c then some c else some d) = some d
          rw [if_neg (by omega)]
      simp only [List.foldl_cons, List.foldl_nil, e] at ih
      rw [nI_1]
      exact ih
    · rw [ei, p5, hH c p3] at q
      have e : mtall H b c = some c := by
        cases b with
        | none =>
          have q : ¬ nI (H c) ≤ nI 3 := q
          rw [nI_leI (hB c p3) (by decide)] at q
          show (if 3 < H c then some c else none) = some c
          rw [if_pos (by omega)]
        | some d =>
          have q : ¬ nI (H c) ≤ nI (H d) := q
          rw [nI_leI (hB c p3) (hB d (hpl d rfl))] at q
          show (if H d < H c then some c else some d) = some c
          rw [if_pos (by omega)]
      simp only [List.foldl_cons, List.foldl_nil, e] at ih
      rw [nI_1, ei, p5, p4, hH c p3]
      exact ih
  · refine w_a_tall_6 (fun q => ?_) (fun q => ?_) (fun _ => kk) (fun q => ?_) (fun q => ?_)
    all_goals exact absurd (by rw [gx_n7 hg]; exact nI_le (Nat.le_refl _) (by omega)) q
theorem e_a_chosen {Q : Option Value → sy_S → Prop} {σ : sy_S} {G : sg_G} {o : Nat} {H : Nat → Nat} {L : List Nat} (ho : o < 4) (hg : gx G σ.1) (hm : mx 42 o H L σ.1) (hB : ∀ j, j < 16 → H j < 2 ^ 31) (k0 : mpick G o H L = none → Q (some (.int (-1))) σ) (k1 : ∀ (σ' : sy_S) (c : Nat), mpick G o H L = some c → sx [42] σ σ' → mx 42 o H (if o = 1 ∨ o = 2 then mrest o L else L) σ'.1 → Q (some (.int (nI c))) σ') : sy_E shX mX4_chosen (0, sy_ent [.ref 42] 1, [], σ) Q := by
  obtain ⟨m1, m2, m3⟩ := id hm
  match o, ho, m2, m3, k0, k1, hm with
  | 0, _, m2, m3, k0, k1, hm =>
    refine w_a_chosen_0 (fun _ => ?_) (fun q => absurd m2 q) (fun q => absurd m2 q) (fun q => absurd m2 q)
    refine e_a_least hg m1 hB (w_a_chosen_36 ?_)
    cases hp : (sg_P G).find? (fun c => decide (3 < H c)) with
    | none => exact k0 hp
    | some c => exact k1 σ c hp sx.rf hm
  | 1, _, m2, m3, k0, k1, hm =>
    refine w_a_chosen_0 (fun q => ?_) (fun _ _ => ?_) (fun _ q => absurd m2 q) (fun _ q => absurd m2 q)
    · rw [m2] at q; exact absurd q (by decide)
    · refine e_a_leave (o := 1) (Or.inl rfl) (m3 (Or.inl rfl)) (fun e => w_a_chosen_42 (k0 ?_)) (fun σ' c hc h1 h2 h3 => w_a_chosen_42 (k1 σ' c hc h1 ⟨fun j hj => ?_, by rw [h2]; exact m2, fun _ => h3⟩))
      · rw [e]; rfl
      · rw [h1.1 43 (by decide)]; exact m1 j hj
  | 2, _, m2, m3, k0, k1, hm =>
    refine w_a_chosen_0 (fun q => ?_) (fun _ q => ?_) (fun _ _ _ => ?_) (fun _ _ q => absurd m2 q)
    · rw [m2] at q; exact absurd q (by decide)
    · rw [m2] at q; exact absurd q (by decide)
    · refine e_a_leave (o := 2) (Or.inr rfl) (m3 (Or.inr rfl)) (fun e => w_a_chosen_48 (k0 ?_)) (fun σ' c hc h1 h2 h3 => w_a_chosen_48 (k1 σ' c hc h1 ⟨fun j hj => ?_, by rw [h2]; exact m2, fun _ => h3⟩))
      · rw [e]; rfl
      · rw [h1.1 43 (by decide)]; exact m1 j hj
  | 3, _, m2, m3, k0, k1, hm =>
    refine w_a_chosen_0 (fun q => ?_) (fun _ q => ?_) (fun _ _ q => ?_) (fun _ _ _ => ?_)
    · rw [m2] at q; exact absurd q (by decide)
    · rw [m2] at q; exact absurd q (by decide)
    · rw [m2] at q; exact absurd q (by decide)
    · refine e_a_tall hg m1 hB (w_a_chosen_53 ?_)
      cases hp : (sg_P G).foldl (mtall H) none with
      | none => exact k0 hp
      | some c => exact k1 σ c hp sx.rf hm
theorem e_a_lines {Q : Option Value → sy_S → Prop} {H : Nat → Nat} (σ : sy_S) (cf : Nat → sy_S → sy_Cf) (cg : Nat → Option Value → sy_S → sy_Cf) (y : sy_M) (l : List Nat) (hl : ∀ c, c ∈ l → c < 16) (hB : ∀ j, j < 16 → H j < 2 ^ 31) (o : Nat) (L0 : List Nat)
    (step : ∀ (i : Nat) (σ' : sy_S) (c : Nat), l[i]? = some c → sx [42, 44] σ σ' → sy_E shX mX4_lineUp (0, sy_ent [.ref 42, .int (nI c)] 3, [], σ') (fun r9 σ9 => sy_E shX y (cg i r9 σ9) Q) → sy_E shX y (cf i σ') Q)
    (step2 : ∀ (i : Nat) (σ' : sy_S), sy_E shX y (cf (i + 1) σ') Q → sy_E shX y (cg i none σ') Q)
    (exit : ∀ σ' : sy_S, sx [42, 44] σ σ' → mx 42 o H (l.foldl (mline H) L0) σ'.1 → sy_E shX y (cf l.length σ') Q) (ho : o = 1 ∨ o = 2) (h0 : mx 42 o H L0 σ.1) : sy_E shX y (cf 0 σ) Q := by
  have key : ∀ (d i : Nat) (σ' : sy_S), i + d = l.length → sx [42, 44] σ σ' → mx 42 o H ((l.take i).foldl (mline H) L0) σ'.1 → sy_E shX y (cf i σ') Q := by
    intro d
    induction d with
    | zero =>
      intro i σ' hi hs hm
      have e : i = l.length := hi
      subst e
      rw [List.take_length] at hm
      exact exit σ' hs hm
    | succ d ih =>
      intro i σ' hi hs hm
      have hil : i < l.length := by omega
      have h1 : l[i]? = some l[i] := List.getElem?_eq_getElem hil
      refine step i σ' _ h1 hs ?_
      have hc := hl _ (List.mem_of_getElem? h1)
      refine e_a_lineUp hc hm.1 (hB _ hc) (hm.2.2 ho) (fun σ2 g1 g2 g3 => step2 i σ2 ?_)
      refine ih (i + 1) σ2 (by omega) (hs.tr g1) ⟨fun j hj => ?_, by rw [g2]; exact hm.2.1, fun _ => ?_⟩
      · rw [g1.1 43 (by decide)]; exact hm.1 j hj
      · rw [List.take_succ, h1]
        show mq 42 σ2.1 ((l.take i ++ [l[i]]).foldl (mline H) L0)
        rw [List.foldl_append]
        exact g3
  exact key l.length 0 σ (by omega) sx.rf (by rw [List.take_zero]; exact h0)
theorem e_a_mbegin {Q : Option Value → sy_S → Prop} {σ : sy_S} {G : sg_G} {o k : Nat} {h : Nat → Nat} (hk : shX[k]? = some (0, 16, [])) (ho : o < 4) (hg : gx G σ.1) (hh : ar σ.1 k h) (hB : ∀ j, j < 16 → h j < 2 ^ 31) (kk : ∀ σ' : sy_S, sx [42, 43, 44] σ σ' → mx 42 o (m0 G o h).1 (m0 G o h).2 σ'.1 → Q none σ') : sy_E shX mX4_begin (0, sy_ent [.ref 42, .ref k, .int (nI o)] 4, [], σ) Q := by
  have hP := sg_P_len hg.1
  obtain ⟨σ1, hσ1⟩ : ∃ s : sy_S, s = (sy_up (sy_up (sy_up (sy_up (sy_cp σ.1 k 43 16) 42 3 (nI o)) 42 4 0) 42 5 0) 42 6 0, σ.2) := ⟨_, rfl⟩
  have hs1 : sx [42, 43, 44] σ σ1 := by
    rw [hσ1]
    refine ⟨fun q hq => ?_, rfl⟩
    simp only [List.mem_cons, List.not_mem_nil, or_false, not_or] at hq
    show sy_up (sy_up (sy_up (sy_up (sy_cp σ.1 k 43 16) 42 3 (nI o)) 42 4 0) 42 5 0) 42 6 0 q = _
    rw [sy_up_ne _ _ _ hq.1, sy_up_ne _ _ _ hq.1, sy_up_ne _ _ _ hq.1, sy_up_ne _ _ _ hq.1, sy_cp_ne _ _ _ hq.2.1]
  have hm1 : mx 42 o h [] σ1.1 := by
    rw [hσ1]
    refine ⟨fun j hj => ?_, ?_, fun _ => ⟨by simp, fun c hc => absurd hc List.not_mem_nil, 0, by decide, ?_, ?_, fun j o hj => by simp at hj, ?_⟩⟩
    · show sy_up (sy_up (sy_up (sy_up (sy_cp σ.1 k 43 16) 42 3 (nI o)) 42 4 0) 42 5 0) 42 6 0 43 j = _
      rw [sy_up_ne _ _ _ (by decide), sy_up_ne _ _ _ (by decide), sy_up_ne _ _ _ (by decide), sy_up_ne _ _ _ (by decide), sy_cp_self, pk_cpy_in (Nat.zero_le _) (by omega), show 0 + (j - 0) = j by omega]
      exact hh j hj
    · show sy_up (sy_up (sy_up (sy_up (sy_cp σ.1 k 43 16) 42 3 (nI o)) 42 4 0) 42 5 0) 42 6 0 42 3 = _
      rw [sy_up2, if_neg (by omega), sy_up2, if_neg (by omega), sy_up2, if_neg (by omega), sy_up2, if_pos ⟨rfl, rfl⟩]
    · show sy_up (sy_up (sy_up (sy_up (sy_cp σ.1 k 43 16) 42 3 (nI o)) 42 4 0) 42 5 0) 42 6 0 42 4 = _
      rw [sy_up2, if_neg (by omega), sy_up2, if_neg (by omega), sy_up2, if_pos ⟨rfl, rfl⟩]; rfl
    · show sy_up (sy_up (sy_up (sy_up (sy_cp σ.1 k 43 16) 42 3 (nI o)) 42 4 0) 42 5 0) 42 6 0 42 5 = _
      rw [sy_up2, if_neg (by omega), sy_up2, if_pos ⟨rfl, rfl⟩]; rfl
    · show sy_up (sy_up (sy_up (sy_up (sy_cp σ.1 k 43 16) 42 3 (nI o)) 42 4 0) 42 5 0) 42 6 0 42 6 = _
      rw [sy_up2, if_pos ⟨rfl, rfl⟩]
      exact ((bts_zero _ (by decide)).mpr (fun i _ => by simp)).symm
  have hg1 : gx G σ1.1 := hs1.gx hg (by decide)
  have loop : (o = 1 ∨ o = 2) → sy_E shX mX4_begin (50, [some (.ref 42), none, none, some (.int 0)], [], σ1) Q := by
    intro ho2
    refine e_a_lines (H := h) σ1 (fun i σ' => (50, [some (.ref 42), none, none, some (.int (nI i))], [], σ')) (fun i r9 σ9 => (73, [some (.ref 42), none, none, some (.int (nI i))], r9.toList ++ [], σ9)) mX4_begin (sg_P G) (fun c hc => Nat.lt_of_lt_of_le (sg_P_mem.mp hc).1 (sg_n16 hg.1)) hB o [] (fun i σ' c hc hs ih => ?_) (fun i σ' hz => w_a_begin_73 (by rw [nI_1]; exact hz)) (fun σ' hs hm => ?_) ho2 hm1
    · have hi := (List.getElem?_eq_some_iff.mp hc).1
      have hg' : gx G σ'.1 := hs.gx hg1 (by decide)
      obtain ⟨c', p1, p2, p3, p4, p5⟩ := gx_pl hg' hi
      rw [hc] at p1; cases p1
      have ei : (nI i).toNatClampNeg = i := nI_clamp (by omega)
      refine w_a_begin_50 (fun _ => vp_in_nI (by omega) (by decide)) (fun q => ?_) (fun _ => ?_)
      · rw [gx_n7 hg'] at q; exact absurd q (nI_ge hi (by omega))
      · rw [ei, p4]
        exact ih
    · have hg' : gx G σ'.1 := hs.gx hg1 (by decide)
      refine w_a_begin_50 (fun q => ?_) (fun _ => ?_) (fun q => ?_)
      · exact absurd (by rw [gx_n7 hg']; exact nI_le (Nat.le_refl _) (by omega)) q
      · refine kk σ' (hs1.tr (hs.mono (by simp))) ?_
        unfold m0
        rw [if_pos ho2]
        exact hm
      · exact absurd (by rw [gx_n7 hg']; exact nI_le (Nat.le_refl _) (by omega)) q
  have none2 : ¬ (o = 1 ∨ o = 2) → Q none σ1 := by
    intro ho2
    refine kk σ1 hs1 ?_
    unfold m0
    rw [if_neg ho2]
    exact hm1
  refine w_a_begin_0 hk (fun q => ?_) (fun q q2 => ?_) (fun q q2 => ?_)
  · rw [nI_lit1, nI_eq (by omega) (by decide)] at q
    rw [← hσ1]
    exact loop (Or.inl q)
  · rw [nI_lit1, nI_eq (by omega) (by decide)] at q
    rw [show (2 : Int32) = nI 2 from rfl, nI_eq (by omega) (by decide)] at q2
    rw [← hσ1]
    exact none2 (by omega)
  · rw [show (2 : Int32) = nI 2 from rfl, nI_eq (by omega) (by decide)] at q2
    rw [← hσ1]
    exact loop (Or.inr (Classical.byContradiction q2))

theorem e_b_lineUp {Q : Option Value → sy_S → Prop} {σ : sy_S} {c : Nat} {H : Nat → Nat} {L : List Nat} (hc : c < 16) (hH : ar σ.1 46 H) (hB : H c < 2 ^ 31) (hq : mq 45 σ.1 L) (kk : ∀ σ' : sy_S, sx [45, 47] σ σ' → σ'.1 45 3 = σ.1 45 3 → mq 45 σ'.1 (mline H L c) → Q none σ') : sy_E shX mX4_lineUp (0, sy_ent [.ref 45, .int (nI c)] 3, [], σ) Q := by
  obtain ⟨q1, q2, a, q3, q4, q5, q6, q7⟩ := id hq
  have ec : (nI c).toNatClampNeg = c := nI_clamp (by omega)
  have hl16 := nodup_len 16 L q1 q2
  have et : (((σ.1 45 6) >>> (nI c &&& 31)) &&& 1) = 0 ↔ c ∉ L := by
    rw [q7, bts_test _ (by decide) hc]
    simp [hc]
  have eix : (σ.1 45 4 + σ.1 45 5) - (σ.1 45 4 + σ.1 45 5) / 16 * 16 = nI ((a + L.length) % 16) := by
    rw [q4, q5, nI_add, show (16 : Int32) = nI 16 from rfl, pk_rem (by omega) (by decide) (by decide)]
  have hm := Nat.mod_lt (a + L.length) (show 0 < 16 by decide)
  refine w_b_lineUp (fun _ => vp_in_nI hc (by decide)) (fun _ _ => by rw [eix]; exact vp_in_nI hm (by decide)) (fun z z2 => ?_) (fun z z2 => ?_) (fun z => ?_)
  · rw [et] at z
    rw [ec, hH c hc, show (3 : Int32) = nI 3 from rfl, nI_leI hB (by decide)] at z2
    refine kk σ sx.rf rfl ?_
    unfold mline
    rw [if_neg (by omega)]
    exact hq
  · rw [et] at z
    rw [ec, hH c hc, show (3 : Int32) = nI 3 from rfl, nI_leI hB (by decide)] at z2
    have hlen : L.length < 16 := by
      have h1 := nodup_len 16 (c :: L) (List.nodup_cons.mpr ⟨z, q1⟩) (fun x hx => (List.mem_cons.mp hx).elim (fun e => e ▸ hc) (q2 x))
      rw [List.length_cons] at h1
      omega
    rw [eix, nI_clamp (show (a + L.length) % 16 < 2 ^ 31 by omega)]
    refine kk _ ⟨fun q hq' => ?_, rfl⟩ ?_ ?_
    · show sy_up (sy_up (sy_up σ.1 47 _ _) 45 5 _) 45 6 _ q = σ.1 q
      simp only [List.mem_cons, List.not_mem_nil, or_false, not_or] at hq'
      rw [sy_up_ne _ _ _ hq'.1, sy_up_ne _ _ _ hq'.1, sy_up_ne _ _ _ hq'.2]
    · rfl
    · unfold mline
      rw [if_pos ⟨z, by omega⟩]
      refine ⟨?_, ?_, a, q3, ?_, ?_, fun j o hj => ?_, ?_⟩
      · rw [List.nodup_append]
        exact ⟨q1, by simp, fun x hx y hy => by rw [List.mem_singleton] at hy; subst hy; exact fun e => z (e ▸ hx)⟩
      · intro x hx
        rcases List.mem_append.mp hx with h | h
        · exact q2 x h
        · rw [List.mem_singleton] at h; subst h; exact hc
      · exact q4
      · show σ.1 45 5 + 1 = _
        rw [q5, nI_1, List.length_append, List.length_singleton]
      · show sy_up σ.1 47 ((a + L.length) % 16) (nI c) 47 ((a + j) % 16) = _
        rw [sy_up2]
        rw [List.getElem?_append] at hj
        split at hj
        · rename_i hlt
          rw [if_neg (by omega)]
          exact q6 j o hj
        · rename_i hge
          have hz : j - L.length = 0 := by
            rcases Nat.eq_zero_or_pos (j - L.length) with q | q
            · exact q
            · rw [List.getElem?_eq_none (by simp only [List.length_singleton]; omega)] at hj; cases hj
          rw [hz] at hj
          cases hj
          rw [if_pos ⟨rfl, by rw [show j = L.length by omega]⟩]
      · show σ.1 45 6 ||| (1 <<< (nI c &&& 31)) = _
        rw [q7, bts_or _ hc]
        apply bts_congr
        intro x _
        simp [List.mem_append]
  · rw [et] at z
    refine kk σ sx.rf rfl ?_
    unfold mline
    rw [if_neg (fun q => z q.1)]
    exact hq
theorem e_b_leave {Q : Option Value → sy_S → Prop} {σ : sy_S} {o : Nat} {L : List Nat} (ho : o = 1 ∨ o = 2) (hq : mq 45 σ.1 L) (k0 : L = [] → Q (some (.int (-1))) σ) (k1 : ∀ (σ' : sy_S) (c : Nat), (if o = 1 then L.head? else L.getLast?) = some c → sx [45] σ σ' → σ'.1 45 3 = σ.1 45 3 → mq 45 σ'.1 (mrest o L) → Q (some (.int (nI c))) σ') : sy_E shX mX4_leave (0, sy_ent [.ref 45, .int (if o = 1 then 1 else 0)] 3, [], σ) Q := by
  obtain ⟨q1, q2, a, q3, q4, q5, q6, q7⟩ := id hq
  have hl16 := nodup_len 16 L q1 q2
  have hz : σ.1 45 5 = 0 ↔ L = [] := by
    rw [q5, nI_lit0, nI_eq (by omega) (by decide)]
    exact List.length_eq_zero_iff
  rcases ho with rfl | rfl
  · rw [if_pos rfl]
    refine w_b_leave1 (fun _ => by rw [q4]; exact vp_in_nI q3 (by decide)) (fun z => ?_) (fun z => k0 (hz.mp (Classical.byContradiction z)))
    rw [hz] at z
    match L, z, q1, q2, q5, q6, q7, k1, hl16 with
    | c :: L', _, q1, q2, q5, q6, q7, k1, hl16 =>
      have hc : c < 16 := q2 c List.mem_cons_self
      have e0 : σ.1 47 ((σ.1 45 4).toNatClampNeg) = nI c := by
        rw [q4, nI_clamp (by omega)]
        have := q6 0 c rfl
        rw [show (a + 0) % 16 = a by omega] at this
        exact this
      have ef : (σ.1 45 4 + 1) - (σ.1 45 4 + 1) / 16 * 16 = nI ((a + 1) % 16) := by
        rw [q4, nI_1, show (16 : Int32) = nI 16 from rfl, pk_rem (by omega) (by decide) (by decide)]
      rw [e0, ef]
      rw [List.nodup_cons] at q1
      refine k1 _ c rfl ⟨fun q hq' => ?_, rfl⟩ ?_ ⟨q1.2, fun x hx => q2 x (List.mem_cons_of_mem _ hx), (a + 1) % 16, Nat.mod_lt _ (by decide), ?_, ?_, fun j o hj => ?_, ?_⟩
      · show sy_up (sy_up (sy_up σ.1 45 4 _) 45 5 _) 45 6 _ q = σ.1 q
        simp only [List.mem_singleton] at hq'
        rw [sy_up_ne _ _ _ hq', sy_up_ne _ _ _ hq', sy_up_ne _ _ _ hq']
      · rfl
      · rfl
      · show σ.1 45 5 - 1 = nI L'.length
        rw [q5, nI_lit1, pk_sub (by simp), List.length_cons, Nat.add_sub_cancel]
      · show σ.1 47 (((a + 1) % 16 + j) % 16) = nI o
        have := q6 (j + 1) o hj
        rw [show (a + (j + 1)) % 16 = ((a + 1) % 16 + j) % 16 by omega] at this
        exact this
      · show σ.1 45 6 &&& ((1 <<< (nI c &&& 31)) ^^^ (-1)) = bts (fun x => decide (x ∈ L')) (List.range 16)
        rw [q7, bts_and _ hc]
        apply bts_congr
        intro x _
        by_cases e : x = c
        · subst e; simp [q1.1]
        · simp [e]
  · rw [if_neg (by decide)]
    have evl : ∀ n, L.length = n + 1 → (σ.1 45 4 + σ.1 45 5 - 1) - (σ.1 45 4 + σ.1 45 5 - 1) / 16 * 16 = nI ((a + n) % 16) := by
      intro n hn
      rw [q4, q5, hn, nI_add, nI_lit1, pk_sub (by omega), show a + (n + 1) - 1 = a + n by omega, show (16 : Int32) = nI 16 from rfl, pk_rem (by omega) (by decide) (by decide)]
    refine w_b_leave0 (fun z => ?_) (fun z => ?_) (fun z => k0 (hz.mp (Classical.byContradiction z)))
    · rw [hz] at z
      obtain ⟨n, hn⟩ : ∃ n, L.length = n + 1 := ⟨L.length - 1, by have := List.length_pos_iff.mpr z; omega⟩
      rw [evl n hn]
      exact vp_in_nI (Nat.mod_lt _ (by decide)) (by decide)
    · rw [hz] at z
      obtain ⟨n, hn⟩ : ∃ n, L.length = n + 1 := ⟨L.length - 1, by have := List.length_pos_iff.mpr z; omega⟩
      have h1 := List.dropLast_concat_getLast z
      obtain ⟨c, hcL⟩ : ∃ c, c = L.getLast z := ⟨_, rfl⟩
      obtain ⟨D, hD⟩ : ∃ D, D = L.dropLast := ⟨_, rfl⟩
      rw [← hcL, ← hD] at h1
      have hmr : mrest 2 L = D := by unfold mrest; rw [if_neg (by decide), hD]
      have hdl : D.length = n := by
        have := congrArg List.length h1
        rw [List.length_append, List.length_singleton, hn] at this
        omega
      have hc : c < 16 := q2 c (by rw [← h1]; simp)
      have hidx : L[n]? = some c := by rw [← h1, List.getElem?_append_right (by omega), hdl, Nat.sub_self]; rfl
      have ern : (nI ((a + n) % 16)).toNatClampNeg = (a + n) % 16 := nI_clamp (by omega)
      rw [evl n hn, ern, q6 n c hidx]
      have hnd := q1
      rw [← h1, List.nodup_append] at hnd
      rw [hmr] at k1
      refine k1 _ c (by rw [if_neg (by decide), List.getLast?_eq_some_getLast z, hcL]) ⟨fun q hq' => ?_, rfl⟩ ?_ ⟨hnd.1, fun x hx => q2 x (by rw [← h1]; exact List.mem_append_left _ hx), a, q3, ?_, ?_, fun j o hj => ?_, ?_⟩
      · show sy_up (sy_up σ.1 45 5 _) 45 6 _ q = σ.1 q
        simp only [List.mem_singleton] at hq'
        rw [sy_up_ne _ _ _ hq', sy_up_ne _ _ _ hq']
      · rfl
      · exact q4
      · show σ.1 45 5 - 1 = nI D.length
        rw [q5, hn, nI_lit1, pk_sub (by omega), hdl]
        rfl
      · show σ.1 47 ((a + j) % 16) = nI o
        refine q6 j o ?_
        rw [← h1, List.getElem?_append_left (List.getElem?_eq_some_iff.mp hj).1]
        exact hj
      · show σ.1 45 6 &&& ((1 <<< (nI c &&& 31)) ^^^ (-1)) = bts (fun x => decide (x ∈ D)) (List.range 16)
        rw [q7, bts_and _ hc]
        apply bts_congr
        intro x _
        have hm : x ∈ L ↔ x ∈ D ∨ x = c := by rw [← h1, List.mem_append, List.mem_singleton]
        by_cases e : x = c
        · subst e
          have : x ∉ D := fun h => hnd.2.2 x h x (List.mem_singleton.mpr rfl) rfl
          simp [this]
        · simp [hm, e]
theorem e_b_least {Q : Option Value → sy_S → Prop} {σ : sy_S} {G : sg_G} {H : Nat → Nat} (hg : gx G σ.1) (hH : ar σ.1 46 H) (hB : ∀ j, j < 16 → H j < 2 ^ 31) (kk : Q (some (.int (((sg_P G).find? fun c => decide (3 < H c)).elim (-1) nI))) σ) : sy_E shX mX4_leastCell (0, sy_ent [.ref 45] 3, [], σ) Q := by
  have hP := sg_P_len hg.1
  refine w_b_least_0 ?_
  have hl := sy_loop (sh := shX) (y := mX4_leastCell) (Q := Q) (fun i σ' => (2, [some (.ref 45), some (.int (nI i)), none], [], σ')) (fun i σ' => σ' = σ ∧ (sg_P G).find? (fun c => decide (3 < H c)) = ((sg_P G).drop i).find? (fun c => decide (3 < H c))) (sg_P G).length ?_ ?_ 0 σ (Nat.zero_le _) ⟨rfl, rfl⟩
  · exact hl
  · rintro i σ' hi ⟨rfl, hI⟩ ih
    obtain ⟨c, p1, p2, p3, p4, p5⟩ := gx_pl hg hi
    have ei : (nI i).toNatClampNeg = i := nI_clamp (by omega)
    have hd : (sg_P G).drop i = c :: (sg_P G).drop (i + 1) := by
      rw [List.drop_eq_getElem_cons hi]
      rw [List.getElem?_eq_getElem hi] at p1
      cases p1
      rfl
    refine w_b_least_2 (fun _ => vp_in_nI (by omega) (by decide)) (fun _ => by rw [ei, p4]; exact vp_in_nI p3 (by decide)) (fun q => ?_) (fun _ q => ?_) (fun _ q => ?_)
    · rw [gx_n7 hg] at q; exact absurd q (nI_ge hi (by omega))
    · rw [ei, p5, hH c p3, show (3 : Int32) = nI 3 from rfl, nI_leI (hB c p3) (by decide)] at q
      rw [nI_1]
      refine ih σ' ⟨rfl, ?_⟩
      rw [hI, hd, List.find?_cons, decide_eq_false (show ¬ 3 < H c by omega)]
    · rw [ei, p5, hH c p3, show (3 : Int32) = nI 3 from rfl, nI_leI (hB c p3) (by decide)] at q
      rw [hI, hd, List.find?_cons, decide_eq_true (show 3 < H c by omega)] at kk
      rw [ei, p4]
      exact kk
  · rintro σ' ⟨rfl, hI⟩
    rw [hI, List.drop_length] at kk
    refine w_b_least_2 (fun q => ?_) (fun q => ?_) (fun _ => kk) (fun q => ?_) (fun q => ?_)
    all_goals exact absurd (by rw [gx_n7 hg]; exact nI_le (Nat.le_refl _) (by omega)) q
theorem e_b_tall {Q : Option Value → sy_S → Prop} {σ : sy_S} {G : sg_G} {H : Nat → Nat} (hg : gx G σ.1) (hH : ar σ.1 46 H) (hB : ∀ j, j < 16 → H j < 2 ^ 31) (kk : Q (some (.int (((sg_P G).foldl (mtall H) none).elim (-1) nI))) σ) : sy_E shX mX4_tallestCell (0, sy_ent [.ref 45] 5, [], σ) Q := by
  have hP := sg_P_len hg.1
  refine w_b_tall_0 ?_
  refine sx_fold (sg_P G) (fun l i => (6, [some (.ref 45), some (.int ((l.foldl (mtall H) none).elim (-1) nI)), some (.int ((l.foldl (mtall H) none).elim 3 (fun d => nI (H d)))), some (.int (nI i)), none], [], σ)) ?_ ?_
  · intro i c hc ih
    have hi := (List.getElem?_eq_some_iff.mp hc).1
    obtain ⟨c', p1, p2, p3, p4, p5⟩ := gx_pl hg hi
    rw [hc] at p1; cases p1
    have ei : (nI i).toNatClampNeg = i := nI_clamp (by omega)
    rw [List.foldl_append] at ih
    have hpl : ∀ d, ((sg_P G).take i).foldl (mtall H) none = some d → d < 16 := by
      intro d hd
      have := (mtall_fold (G := G) (H := H) ((sg_P G).take i) (fun x hx => sg_P_mem.mp (List.mem_of_mem_take hx)) none (fun d hd => by cases hd)).1 d hd
      exact Nat.lt_of_lt_of_le this.1.1 (sg_n16 hg.1)
    generalize hb : ((sg_P G).take i).foldl (mtall H) none = b at ih hpl
    refine w_b_tall_6 (fun _ => vp_in_nI (by omega) (by decide)) (fun _ => by rw [ei, p4]; exact vp_in_nI p3 (by decide)) (fun q => ?_) (fun _ q => ?_) (fun _ q => ?_)
    · rw [gx_n7 hg] at q; exact absurd q (nI_ge hi (by omega))
    · rw [ei, p5, hH c p3] at q
      have e : mtall H b c = b := by
        cases b with
        | none =>
          have q : nI (H c) ≤ nI 3 := q
          rw [nI_leI (hB c p3) (by decide)] at q
          show (if 3 < H c then some c else none) = none
          rw [if_neg (by omega)]
        | some d =>
          have q : nI (H c) ≤ nI (H d) := q
          rw [nI_leI (hB c p3) (hB d (hpl d rfl))] at q
          show (if H d < H c then some c else some d) = some d
          rw [if_neg (by omega)]
      simp only [List.foldl_cons, List.foldl_nil, e] at ih
      rw [nI_1]
      exact ih
    · rw [ei, p5, hH c p3] at q
      have e : mtall H b c = some c := by
        cases b with
        | none =>
          have q : ¬ nI (H c) ≤ nI 3 := q
          rw [nI_leI (hB c p3) (by decide)] at q
          show (if 3 < H c then some c else none) = some c
          rw [if_pos (by omega)]
        | some d =>
          have q : ¬ nI (H c) ≤ nI (H d) := q
          rw [nI_leI (hB c p3) (hB d (hpl d rfl))] at q
          show (if H d < H c then some c else some d) = some c
          rw [if_pos (by omega)]
      simp only [List.foldl_cons, List.foldl_nil, e] at ih
      rw [nI_1, ei, p5, p4, hH c p3]
      exact ih
  · refine w_b_tall_6 (fun q => ?_) (fun q => ?_) (fun _ => kk) (fun q => ?_) (fun q => ?_)
    all_goals exact absurd (by rw [gx_n7 hg]; exact nI_le (Nat.le_refl _) (by omega)) q
theorem e_b_chosen {Q : Option Value → sy_S → Prop} {σ : sy_S} {G : sg_G} {o : Nat} {H : Nat → Nat} {L : List Nat} (ho : o < 4) (hg : gx G σ.1) (hm : mx 45 o H L σ.1) (hB : ∀ j, j < 16 → H j < 2 ^ 31) (k0 : mpick G o H L = none → Q (some (.int (-1))) σ) (k1 : ∀ (σ' : sy_S) (c : Nat), mpick G o H L = some c → sx [45] σ σ' → mx 45 o H (if o = 1 ∨ o = 2 then mrest o L else L) σ'.1 → Q (some (.int (nI c))) σ') : sy_E shX mX4_chosen (0, sy_ent [.ref 45] 1, [], σ) Q := by
  obtain ⟨m1, m2, m3⟩ := id hm
  match o, ho, m2, m3, k0, k1, hm with
  | 0, _, m2, m3, k0, k1, hm =>
    refine w_b_chosen_0 (fun _ => ?_) (fun q => absurd m2 q) (fun q => absurd m2 q) (fun q => absurd m2 q)
    refine e_b_least hg m1 hB (w_b_chosen_36 ?_)
    cases hp : (sg_P G).find? (fun c => decide (3 < H c)) with
    | none => exact k0 hp
    | some c => exact k1 σ c hp sx.rf hm
  | 1, _, m2, m3, k0, k1, hm =>
    refine w_b_chosen_0 (fun q => ?_) (fun _ _ => ?_) (fun _ q => absurd m2 q) (fun _ q => absurd m2 q)
    · rw [m2] at q; exact absurd q (by decide)
    · refine e_b_leave (o := 1) (Or.inl rfl) (m3 (Or.inl rfl)) (fun e => w_b_chosen_42 (k0 ?_)) (fun σ' c hc h1 h2 h3 => w_b_chosen_42 (k1 σ' c hc h1 ⟨fun j hj => ?_, by rw [h2]; exact m2, fun _ => h3⟩))
      · rw [e]; rfl
      · rw [h1.1 46 (by decide)]; exact m1 j hj
  | 2, _, m2, m3, k0, k1, hm =>
    refine w_b_chosen_0 (fun q => ?_) (fun _ q => ?_) (fun _ _ _ => ?_) (fun _ _ q => absurd m2 q)
    · rw [m2] at q; exact absurd q (by decide)
    · rw [m2] at q; exact absurd q (by decide)
    · refine e_b_leave (o := 2) (Or.inr rfl) (m3 (Or.inr rfl)) (fun e => w_b_chosen_48 (k0 ?_)) (fun σ' c hc h1 h2 h3 => w_b_chosen_48 (k1 σ' c hc h1 ⟨fun j hj => ?_, by rw [h2]; exact m2, fun _ => h3⟩))
      · rw [e]; rfl
      · rw [h1.1 46 (by decide)]; exact m1 j hj
  | 3, _, m2, m3, k0, k1, hm =>
    refine w_b_chosen_0 (fun q => ?_) (fun _ q => ?_) (fun _ _ q => ?_) (fun _ _ _ => ?_)
    · rw [m2] at q; exact absurd q (by decide)
    · rw [m2] at q; exact absurd q (by decide)
    · rw [m2] at q; exact absurd q (by decide)
    · refine e_b_tall hg m1 hB (w_b_chosen_53 ?_)
      cases hp : (sg_P G).foldl (mtall H) none with
      | none => exact k0 hp
      | some c => exact k1 σ c hp sx.rf hm
theorem e_b_lines {Q : Option Value → sy_S → Prop} {H : Nat → Nat} (σ : sy_S) (cf : Nat → sy_S → sy_Cf) (cg : Nat → Option Value → sy_S → sy_Cf) (y : sy_M) (l : List Nat) (hl : ∀ c, c ∈ l → c < 16) (hB : ∀ j, j < 16 → H j < 2 ^ 31) (o : Nat) (L0 : List Nat)
    (step : ∀ (i : Nat) (σ' : sy_S) (c : Nat), l[i]? = some c → sx [45, 47] σ σ' → sy_E shX mX4_lineUp (0, sy_ent [.ref 45, .int (nI c)] 3, [], σ') (fun r9 σ9 => sy_E shX y (cg i r9 σ9) Q) → sy_E shX y (cf i σ') Q)
    (step2 : ∀ (i : Nat) (σ' : sy_S), sy_E shX y (cf (i + 1) σ') Q → sy_E shX y (cg i none σ') Q)
    (exit : ∀ σ' : sy_S, sx [45, 47] σ σ' → mx 45 o H (l.foldl (mline H) L0) σ'.1 → sy_E shX y (cf l.length σ') Q) (ho : o = 1 ∨ o = 2) (h0 : mx 45 o H L0 σ.1) : sy_E shX y (cf 0 σ) Q := by
  have key : ∀ (d i : Nat) (σ' : sy_S), i + d = l.length → sx [45, 47] σ σ' → mx 45 o H ((l.take i).foldl (mline H) L0) σ'.1 → sy_E shX y (cf i σ') Q := by
    intro d
    induction d with
    | zero =>
      intro i σ' hi hs hm
      have e : i = l.length := hi
      subst e
      rw [List.take_length] at hm
      exact exit σ' hs hm
    | succ d ih =>
      intro i σ' hi hs hm
      have hil : i < l.length := by omega
      have h1 : l[i]? = some l[i] := List.getElem?_eq_getElem hil
      refine step i σ' _ h1 hs ?_
      have hc := hl _ (List.mem_of_getElem? h1)
      refine e_b_lineUp hc hm.1 (hB _ hc) (hm.2.2 ho) (fun σ2 g1 g2 g3 => step2 i σ2 ?_)
      refine ih (i + 1) σ2 (by omega) (hs.tr g1) ⟨fun j hj => ?_, by rw [g2]; exact hm.2.1, fun _ => ?_⟩
      · rw [g1.1 46 (by decide)]; exact hm.1 j hj
      · rw [List.take_succ, h1]
        show mq 45 σ2.1 ((l.take i ++ [l[i]]).foldl (mline H) L0)
        rw [List.foldl_append]
        exact g3
  exact key l.length 0 σ (by omega) sx.rf (by rw [List.take_zero]; exact h0)
theorem e_b_mbegin {Q : Option Value → sy_S → Prop} {σ : sy_S} {G : sg_G} {o k : Nat} {h : Nat → Nat} (hk : shX[k]? = some (0, 16, [])) (ho : o < 4) (hg : gx G σ.1) (hh : ar σ.1 k h) (hB : ∀ j, j < 16 → h j < 2 ^ 31) (kk : ∀ σ' : sy_S, sx [45, 46, 47] σ σ' → mx 45 o (m0 G o h).1 (m0 G o h).2 σ'.1 → Q none σ') : sy_E shX mX4_begin (0, sy_ent [.ref 45, .ref k, .int (nI o)] 4, [], σ) Q := by
  have hP := sg_P_len hg.1
  obtain ⟨σ1, hσ1⟩ : ∃ s : sy_S, s = (sy_up (sy_up (sy_up (sy_up (sy_cp σ.1 k 46 16) 45 3 (nI o)) 45 4 0) 45 5 0) 45 6 0, σ.2) := ⟨_, rfl⟩
  have hs1 : sx [45, 46, 47] σ σ1 := by
    rw [hσ1]
    refine ⟨fun q hq => ?_, rfl⟩
    simp only [List.mem_cons, List.not_mem_nil, or_false, not_or] at hq
    show sy_up (sy_up (sy_up (sy_up (sy_cp σ.1 k 46 16) 45 3 (nI o)) 45 4 0) 45 5 0) 45 6 0 q = _
    rw [sy_up_ne _ _ _ hq.1, sy_up_ne _ _ _ hq.1, sy_up_ne _ _ _ hq.1, sy_up_ne _ _ _ hq.1, sy_cp_ne _ _ _ hq.2.1]
  have hm1 : mx 45 o h [] σ1.1 := by
    rw [hσ1]
    refine ⟨fun j hj => ?_, ?_, fun _ => ⟨by simp, fun c hc => absurd hc List.not_mem_nil, 0, by decide, ?_, ?_, fun j o hj => by simp at hj, ?_⟩⟩
    · show sy_up (sy_up (sy_up (sy_up (sy_cp σ.1 k 46 16) 45 3 (nI o)) 45 4 0) 45 5 0) 45 6 0 46 j = _
      rw [sy_up_ne _ _ _ (by decide), sy_up_ne _ _ _ (by decide), sy_up_ne _ _ _ (by decide), sy_up_ne _ _ _ (by decide), sy_cp_self, pk_cpy_in (Nat.zero_le _) (by omega), show 0 + (j - 0) = j by omega]
      exact hh j hj
    · show sy_up (sy_up (sy_up (sy_up (sy_cp σ.1 k 46 16) 45 3 (nI o)) 45 4 0) 45 5 0) 45 6 0 45 3 = _
      rw [sy_up2, if_neg (by omega), sy_up2, if_neg (by omega), sy_up2, if_neg (by omega), sy_up2, if_pos ⟨rfl, rfl⟩]
    · show sy_up (sy_up (sy_up (sy_up (sy_cp σ.1 k 46 16) 45 3 (nI o)) 45 4 0) 45 5 0) 45 6 0 45 4 = _
      rw [sy_up2, if_neg (by omega), sy_up2, if_neg (by omega), sy_up2, if_pos ⟨rfl, rfl⟩]; rfl
    · show sy_up (sy_up (sy_up (sy_up (sy_cp σ.1 k 46 16) 45 3 (nI o)) 45 4 0) 45 5 0) 45 6 0 45 5 = _
      rw [sy_up2, if_neg (by omega), sy_up2, if_pos ⟨rfl, rfl⟩]; rfl
    · show sy_up (sy_up (sy_up (sy_up (sy_cp σ.1 k 46 16) 45 3 (nI o)) 45 4 0) 45 5 0) 45 6 0 45 6 = _
      rw [sy_up2, if_pos ⟨rfl, rfl⟩]
      exact ((bts_zero _ (by decide)).mpr (fun i _ => by simp)).symm
  have hg1 : gx G σ1.1 := hs1.gx hg (by decide)
  have loop : (o = 1 ∨ o = 2) → sy_E shX mX4_begin (50, [some (.ref 45), none, none, some (.int 0)], [], σ1) Q := by
    intro ho2
    refine e_b_lines (H := h) σ1 (fun i σ' => (50, [some (.ref 45), none, none, some (.int (nI i))], [], σ')) (fun i r9 σ9 => (73, [some (.ref 45), none, none, some (.int (nI i))], r9.toList ++ [], σ9)) mX4_begin (sg_P G) (fun c hc => Nat.lt_of_lt_of_le (sg_P_mem.mp hc).1 (sg_n16 hg.1)) hB o [] (fun i σ' c hc hs ih => ?_) (fun i σ' hz => w_b_begin_73 (by rw [nI_1]; exact hz)) (fun σ' hs hm => ?_) ho2 hm1
    · have hi := (List.getElem?_eq_some_iff.mp hc).1
      have hg' : gx G σ'.1 := hs.gx hg1 (by decide)
      obtain ⟨c', p1, p2, p3, p4, p5⟩ := gx_pl hg' hi
      rw [hc] at p1; cases p1
      have ei : (nI i).toNatClampNeg = i := nI_clamp (by omega)
      refine w_b_begin_50 (fun _ => vp_in_nI (by omega) (by decide)) (fun q => ?_) (fun _ => ?_)
      · rw [gx_n7 hg'] at q; exact absurd q (nI_ge hi (by omega))
      · rw [ei, p4]
        exact ih
    · have hg' : gx G σ'.1 := hs.gx hg1 (by decide)
      refine w_b_begin_50 (fun q => ?_) (fun _ => ?_) (fun q => ?_)
      · exact absurd (by rw [gx_n7 hg']; exact nI_le (Nat.le_refl _) (by omega)) q
      · refine kk σ' (hs1.tr (hs.mono (by simp))) ?_
        unfold m0
        rw [if_pos ho2]
        exact hm
      · exact absurd (by rw [gx_n7 hg']; exact nI_le (Nat.le_refl _) (by omega)) q
  have none2 : ¬ (o = 1 ∨ o = 2) → Q none σ1 := by
    intro ho2
    refine kk σ1 hs1 ?_
    unfold m0
    rw [if_neg ho2]
    exact hm1
  refine w_b_begin_0 hk (fun q => ?_) (fun q q2 => ?_) (fun q q2 => ?_)
  · rw [nI_lit1, nI_eq (by omega) (by decide)] at q
    rw [← hσ1]
    exact loop (Or.inl q)
  · rw [nI_lit1, nI_eq (by omega) (by decide)] at q
    rw [show (2 : Int32) = nI 2 from rfl, nI_eq (by omega) (by decide)] at q2
    rw [← hσ1]
    exact none2 (by omega)
  · rw [show (2 : Int32) = nI 2 from rfl, nI_eq (by omega) (by decide)] at q2
    rw [← hσ1]
    exact loop (Or.inr (Classical.byContradiction q2))
end
section
/-! March.step: contract (by program: wip/whole/gen/p38.py) -/

theorem e_a_step {Q : Option Value → sy_S → Prop} {σ : sy_S} {G : sg_G} {o : Nat} {H : Nat → Nat} {L : List Nat} (ho : o < 4) (hg : gx G σ.1) (hm : mx 42 o H L σ.1) (hi : minv G o H L) (hB : ∀ j, j < 16 → H j < 2 ^ 30) (k0 : mnext G o (H, L) = none → Q (some (.int (-1))) σ) (k1 : ∀ (σ' : sy_S) (c : Nat) (H' : Nat → Nat) (L' : List Nat), mnext G o (H, L) = some (c, H', L') → sx [42, 43, 44] σ σ' → mx 42 o H' L' σ'.1 → Q (some (.int (nI c))) σ') : sy_E shX mX4_step (0, sy_ent [.ref 42] 3, [], σ) Q := by
  have h16 := sg_n16 hg.1
  have hB1 : ∀ j, j < 16 → H j < 2 ^ 31 := fun j hj => Nat.lt_trans (hB j hj) (by decide)
  refine w_a_step_0 ?_
  refine e_a_chosen ho hg hm hB1 (fun hp => ?_) (fun σ1 c hp hs1 hm1 => ?_)
  · refine w_a_step_4 (fun q => absurd q (by decide)) (fun _ => k0 ?_)
    unfold mnext
    rw [hp]
  · obtain ⟨p1, p2⟩ := (mpick_ok hi).1 c hp
    have hc16 : c < 16 := Nat.lt_of_lt_of_le p1.1 h16
    have hn : mnext G o (H, L) = some (c, sg_tp G H c 1, if o = 1 ∨ o = 2 then (sg_nb G c ++ [c]).foldl (mline (sg_tp G H c 1)) (mrest o L) else L) := by
      unfold mnext
      rw [hp]
    have hg1 : gx G σ1.1 := hs1.gx hg (by decide)
    refine w_a_step_4 (fun _ => ?_) (fun q => absurd (nI_pos' (by omega)) q)
    refine e_x_spill (t := 1) (k := 43) rfl (by decide) hg1 hm1.1 p1 (by omega) (fun σ2 g1 g2 => ?_)
    have hg2 : gx G σ2.1 := g1.gx hg1 (by decide)
    have hs2 : sx [42, 43, 44] σ σ2 := (hs1.mono (by simp)).tr (g1.mono (by simp))
    have e3 : σ2.1 42 3 = nI o := by rw [g1.1 42 (by decide)]; exact hm1.2.1
    have hBt : ∀ j, j < 16 → sg_tp G H c 1 j < 2 ^ 31 := fun j hj => by
      have h9 := hB j hj
      unfold sg_tp
      split <;> split <;> omega
    have loop : (o = 1 ∨ o = 2) → sy_E shX mX4_step (42, [some (.ref 42), some (.int (nI c)), some (.int 0)], [], σ2) Q := by
      intro ho2
      rw [if_pos ho2] at hn hm1
      obtain ⟨n1, n2⟩ := gx_nb hg2 p1.1
      have hlen := sg_nb_len G c
      have ec : (nI c).toNatClampNeg = c := nI_clamp (by omega)
      have hm2 : mx 42 o (sg_tp G H c 1) (mrest o L) σ2.1 := by
        refine ⟨g2, e3, fun z => ?_⟩
        obtain ⟨z1, z2, a, z3, z4, z5, z6, z7⟩ := hm1.2.2 z
        refine ⟨z1, z2, a, z3, ?_, ?_, ?_, ?_⟩
        · rw [g1.1 42 (by decide)]; exact z4
        · rw [g1.1 42 (by decide)]; exact z5
        · rw [g1.1 (42 + 2) (by decide)]; exact z6
        · rw [g1.1 42 (by decide)]; exact z7
      refine e_a_lines (H := sg_tp G H c 1) σ2 (fun i σ' => (42, [some (.ref 42), some (.int (nI c)), some (.int (nI i))], [], σ')) (fun i r9 σ9 => (67, [some (.ref 42), some (.int (nI c)), some (.int (nI i))], r9.toList ++ [], σ9)) mX4_step (sg_nb G c) (fun d hd => Nat.lt_of_lt_of_le (sg_nb_p hg.1 p1.1 hd).1.1 h16) hBt o (mrest o L) (fun i σ' d hd hs ih => ?_) (fun i σ' hz => w_a_step_67 (by rw [nI_1]; exact hz)) (fun σ' hs hmm => ?_) ho2 hm2
      · have hi9 := (List.getElem?_eq_some_iff.mp hd).1
        have hg' : gx G σ'.1 := hs.gx hg2 (by decide)
        obtain ⟨n1', n2'⟩ := gx_nb hg' p1.1
        have ei : nI c * 4 + nI i = nI (4 * c + i) := by rw [nI_lit4, pk_mul, nI_add, Nat.mul_comm]
        refine w_a_step_42 (vp_in_nI hc16 (by decide)) (fun _ => by rw [ei]; exact vp_in_nI (by omega) (by decide)) (fun q => ?_) (fun _ => ?_)
        · rw [ec, n1'] at q; exact absurd q (nI_ge hi9 (by omega))
        · rw [ei, nI_clamp (show 4 * c + i < 2 ^ 31 by omega), n2' i d hd]
          exact ih
      · have hg' : gx G σ'.1 := hs.gx hg2 (by decide)
        obtain ⟨n1', n2'⟩ := gx_nb hg' p1.1
        refine w_a_step_42 (vp_in_nI hc16 (by decide)) (fun q => ?_) (fun _ => ?_) (fun q => ?_)
        · exact absurd (by rw [ec, n1']; exact nI_le (Nat.le_refl _) (by omega)) q
        · refine e_a_lineUp hc16 hmm.1 (hBt c hc16) (hmm.2.2 ho2) (fun σ3 f1 f2 f3 => w_a_step_78 ?_)
          refine k1 σ3 c _ _ hn (hs2.tr ((hs.mono (by simp)).tr (f1.mono (by simp)))) ⟨fun j hj => ?_, by rw [f2]; exact hmm.2.1, fun _ => ?_⟩
          · rw [f1.1 43 (by decide)]; exact hmm.1 j hj
          · rw [List.foldl_append]; exact f3
        · exact absurd (by rw [ec, n1']; exact nI_le (Nat.le_refl _) (by omega)) q
    refine w_a_step_24 (fun q => ?_) (fun q q2 => ?_) (fun q q2 => ?_)
    · rw [e3, nI_lit1, nI_eq (by omega) (by decide)] at q
      exact loop (Or.inl q)
    · rw [e3, nI_lit1, nI_eq (by omega) (by decide)] at q
      rw [e3, show (2 : Int32) = nI 2 from rfl, nI_eq (by omega) (by decide)] at q2
      have hno : ¬ (o = 1 ∨ o = 2) := by omega
      rw [if_neg hno] at hn
      exact k1 σ2 c _ _ hn hs2 ⟨g2, e3, fun z => absurd z hno⟩
    · rw [e3, show (2 : Int32) = nI 2 from rfl, nI_eq (by omega) (by decide)] at q2
      exact loop (Or.inr (Classical.byContradiction q2))

theorem e_b_step {Q : Option Value → sy_S → Prop} {σ : sy_S} {G : sg_G} {o : Nat} {H : Nat → Nat} {L : List Nat} (ho : o < 4) (hg : gx G σ.1) (hm : mx 45 o H L σ.1) (hi : minv G o H L) (hB : ∀ j, j < 16 → H j < 2 ^ 30) (k0 : mnext G o (H, L) = none → Q (some (.int (-1))) σ) (k1 : ∀ (σ' : sy_S) (c : Nat) (H' : Nat → Nat) (L' : List Nat), mnext G o (H, L) = some (c, H', L') → sx [45, 46, 47] σ σ' → mx 45 o H' L' σ'.1 → Q (some (.int (nI c))) σ') : sy_E shX mX4_step (0, sy_ent [.ref 45] 3, [], σ) Q := by
  have h16 := sg_n16 hg.1
  have hB1 : ∀ j, j < 16 → H j < 2 ^ 31 := fun j hj => Nat.lt_trans (hB j hj) (by decide)
  refine w_b_step_0 ?_
  refine e_b_chosen ho hg hm hB1 (fun hp => ?_) (fun σ1 c hp hs1 hm1 => ?_)
  · refine w_b_step_4 (fun q => absurd q (by decide)) (fun _ => k0 ?_)
    unfold mnext
    rw [hp]
  · obtain ⟨p1, p2⟩ := (mpick_ok hi).1 c hp
    have hc16 : c < 16 := Nat.lt_of_lt_of_le p1.1 h16
    have hn : mnext G o (H, L) = some (c, sg_tp G H c 1, if o = 1 ∨ o = 2 then (sg_nb G c ++ [c]).foldl (mline (sg_tp G H c 1)) (mrest o L) else L) := by
      unfold mnext
      rw [hp]
    have hg1 : gx G σ1.1 := hs1.gx hg (by decide)
    refine w_b_step_4 (fun _ => ?_) (fun q => absurd (nI_pos' (by omega)) q)
    refine e_x_spill (t := 1) (k := 46) rfl (by decide) hg1 hm1.1 p1 (by omega) (fun σ2 g1 g2 => ?_)
    have hg2 : gx G σ2.1 := g1.gx hg1 (by decide)
    have hs2 : sx [45, 46, 47] σ σ2 := (hs1.mono (by simp)).tr (g1.mono (by simp))
    have e3 : σ2.1 45 3 = nI o := by rw [g1.1 45 (by decide)]; exact hm1.2.1
    have hBt : ∀ j, j < 16 → sg_tp G H c 1 j < 2 ^ 31 := fun j hj => by
      have h9 := hB j hj
      unfold sg_tp
      split <;> split <;> omega
    have loop : (o = 1 ∨ o = 2) → sy_E shX mX4_step (42, [some (.ref 45), some (.int (nI c)), some (.int 0)], [], σ2) Q := by
      intro ho2
      rw [if_pos ho2] at hn hm1
      obtain ⟨n1, n2⟩ := gx_nb hg2 p1.1
      have hlen := sg_nb_len G c
      have ec : (nI c).toNatClampNeg = c := nI_clamp (by omega)
      have hm2 : mx 45 o (sg_tp G H c 1) (mrest o L) σ2.1 := by
        refine ⟨g2, e3, fun z => ?_⟩
        obtain ⟨z1, z2, a, z3, z4, z5, z6, z7⟩ := hm1.2.2 z
        refine ⟨z1, z2, a, z3, ?_, ?_, ?_, ?_⟩
        · rw [g1.1 45 (by decide)]; exact z4
        · rw [g1.1 45 (by decide)]; exact z5
        · rw [g1.1 (45 + 2) (by decide)]; exact z6
        · rw [g1.1 45 (by decide)]; exact z7
      refine e_b_lines (H := sg_tp G H c 1) σ2 (fun i σ' => (42, [some (.ref 45), some (.int (nI c)), some (.int (nI i))], [], σ')) (fun i r9 σ9 => (67, [some (.ref 45), some (.int (nI c)), some (.int (nI i))], r9.toList ++ [], σ9)) mX4_step (sg_nb G c) (fun d hd => Nat.lt_of_lt_of_le (sg_nb_p hg.1 p1.1 hd).1.1 h16) hBt o (mrest o L) (fun i σ' d hd hs ih => ?_) (fun i σ' hz => w_b_step_67 (by rw [nI_1]; exact hz)) (fun σ' hs hmm => ?_) ho2 hm2
      · have hi9 := (List.getElem?_eq_some_iff.mp hd).1
        have hg' : gx G σ'.1 := hs.gx hg2 (by decide)
        obtain ⟨n1', n2'⟩ := gx_nb hg' p1.1
        have ei : nI c * 4 + nI i = nI (4 * c + i) := by rw [nI_lit4, pk_mul, nI_add, Nat.mul_comm]
        refine w_b_step_42 (vp_in_nI hc16 (by decide)) (fun _ => by rw [ei]; exact vp_in_nI (by omega) (by decide)) (fun q => ?_) (fun _ => ?_)
        · rw [ec, n1'] at q; exact absurd q (nI_ge hi9 (by omega))
        · rw [ei, nI_clamp (show 4 * c + i < 2 ^ 31 by omega), n2' i d hd]
          exact ih
      · have hg' : gx G σ'.1 := hs.gx hg2 (by decide)
        obtain ⟨n1', n2'⟩ := gx_nb hg' p1.1
        refine w_b_step_42 (vp_in_nI hc16 (by decide)) (fun q => ?_) (fun _ => ?_) (fun q => ?_)
        · exact absurd (by rw [ec, n1']; exact nI_le (Nat.le_refl _) (by omega)) q
        · refine e_b_lineUp hc16 hmm.1 (hBt c hc16) (hmm.2.2 ho2) (fun σ3 f1 f2 f3 => w_b_step_78 ?_)
          refine k1 σ3 c _ _ hn (hs2.tr ((hs.mono (by simp)).tr (f1.mono (by simp)))) ⟨fun j hj => ?_, by rw [f2]; exact hmm.2.1, fun _ => ?_⟩
          · rw [f1.1 46 (by decide)]; exact hmm.1 j hj
          · rw [List.foldl_append]; exact f3
        · exact absurd (by rw [ec, n1']; exact nI_le (Nat.le_refl _) (by omega)) q
    refine w_b_step_24 (fun q => ?_) (fun q q2 => ?_) (fun q q2 => ?_)
    · rw [e3, nI_lit1, nI_eq (by omega) (by decide)] at q
      exact loop (Or.inl q)
    · rw [e3, nI_lit1, nI_eq (by omega) (by decide)] at q
      rw [e3, show (2 : Int32) = nI 2 from rfl, nI_eq (by omega) (by decide)] at q2
      have hno : ¬ (o = 1 ∨ o = 2) := by omega
      rw [if_neg hno] at hn
      exact k1 σ2 c _ _ hn hs2 ⟨g2, e3, fun z => absurd z hno⟩
    · rw [e3, show (2 : Int32) = nI 2 from rfl, nI_eq (by omega) (by decide)] at q2
      exact loop (Or.inr (Classical.byContradiction q2))
end
section
/-! walks of the model's orders (by program: wip/whole/gen/p39.py) -/
set_option maxRecDepth 20000 in
theorem w_m_comes_0 {Q : Option Value → sy_S → Prop} {σ : sy_S} {c : Int32}   (k1 : sy_E shM mX12_may (0, sy_ent [.ref 0, .ref 12, .int c] 3, [], σ) (fun r9 σ9 => sy_E shM mX12_comesBehind (6, [some (.ref 0), none, some (.int c)], r9.toList ++ [], σ9) Q)) : sy_E shM mX12_comesBehind (0, sy_ent [.ref 0, .ref 12, .int c] 3, [], σ) Q := by
  show sy_E shM mX12_comesBehind (0, [some (.ref 0), some (.ref 12), some (.int c)], [], σ) _
  refine sy_bk [(.aload_n 0, 0, 0, 0, 0), (.aload_n 1, 0, 0, 0, 0), (.iload_n 2, 0, 0, 0, 0)] (3, [some (.ref 0), some (.ref 12), some (.int c)], [.int c, .ref 12, .ref 0], σ) [] (by decide +kernel) rfl trivial ?_
  refine sy_drop [some (.ref 0), none, some (.int c)] ⟨rfl, rfl, trivial⟩ ?_
  refine sy_callV mX12_may 0 [.ref 12, .int c] [] kX12_may jX12_120 (by decide +kernel) rfl rfl (Nat.le_of_ble_eq_true rfl) (Nat.le_of_ble_eq_true rfl) (by decide) rfl ?_
  exact k1

set_option maxRecDepth 20000 in
theorem w_m_comes_6 {Q : Option Value → sy_S → Prop} {σ : sy_S} {c : Int32} {v : Int32}  (b1 : ¬ (v = 0) → vp_in c 16) (b2 : ¬ (v = 0) → ¬ (¬ (σ.1 14 c.toNatClampNeg) = 0) → vp_in (σ.1 0 24) 16) (k1 : v = 0 → Q none σ) (k2 : ¬ (v = 0) → ¬ (σ.1 14 c.toNatClampNeg) = 0 → Q none σ) (k3 : ¬ (v = 0) → ¬ (¬ (σ.1 14 c.toNatClampNeg) = 0) → Q none (sy_up (sy_up (sy_up σ.1 13 ((σ.1 0 24).toNatClampNeg) c) 0 24 ((σ.1 0 24) + 1)) 14 c.toNatClampNeg (vp_nar .boolean 1), σ.2)) : sy_E shM mX12_comesBehind (6, [some (.ref 0), none, some (.int c)], [.int v], σ) Q := by
  by_cases c1 : v = 0
  · refine sy_bk [(.ifCond .eq 39, 1, 45, 0, 0)] (45, [some (.ref 0), none, some (.int c)], [], σ) [sy_cc .eq v 0] (by decide +kernel) rfl ⟨c1, trivial⟩ ?_
    exact sy_retv rfl (by decide +kernel) (k1 c1)
  · refine sy_bk [(.ifCond .eq 39, 0, 45, 0, 0)] (9, [some (.ref 0), none, some (.int c)], [], σ) [¬ sy_cc .eq v 0] (by decide +kernel) rfl ⟨c1, trivial⟩ ?_
    refine sy_bk [(.aload_n 0, 0, 0, 0, 0), (.getfield 59, 12, 25, 0, 0), (.iload_n 2, 0, 0, 0, 0), (.baload, 0, 0, 0, 0)] (15, [some (.ref 0), none, some (.int c)], [.int (σ.1 14 c.toNatClampNeg)], σ) [sy_okA shM 1 14 c] (by decide +kernel) rfl ⟨⟨16, _, rfl, (b1 c1)⟩, trivial⟩ ?_
    by_cases c2 : ¬ (σ.1 14 c.toNatClampNeg) = 0
    · refine sy_bk [(.ifCond .ne 30, 1, 45, 0, 0)] (45, [some (.ref 0), none, some (.int c)], [], σ) [sy_cc .ne (σ.1 14 c.toNatClampNeg) 0] (by decide +kernel) rfl ⟨c2, trivial⟩ ?_
      exact sy_retv rfl (by decide +kernel) (k2 c1 c2)
    · refine sy_bk [(.ifCond .ne 30, 0, 45, 0, 0)] (18, [some (.ref 0), none, some (.int c)], [], σ) [¬ sy_cc .ne (σ.1 14 c.toNatClampNeg) 0] (by decide +kernel) rfl ⟨c2, trivial⟩ ?_
      refine sy_bk [(.aload_n 0, 0, 0, 0, 0), (.getfield 56, 12, 23, 0, 0), (.aload_n 0, 0, 0, 0, 0), (.getfield 219, 12, 24, 0, 0), (.iload_n 2, 0, 0, 0, 0), (.iastore, 0, 0, 0, 0), (.aload_n 0, 0, 0, 0, 0), (.dup, 0, 0, 0, 0), (.getfield 219, 12, 24, 0, 0), (.iconst 1, 0, 0, 1, 0), (.iadd, 0, 0, 0, 0), (.putfield 219, 12, 24, 0, 0), (.aload_n 0, 0, 0, 0, 0), (.getfield 59, 12, 25, 0, 0), (.iload_n 2, 0, 0, 0, 0), (.iconst 1, 0, 0, 1, 0), (.bastore, 0, 0, 0, 0)] (45, [some (.ref 0), none, some (.int c)], [], (sy_up (sy_up (sy_up σ.1 13 ((σ.1 0 24).toNatClampNeg) c) 0 24 ((σ.1 0 24) + 1)) 14 c.toNatClampNeg (vp_nar .boolean 1), σ.2)) [sy_okA shM 0 13 (σ.1 0 24), sy_okA shM 1 14 c] (by decide +kernel) rfl ⟨⟨16, _, rfl, (b2 c1 c2)⟩, ⟨16, _, rfl, (b1 c1)⟩, trivial⟩ ?_
      exact sy_retv rfl (by decide +kernel) (k3 c1 c2)

set_option maxRecDepth 20000 in
theorem w_m_border_0 {Q : Option Value → sy_S → Prop} {σ : sy_S}    (k1 : sy_E shM mX12_beginsOrder (7, [some (.ref 0), some (.ref 12), some (.int 0)], [], (sy_up σ.1 0 24 0, σ.2)) Q) : sy_E shM mX12_beginsOrder (0, sy_ent [.ref 0, .ref 12] 3, [], σ) Q := by
  show sy_E shM mX12_beginsOrder (0, [some (.ref 0), some (.ref 12), none], [], σ) _
  refine sy_bk [(.aload_n 0, 0, 0, 0, 0), (.iconst 0, 0, 0, 0, 0), (.putfield 219, 12, 24, 0, 0), (.iconst 0, 0, 0, 0, 0), (.istore_n 2, 0, 0, 0, 0)] (7, [some (.ref 0), some (.ref 12), some (.int 0)], [], (sy_up σ.1 0 24 0, σ.2)) [] (by decide +kernel) rfl trivial ?_
  exact k1

set_option maxRecDepth 20000 in
theorem w_m_border_7 {Q : Option Value → sy_S → Prop} {σ : sy_S} {i : Int32}  (b1 : ¬ (((σ.1 0 0) * (σ.1 0 1)) ≤ i) → vp_in i 16) (k1 : ((σ.1 0 0) * (σ.1 0 1)) ≤ i → sy_E shM mX12_beginsOrder (30, [some (.ref 0), some (.ref 12), some (.int 0)], [], σ) Q) (k2 : ¬ (((σ.1 0 0) * (σ.1 0 1)) ≤ i) → sy_E shM mX12_beginsOrder (7, [some (.ref 0), some (.ref 12), some (.int (i + 1))], [], (sy_up σ.1 14 i.toNatClampNeg (vp_nar .boolean 0), σ.2)) Q) : sy_E shM mX12_beginsOrder (7, [some (.ref 0), some (.ref 12), some (.int i)], [], σ) Q := by
  refine sy_bk [(.iload_n 2, 0, 0, 0, 0), (.aload_n 0, 0, 0, 0, 0)] (9, [some (.ref 0), some (.ref 12), some (.int i)], [.ref 0, .int i], σ) [] (by decide +kernel) rfl trivial ?_
  refine sy_callV mX12_cells 0 [] [.int i] kX12_cells jX12_105 (by decide +kernel) rfl rfl (Nat.le_of_ble_eq_true rfl) (Nat.le_of_ble_eq_true rfl) (by decide) rfl ?_
  refine w_m_cells (σ := σ) ?_
  show sy_E shM mX12_beginsOrder (12, [some (.ref 0), some (.ref 12), some (.int i)], [.int ((σ.1 0 0) * (σ.1 0 1)), .int i], σ) _
  by_cases c1 : ((σ.1 0 0) * (σ.1 0 1)) ≤ i
  · refine sy_bk [(.if_icmp .ge 16, 1, 28, 0, 0)] (28, [some (.ref 0), some (.ref 12), some (.int i)], [], σ) [sy_cc .ge i ((σ.1 0 0) * (σ.1 0 1))] (by decide +kernel) rfl ⟨c1, trivial⟩ ?_
    refine sy_bk [(.iconst 0, 0, 0, 0, 0), (.istore_n 2, 0, 0, 0, 0)] (30, [some (.ref 0), some (.ref 12), some (.int 0)], [], σ) [] (by decide +kernel) rfl trivial ?_
    exact k1 c1
  · refine sy_bk [(.if_icmp .ge 16, 0, 28, 0, 0)] (15, [some (.ref 0), some (.ref 12), some (.int i)], [], σ) [¬ sy_cc .ge i ((σ.1 0 0) * (σ.1 0 1))] (by decide +kernel) rfl ⟨c1, trivial⟩ ?_
    refine sy_bk [(.aload_n 0, 0, 0, 0, 0), (.getfield 59, 12, 25, 0, 0), (.iload_n 2, 0, 0, 0, 0), (.iconst 0, 0, 0, 0, 0), (.bastore, 0, 0, 0, 0), (.iinc 2 1, 0, 0, 1, 0), (.goto (-18), 0, 7, 0, 0)] (7, [some (.ref 0), some (.ref 12), some (.int (i + 1))], [], (sy_up σ.1 14 i.toNatClampNeg (vp_nar .boolean 0), σ.2)) [sy_okA shM 1 14 i] (by decide +kernel) rfl ⟨⟨16, _, rfl, (b1 c1)⟩, trivial⟩ ?_
    exact k2 c1

set_option maxRecDepth 20000 in
theorem w_m_border_30 {Q : Option Value → sy_S → Prop} {σ : sy_S} {i : Int32}   (k1 : ((σ.1 0 0) * (σ.1 0 1)) ≤ i → Q none σ) (k2 : ¬ (((σ.1 0 0) * (σ.1 0 1)) ≤ i) → sy_E shM mX12_comesBehind (0, sy_ent [.ref 0, .ref 12, .int i] 3, [], σ) (fun r9 σ9 => sy_E shM mX12_beginsOrder (44, [some (.ref 0), some (.ref 12), some (.int i)], r9.toList ++ [], σ9) Q)) : sy_E shM mX12_beginsOrder (30, [some (.ref 0), some (.ref 12), some (.int i)], [], σ) Q := by
  refine sy_bk [(.iload_n 2, 0, 0, 0, 0), (.aload_n 0, 0, 0, 0, 0)] (32, [some (.ref 0), some (.ref 12), some (.int i)], [.ref 0, .int i], σ) [] (by decide +kernel) rfl trivial ?_
  refine sy_callV mX12_cells 0 [] [.int i] kX12_cells jX12_105 (by decide +kernel) rfl rfl (Nat.le_of_ble_eq_true rfl) (Nat.le_of_ble_eq_true rfl) (by decide) rfl ?_
  refine w_m_cells (σ := σ) ?_
  show sy_E shM mX12_beginsOrder (35, [some (.ref 0), some (.ref 12), some (.int i)], [.int ((σ.1 0 0) * (σ.1 0 1)), .int i], σ) _
  by_cases c1 : ((σ.1 0 0) * (σ.1 0 1)) ≤ i
  · refine sy_bk [(.if_icmp .ge 15, 1, 50, 0, 0)] (50, [some (.ref 0), some (.ref 12), some (.int i)], [], σ) [sy_cc .ge i ((σ.1 0 0) * (σ.1 0 1))] (by decide +kernel) rfl ⟨c1, trivial⟩ ?_
    exact sy_retv rfl (by decide +kernel) (k1 c1)
  · refine sy_bk [(.if_icmp .ge 15, 0, 50, 0, 0)] (38, [some (.ref 0), some (.ref 12), some (.int i)], [], σ) [¬ sy_cc .ge i ((σ.1 0 0) * (σ.1 0 1))] (by decide +kernel) rfl ⟨c1, trivial⟩ ?_
    refine sy_bk [(.aload_n 0, 0, 0, 0, 0), (.aload_n 1, 0, 0, 0, 0), (.iload_n 2, 0, 0, 0, 0)] (41, [some (.ref 0), some (.ref 12), some (.int i)], [.int i, .ref 12, .ref 0], σ) [] (by decide +kernel) rfl trivial ?_
    refine sy_callV mX12_comesBehind 0 [.ref 12, .int i] [] kX12_comesBehind jX12_222 (by decide +kernel) rfl rfl (Nat.le_of_ble_eq_true rfl) (Nat.le_of_ble_eq_true rfl) (by decide) rfl ?_
    exact k2 c1

set_option maxRecDepth 20000 in
theorem w_m_border_44 {Q : Option Value → sy_S → Prop} {σ : sy_S} {i : Int32}   (k1 : sy_E shM mX12_beginsOrder (30, [some (.ref 0), some (.ref 12), some (.int (i + 1))], [], σ) Q) : sy_E shM mX12_beginsOrder (44, [some (.ref 0), some (.ref 12), some (.int i)], [], σ) Q := by
  refine sy_bk [(.iinc 2 1, 0, 0, 1, 0), (.goto (-17), 0, 30, 0, 0)] (30, [some (.ref 0), some (.ref 12), some (.int (i + 1))], [], σ) [] (by decide +kernel) rfl trivial ?_
  exact k1

set_option maxRecDepth 20000 in
theorem w_m_least_0 {Q : Option Value → sy_S → Prop} {σ : sy_S}    (k1 : sy_E shM mX12_least (2, [some (.ref 0), some (.ref 12), some (.int 0)], [], σ) Q) : sy_E shM mX12_least (0, sy_ent [.ref 0, .ref 12] 3, [], σ) Q := by
  show sy_E shM mX12_least (0, [some (.ref 0), some (.ref 12), none], [], σ) _
  refine sy_bk [(.iconst 0, 0, 0, 0, 0), (.istore_n 2, 0, 0, 0, 0)] (2, [some (.ref 0), some (.ref 12), some (.int 0)], [], σ) [] (by decide +kernel) rfl trivial ?_
  exact k1

set_option maxRecDepth 20000 in
theorem w_m_least_2 {Q : Option Value → sy_S → Prop} {σ : sy_S} {i : Int32}   (k1 : ((σ.1 0 0) * (σ.1 0 1)) ≤ i → Q (some (.int (-1))) σ) (k2 : ¬ (((σ.1 0 0) * (σ.1 0 1)) ≤ i) → sy_E shM mX12_may (0, sy_ent [.ref 0, .ref 12, .int i] 3, [], σ) (fun r9 σ9 => sy_E shM mX12_least (16, [some (.ref 0), some (.ref 12), some (.int i)], r9.toList ++ [], σ9) Q)) : sy_E shM mX12_least (2, [some (.ref 0), some (.ref 12), some (.int i)], [], σ) Q := by
  refine sy_bk [(.iload_n 2, 0, 0, 0, 0), (.aload_n 0, 0, 0, 0, 0)] (4, [some (.ref 0), some (.ref 12), some (.int i)], [.ref 0, .int i], σ) [] (by decide +kernel) rfl trivial ?_
  refine sy_callV mX12_cells 0 [] [.int i] kX12_cells jX12_105 (by decide +kernel) rfl rfl (Nat.le_of_ble_eq_true rfl) (Nat.le_of_ble_eq_true rfl) (by decide) rfl ?_
  refine w_m_cells (σ := σ) ?_
  show sy_E shM mX12_least (7, [some (.ref 0), some (.ref 12), some (.int i)], [.int ((σ.1 0 0) * (σ.1 0 1)), .int i], σ) _
  by_cases c1 : ((σ.1 0 0) * (σ.1 0 1)) ≤ i
  · refine sy_bk [(.if_icmp .ge 20, 1, 27, 0, 0)] (27, [some (.ref 0), some (.ref 12), some (.int i)], [], σ) [sy_cc .ge i ((σ.1 0 0) * (σ.1 0 1))] (by decide +kernel) rfl ⟨c1, trivial⟩ ?_
    refine sy_bk [(.iconst (-1), 0, 0, (-1), 0)] (28, [some (.ref 0), some (.ref 12), some (.int i)], [.int (-1)], σ) [] (by decide +kernel) rfl trivial ?_
    exact sy_reti rfl (by decide +kernel) (k1 c1)
  · refine sy_bk [(.if_icmp .ge 20, 0, 27, 0, 0)] (10, [some (.ref 0), some (.ref 12), some (.int i)], [], σ) [¬ sy_cc .ge i ((σ.1 0 0) * (σ.1 0 1))] (by decide +kernel) rfl ⟨c1, trivial⟩ ?_
    refine sy_bk [(.aload_n 0, 0, 0, 0, 0), (.aload_n 1, 0, 0, 0, 0), (.iload_n 2, 0, 0, 0, 0)] (13, [some (.ref 0), some (.ref 12), some (.int i)], [.int i, .ref 12, .ref 0], σ) [] (by decide +kernel) rfl trivial ?_
    refine sy_callV mX12_may 0 [.ref 12, .int i] [] kX12_may jX12_120 (by decide +kernel) rfl rfl (Nat.le_of_ble_eq_true rfl) (Nat.le_of_ble_eq_true rfl) (by decide) rfl ?_
    exact k2 c1

set_option maxRecDepth 20000 in
theorem w_m_least_16 {Q : Option Value → sy_S → Prop} {σ : sy_S} {i : Int32} {v : Int32}   (k1 : v = 0 → sy_E shM mX12_least (2, [some (.ref 0), some (.ref 12), some (.int (i + 1))], [], σ) Q) (k2 : ¬ (v = 0) → Q (some (.int i)) σ) : sy_E shM mX12_least (16, [some (.ref 0), some (.ref 12), some (.int i)], [.int v], σ) Q := by
  by_cases c1 : v = 0
  · refine sy_bk [(.ifCond .eq 5, 1, 21, 0, 0)] (21, [some (.ref 0), some (.ref 12), some (.int i)], [], σ) [sy_cc .eq v 0] (by decide +kernel) rfl ⟨c1, trivial⟩ ?_
    refine sy_bk [(.iinc 2 1, 0, 0, 1, 0), (.goto (-22), 0, 2, 0, 0)] (2, [some (.ref 0), some (.ref 12), some (.int (i + 1))], [], σ) [] (by decide +kernel) rfl trivial ?_
    exact k1 c1
  · refine sy_bk [(.ifCond .eq 5, 0, 21, 0, 0)] (19, [some (.ref 0), some (.ref 12), some (.int i)], [], σ) [¬ sy_cc .eq v 0] (by decide +kernel) rfl ⟨c1, trivial⟩ ?_
    refine sy_bk [(.iload_n 2, 0, 0, 0, 0)] (20, [some (.ref 0), some (.ref 12), some (.int i)], [.int i], σ) [] (by decide +kernel) rfl trivial ?_
    exact sy_reti rfl (by decide +kernel) (k2 c1)

set_option maxRecDepth 20000 in
theorem w_m_tall_0 {Q : Option Value → sy_S → Prop} {σ : sy_S}    (k1 : sy_E shM mX12_tallest (4, [some (.ref 0), some (.ref 12), some (.int (-1)), some (.int 0)], [], σ) Q) : sy_E shM mX12_tallest (0, sy_ent [.ref 0, .ref 12] 4, [], σ) Q := by
  show sy_E shM mX12_tallest (0, [some (.ref 0), some (.ref 12), none, none], [], σ) _
  refine sy_bk [(.iconst (-1), 0, 0, (-1), 0), (.istore_n 2, 0, 0, 0, 0), (.iconst 0, 0, 0, 0, 0), (.istore_n 3, 0, 0, 0, 0)] (4, [some (.ref 0), some (.ref 12), some (.int (-1)), some (.int 0)], [], σ) [] (by decide +kernel) rfl trivial ?_
  exact k1

set_option maxRecDepth 20000 in
theorem w_m_tall_4 {Q : Option Value → sy_S → Prop} {σ : sy_S} {best : Int32} {i : Int32}   (k1 : ((σ.1 0 0) * (σ.1 0 1)) ≤ i → Q (some (.int best)) σ) (k2 : ¬ (((σ.1 0 0) * (σ.1 0 1)) ≤ i) → sy_E shM mX12_may (0, sy_ent [.ref 0, .ref 12, .int i] 3, [], σ) (fun r9 σ9 => sy_E shM mX12_tallest (18, [some (.ref 0), some (.ref 12), some (.int best), some (.int i)], r9.toList ++ [], σ9) Q)) : sy_E shM mX12_tallest (4, [some (.ref 0), some (.ref 12), some (.int best), some (.int i)], [], σ) Q := by
  refine sy_bk [(.iload_n 3, 0, 0, 0, 0), (.aload_n 0, 0, 0, 0, 0)] (6, [some (.ref 0), some (.ref 12), some (.int best), some (.int i)], [.ref 0, .int i], σ) [] (by decide +kernel) rfl trivial ?_
  refine sy_callV mX12_cells 0 [] [.int i] kX12_cells jX12_105 (by decide +kernel) rfl rfl (Nat.le_of_ble_eq_true rfl) (Nat.le_of_ble_eq_true rfl) (by decide) rfl ?_
  refine w_m_cells (σ := σ) ?_
  show sy_E shM mX12_tallest (9, [some (.ref 0), some (.ref 12), some (.int best), some (.int i)], [.int ((σ.1 0 0) * (σ.1 0 1)), .int i], σ) _
  by_cases c1 : ((σ.1 0 0) * (σ.1 0 1)) ≤ i
  · refine sy_bk [(.if_icmp .ge 37, 1, 46, 0, 0)] (46, [some (.ref 0), some (.ref 12), some (.int best), some (.int i)], [], σ) [sy_cc .ge i ((σ.1 0 0) * (σ.1 0 1))] (by decide +kernel) rfl ⟨c1, trivial⟩ ?_
    refine sy_bk [(.iload_n 2, 0, 0, 0, 0)] (47, [some (.ref 0), some (.ref 12), some (.int best), some (.int i)], [.int best], σ) [] (by decide +kernel) rfl trivial ?_
    exact sy_reti rfl (by decide +kernel) (k1 c1)
  · refine sy_bk [(.if_icmp .ge 37, 0, 46, 0, 0)] (12, [some (.ref 0), some (.ref 12), some (.int best), some (.int i)], [], σ) [¬ sy_cc .ge i ((σ.1 0 0) * (σ.1 0 1))] (by decide +kernel) rfl ⟨c1, trivial⟩ ?_
    refine sy_bk [(.aload_n 0, 0, 0, 0, 0), (.aload_n 1, 0, 0, 0, 0), (.iload_n 3, 0, 0, 0, 0)] (15, [some (.ref 0), some (.ref 12), some (.int best), some (.int i)], [.int i, .ref 12, .ref 0], σ) [] (by decide +kernel) rfl trivial ?_
    refine sy_callV mX12_may 0 [.ref 12, .int i] [] kX12_may jX12_120 (by decide +kernel) rfl rfl (Nat.le_of_ble_eq_true rfl) (Nat.le_of_ble_eq_true rfl) (by decide) rfl ?_
    exact k2 c1

set_option maxRecDepth 20000 in
theorem w_m_tall_18 {Q : Option Value → sy_S → Prop} {σ : sy_S} {best : Int32} {i : Int32} {v : Int32}  (b1 : ¬ (v = 0) → ¬ (best < 0) → vp_in i 16) (b2 : ¬ (v = 0) → ¬ (best < 0) → vp_in best 16) (k1 : v = 0 → sy_E shM mX12_tallest (4, [some (.ref 0), some (.ref 12), some (.int best), some (.int (i + 1))], [], σ) Q) (k2 : ¬ (v = 0) → best < 0 → sy_E shM mX12_tallest (4, [some (.ref 0), some (.ref 12), some (.int i), some (.int (i + 1))], [], σ) Q) (k3 : ¬ (v = 0) → ¬ (best < 0) → (σ.1 12 i.toNatClampNeg) ≤ (σ.1 12 best.toNatClampNeg) → sy_E shM mX12_tallest (4, [some (.ref 0), some (.ref 12), some (.int best), some (.int (i + 1))], [], σ) Q) (k4 : ¬ (v = 0) → ¬ (best < 0) → ¬ ((σ.1 12 i.toNatClampNeg) ≤ (σ.1 12 best.toNatClampNeg)) → sy_E shM mX12_tallest (4, [some (.ref 0), some (.ref 12), some (.int i), some (.int (i + 1))], [], σ) Q) : sy_E shM mX12_tallest (18, [some (.ref 0), some (.ref 12), some (.int best), some (.int i)], [.int v], σ) Q := by
  by_cases c1 : v = 0
  · refine sy_bk [(.ifCond .eq 20, 1, 38, 0, 0)] (38, [some (.ref 0), some (.ref 12), some (.int best), some (.int i)], [], σ) [sy_cc .eq v 0] (by decide +kernel) rfl ⟨c1, trivial⟩ ?_
    refine sy_bk [(.iload_n 2, 0, 0, 0, 0), (.istore_n 2, 0, 0, 0, 0), (.iinc 3 1, 0, 0, 1, 0), (.goto (-39), 0, 4, 0, 0)] (4, [some (.ref 0), some (.ref 12), some (.int best), some (.int (i + 1))], [], σ) [] (by decide +kernel) rfl trivial ?_
    exact k1 c1
  · refine sy_bk [(.ifCond .eq 20, 0, 38, 0, 0)] (21, [some (.ref 0), some (.ref 12), some (.int best), some (.int i)], [], σ) [¬ sy_cc .eq v 0] (by decide +kernel) rfl ⟨c1, trivial⟩ ?_
    refine sy_bk [(.iload_n 2, 0, 0, 0, 0)] (22, [some (.ref 0), some (.ref 12), some (.int best), some (.int i)], [.int best], σ) [] (by decide +kernel) rfl trivial ?_
    by_cases c2 : best < 0
    · refine sy_bk [(.ifCond .lt 12, 1, 34, 0, 0)] (34, [some (.ref 0), some (.ref 12), some (.int best), some (.int i)], [], σ) [sy_cc .lt best 0] (by decide +kernel) rfl ⟨c2, trivial⟩ ?_
      refine sy_bk [(.iload_n 3, 0, 0, 0, 0), (.goto 4, 0, 39, 0, 0), (.istore_n 2, 0, 0, 0, 0), (.iinc 3 1, 0, 0, 1, 0), (.goto (-39), 0, 4, 0, 0)] (4, [some (.ref 0), some (.ref 12), some (.int i), some (.int (i + 1))], [], σ) [] (by decide +kernel) rfl trivial ?_
      exact k2 c1 c2
    · refine sy_bk [(.ifCond .lt 12, 0, 34, 0, 0)] (25, [some (.ref 0), some (.ref 12), some (.int best), some (.int i)], [], σ) [¬ sy_cc .lt best 0] (by decide +kernel) rfl ⟨c2, trivial⟩ ?_
      refine sy_bk [(.aload_n 1, 0, 0, 0, 0), (.iload_n 3, 0, 0, 0, 0), (.iaload, 0, 0, 0, 0), (.aload_n 1, 0, 0, 0, 0), (.iload_n 2, 0, 0, 0, 0), (.iaload, 0, 0, 0, 0)] (31, [some (.ref 0), some (.ref 12), some (.int best), some (.int i)], [.int (σ.1 12 best.toNatClampNeg), .int (σ.1 12 i.toNatClampNeg)], σ) [sy_okA shM 0 12 i, sy_okA shM 0 12 best] (by decide +kernel) rfl ⟨⟨16, _, rfl, (b1 c1 c2)⟩, ⟨16, _, rfl, (b2 c1 c2)⟩, trivial⟩ ?_
      by_cases c3 : (σ.1 12 i.toNatClampNeg) ≤ (σ.1 12 best.toNatClampNeg)
      · refine sy_bk [(.if_icmp .le 7, 1, 38, 0, 0)] (38, [some (.ref 0), some (.ref 12), some (.int best), some (.int i)], [], σ) [sy_cc .le (σ.1 12 i.toNatClampNeg) (σ.1 12 best.toNatClampNeg)] (by decide +kernel) rfl ⟨c3, trivial⟩ ?_
        refine sy_bk [(.iload_n 2, 0, 0, 0, 0), (.istore_n 2, 0, 0, 0, 0), (.iinc 3 1, 0, 0, 1, 0), (.goto (-39), 0, 4, 0, 0)] (4, [some (.ref 0), some (.ref 12), some (.int best), some (.int (i + 1))], [], σ) [] (by decide +kernel) rfl trivial ?_
        exact k3 c1 c2 c3
      · refine sy_bk [(.if_icmp .le 7, 0, 38, 0, 0)] (34, [some (.ref 0), some (.ref 12), some (.int best), some (.int i)], [], σ) [¬ sy_cc .le (σ.1 12 i.toNatClampNeg) (σ.1 12 best.toNatClampNeg)] (by decide +kernel) rfl ⟨c3, trivial⟩ ?_
        refine sy_bk [(.iload_n 3, 0, 0, 0, 0), (.goto 4, 0, 39, 0, 0), (.istore_n 2, 0, 0, 0, 0), (.iinc 3 1, 0, 0, 1, 0), (.goto (-39), 0, 4, 0, 0)] (4, [some (.ref 0), some (.ref 12), some (.int i), some (.int (i + 1))], [], σ) [] (by decide +kernel) rfl trivial ?_
        exact k4 c1 c2 c3

set_option maxRecDepth 20000 in
theorem w_m_leaves1_0 {Q : Option Value → sy_S → Prop} {σ : sy_S}    (k1 : ¬ (σ.1 0 24) = 0 → sy_E shM mX12_leaves (39, [some (.ref 0), some (.int 1), some (.int (σ.1 13 0)), some (.int 0)], [], (sy_up σ.1 0 24 ((σ.1 0 24) - 1), σ.2)) Q) (k2 : ¬ (¬ (σ.1 0 24) = 0) → Q (some (.int (-1))) σ) : sy_E shM mX12_leaves (0, sy_ent [.ref 0, .int 1] 4, [], σ) Q := by
  show sy_E shM mX12_leaves (0, [some (.ref 0), some (.int 1), none, none], [], σ) _
  refine sy_bk [(.aload_n 0, 0, 0, 0, 0), (.getfield 219, 12, 24, 0, 0)] (4, [some (.ref 0), some (.int 1), none, none], [.int (σ.1 0 24)], σ) [] (by decide +kernel) rfl trivial ?_
  by_cases c1 : ¬ (σ.1 0 24) = 0
  · refine sy_bk [(.ifCond .ne 5, 1, 9, 0, 0)] (9, [some (.ref 0), some (.int 1), none, none], [], σ) [sy_cc .ne (σ.1 0 24) 0] (by decide +kernel) rfl ⟨c1, trivial⟩ ?_
    refine sy_bk [(.aload_n 0, 0, 0, 0, 0), (.dup, 0, 0, 0, 0), (.getfield 219, 12, 24, 0, 0), (.iconst 1, 0, 0, 1, 0), (.isub, 0, 0, 0, 0), (.putfield 219, 12, 24, 0, 0), (.aload_n 0, 0, 0, 0, 0), (.getfield 56, 12, 23, 0, 0), (.iload_n 1, 0, 0, 0, 0), (.ifCond .eq 7, 0, 31, 0, 0), (.iconst 0, 0, 0, 0, 0), (.goto 7, 0, 35, 0, 0), (.iaload, 0, 0, 0, 0), (.istore_n 2, 0, 0, 0, 0), (.iconst 0, 0, 0, 0, 0), (.istore_n 3, 0, 0, 0, 0)] (39, [some (.ref 0), some (.int 1), some (.int (σ.1 13 0)), some (.int 0)], [], (sy_up σ.1 0 24 ((σ.1 0 24) - 1), σ.2)) [¬ sy_cc .eq 1 0, sy_okA shM 0 13 0] (by decide +kernel) rfl ⟨(by decide : ¬ ((1 : Int32) = 0)), ⟨16, _, rfl, vp_in_nI (n := 0) (by decide) (by decide)⟩, trivial⟩ ?_
    exact k1 c1
  · refine sy_bk [(.ifCond .ne 5, 0, 9, 0, 0)] (7, [some (.ref 0), some (.int 1), none, none], [], σ) [¬ sy_cc .ne (σ.1 0 24) 0] (by decide +kernel) rfl ⟨c1, trivial⟩ ?_
    refine sy_bk [(.iconst (-1), 0, 0, (-1), 0)] (8, [some (.ref 0), some (.int 1), none, none], [.int (-1)], σ) [] (by decide +kernel) rfl trivial ?_
    exact sy_reti rfl (by decide +kernel) (k2 c1)

set_option maxRecDepth 20000 in
theorem w_m_leaves1_39 {Q : Option Value → sy_S → Prop} {σ : sy_S} {c : Int32} {i : Int32}  (b1 : (σ.1 0 24) ≤ i → vp_in c 16) (b2 : ¬ ((σ.1 0 24) ≤ i) → vp_in (i + 1) 16) (b3 : ¬ ((σ.1 0 24) ≤ i) → vp_in i 16) (k1 : (σ.1 0 24) ≤ i → Q (some (.int c)) (sy_up σ.1 14 c.toNatClampNeg (vp_nar .boolean 0), σ.2)) (k2 : ¬ ((σ.1 0 24) ≤ i) → sy_E shM mX12_leaves (39, [some (.ref 0), some (.int 1), some (.int c), some (.int (i + 1))], [], (sy_up σ.1 13 i.toNatClampNeg (σ.1 13 ((i + 1).toNatClampNeg)), σ.2)) Q) : sy_E shM mX12_leaves (39, [some (.ref 0), some (.int 1), some (.int c), some (.int i)], [], σ) Q := by
  refine sy_bk [(.iload_n 3, 0, 0, 0, 0), (.aload_n 0, 0, 0, 0, 0), (.getfield 219, 12, 24, 0, 0)] (44, [some (.ref 0), some (.int 1), some (.int c), some (.int i)], [.int (σ.1 0 24), .int i], σ) [] (by decide +kernel) rfl trivial ?_
  by_cases c1 : (σ.1 0 24) ≤ i
  · refine sy_bk [(.if_icmp .ge 27, 1, 71, 0, 0)] (71, [some (.ref 0), some (.int 1), some (.int c), some (.int i)], [], σ) [sy_cc .ge i (σ.1 0 24)] (by decide +kernel) rfl ⟨c1, trivial⟩ ?_
    refine sy_bk [(.aload_n 0, 0, 0, 0, 0), (.getfield 59, 12, 25, 0, 0), (.iload_n 2, 0, 0, 0, 0), (.iconst 0, 0, 0, 0, 0), (.bastore, 0, 0, 0, 0), (.iload_n 2, 0, 0, 0, 0)] (79, [some (.ref 0), some (.int 1), some (.int c), some (.int i)], [.int c], (sy_up σ.1 14 c.toNatClampNeg (vp_nar .boolean 0), σ.2)) [sy_okA shM 1 14 c] (by decide +kernel) rfl ⟨⟨16, _, rfl, (b1 c1)⟩, trivial⟩ ?_
    exact sy_reti rfl (by decide +kernel) (k1 c1)
  · refine sy_bk [(.if_icmp .ge 27, 0, 71, 0, 0)] (47, [some (.ref 0), some (.int 1), some (.int c), some (.int i)], [], σ) [¬ sy_cc .ge i (σ.1 0 24)] (by decide +kernel) rfl ⟨c1, trivial⟩ ?_
    refine sy_bk [(.iload_n 1, 0, 0, 0, 0), (.ifCond .eq 23, 0, 71, 0, 0), (.aload_n 0, 0, 0, 0, 0), (.getfield 56, 12, 23, 0, 0), (.iload_n 3, 0, 0, 0, 0), (.aload_n 0, 0, 0, 0, 0), (.getfield 56, 12, 23, 0, 0), (.iload_n 3, 0, 0, 0, 0), (.iconst 1, 0, 0, 1, 0), (.iadd, 0, 0, 0, 0), (.iaload, 0, 0, 0, 0), (.iastore, 0, 0, 0, 0), (.iinc 3 1, 0, 0, 1, 0), (.goto (-29), 0, 39, 0, 0)] (39, [some (.ref 0), some (.int 1), some (.int c), some (.int (i + 1))], [], (sy_up σ.1 13 i.toNatClampNeg (σ.1 13 ((i + 1).toNatClampNeg)), σ.2)) [¬ sy_cc .eq 1 0, sy_okA shM 0 13 (i + 1), sy_okA shM 0 13 i] (by decide +kernel) rfl ⟨(by decide : ¬ ((1 : Int32) = 0)), ⟨16, _, rfl, (b2 c1)⟩, ⟨16, _, rfl, (b3 c1)⟩, trivial⟩ ?_
    exact k2 c1

set_option maxRecDepth 20000 in
theorem w_m_leaves0_0 {Q : Option Value → sy_S → Prop} {σ : sy_S}   (b1 : ¬ (σ.1 0 24) = 0 → vp_in ((σ.1 0 24) - 1) 16) (k1 : ¬ (σ.1 0 24) = 0 → sy_E shM mX12_leaves (39, [some (.ref 0), some (.int 0), some (.int (σ.1 13 (((σ.1 0 24) - 1).toNatClampNeg))), some (.int 0)], [], (sy_up σ.1 0 24 ((σ.1 0 24) - 1), σ.2)) Q) (k2 : ¬ (¬ (σ.1 0 24) = 0) → Q (some (.int (-1))) σ) : sy_E shM mX12_leaves (0, sy_ent [.ref 0, .int 0] 4, [], σ) Q := by
  show sy_E shM mX12_leaves (0, [some (.ref 0), some (.int 0), none, none], [], σ) _
  refine sy_bk [(.aload_n 0, 0, 0, 0, 0), (.getfield 219, 12, 24, 0, 0)] (4, [some (.ref 0), some (.int 0), none, none], [.int (σ.1 0 24)], σ) [] (by decide +kernel) rfl trivial ?_
  by_cases c1 : ¬ (σ.1 0 24) = 0
  · refine sy_bk [(.ifCond .ne 5, 1, 9, 0, 0)] (9, [some (.ref 0), some (.int 0), none, none], [], σ) [sy_cc .ne (σ.1 0 24) 0] (by decide +kernel) rfl ⟨c1, trivial⟩ ?_
    refine sy_bk [(.aload_n 0, 0, 0, 0, 0), (.dup, 0, 0, 0, 0), (.getfield 219, 12, 24, 0, 0), (.iconst 1, 0, 0, 1, 0), (.isub, 0, 0, 0, 0), (.putfield 219, 12, 24, 0, 0), (.aload_n 0, 0, 0, 0, 0), (.getfield 56, 12, 23, 0, 0), (.iload_n 1, 0, 0, 0, 0), (.ifCond .eq 7, 1, 31, 0, 0), (.aload_n 0, 0, 0, 0, 0), (.getfield 219, 12, 24, 0, 0), (.iaload, 0, 0, 0, 0), (.istore_n 2, 0, 0, 0, 0), (.iconst 0, 0, 0, 0, 0), (.istore_n 3, 0, 0, 0, 0)] (39, [some (.ref 0), some (.int 0), some (.int (σ.1 13 (((σ.1 0 24) - 1).toNatClampNeg))), some (.int 0)], [], (sy_up σ.1 0 24 ((σ.1 0 24) - 1), σ.2)) [sy_cc .eq 0 0, sy_okA shM 0 13 ((σ.1 0 24) - 1)] (by decide +kernel) rfl ⟨(by decide : ((0 : Int32) = 0)), ⟨16, _, rfl, (b1 c1)⟩, trivial⟩ ?_
    exact k1 c1
  · refine sy_bk [(.ifCond .ne 5, 0, 9, 0, 0)] (7, [some (.ref 0), some (.int 0), none, none], [], σ) [¬ sy_cc .ne (σ.1 0 24) 0] (by decide +kernel) rfl ⟨c1, trivial⟩ ?_
    refine sy_bk [(.iconst (-1), 0, 0, (-1), 0)] (8, [some (.ref 0), some (.int 0), none, none], [.int (-1)], σ) [] (by decide +kernel) rfl trivial ?_
    exact sy_reti rfl (by decide +kernel) (k2 c1)

set_option maxRecDepth 20000 in
theorem w_m_leaves0_39 {Q : Option Value → sy_S → Prop} {σ : sy_S} {c : Int32} {i : Int32}  (b1 : (σ.1 0 24) ≤ i → vp_in c 16) (b2 : ¬ ((σ.1 0 24) ≤ i) → vp_in c 16) (k1 : (σ.1 0 24) ≤ i → Q (some (.int c)) (sy_up σ.1 14 c.toNatClampNeg (vp_nar .boolean 0), σ.2)) (k2 : ¬ ((σ.1 0 24) ≤ i) → Q (some (.int c)) (sy_up σ.1 14 c.toNatClampNeg (vp_nar .boolean 0), σ.2)) : sy_E shM mX12_leaves (39, [some (.ref 0), some (.int 0), some (.int c), some (.int i)], [], σ) Q := by
  refine sy_bk [(.iload_n 3, 0, 0, 0, 0), (.aload_n 0, 0, 0, 0, 0), (.getfield 219, 12, 24, 0, 0)] (44, [some (.ref 0), some (.int 0), some (.int c), some (.int i)], [.int (σ.1 0 24), .int i], σ) [] (by decide +kernel) rfl trivial ?_
  by_cases c1 : (σ.1 0 24) ≤ i
  · refine sy_bk [(.if_icmp .ge 27, 1, 71, 0, 0)] (71, [some (.ref 0), some (.int 0), some (.int c), some (.int i)], [], σ) [sy_cc .ge i (σ.1 0 24)] (by decide +kernel) rfl ⟨c1, trivial⟩ ?_
    refine sy_bk [(.aload_n 0, 0, 0, 0, 0), (.getfield 59, 12, 25, 0, 0), (.iload_n 2, 0, 0, 0, 0), (.iconst 0, 0, 0, 0, 0), (.bastore, 0, 0, 0, 0), (.iload_n 2, 0, 0, 0, 0)] (79, [some (.ref 0), some (.int 0), some (.int c), some (.int i)], [.int c], (sy_up σ.1 14 c.toNatClampNeg (vp_nar .boolean 0), σ.2)) [sy_okA shM 1 14 c] (by decide +kernel) rfl ⟨⟨16, _, rfl, (b1 c1)⟩, trivial⟩ ?_
    exact sy_reti rfl (by decide +kernel) (k1 c1)
  · refine sy_bk [(.if_icmp .ge 27, 0, 71, 0, 0)] (47, [some (.ref 0), some (.int 0), some (.int c), some (.int i)], [], σ) [¬ sy_cc .ge i (σ.1 0 24)] (by decide +kernel) rfl ⟨c1, trivial⟩ ?_
    refine sy_bk [(.iload_n 1, 0, 0, 0, 0), (.ifCond .eq 23, 1, 71, 0, 0), (.aload_n 0, 0, 0, 0, 0), (.getfield 59, 12, 25, 0, 0), (.iload_n 2, 0, 0, 0, 0), (.iconst 0, 0, 0, 0, 0), (.bastore, 0, 0, 0, 0), (.iload_n 2, 0, 0, 0, 0)] (79, [some (.ref 0), some (.int 0), some (.int c), some (.int i)], [.int c], (sy_up σ.1 14 c.toNatClampNeg (vp_nar .boolean 0), σ.2)) [sy_cc .eq 0 0, sy_okA shM 1 14 c] (by decide +kernel) rfl ⟨(by decide : ((0 : Int32) = 0)), ⟨16, _, rfl, (b2 c1)⟩, trivial⟩ ?_
    exact sy_reti rfl (by decide +kernel) (k2 c1)

set_option maxRecDepth 20000 in
theorem w_m_goes_0 {Q : Option Value → sy_S → Prop} {σ : sy_S} {o : Int32}   (k1 : ¬ o = 0 → ¬ o = 3 → ¬ o = 1 → sy_E shM mX12_leaves (0, sy_ent [.ref 0, .int 0] 4, [], σ) (fun r9 σ9 => sy_E shM mX12_goes (39, [some (.ref 0), some (.ref 12), some (.int o), none, none], r9.toList ++ [], σ9) Q)) (k2 : ¬ o = 0 → ¬ o = 3 → ¬ (¬ o = 1) → sy_E shM mX12_leaves (0, sy_ent [.ref 0, .int 1] 4, [], σ) (fun r9 σ9 => sy_E shM mX12_goes (39, [some (.ref 0), some (.ref 12), some (.int o), none, none], r9.toList ++ [], σ9) Q)) (k3 : ¬ o = 0 → ¬ (¬ o = 3) → sy_E shM mX12_tallest (0, sy_ent [.ref 0, .ref 12] 4, [], σ) (fun r9 σ9 => sy_E shM mX12_goes (22, [some (.ref 0), some (.ref 12), some (.int o), none, none], r9.toList ++ [], σ9) Q)) (k4 : ¬ (¬ o = 0) → sy_E shM mX12_least (0, sy_ent [.ref 0, .ref 12] 3, [], σ) (fun r9 σ9 => sy_E shM mX12_goes (9, [some (.ref 0), some (.ref 12), some (.int o), none, none], r9.toList ++ [], σ9) Q)) : sy_E shM mX12_goes (0, sy_ent [.ref 0, .ref 12, .int o] 5, [], σ) Q := by
  show sy_E shM mX12_goes (0, [some (.ref 0), some (.ref 12), some (.int o), none, none], [], σ) _
  refine sy_bk [(.iload_n 2, 0, 0, 0, 0)] (1, [some (.ref 0), some (.ref 12), some (.int o), none, none], [.int o], σ) [] (by decide +kernel) rfl trivial ?_
  by_cases c1 : ¬ o = 0
  · refine sy_bk [(.ifCond .ne 11, 1, 12, 0, 0)] (12, [some (.ref 0), some (.ref 12), some (.int o), none, none], [], σ) [sy_cc .ne o 0] (by decide +kernel) rfl ⟨c1, trivial⟩ ?_
    refine sy_bk [(.iload_n 2, 0, 0, 0, 0), (.iconst 3, 0, 0, 3, 0)] (14, [some (.ref 0), some (.ref 12), some (.int o), none, none], [.int 3, .int o], σ) [] (by decide +kernel) rfl trivial ?_
    by_cases c2 : ¬ o = 3
    · refine sy_bk [(.if_icmp .ne 11, 1, 25, 0, 0)] (25, [some (.ref 0), some (.ref 12), some (.int o), none, none], [], σ) [sy_cc .ne o 3] (by decide +kernel) rfl ⟨c2, trivial⟩ ?_
      refine sy_bk [(.aload_n 0, 0, 0, 0, 0), (.iload_n 2, 0, 0, 0, 0), (.iconst 1, 0, 0, 1, 0)] (28, [some (.ref 0), some (.ref 12), some (.int o), none, none], [.int 1, .int o, .ref 0], σ) [] (by decide +kernel) rfl trivial ?_
      by_cases c3 : ¬ o = 1
      · refine sy_bk [(.if_icmp .ne 7, 1, 35, 0, 0)] (35, [some (.ref 0), some (.ref 12), some (.int o), none, none], [.ref 0], σ) [sy_cc .ne o 1] (by decide +kernel) rfl ⟨c3, trivial⟩ ?_
        refine sy_bk [(.iconst 0, 0, 0, 0, 0)] (36, [some (.ref 0), some (.ref 12), some (.int o), none, none], [.int 0, .ref 0], σ) [] (by decide +kernel) rfl trivial ?_
        refine sy_callV mX12_leaves 0 [.int 0] [] kX12_leaves jX12_232 (by decide +kernel) rfl rfl (Nat.le_of_ble_eq_true rfl) (Nat.le_of_ble_eq_true rfl) (by decide) rfl ?_
        exact k1 c1 c2 c3
      · refine sy_bk [(.if_icmp .ne 7, 0, 35, 0, 0)] (31, [some (.ref 0), some (.ref 12), some (.int o), none, none], [.ref 0], σ) [¬ sy_cc .ne o 1] (by decide +kernel) rfl ⟨c3, trivial⟩ ?_
        refine sy_bk [(.iconst 1, 0, 0, 1, 0), (.goto 4, 0, 36, 0, 0)] (36, [some (.ref 0), some (.ref 12), some (.int o), none, none], [.int 1, .ref 0], σ) [] (by decide +kernel) rfl trivial ?_
        refine sy_callV mX12_leaves 0 [.int 1] [] kX12_leaves jX12_232 (by decide +kernel) rfl rfl (Nat.le_of_ble_eq_true rfl) (Nat.le_of_ble_eq_true rfl) (by decide) rfl ?_
        exact k2 c1 c2 c3
    · refine sy_bk [(.if_icmp .ne 11, 0, 25, 0, 0)] (17, [some (.ref 0), some (.ref 12), some (.int o), none, none], [], σ) [¬ sy_cc .ne o 3] (by decide +kernel) rfl ⟨c2, trivial⟩ ?_
      refine sy_bk [(.aload_n 0, 0, 0, 0, 0), (.aload_n 1, 0, 0, 0, 0)] (19, [some (.ref 0), some (.ref 12), some (.int o), none, none], [.ref 12, .ref 0], σ) [] (by decide +kernel) rfl trivial ?_
      refine sy_callV mX12_tallest 0 [.ref 12] [] kX12_tallest jX12_229 (by decide +kernel) rfl rfl (Nat.le_of_ble_eq_true rfl) (Nat.le_of_ble_eq_true rfl) (by decide) rfl ?_
      exact k3 c1 c2
  · refine sy_bk [(.ifCond .ne 11, 0, 12, 0, 0)] (4, [some (.ref 0), some (.ref 12), some (.int o), none, none], [], σ) [¬ sy_cc .ne o 0] (by decide +kernel) rfl ⟨c1, trivial⟩ ?_
    refine sy_bk [(.aload_n 0, 0, 0, 0, 0), (.aload_n 1, 0, 0, 0, 0)] (6, [some (.ref 0), some (.ref 12), some (.int o), none, none], [.ref 12, .ref 0], σ) [] (by decide +kernel) rfl trivial ?_
    refine sy_callV mX12_least 0 [.ref 12] [] kX12_least jX12_226 (by decide +kernel) rfl rfl (Nat.le_of_ble_eq_true rfl) (Nat.le_of_ble_eq_true rfl) (by decide) rfl ?_
    exact k4 c1

set_option maxRecDepth 20000 in
theorem w_m_goes_9 {Q : Option Value → sy_S → Prop} {σ : sy_S} {o : Int32} {c : Int32}   (k1 : 0 ≤ c → sy_E shM mX12_topples (0, sy_ent [.ref 0, .ref 12, .int c, .int 1] 5, [], σ) (fun r9 σ9 => sy_E shM mX12_goes (53, [some (.ref 0), some (.ref 12), some (.int o), some (.int c), none], r9.toList ++ [], σ9) Q)) (k2 : ¬ (0 ≤ c) → Q (some (.int (-1))) σ) : sy_E shM mX12_goes (9, [some (.ref 0), some (.ref 12), some (.int o), none, none], [.int c], σ) Q := by
  refine sy_bk [(.goto 30, 0, 39, 0, 0), (.istore_n 3, 0, 0, 0, 0), (.iload_n 3, 0, 0, 0, 0)] (41, [some (.ref 0), some (.ref 12), some (.int o), some (.int c), none], [.int c], σ) [] (by decide +kernel) rfl trivial ?_
  by_cases c1 : 0 ≤ c
  · refine sy_bk [(.ifCond .ge 5, 1, 46, 0, 0)] (46, [some (.ref 0), some (.ref 12), some (.int o), some (.int c), none], [], σ) [sy_cc .ge c 0] (by decide +kernel) rfl ⟨c1, trivial⟩ ?_
    refine sy_bk [(.aload_n 0, 0, 0, 0, 0), (.aload_n 1, 0, 0, 0, 0), (.iload_n 3, 0, 0, 0, 0), (.iconst 1, 0, 0, 1, 0)] (50, [some (.ref 0), some (.ref 12), some (.int o), some (.int c), none], [.int 1, .int c, .ref 12, .ref 0], σ) [] (by decide +kernel) rfl trivial ?_
    refine sy_callV mX12_topples 0 [.ref 12, .int c, .int 1] [] kX12_topples jX12_131 (by decide +kernel) rfl rfl (Nat.le_of_ble_eq_true rfl) (Nat.le_of_ble_eq_true rfl) (by decide) rfl ?_
    exact k1 c1
  · refine sy_bk [(.ifCond .ge 5, 0, 46, 0, 0)] (44, [some (.ref 0), some (.ref 12), some (.int o), some (.int c), none], [], σ) [¬ sy_cc .ge c 0] (by decide +kernel) rfl ⟨c1, trivial⟩ ?_
    refine sy_bk [(.iconst (-1), 0, 0, (-1), 0)] (45, [some (.ref 0), some (.ref 12), some (.int o), some (.int c), none], [.int (-1)], σ) [] (by decide +kernel) rfl trivial ?_
    exact sy_reti rfl (by decide +kernel) (k2 c1)

set_option maxRecDepth 20000 in
theorem w_m_goes_22 {Q : Option Value → sy_S → Prop} {σ : sy_S} {o : Int32} {c : Int32}   (k1 : 0 ≤ c → sy_E shM mX12_topples (0, sy_ent [.ref 0, .ref 12, .int c, .int 1] 5, [], σ) (fun r9 σ9 => sy_E shM mX12_goes (53, [some (.ref 0), some (.ref 12), some (.int o), some (.int c), none], r9.toList ++ [], σ9) Q)) (k2 : ¬ (0 ≤ c) → Q (some (.int (-1))) σ) : sy_E shM mX12_goes (22, [some (.ref 0), some (.ref 12), some (.int o), none, none], [.int c], σ) Q := by
  refine sy_bk [(.goto 17, 0, 39, 0, 0), (.istore_n 3, 0, 0, 0, 0), (.iload_n 3, 0, 0, 0, 0)] (41, [some (.ref 0), some (.ref 12), some (.int o), some (.int c), none], [.int c], σ) [] (by decide +kernel) rfl trivial ?_
  by_cases c1 : 0 ≤ c
  · refine sy_bk [(.ifCond .ge 5, 1, 46, 0, 0)] (46, [some (.ref 0), some (.ref 12), some (.int o), some (.int c), none], [], σ) [sy_cc .ge c 0] (by decide +kernel) rfl ⟨c1, trivial⟩ ?_
    refine sy_bk [(.aload_n 0, 0, 0, 0, 0), (.aload_n 1, 0, 0, 0, 0), (.iload_n 3, 0, 0, 0, 0), (.iconst 1, 0, 0, 1, 0)] (50, [some (.ref 0), some (.ref 12), some (.int o), some (.int c), none], [.int 1, .int c, .ref 12, .ref 0], σ) [] (by decide +kernel) rfl trivial ?_
    refine sy_callV mX12_topples 0 [.ref 12, .int c, .int 1] [] kX12_topples jX12_131 (by decide +kernel) rfl rfl (Nat.le_of_ble_eq_true rfl) (Nat.le_of_ble_eq_true rfl) (by decide) rfl ?_
    exact k1 c1
  · refine sy_bk [(.ifCond .ge 5, 0, 46, 0, 0)] (44, [some (.ref 0), some (.ref 12), some (.int o), some (.int c), none], [], σ) [¬ sy_cc .ge c 0] (by decide +kernel) rfl ⟨c1, trivial⟩ ?_
    refine sy_bk [(.iconst (-1), 0, 0, (-1), 0)] (45, [some (.ref 0), some (.ref 12), some (.int o), some (.int c), none], [.int (-1)], σ) [] (by decide +kernel) rfl trivial ?_
    exact sy_reti rfl (by decide +kernel) (k2 c1)

set_option maxRecDepth 20000 in
theorem w_m_goes_39 {Q : Option Value → sy_S → Prop} {σ : sy_S} {o : Int32} {c : Int32}   (k1 : 0 ≤ c → sy_E shM mX12_topples (0, sy_ent [.ref 0, .ref 12, .int c, .int 1] 5, [], σ) (fun r9 σ9 => sy_E shM mX12_goes (53, [some (.ref 0), some (.ref 12), some (.int o), some (.int c), none], r9.toList ++ [], σ9) Q)) (k2 : ¬ (0 ≤ c) → Q (some (.int (-1))) σ) : sy_E shM mX12_goes (39, [some (.ref 0), some (.ref 12), some (.int o), none, none], [.int c], σ) Q := by
  refine sy_bk [(.istore_n 3, 0, 0, 0, 0), (.iload_n 3, 0, 0, 0, 0)] (41, [some (.ref 0), some (.ref 12), some (.int o), some (.int c), none], [.int c], σ) [] (by decide +kernel) rfl trivial ?_
  by_cases c1 : 0 ≤ c
  · refine sy_bk [(.ifCond .ge 5, 1, 46, 0, 0)] (46, [some (.ref 0), some (.ref 12), some (.int o), some (.int c), none], [], σ) [sy_cc .ge c 0] (by decide +kernel) rfl ⟨c1, trivial⟩ ?_
    refine sy_bk [(.aload_n 0, 0, 0, 0, 0), (.aload_n 1, 0, 0, 0, 0), (.iload_n 3, 0, 0, 0, 0), (.iconst 1, 0, 0, 1, 0)] (50, [some (.ref 0), some (.ref 12), some (.int o), some (.int c), none], [.int 1, .int c, .ref 12, .ref 0], σ) [] (by decide +kernel) rfl trivial ?_
    refine sy_callV mX12_topples 0 [.ref 12, .int c, .int 1] [] kX12_topples jX12_131 (by decide +kernel) rfl rfl (Nat.le_of_ble_eq_true rfl) (Nat.le_of_ble_eq_true rfl) (by decide) rfl ?_
    exact k1 c1
  · refine sy_bk [(.ifCond .ge 5, 0, 46, 0, 0)] (44, [some (.ref 0), some (.ref 12), some (.int o), some (.int c), none], [], σ) [¬ sy_cc .ge c 0] (by decide +kernel) rfl ⟨c1, trivial⟩ ?_
    refine sy_bk [(.iconst (-1), 0, 0, (-1), 0)] (45, [some (.ref 0), some (.ref 12), some (.int o), some (.int c), none], [.int (-1)], σ) [] (by decide +kernel) rfl trivial ?_
    exact sy_reti rfl (by decide +kernel) (k2 c1)

set_option maxRecDepth 20000 in
theorem w_m_goes_53 {Q : Option Value → sy_S → Prop} {σ : sy_S} {o : Int32} {c : Int32}   (k1 : sy_E shM mX12_goes (56, [some (.ref 0), some (.ref 12), some (.int o), some (.int c), some (.int 0)], [], σ) Q) : sy_E shM mX12_goes (53, [some (.ref 0), some (.ref 12), some (.int o), some (.int c), none], [], σ) Q := by
  refine sy_bk [(.iconst 0, 0, 0, 0, 0), (.istore 4, 0, 0, 0, 0)] (56, [some (.ref 0), some (.ref 12), some (.int o), some (.int c), some (.int 0)], [], σ) [] (by decide +kernel) rfl trivial ?_
  exact k1

set_option maxRecDepth 20000 in
theorem w_m_goes_56 {Q : Option Value → sy_S → Prop} {σ : sy_S} {o : Int32} {c : Int32} {i : Int32}  (b1 : vp_in c 16) (b2 : ¬ ((σ.1 4 c.toNatClampNeg) ≤ i) → o = 1 → vp_in ((4 * c) + i) 64) (b3 : ¬ ((σ.1 4 c.toNatClampNeg) ≤ i) → ¬ (o = 1) → ¬ (¬ o = 2) → vp_in ((4 * c) + i) 64) (k1 : (σ.1 4 c.toNatClampNeg) ≤ i → sy_E shM mX12_goes (99, [some (.ref 0), some (.ref 12), some (.int o), some (.int c), none], [], σ) Q) (k2 : ¬ ((σ.1 4 c.toNatClampNeg) ≤ i) → o = 1 → sy_E shM mX12_comesBehind (0, sy_ent [.ref 0, .ref 12, .int (σ.1 3 (((4 * c) + i).toNatClampNeg))] 3, [], σ) (fun r9 σ9 => sy_E shM mX12_goes (93, [some (.ref 0), some (.ref 12), some (.int o), some (.int c), some (.int i)], r9.toList ++ [], σ9) Q)) (k3 : ¬ ((σ.1 4 c.toNatClampNeg) ≤ i) → ¬ (o = 1) → ¬ o = 2 → sy_E shM mX12_goes (99, [some (.ref 0), some (.ref 12), some (.int o), some (.int c), none], [], σ) Q) (k4 : ¬ ((σ.1 4 c.toNatClampNeg) ≤ i) → ¬ (o = 1) → ¬ (¬ o = 2) → sy_E shM mX12_comesBehind (0, sy_ent [.ref 0, .ref 12, .int (σ.1 3 (((4 * c) + i).toNatClampNeg))] 3, [], σ) (fun r9 σ9 => sy_E shM mX12_goes (93, [some (.ref 0), some (.ref 12), some (.int o), some (.int c), some (.int i)], r9.toList ++ [], σ9) Q)) : sy_E shM mX12_goes (56, [some (.ref 0), some (.ref 12), some (.int o), some (.int c), some (.int i)], [], σ) Q := by
  refine sy_bk [(.iload 4, 0, 0, 0, 0), (.aload_n 0, 0, 0, 0, 0), (.getfield 29, 12, 5, 0, 0), (.iload_n 3, 0, 0, 0, 0), (.iaload, 0, 0, 0, 0)] (64, [some (.ref 0), some (.ref 12), some (.int o), some (.int c), some (.int i)], [.int (σ.1 4 c.toNatClampNeg), .int i], σ) [sy_okA shM 0 4 c] (by decide +kernel) rfl ⟨⟨16, _, rfl, b1⟩, trivial⟩ ?_
  by_cases c1 : (σ.1 4 c.toNatClampNeg) ≤ i
  · refine sy_bk [(.if_icmp .ge 35, 1, 99, 0, 0)] (99, [some (.ref 0), some (.ref 12), some (.int o), some (.int c), some (.int i)], [], σ) [sy_cc .ge i (σ.1 4 c.toNatClampNeg)] (by decide +kernel) rfl ⟨c1, trivial⟩ ?_
    refine sy_drop [some (.ref 0), some (.ref 12), some (.int o), some (.int c), none] ⟨rfl, rfl, rfl, rfl, trivial⟩ ?_
    exact k1 c1
  · refine sy_bk [(.if_icmp .ge 35, 0, 99, 0, 0)] (67, [some (.ref 0), some (.ref 12), some (.int o), some (.int c), some (.int i)], [], σ) [¬ sy_cc .ge i (σ.1 4 c.toNatClampNeg)] (by decide +kernel) rfl ⟨c1, trivial⟩ ?_
    refine sy_bk [(.iload_n 2, 0, 0, 0, 0), (.iconst 1, 0, 0, 1, 0)] (69, [some (.ref 0), some (.ref 12), some (.int o), some (.int c), some (.int i)], [.int 1, .int o], σ) [] (by decide +kernel) rfl trivial ?_
    by_cases c2 : o = 1
    · refine sy_bk [(.if_icmp .eq 8, 1, 77, 0, 0)] (77, [some (.ref 0), some (.ref 12), some (.int o), some (.int c), some (.int i)], [], σ) [sy_cc .eq o 1] (by decide +kernel) rfl ⟨c2, trivial⟩ ?_
      refine sy_bk [(.aload_n 0, 0, 0, 0, 0), (.aload_n 1, 0, 0, 0, 0), (.aload_n 0, 0, 0, 0, 0), (.getfield 26, 12, 4, 0, 0), (.iconst 4, 0, 0, 4, 0), (.iload_n 3, 0, 0, 0, 0), (.imul, 0, 0, 0, 0), (.iload 4, 0, 0, 0, 0), (.iadd, 0, 0, 0, 0), (.iaload, 0, 0, 0, 0)] (90, [some (.ref 0), some (.ref 12), some (.int o), some (.int c), some (.int i)], [.int (σ.1 3 (((4 * c) + i).toNatClampNeg)), .ref 12, .ref 0], σ) [sy_okA shM 0 3 ((4 * c) + i)] (by decide +kernel) rfl ⟨⟨64, _, rfl, (b2 c1 c2)⟩, trivial⟩ ?_
      refine sy_callV mX12_comesBehind 0 [.ref 12, .int (σ.1 3 (((4 * c) + i).toNatClampNeg))] [] kX12_comesBehind jX12_222 (by decide +kernel) rfl rfl (Nat.le_of_ble_eq_true rfl) (Nat.le_of_ble_eq_true rfl) (by decide) rfl ?_
      exact k2 c1 c2
    · refine sy_bk [(.if_icmp .eq 8, 0, 77, 0, 0)] (72, [some (.ref 0), some (.ref 12), some (.int o), some (.int c), some (.int i)], [], σ) [¬ sy_cc .eq o 1] (by decide +kernel) rfl ⟨c2, trivial⟩ ?_
      refine sy_bk [(.iload_n 2, 0, 0, 0, 0), (.iconst 2, 0, 0, 2, 0)] (74, [some (.ref 0), some (.ref 12), some (.int o), some (.int c), some (.int i)], [.int 2, .int o], σ) [] (by decide +kernel) rfl trivial ?_
      by_cases c3 : ¬ o = 2
      · refine sy_bk [(.if_icmp .ne 25, 1, 99, 0, 0)] (99, [some (.ref 0), some (.ref 12), some (.int o), some (.int c), some (.int i)], [], σ) [sy_cc .ne o 2] (by decide +kernel) rfl ⟨c3, trivial⟩ ?_
        refine sy_drop [some (.ref 0), some (.ref 12), some (.int o), some (.int c), none] ⟨rfl, rfl, rfl, rfl, trivial⟩ ?_
        exact k3 c1 c2 c3
      · refine sy_bk [(.if_icmp .ne 25, 0, 99, 0, 0)] (77, [some (.ref 0), some (.ref 12), some (.int o), some (.int c), some (.int i)], [], σ) [¬ sy_cc .ne o 2] (by decide +kernel) rfl ⟨c3, trivial⟩ ?_
        refine sy_bk [(.aload_n 0, 0, 0, 0, 0), (.aload_n 1, 0, 0, 0, 0), (.aload_n 0, 0, 0, 0, 0), (.getfield 26, 12, 4, 0, 0), (.iconst 4, 0, 0, 4, 0), (.iload_n 3, 0, 0, 0, 0), (.imul, 0, 0, 0, 0), (.iload 4, 0, 0, 0, 0), (.iadd, 0, 0, 0, 0), (.iaload, 0, 0, 0, 0)] (90, [some (.ref 0), some (.ref 12), some (.int o), some (.int c), some (.int i)], [.int (σ.1 3 (((4 * c) + i).toNatClampNeg)), .ref 12, .ref 0], σ) [sy_okA shM 0 3 ((4 * c) + i)] (by decide +kernel) rfl ⟨⟨64, _, rfl, (b3 c1 c2 c3)⟩, trivial⟩ ?_
        refine sy_callV mX12_comesBehind 0 [.ref 12, .int (σ.1 3 (((4 * c) + i).toNatClampNeg))] [] kX12_comesBehind jX12_222 (by decide +kernel) rfl rfl (Nat.le_of_ble_eq_true rfl) (Nat.le_of_ble_eq_true rfl) (by decide) rfl ?_
        exact k4 c1 c2 c3

set_option maxRecDepth 20000 in
theorem w_m_goes_93 {Q : Option Value → sy_S → Prop} {σ : sy_S} {o : Int32} {c : Int32} {i : Int32}   (k1 : sy_E shM mX12_goes (56, [some (.ref 0), some (.ref 12), some (.int o), some (.int c), some (.int (i + 1))], [], σ) Q) : sy_E shM mX12_goes (93, [some (.ref 0), some (.ref 12), some (.int o), some (.int c), some (.int i)], [], σ) Q := by
  refine sy_bk [(.iinc 4 1, 0, 0, 1, 0), (.goto (-40), 0, 56, 0, 0)] (56, [some (.ref 0), some (.ref 12), some (.int o), some (.int c), some (.int (i + 1))], [], σ) [] (by decide +kernel) rfl trivial ?_
  exact k1

set_option maxRecDepth 20000 in
theorem w_m_goes_99 {Q : Option Value → sy_S → Prop} {σ : sy_S} {o : Int32} {c : Int32}   (k1 : o = 1 → sy_E shM mX12_comesBehind (0, sy_ent [.ref 0, .ref 12, .int c] 3, [], σ) (fun r9 σ9 => sy_E shM mX12_goes (115, [none, none, none, some (.int c), none], r9.toList ++ [], σ9) Q)) (k2 : ¬ (o = 1) → ¬ o = 2 → Q (some (.int c)) σ) (k3 : ¬ (o = 1) → ¬ (¬ o = 2) → sy_E shM mX12_comesBehind (0, sy_ent [.ref 0, .ref 12, .int c] 3, [], σ) (fun r9 σ9 => sy_E shM mX12_goes (115, [none, none, none, some (.int c), none], r9.toList ++ [], σ9) Q)) : sy_E shM mX12_goes (99, [some (.ref 0), some (.ref 12), some (.int o), some (.int c), none], [], σ) Q := by
  refine sy_bk [(.iload_n 2, 0, 0, 0, 0), (.iconst 1, 0, 0, 1, 0)] (101, [some (.ref 0), some (.ref 12), some (.int o), some (.int c), none], [.int 1, .int o], σ) [] (by decide +kernel) rfl trivial ?_
  by_cases c1 : o = 1
  · refine sy_bk [(.if_icmp .eq 8, 1, 109, 0, 0)] (109, [some (.ref 0), some (.ref 12), some (.int o), some (.int c), none], [], σ) [sy_cc .eq o 1] (by decide +kernel) rfl ⟨c1, trivial⟩ ?_
    refine sy_bk [(.aload_n 0, 0, 0, 0, 0), (.aload_n 1, 0, 0, 0, 0), (.iload_n 3, 0, 0, 0, 0)] (112, [some (.ref 0), some (.ref 12), some (.int o), some (.int c), none], [.int c, .ref 12, .ref 0], σ) [] (by decide +kernel) rfl trivial ?_
    refine sy_drop [none, none, none, some (.int c), none] ⟨rfl, trivial⟩ ?_
    refine sy_callV mX12_comesBehind 0 [.ref 12, .int c] [] kX12_comesBehind jX12_222 (by decide +kernel) rfl rfl (Nat.le_of_ble_eq_true rfl) (Nat.le_of_ble_eq_true rfl) (by decide) rfl ?_
    exact k1 c1
  · refine sy_bk [(.if_icmp .eq 8, 0, 109, 0, 0)] (104, [some (.ref 0), some (.ref 12), some (.int o), some (.int c), none], [], σ) [¬ sy_cc .eq o 1] (by decide +kernel) rfl ⟨c1, trivial⟩ ?_
    refine sy_bk [(.iload_n 2, 0, 0, 0, 0), (.iconst 2, 0, 0, 2, 0)] (106, [some (.ref 0), some (.ref 12), some (.int o), some (.int c), none], [.int 2, .int o], σ) [] (by decide +kernel) rfl trivial ?_
    by_cases c2 : ¬ o = 2
    · refine sy_bk [(.if_icmp .ne 9, 1, 115, 0, 0)] (115, [some (.ref 0), some (.ref 12), some (.int o), some (.int c), none], [], σ) [sy_cc .ne o 2] (by decide +kernel) rfl ⟨c2, trivial⟩ ?_
      refine sy_bk [(.iload_n 3, 0, 0, 0, 0)] (116, [some (.ref 0), some (.ref 12), some (.int o), some (.int c), none], [.int c], σ) [] (by decide +kernel) rfl trivial ?_
      exact sy_reti rfl (by decide +kernel) (k2 c1 c2)
    · refine sy_bk [(.if_icmp .ne 9, 0, 115, 0, 0)] (109, [some (.ref 0), some (.ref 12), some (.int o), some (.int c), none], [], σ) [¬ sy_cc .ne o 2] (by decide +kernel) rfl ⟨c2, trivial⟩ ?_
      refine sy_bk [(.aload_n 0, 0, 0, 0, 0), (.aload_n 1, 0, 0, 0, 0), (.iload_n 3, 0, 0, 0, 0)] (112, [some (.ref 0), some (.ref 12), some (.int o), some (.int c), none], [.int c, .ref 12, .ref 0], σ) [] (by decide +kernel) rfl trivial ?_
      refine sy_drop [none, none, none, some (.int c), none] ⟨rfl, trivial⟩ ?_
      refine sy_callV mX12_comesBehind 0 [.ref 12, .int c] [] kX12_comesBehind jX12_222 (by decide +kernel) rfl rfl (Nat.le_of_ble_eq_true rfl) (Nat.le_of_ble_eq_true rfl) (by decide) rfl ?_
      exact k3 c1 c2

set_option maxRecDepth 20000 in
theorem w_m_goes_115 {Q : Option Value → sy_S → Prop} {σ : sy_S} {c : Int32}   (k1 : Q (some (.int c)) σ) : sy_E shM mX12_goes (115, [none, none, none, some (.int c), none], [], σ) Q := by
  refine sy_bk [(.iload_n 3, 0, 0, 0, 0)] (116, [none, none, none, some (.int c), none], [.int c], σ) [] (by decide +kernel) rfl trivial ?_
  exact sy_reti rfl (by decide +kernel) (k1)
end
section
/-! the model's orders: contracts -/
def mlr (G : sg_G) (H : Nat → Nat) (L : List Nat) (c : Nat) : List Nat := if c ∉ L ∧ rdy G H c = true then L ++ [c] else L
theorem mlr_pm {G : sg_G} {H : Nat → Nat} {m : Nat} (hm : m ≤ sg_n G) (L : List Nat) : (List.range m).foldl (mlr G H) L = (sg_pm G m).foldl (mline H) L := by
  induction m with
  | zero => rfl
  | succ m ih =>
    rw [List.range_succ, sg_pm_s, List.foldl_append, List.foldl_append, ih (by omega)]
    cases hw : G.2.2 m
    · simp only [Bool.false_eq_true, if_false, List.foldl_cons, List.foldl_nil]
      unfold mlr mline
      have e : rdy G H m = true ↔ 3 < H m := by
        rw [rdy_iff]
        exact ⟨fun h => h.2, fun h => ⟨⟨by omega, hw⟩, h⟩⟩
      simp only [e]
    · simp only [if_true, List.foldl_cons, List.foldl_nil]
      unfold mlr
      have e : ¬ rdy G H m = true := by
        rw [rdy_iff]
        exact fun h => by have := h.1.2; rw [hw] at this; cases this
      rw [if_neg (fun h => e h.2)]
theorem pm_find {G : sg_G} {H : Nat → Nat} : ∀ m, m ≤ sg_n G → (∀ j, j < m → rdy G H j = false) → (sg_pm G m).find? (fun c => decide (3 < H c)) = none := by
  intro m hm h
  rw [List.find?_eq_none]
  intro c hc
  unfold sg_pm at hc
  rw [List.mem_filter, List.mem_range] at hc
  have h1 := h c hc.1
  simp only [decide_eq_true_eq]
  intro q
  rw [rdy_iff.mpr ⟨⟨by omega, by simpa using hc.2⟩, q⟩] at h1
  cases h1
theorem pm_first {G : sg_G} {H : Nat → Nat} {i : Nat} (h : ∀ j, j < i → rdy G H j = false) (hi : rdy G H i = true) : (sg_P G).find? (fun c => decide (3 < H c)) = some i := by
  obtain ⟨p1, p2⟩ := rdy_iff.mp hi
  have key : ∀ d, i + 1 + d ≤ sg_n G → (sg_pm G (i + 1 + d)).find? (fun c => decide (3 < H c)) = some i := by
    intro d
    induction d with
    | zero =>
      intro _
      rw [Nat.add_zero, sg_pm_s, p1.2, List.find?_append, pm_find i (by have := p1.1; omega) h]
      simp [p2]
    | succ d ih =>
      intro hd
      rw [← Nat.add_assoc, sg_pm_s, List.find?_append, ih (by omega)]
      rfl
  have := key (sg_n G - (i + 1)) (by have := p1.1; omega)
  rw [show i + 1 + (sg_n G - (i + 1)) = sg_n G by have := p1.1; omega] at this
  exact this
/-- the model's row of an order in the store -/
def qm (G : sg_G) (f : Nat → Nat → Int32) (L : List Nat) : Prop := L.Nodup ∧ (∀ c, c ∈ L → c < sg_n G) ∧ f 0 24 = nI L.length ∧ (∀ j o, L[j]? = some o → f 13 j = nI o) ∧ ∀ c, c < sg_n G → f 14 c = if c ∈ L then 1 else 0
theorem e_m_comes {Q : Option Value → sy_S → Prop} {σ : sy_S} {G : sg_G} {c : Nat} {H : Nat → Nat} {L : List Nat} (hg : gm G σ.1) (hc : c < sg_n G) (hH : ar σ.1 12 H) (hB : H c < 2 ^ 31) (hq : qm G σ.1 L) (kk : ∀ σ' : sy_S, sm [13, 14] [24] σ σ' → qm G σ'.1 (mlr G H L c) → Q none σ') : sy_E shM mX12_comesBehind (0, sy_ent [.ref 0, .ref 12, .int (nI c)] 3, [], σ) Q := by
  have h16 := sg_n16 hg.1
  obtain ⟨q1, q2, q3, q4, q5⟩ := id hq
  have ec : (nI c).toNatClampNeg = c := nI_clamp (by omega)
  have hl := nodup_len (sg_n G) L q1 q2
  refine w_m_comes_0 ?_
  refine e_m_may rfl hg hH hc hB (fun z => ?_) (fun z => ?_)
  · refine w_m_comes_6 (fun _ => vp_in_nI (by omega) (by decide)) (fun _ z2 => ?_) (fun z2 => absurd z2 (by decide)) (fun _ z2 => ?_) (fun _ z2 => ?_)
    · rw [ec, q5 c hc] at z2
      have hn : c ∉ L := fun h => by rw [if_pos h] at z2; exact z2 (by decide)
      have h1 := nodup_len (sg_n G) (c :: L) (List.nodup_cons.mpr ⟨hn, q1⟩) (fun x hx => (List.mem_cons.mp hx).elim (fun e => e ▸ hc) (q2 x))
      rw [List.length_cons] at h1
      rw [q3]
      exact vp_in_nI (by omega) (by decide)
    · rw [ec, q5 c hc] at z2
      have hn : c ∈ L := Classical.byContradiction fun h => by rw [if_neg h] at z2; exact z2 rfl
      refine kk σ sm.rf ?_
      unfold mlr
      rw [if_neg (fun h => h.1 hn)]
      exact hq
    · rw [ec, q5 c hc] at z2
      have hn : c ∉ L := fun h => by rw [if_pos h] at z2; exact z2 (by decide)
      rw [ec, q3, nI_clamp (by omega), nI_1, nar_b1]
      refine kk _ (((sm.up (by simp) (by decide)).tr (σ' := (sy_up σ.1 13 L.length (nI c), σ.2)) (σ'' := (sy_up (sy_up σ.1 13 L.length (nI c)) 0 24 (nI (L.length + 1)), σ.2)) (sm.fu (by simp))).tr (sm.up (by simp) (by decide))) ?_
      unfold mlr
      rw [if_pos ⟨hn, z⟩]
      refine ⟨?_, ?_, ?_, fun j o hj => ?_, fun x hx => ?_⟩
      · rw [List.nodup_append]
        exact ⟨q1, by simp, fun x hx y hy => by rw [List.mem_singleton] at hy; subst hy; exact fun e => hn (e ▸ hx)⟩
      · intro x hx
        rcases List.mem_append.mp hx with h | h
        · exact q2 x h
        · rw [List.mem_singleton] at h; subst h; exact hc
      · show nI (L.length + 1) = _
        rw [List.length_append, List.length_singleton]
      · show sy_up σ.1 13 L.length (nI c) 13 j = nI o
        rw [sy_up2]
        rw [List.getElem?_append] at hj
        split at hj
        · rename_i hlt
          rw [if_neg (by omega)]
          exact q4 j o hj
        · rename_i hge
          have hz : j - L.length = 0 := by
            rcases Nat.eq_zero_or_pos (j - L.length) with q | q
            · exact q
            · rw [List.getElem?_eq_none (by simp only [List.length_singleton]; omega)] at hj; cases hj
          rw [hz] at hj
          cases hj
          rw [if_pos ⟨rfl, by omega⟩]
      · show sy_up σ.1 14 c 1 14 x = _
        rw [sy_up2]
        by_cases e : x = c
        · subst e; simp
        · rw [if_neg (fun q => e q.2), q5 x hx]
          simp [List.mem_append, e]
  · refine w_m_comes_6 (fun z2 => absurd rfl z2) (fun z2 => absurd rfl z2) (fun _ => ?_) (fun z2 => absurd rfl z2) (fun z2 => absurd rfl z2)
    refine kk σ sm.rf ?_
    unfold mlr
    rw [if_neg (fun h => by rw [z] at h; cases h.2)]
    exact hq
theorem e_m_border {Q : Option Value → sy_S → Prop} {σ : sy_S} {G : sg_G} {H : Nat → Nat} (hg : gm G σ.1) (hH : ar σ.1 12 H) (hB : ∀ j, j < 16 → H j < 2 ^ 31) (kk : ∀ σ' : sy_S, sm [13, 14] [24] σ σ' → qm G σ'.1 ((sg_P G).foldl (mline H) []) → Q none σ') : sy_E shM mX12_beginsOrder (0, sy_ent [.ref 0, .ref 12] 3, [], σ) Q := by
  have h16 := sg_n16 hg.1
  have kg : ∀ {σ1 : sy_S}, sm [13, 14] [24] σ σ1 → gm G σ1.1 := fun a => a.gm hg (by decide) (by decide)
  refine w_m_border_0 ?_
  have second : ∀ i σ', i ≤ sg_n G → (sm [13, 14] [24] σ σ' ∧ qm G σ'.1 ((List.range i).foldl (mlr G H) [])) → sy_E shM mX12_beginsOrder (30, [some (.ref 0), some (.ref 12), some (.int (nI i))], [], σ') Q := by
    refine sy_loop (fun i σ' => (30, [some (.ref 0), some (.ref 12), some (.int (nI i))], [], σ')) (fun i σ' => sm [13, 14] [24] σ σ' ∧ qm G σ'.1 ((List.range i).foldl (mlr G H) [])) (sg_n G) ?_ ?_
    · rintro i σ' hi ⟨hs, hq⟩ ih
      have ecl := gm_cells (kg hs).2.1
      refine w_m_border_30 (fun q => ?_) (fun _ => ?_)
      · rw [ecl] at q; exact absurd q (nI_ge hi (by omega))
      · refine e_m_comes (kg hs) hi (fun j hj => by rw [hs.1 12 (by decide) (by decide)]; exact hH j hj) (hB i (by omega)) hq (fun σ2 g1 g2 => w_m_border_44 ?_)
        rw [nI_1]
        refine ih σ2 ⟨hs.tr g1, ?_⟩
        rw [List.range_succ, List.foldl_append]
        exact g2
    · rintro σ' ⟨hs, hq⟩
      have ecl := gm_cells (kg hs).2.1
      rw [mlr_pm (Nat.le_refl _)] at hq
      exact w_m_border_30 (fun _ => kk σ' hs hq) (fun q => absurd (by rw [ecl]; exact nI_le (Nat.le_refl _) (by omega)) q)
  have hl := sy_loop (sh := shM) (y := mX12_beginsOrder) (Q := Q) (fun i σ' => (7, [some (.ref 0), some (.ref 12), some (.int (nI i))], [], σ')) (fun i σ' => sm [13, 14] [24] σ σ' ∧ σ'.1 0 24 = nI 0 ∧ ∀ j, j < i → σ'.1 14 j = 0) (sg_n G) ?_ ?_ 0 (sy_up σ.1 0 24 0, σ.2) (Nat.zero_le _) ⟨sm.fu (by simp), rfl, fun j hj => absurd hj (Nat.not_lt_zero _)⟩
  · exact hl
  · rintro i σ' hi ⟨hs, h24, h14⟩ ih
    have ecl := gm_cells (kg hs).2.1
    have ei : (nI i).toNatClampNeg = i := nI_clamp (by omega)
    refine w_m_border_7 (fun _ => vp_in_nI (by omega) (by decide)) (fun q => ?_) (fun _ => ?_)
    · rw [ecl] at q; exact absurd q (nI_ge hi (by omega))
    · rw [ei, nI_1, nar_b0]
      refine ih _ ⟨hs.tr (sm.up (by simp) (by decide)), h24, fun j hj => ?_⟩
      show sy_up σ'.1 14 i 0 14 j = 0
      rw [sy_up2]
      by_cases e : j = i
      · rw [if_pos ⟨rfl, e⟩]
      · rw [if_neg (fun q => e q.2)]; exact h14 j (by omega)
  · rintro σ' ⟨hs, h24, h14⟩
    have ecl := gm_cells (kg hs).2.1
    refine w_m_border_7 (fun q => ?_) (fun _ => ?_) (fun q => ?_)
    · exact absurd (by rw [ecl]; exact nI_le (Nat.le_refl _) (by omega)) q
    · exact second 0 σ' (Nat.zero_le _) ⟨hs, by simp, fun c hc => absurd hc (by simp), h24, fun j o hj => by simp at hj, fun c hc => by rw [h14 c hc]; simp⟩
    · exact absurd (by rw [ecl]; exact nI_le (Nat.le_refl _) (by omega)) q
theorem e_m_least {Q : Option Value → sy_S → Prop} {σ : sy_S} {G : sg_G} {H : Nat → Nat} (hg : gm G σ.1) (hH : ar σ.1 12 H) (hB : ∀ j, j < 16 → H j < 2 ^ 31) (kk : Q (some (.int (((sg_P G).find? fun c => decide (3 < H c)).elim (-1) nI))) σ) : sy_E shM mX12_least (0, sy_ent [.ref 0, .ref 12] 3, [], σ) Q := by
  have h16 := sg_n16 hg.1
  have ecl := gm_cells hg.2.1
  refine w_m_least_0 ?_
  have hl := sy_loop (sh := shM) (y := mX12_least) (Q := Q) (fun i σ' => (2, [some (.ref 0), some (.ref 12), some (.int (nI i))], [], σ')) (fun i σ' => σ' = σ ∧ ∀ j, j < i → rdy G H j = false) (sg_n G) ?_ ?_ 0 σ (Nat.zero_le _) ⟨rfl, fun j hj => absurd hj (Nat.not_lt_zero _)⟩
  · exact hl
  · rintro i σ' hi ⟨rfl, hI⟩ ih
    refine w_m_least_2 (fun q => ?_) (fun _ => ?_)
    · rw [ecl] at q; exact absurd q (nI_ge hi (by omega))
    · refine e_m_may rfl hg hH hi (hB i (by omega)) (fun q => ?_) (fun q => ?_)
      · refine w_m_least_16 (fun z => absurd z (by decide)) (fun _ => ?_)
        rw [pm_first hI q] at kk
        exact kk
      · refine w_m_least_16 (fun _ => ?_) (fun z => absurd rfl z)
        rw [nI_1]
        refine ih σ' ⟨rfl, fun j hj => ?_⟩
        by_cases e : j = i
        · subst e; exact q
        · exact hI j (by omega)
  · rintro σ' ⟨rfl, hI⟩
    rw [pm_find _ (Nat.le_refl _) hI] at kk
    exact w_m_least_2 (fun _ => kk) (fun q => absurd (by rw [ecl]; exact nI_le (Nat.le_refl _) (by omega)) q)
theorem e_m_tall {Q : Option Value → sy_S → Prop} {σ : sy_S} {G : sg_G} {H : Nat → Nat} (hg : gm G σ.1) (hH : ar σ.1 12 H) (hB : ∀ j, j < 16 → H j < 2 ^ 31) (kk : Q (some (.int (((sg_P G).foldl (mtall H) none).elim (-1) nI))) σ) : sy_E shM mX12_tallest (0, sy_ent [.ref 0, .ref 12] 4, [], σ) Q := by
  have h16 := sg_n16 hg.1
  have ecl := gm_cells hg.2.1
  refine w_m_tall_0 ?_
  have hl := sy_loop (sh := shM) (y := mX12_tallest) (Q := Q) (fun i σ' => (4, [some (.ref 0), some (.ref 12), some (.int (((sg_pm G i).foldl (mtall H) none).elim (-1) nI)), some (.int (nI i))], [], σ')) (fun i σ' => σ' = σ) (sg_n G) ?_ ?_ 0 σ (Nat.zero_le _) rfl
  · exact hl
  · rintro i σ' hi rfl ih
    have ei : (nI i).toNatClampNeg = i := nI_clamp (by omega)
    have h := ih σ' rfl
    rw [sg_pm_s, List.foldl_append] at h
    have hok := mtall_fold (G := G) (H := H) (sg_pm G i) (fun x hx => by
      unfold sg_pm at hx
      rw [List.mem_filter, List.mem_range] at hx
      exact ⟨by omega, by simpa using hx.2⟩) none (fun d hd => by cases hd)
    generalize (sg_pm G i).foldl (mtall H) none = b at h hok ⊢
    have hb16 : ∀ d, b = some d → d < 16 ∧ 3 < H d := fun d hd => ⟨Nat.lt_of_lt_of_le (hok.1 d hd).1.1 h16, (hok.1 d hd).2⟩
    refine w_m_tall_4 (fun q => ?_) (fun _ => ?_)
    · rw [ecl] at q; exact absurd q (nI_ge hi (by omega))
    · refine e_m_may rfl hg hH hi (hB i (by omega)) (fun q => ?_) (fun q => ?_)
      · obtain ⟨p1, p2⟩ := rdy_iff.mp q
        rw [p1.2] at h
        have h : sy_E shM mX12_tallest (4, [some (.ref 0), some (.ref 12), some (.int ((mtall H b i).elim (-1) nI)), some (.int (nI (i + 1)))], [], σ') Q := h
        cases hb : b with
        | none =>
          rw [hb] at h
          have e : mtall H none i = some i := if_pos p2
          rw [e] at h
          refine w_m_tall_18 (fun _ z => absurd (by decide) z) (fun _ z => absurd (by decide) z) (fun z => absurd z (by decide)) (fun _ _ => ?_) (fun _ z => absurd (by decide) z) (fun _ z => absurd (by decide) z)
          rw [nI_1]; exact h
        | some d =>
          obtain ⟨d1, d2⟩ := hb16 d hb
          rw [hb] at h
          have ed : (nI d).toNatClampNeg = d := nI_clamp (by omega)
          refine w_m_tall_18 (fun _ _ => vp_in_nI (by omega) (by decide)) (fun _ _ => vp_in_nI d1 (by decide)) (fun z => absurd z (by decide)) (fun _ z => absurd z (nI_pos (by omega))) (fun _ _ z => ?_) (fun _ _ z => ?_)
          · have z : σ'.1 12 (nI i).toNatClampNeg ≤ σ'.1 12 (nI d).toNatClampNeg := z
            rw [ei, ed, hH i (by omega), hH d d1, nI_leI (hB i (by omega)) (hB d d1)] at z
            have e : mtall H (some d) i = some d := if_neg (by omega)
            rw [e] at h
            rw [nI_1]; exact h
          · have z : ¬ σ'.1 12 (nI i).toNatClampNeg ≤ σ'.1 12 (nI d).toNatClampNeg := z
            rw [ei, ed, hH i (by omega), hH d d1, nI_leI (hB i (by omega)) (hB d d1)] at z
            have e : mtall H (some d) i = some i := if_pos (by omega)
            rw [e] at h
            rw [nI_1]; exact h
      · refine w_m_tall_18 (fun z => absurd rfl z) (fun z => absurd rfl z) (fun _ => ?_) (fun z => absurd rfl z) (fun z => absurd rfl z) (fun z => absurd rfl z)
        rw [nI_1]
        cases hw : G.2.2 i
        · rw [hw] at h
          have h : sy_E shM mX12_tallest (4, [some (.ref 0), some (.ref 12), some (.int ((mtall H b i).elim (-1) nI)), some (.int (nI (i + 1)))], [], σ') Q := h
          have hle : H i ≤ 3 := by
            rcases Nat.lt_or_ge 3 (H i) with z | z
            · rw [rdy_iff.mpr ⟨⟨hi, hw⟩, z⟩] at q; cases q
            · exact z
          have e : mtall H b i = b := by
            cases hb : b with
            | none => exact if_neg (by omega)
            | some d =>
              obtain ⟨d1, d2⟩ := hb16 d hb
              exact if_neg (by omega)
          rw [e] at h
          exact h
        · rw [hw] at h
          exact h
  · rintro σ' rfl
    exact w_m_tall_4 (fun _ => kk) (fun q => absurd (by rw [ecl]; exact nI_le (Nat.le_refl _) (by omega)) q)
theorem e_m_leaves {Q : Option Value → sy_S → Prop} {σ : sy_S} {G : sg_G} {o : Nat} {L : List Nat} (ho : o = 1 ∨ o = 2) (hG : sg_ok G) (hq : qm G σ.1 L) (k0 : L = [] → Q (some (.int (-1))) σ) (k1 : ∀ (σ' : sy_S) (c : Nat), (if o = 1 then L.head? else L.getLast?) = some c → sm [13, 14] [24] σ σ' → qm G σ'.1 (mrest o L) → Q (some (.int (nI c))) σ') : sy_E shM mX12_leaves (0, sy_ent [.ref 0, .int (if o = 1 then 1 else 0)] 4, [], σ) Q := by
  obtain ⟨q1, q2, q3, q4, q5⟩ := id hq
  have h16 := sg_n16 hG
  have hl := nodup_len (sg_n G) L q1 q2
  have hz : σ.1 0 24 = 0 ↔ L = [] := by
    rw [q3, nI_lit0, nI_eq (by omega) (by decide)]
    exact List.length_eq_zero_iff
  rcases ho with rfl | rfl
  · rw [if_pos rfl]
    refine w_m_leaves1_0 (fun z => ?_) (fun z => k0 (hz.mp (Classical.byContradiction z)))
    rw [hz] at z
    match L, z, q1, q2, q3, q4, q5, k1, hl with
    | c :: L', _, q1, q2, q3, q4, q5, k1, hl =>
      have hc : c < sg_n G := q2 c List.mem_cons_self
      have ec : (nI c).toNatClampNeg = c := nI_clamp (by omega)
      rw [List.nodup_cons] at q1
      have e13 : σ.1 13 0 = nI c := q4 0 c rfl
      have e24 : σ.1 0 24 - 1 = nI L'.length := by rw [q3, nI_lit1, pk_sub (by simp), List.length_cons, Nat.add_sub_cancel]
      rw [List.length_cons] at hl
      rw [e13, e24]
      have hlp := sy_loop (sh := shM) (y := mX12_leaves) (Q := Q) (fun i σ' => (39, [some (.ref 0), some (.int 1), some (.int (nI c)), some (.int (nI i))], [], σ')) (fun i σ' => sm [13, 14] [24] σ σ' ∧ σ'.1 0 24 = nI L'.length ∧ (∀ j o, j < i → L'[j]? = some o → σ'.1 13 j = nI o) ∧ (∀ j o, i ≤ j → L'[j]? = some o → σ'.1 13 (j + 1) = nI o) ∧ σ'.1 14 = σ.1 14) L'.length ?_ ?_ 0 (sy_up σ.1 0 24 (nI L'.length), σ.2) (Nat.zero_le _) ⟨sm.fu (by simp), rfl, fun j o hj => absurd hj (Nat.not_lt_zero _), fun j o _ hj => q4 (j + 1) o hj, rfl⟩
      · exact hlp
      · rintro i σ' hi ⟨i1, i2, i3, i4, i5⟩ ih
        have ei : (nI i).toNatClampNeg = i := nI_clamp (by omega)
        have ei1 : (nI (i + 1)).toNatClampNeg = i + 1 := nI_clamp (by omega)
        refine w_m_leaves1_39 (fun z => ?_) (fun _ => ?_) (fun _ => vp_in_nI (by omega) (by decide)) (fun z => ?_) (fun _ => ?_)
        · rw [i2] at z; exact absurd z (nI_ge hi (by omega))
        · rw [nI_1]; exact vp_in_nI (by omega) (by decide)
        · rw [i2] at z; exact absurd z (nI_ge hi (by omega))
        · rw [nI_1, ei, ei1]
          refine ih _ ⟨i1.tr (sm.up (by simp) (by decide)), i2, fun j o hj ho => ?_, fun j o hj ho => ?_, i5⟩
          · show sy_up σ'.1 13 i (σ'.1 13 (i + 1)) 13 j = nI o
            rw [sy_up2]
            by_cases e : j = i
            · subst e
              rw [if_pos ⟨rfl, rfl⟩]
              exact i4 j o (Nat.le_refl _) ho
            · rw [if_neg (fun q => e q.2)]; exact i3 j o (by omega) ho
          · show sy_up σ'.1 13 i (σ'.1 13 (i + 1)) 13 (j + 1) = nI o
            rw [sy_up2, if_neg (by omega)]
            exact i4 j o (by omega) ho
      · rintro σ' ⟨i1, i2, i3, i4, i5⟩
        refine w_m_leaves1_39 (fun _ => vp_in_nI (by omega) (by decide)) (fun z => ?_) (fun z => ?_) (fun _ => ?_) (fun z => ?_)
        · exact absurd (by rw [i2]; exact nI_le (Nat.le_refl _) (by omega)) z
        · exact absurd (by rw [i2]; exact nI_le (Nat.le_refl _) (by omega)) z
        · rw [ec, nar_b0]
          refine k1 _ c rfl (i1.tr (sm.up (by simp) (by decide))) ⟨q1.2, fun x hx => q2 x (List.mem_cons_of_mem _ hx), i2, fun j o hj => ?_, fun x hx => ?_⟩
          · exact i3 j o (List.getElem?_eq_some_iff.mp hj).1 hj
          · show sy_up σ'.1 14 c 0 14 x = if x ∈ L' then 1 else 0
            rw [sy_up2]
            by_cases e : x = c
            · subst e
              rw [if_pos ⟨rfl, rfl⟩, if_neg q1.1]
            · rw [if_neg (fun q => e q.2), i5, q5 x hx]
              simp [e]
        · exact absurd (by rw [i2]; exact nI_le (Nat.le_refl _) (by omega)) z
  · rw [if_neg (by decide)]
    have vin : ∀ n, L.length = n + 1 → σ.1 0 24 - 1 = nI n := fun n hn => by rw [q3, hn, nI_lit1, pk_sub (by omega)]; rfl
    refine w_m_leaves0_0 (fun z => ?_) (fun z => ?_) (fun z => k0 (hz.mp (Classical.byContradiction z)))
    · rw [hz] at z
      obtain ⟨n, hn⟩ : ∃ n, L.length = n + 1 := ⟨L.length - 1, by have := List.length_pos_iff.mpr z; omega⟩
      rw [vin n hn]
      exact vp_in_nI (by omega) (by decide)
    · rw [hz] at z
      obtain ⟨n, hn⟩ : ∃ n, L.length = n + 1 := ⟨L.length - 1, by have := List.length_pos_iff.mpr z; omega⟩
      have h1 := List.dropLast_concat_getLast z
      obtain ⟨c, hcL⟩ : ∃ c, c = L.getLast z := ⟨_, rfl⟩
      obtain ⟨D, hD⟩ : ∃ D, D = L.dropLast := ⟨_, rfl⟩
      rw [← hcL, ← hD] at h1
      have hmr : mrest 2 L = D := by unfold mrest; rw [if_neg (by decide), hD]
      have hdl : D.length = n := by
        have := congrArg List.length h1
        rw [List.length_append, List.length_singleton, hn] at this
        omega
      have hc : c < sg_n G := q2 c (by rw [← h1]; simp)
      have ec : (nI c).toNatClampNeg = c := nI_clamp (by omega)
      have hidx : L[n]? = some c := by rw [← h1, List.getElem?_append_right (by omega), hdl, Nat.sub_self]; rfl
      have hnd := q1
      rw [← h1, List.nodup_append] at hnd
      rw [hmr] at k1
      rw [vin n hn, nI_clamp (show n < 2 ^ 31 by omega), q4 n c hidx]
      have fin : Q (some (.int (nI c))) (sy_up (sy_up σ.1 0 24 (nI n)) 14 c 0, σ.2) := by
        refine k1 _ c (by rw [if_neg (by decide), List.getLast?_eq_some_getLast z, hcL]) ((sm.fu (by simp)).tr (σ' := (sy_up σ.1 0 24 (nI n), σ.2)) (sm.up (by simp) (by decide))) ⟨hnd.1, fun x hx => q2 x (by rw [← h1]; exact List.mem_append_left _ hx), ?_, fun j o hj => ?_, fun x hx => ?_⟩
        · show nI n = nI D.length
          rw [hdl]
        · refine q4 j o ?_
          rw [← h1, List.getElem?_append_left (List.getElem?_eq_some_iff.mp hj).1]
          exact hj
        · show sy_up σ.1 14 c 0 14 x = if x ∈ D then 1 else 0
          rw [sy_up2]
          have hm : x ∈ L ↔ x ∈ D ∨ x = c := by rw [← h1, List.mem_append, List.mem_singleton]
          by_cases e : x = c
          · subst e
            have : x ∉ D := fun h => hnd.2.2 x h x (List.mem_singleton.mpr rfl) rfl
            rw [if_pos ⟨rfl, rfl⟩, if_neg this]
          · rw [if_neg (fun q => e q.2), q5 x hx]
            simp [hm, e]
      refine w_m_leaves0_39 (fun _ => vp_in_nI (by omega) (by decide)) (fun _ => vp_in_nI (by omega) (by decide)) (fun _ => ?_) (fun _ => ?_)
      · rw [ec, nar_b0]; exact fin
      · rw [ec, nar_b0]; exact fin
/-- where the model's order stands -/
def mm (G : sg_G) (o : Nat) (H : Nat → Nat) (L : List Nat) (f : Nat → Nat → Int32) : Prop := ar f 12 H ∧ ((o = 1 ∨ o = 2) → qm G f L)
end
section
/-! the model's goes: contract -/
theorem nI_any (x : Int32) : ∃ n, x = nI n := ⟨x.toBitVec.toNat, by
  apply Int32.toBitVec_inj.mp
  show x.toBitVec = BitVec.ofNat 32 x.toBitVec.toNat
  rw [BitVec.ofNat_toNat, BitVec.setWidth_eq]⟩
theorem ar_any (f : Nat → Nat → Int32) (k : Nat) : ∃ u, ar f k u := ⟨fun j => Classical.choose (nI_any (f k j)), fun j _ => Classical.choose_spec (nI_any (f k j))⟩
theorem mlr_p {G : sg_G} {H : Nat → Nat} {L : List Nat} {d : Nat} (hd : sg_p G d) : mlr G H L d = mline H L d := by
  unfold mlr mline
  have e : rdy G H d = true ↔ 3 < H d := by
    rw [rdy_iff]
    exact ⟨fun h => h.2, fun h => ⟨hd, h⟩⟩
  simp only [e]
theorem e_m_goes {Q : Option Value → sy_S → Prop} {σ : sy_S} {G : sg_G} {o : Nat} {H : Nat → Nat} {L : List Nat} (ho : o < 4) (hg : gm G σ.1) (hm : mm G o H L σ.1) (hi : minv G o H L) (hB : ∀ j, j < 16 → H j < 2 ^ 30) (k0 : mnext G o (H, L) = none → Q (some (.int (-1))) σ) (k1 : ∀ (σ' : sy_S) (c : Nat) (H' : Nat → Nat) (L' : List Nat), mnext G o (H, L) = some (c, H', L') → sm [12, 5, 13, 14] [7, 24] σ σ' → mm G o H' L' σ'.1 → Q (some (.int (nI c))) σ') : sy_E shM mX12_goes (0, sy_ent [.ref 0, .ref 12, .int (nI o)] 5, [], σ) Q := by
  have h16 := sg_n16 hg.1
  have hG := hg.1
  have hB1 : ∀ j, j < 16 → H j < 2 ^ 31 := fun j hj => Nat.lt_trans (hB j hj) (by decide)
  have hrow : rowM 12 := ⟨rfl, by decide, by decide, by decide, by decide, by decide, by decide⟩
  have kg : ∀ {σ1 σ2 : sy_S}, sm [12, 5, 13, 14] [7, 24] σ1 σ2 → gm G σ1.1 → gm G σ2.1 := fun a b => a.gm b (by decide) (by decide)
  -- behind the choice
  have rest : ∀ (σ1 : sy_S) (c : Nat), mpick G o H L = some c → sm [12, 5, 13, 14] [7, 24] σ σ1 → mm G o H (if o = 1 ∨ o = 2 then mrest o L else L) σ1.1 → sy_E shM mX12_topples (0, sy_ent [.ref 0, .ref 12, .int (nI c), .int 1] 5, [], σ1) (fun r9 σ9 => sy_E shM mX12_goes (53, [some (.ref 0), some (.ref 12), some (.int (nI o)), some (.int (nI c)), none], r9.toList ++ [], σ9) Q) := by
    intro σ1 c hp hs1 hm1
    obtain ⟨p1, p2⟩ := (mpick_ok hi).1 c hp
    have hc16 : c < 16 := Nat.lt_of_lt_of_le p1.1 h16
    have hn : mnext G o (H, L) = some (c, sg_tp G H c 1, if o = 1 ∨ o = 2 then (sg_nb G c ++ [c]).foldl (mline (sg_tp G H c 1)) (mrest o L) else L) := by
      unfold mnext
      rw [hp]
    have hg1 := kg hs1 hg
    obtain ⟨u, hu⟩ := ar_any σ1.1 5
    obtain ⟨lo, hlo⟩ := nI_any (σ1.1 0 7)
    refine e_m_topples (t := 1) hrow hg1 hm1.1 hu hlo p1 (by omega) (fun σ2 g1 g2 g3 g4 => w_m_goes_53 ?_)
    have g1' : sm [12, 5, 13, 14] [7, 24] σ1 σ2 := g1.mono (by simp) (by simp)
    have hs2 := hs1.tr g1'
    have hg2 := kg hs2 hg
    have hBt : ∀ j, j < 16 → sg_tp G H c 1 j < 2 ^ 31 := fun j hj => by
      have h9 := hB j hj
      unfold sg_tp
      split <;> split <;> omega
    have ec : (nI c).toNatClampNeg = c := nI_clamp (by omega)
    have hlen := sg_nb_len G c
    by_cases ho2 : o = 1 ∨ o = 2
    · rw [if_pos ho2] at hn hm1
      have hq2 : qm G σ2.1 (mrest o L) := by
        obtain ⟨z1, z2, z3, z4, z5⟩ := hm1.2 ho2
        refine ⟨z1, z2, ?_, ?_, ?_⟩
        · rw [g1.2.1 24 (by decide)]; exact z3
        · rw [g1.1 13 (by decide) (by decide)]; exact z4
        · rw [g1.1 14 (by decide) (by decide)]; exact z5
      have loop := sy_loop (sh := shM) (y := mX12_goes) (Q := Q) (fun i σ' => (56, [some (.ref 0), some (.ref 12), some (.int (nI o)), some (.int (nI c)), some (.int (nI i))], [], σ')) (fun i σ' => sm [12, 5, 13, 14] [7, 24] σ σ' ∧ ar σ'.1 12 (sg_tp G H c 1) ∧ qm G σ'.1 (((sg_nb G c).take i).foldl (mline (sg_tp G H c 1)) (mrest o L))) (sg_nb G c).length ?_ ?_ 0 σ2 (Nat.zero_le _) ⟨hs2, g2, by rw [List.take_zero]; exact hq2⟩
      · exact loop
      · rintro i σ' hil ⟨i1, i2, i3⟩ ih
        have hg' := kg i1 hg
        obtain ⟨n1, n2⟩ := gm_nb hg' p1.1
        have hd : (sg_nb G c)[i]? = some (sg_nb G c)[i] := List.getElem?_eq_getElem hil
        have hdp := (sg_nb_p hG p1.1 (List.mem_of_getElem? hd)).1
        have ei : 4 * nI c + nI i = nI (4 * c + i) := by rw [nI_lit4, pk_mul, nI_add]
        have go : sy_E shM mX12_comesBehind (0, sy_ent [.ref 0, .ref 12, .int (σ'.1 3 ((4 * nI c + nI i).toNatClampNeg))] 3, [], σ') (fun r9 σ9 => sy_E shM mX12_goes (93, [some (.ref 0), some (.ref 12), some (.int (nI o)), some (.int (nI c)), some (.int (nI i))], r9.toList ++ [], σ9) Q) := by
          rw [ei, nI_clamp (show 4 * c + i < 2 ^ 31 by omega), n2 i _ hd]
          refine e_m_comes hg' hdp.1 i2 (hBt _ (Nat.lt_of_lt_of_le hdp.1 h16)) i3 (fun σ3 f1 f2 => w_m_goes_93 ?_)
          rw [nI_1]
          refine ih σ3 ⟨i1.tr (f1.mono (by simp) (by simp)), fun j hj => ?_, ?_⟩
          · rw [f1.1 12 (by decide) (by decide)]; exact i2 j hj
          · rw [List.take_succ, hd]
            show qm G σ3.1 (((sg_nb G c).take i ++ [(sg_nb G c)[i]]).foldl (mline (sg_tp G H c 1)) (mrest o L))
            rw [List.foldl_append, mlr_p hdp] at *
            exact f2
        refine w_m_goes_56 (vp_in_nI hc16 (by decide)) (fun _ _ => by rw [ei]; exact vp_in_nI (by omega) (by decide)) (fun _ _ _ => by rw [ei]; exact vp_in_nI (by omega) (by decide)) (fun q => ?_) (fun _ _ => go) (fun _ q q2 => ?_) (fun _ _ _ => go)
        · rw [ec, n1] at q; exact absurd q (nI_ge hil (by omega))
        · rw [nI_lit1, nI_eq (by omega) (by decide)] at q
          rw [show (2 : Int32) = nI 2 from rfl, nI_eq (by omega) (by decide)] at q2
          omega
      · rintro σ' ⟨i1, i2, i3⟩
        have hg' := kg i1 hg
        obtain ⟨n1, n2⟩ := gm_nb hg' p1.1
        rw [List.take_length] at i3
        have fin : sy_E shM mX12_comesBehind (0, sy_ent [.ref 0, .ref 12, .int (nI c)] 3, [], σ') (fun r9 σ9 => sy_E shM mX12_goes (115, [none, none, none, some (.int (nI c)), none], r9.toList ++ [], σ9) Q) := by
          refine e_m_comes hg' p1.1 i2 (hBt c hc16) i3 (fun σ3 f1 f2 => w_m_goes_115 ?_)
          refine k1 σ3 c _ _ hn (i1.tr (f1.mono (by simp) (by simp))) ⟨fun j hj => ?_, fun _ => ?_⟩
          · rw [f1.1 12 (by decide) (by decide)]; exact i2 j hj
          · rw [List.foldl_append]
            rw [mlr_p p1] at f2
            exact f2
        refine w_m_goes_56 (vp_in_nI hc16 (by decide)) (fun q => ?_) (fun q => ?_) (fun _ => ?_) (fun q => ?_) (fun q => ?_) (fun q => ?_)
        · exact absurd (by rw [ec, n1]; exact nI_le (Nat.le_refl _) (by omega)) q
        · exact absurd (by rw [ec, n1]; exact nI_le (Nat.le_refl _) (by omega)) q
        · refine w_m_goes_99 (fun _ => fin) (fun q q2 => ?_) (fun _ _ => fin)
          rw [nI_lit1, nI_eq (by omega) (by decide)] at q
          rw [show (2 : Int32) = nI 2 from rfl, nI_eq (by omega) (by decide)] at q2
          omega
        · exact absurd (by rw [ec, n1]; exact nI_le (Nat.le_refl _) (by omega)) q
        · exact absurd (by rw [ec, n1]; exact nI_le (Nat.le_refl _) (by omega)) q
        · exact absurd (by rw [ec, n1]; exact nI_le (Nat.le_refl _) (by omega)) q
    · rw [if_neg ho2] at hn hm1
      have n1 : ¬ nI o = 1 := by rw [nI_lit1, nI_eq (by omega) (by decide)]; omega
      have n2 : ¬ nI o = 2 := by rw [show (2 : Int32) = nI 2 from rfl, nI_eq (by omega) (by decide)]; omega
      have fin : sy_E shM mX12_goes (99, [some (.ref 0), some (.ref 12), some (.int (nI o)), some (.int (nI c)), none], [], σ2) Q := w_m_goes_99 (fun q => absurd q n1) (fun _ _ => k1 σ2 c _ _ hn hs2 ⟨g2, fun z => absurd z ho2⟩) (fun _ q => absurd n2 q)
      exact w_m_goes_56 (vp_in_nI hc16 (by decide)) (fun _ q => absurd q n1) (fun _ _ q => absurd n2 q) (fun _ => fin) (fun _ q => absurd q n1) (fun _ _ _ => fin) (fun _ _ q => absurd n2 q)
  have none' : mpick G o H L = none → mnext G o (H, L) = none := fun hp => by unfold mnext; rw [hp]
  match o, ho, hm, hi, k0, k1, rest, none' with
  | 0, _, hm, hi, k0, k1, rest, none' =>
    refine w_m_goes_0 (fun q => absurd rfl q) (fun q => absurd rfl q) (fun q => absurd rfl q) (fun _ => ?_)
    refine e_m_least hg hm.1 hB1 ?_
    cases hp : (sg_P G).find? (fun c => decide (3 < H c)) with
    | none => exact w_m_goes_9 (fun q => absurd q (by decide)) (fun _ => k0 (none' hp))
    | some c =>
      have hc := (mpick_ok hi).1 c hp
      exact w_m_goes_9 (fun _ => rest σ c hp sm.rf hm) (fun q => absurd (nI_pos' (by have := hc.1.1; omega)) q)
  | 1, _, hm, hi, k0, k1, rest, none' =>
    refine w_m_goes_0 (fun _ _ q => absurd rfl q) (fun _ _ _ => ?_) (fun _ q => absurd (by decide) q) (fun q => absurd (by decide) q)
    refine e_m_leaves (o := 1) (Or.inl rfl) hG (hm.2 (Or.inl rfl)) (fun e => ?_) (fun σ' c hc h1 h2 => ?_)
    · exact w_m_goes_39 (fun q => absurd q (by decide)) (fun _ => k0 (none' (by rw [e]; rfl)))
    · have hcp := (mpick_ok hi).1 c hc
      refine w_m_goes_39 (fun _ => rest σ' c hc (h1.mono (by simp) (by simp)) ⟨fun j hj => ?_, fun _ => h2⟩) (fun q => absurd (nI_pos' (by have := hcp.1.1; omega)) q)
      rw [h1.1 12 (by decide) (by decide)]; exact hm.1 j hj
  | 2, _, hm, hi, k0, k1, rest, none' =>
    refine w_m_goes_0 (fun _ _ _ => ?_) (fun _ _ q => absurd (by decide) q) (fun _ q => absurd (by decide) q) (fun q => absurd (by decide) q)
    refine e_m_leaves (o := 2) (Or.inr rfl) hG (hm.2 (Or.inr rfl)) (fun e => ?_) (fun σ' c hc h1 h2 => ?_)
    · exact w_m_goes_39 (fun q => absurd q (by decide)) (fun _ => k0 (none' (by rw [e]; rfl)))
    · have hcp := (mpick_ok hi).1 c hc
      refine w_m_goes_39 (fun _ => rest σ' c hc (h1.mono (by simp) (by simp)) ⟨fun j hj => ?_, fun _ => h2⟩) (fun q => absurd (nI_pos' (by have := hcp.1.1; omega)) q)
      rw [h1.1 12 (by decide) (by decide)]; exact hm.1 j hj
  | 3, _, hm, hi, k0, k1, rest, none' =>
    refine w_m_goes_0 (fun _ q => absurd rfl q) (fun _ q => absurd rfl q) (fun _ _ => ?_) (fun q => absurd (by decide) q)
    refine e_m_tall hg hm.1 hB1 ?_
    cases hp : (sg_P G).foldl (mtall H) none with
    | none => exact w_m_goes_22 (fun q => absurd q (by decide)) (fun _ => k0 (none' hp))
    | some c =>
      have hc := (mpick_ok hi).1 c hp
      exact w_m_goes_22 (fun _ => rest σ c hp sm.rf hm) (fun q => absurd (nI_pos' (by have := hc.1.1; omega)) q)
end
section
/-! the abstract state, and how it stands in the two stores -/
noncomputable def px (p : Nat → Prop) (x : Int32) : Option Nat := by
  classical
  exact if e : ∃ m, m < 2 ^ 31 ∧ p m ∧ x = nI m then some (Classical.choose e) else none
theorem px_i {p : Nat → Prop} {m : Nat} (hm : m < 2 ^ 31) (hp : p m) : px p (nI m) = some m := by
  have e : ∃ k, k < 2 ^ 31 ∧ p k ∧ nI m = nI k := ⟨m, hm, hp, rfl⟩
  unfold px
  rw [dif_pos e]
  obtain ⟨h1, -, h3⟩ := Classical.choose_spec e
  exact congrArg some ((nI_eq h1 hm).mp h3.symm)
theorem px_s {p : Nat → Prop} {x : Int32} {m : Nat} (h : px p x = some m) : p m ∧ x = nI m ∧ m < 2 ^ 31 := by
  unfold px at h
  split at h
  · rename_i e
    cases h
    obtain ⟨h1, h2, h3⟩ := Classical.choose_spec e
    exact ⟨h2, h3, h1⟩
  · cases h
theorem px_n {p : Nat → Prop} {x : Int32} (h : px p x = none) {m : Nat} (hm : m < 2 ^ 31) (hp : p m) : x ≠ nI m := by
  intro e
  subst e
  rw [px_i hm hp] at h
  cases h
theorem px_no {p : Nat → Prop} {x : Int32} (h : ∀ m, m < 2 ^ 31 → p m → x ≠ nI m) : px p x = none := by
  cases e : px p x with
  | none => rfl
  | some m =>
    obtain ⟨h1, h2, h3⟩ := px_s e
    exact absurd h2 (h m h3 h1)
/-! what is settled always is there -/
theorem stt_ex {G : sg_G} (hG : sg_ok G) (h : Nat → Nat) : ∃ u H, sg_rc G h u H ∧ ∀ k, sg_p G k → H k ≤ 3 := by
  have h16 := sg_n16 hG
  have key : ∀ (n : Nat) (u H : Nat → Nat), sg_rc G h u H → sg_pot G h ≤ 2 * ssum 16 u + n → ∃ u H, sg_rc G h u H ∧ ∀ k, sg_p G k → H k ≤ 3 := by
    intro n
    induction n with
    | zero =>
      intro u H hr hn
      refine ⟨u, H, hr, fun k hk => ?_⟩
      have h1 := hr.2.2.2
      have h2 := sg_pot_ge (h := H) hG hk.1
      omega
    | succ n ih =>
      intro u H hr hn
      by_cases q : ∀ k, sg_p G k → H k ≤ 3
      · exact ⟨u, H, hr, q⟩
      · have q2 : ∃ k, sg_p G k ∧ 3 < H k := Classical.byContradiction fun z => q (fun k hk => by
          rcases Nat.lt_or_ge 3 (H k) with y | y
          · exact absurd ⟨k, hk, y⟩ z
          · exact y)
        obtain ⟨k, hk, hk3⟩ := q2
        refine ih _ _ (sg_rc_tp hG (t := 1) hr hk (by omega)) ?_
        rw [ssum_ad (Nat.lt_of_lt_of_le hk.1 h16)]
        omega
  exact key (sg_pot G h) _ _ (sg_rc_0 G h) (by omega)
theorem stt_ok {G : sg_G} (hG : sg_ok G) (h : Nat → Nat) : sg_rc G h (od G h) (stt G h) ∧ ∀ k, sg_p G k → stt G h k ≤ 3 := by
  obtain ⟨u, H, h1, h2⟩ := stt_ex hG h
  obtain ⟨e1, e2⟩ := stt_eq h1 h2
  rw [← e1, ← e2]
  exact ⟨h1, h2⟩
theorem od_ex {G : sg_G} (hG : sg_ok G) (h : Nat → Nat) : ∃ u, sg_odo G h u := ⟨_, sg_rc_odo (stt_ok hG h).1 (stt_ok hG h).2⟩
theorem od_bd {G : sg_G} (hG : sg_ok G) {h : Nat → Nat} {B : Nat} (hB : ∀ k, k < 16 → h k ≤ B) : ssum 16 (od G h) ≤ 48 * B ∧ ∀ k, k < 16 → od G h k ≤ 48 * B := by
  have h1 := (sg_rc_bd hG (stt_ok hG h).1 hB).2
  exact ⟨h1, fun k hk => Nat.le_trans (ssum_ge _ hk) h1⟩
theorem od_np {G : sg_G} (hG : sg_ok G) (h : Nat → Nat) {k : Nat} (hk : ¬ sg_p G k) : od G h k = 0 := ((stt_ok hG h).1.2.2.1 k hk).1
/-- heights: nought where no place is, at most B -/
def hz (G : sg_G) (B : Nat) (h : Nat → Nat) : Prop := (∀ c, ¬ sg_p G c → h c = 0) ∧ ∀ c, h c ≤ B
theorem hz.mono {G : sg_G} {B B' : Nat} {h : Nat → Nat} (a : hz G B h) (hb : B ≤ B') : hz G B' h := ⟨a.1, fun c => Nat.le_trans (a.2 c) hb⟩
theorem hz_0 (G : sg_G) (B : Nat) : hz G B fun _ => 0 := ⟨fun _ _ => rfl, fun _ => Nat.zero_le _⟩
theorem stt_hz {G : sg_G} (hG : sg_ok G) {h : Nat → Nat} (hh : ∀ c, ¬ sg_p G c → h c = 0) : hz G 3 (stt G h) := by
  obtain ⟨h1, h2⟩ := stt_ok hG h
  have h3 : ∀ c, ¬ sg_p G c → stt G h c = 0 := fun c hc => by rw [(h1.2.2.1 c hc).2]; exact hh c hc
  refine ⟨h3, fun c => ?_⟩
  by_cases q : sg_p G c
  · exact h2 c q
  · rw [h3 c q]; exact Nat.zero_le _
/-! the state: grid, heights, piles, heights to come back by undo and by redo, tape, why, lists -/
abbrev st : Type := sg_G × (Nat → Nat) × (Nat → Option (Nat → Nat)) × List (Nat → Nat) × List (Nat → Nat) × List Nat × Option (Nat × Nat) × (Nat → Option (List Int32))
def cX (H : Nat → Nat) (U R : List (Nat → Nat)) (f : Nat → Nat → Int32) : Prop := f 8 1 = nI U.length ∧ f 8 2 = nI (U.length + R.length) ∧ ∀ i h, (U.reverse ++ H :: R)[i]? = some h → ar f (10 + i) h
def tX (T : List Nat) (f : Nat → Nat → Int32) : Prop := f 19 3 = nI T.length ∧ ∀ j b, T[j]? = some b → f 20 j = nI b
def wX (W : Option (Nat × Nat)) (f : Nat → Nat → Int32) : Prop := match W with
  | none => f 19 4 = nI 0
  | some (s, c) => f 19 4 = nI 3 ∧ f 22 0 = nI 1 ∧ f 22 1 = nI (10 + s) ∧ f 22 2 = nI c
def pX (P : Nat → Option (Nat → Nat)) (f : Nat → Nat → Int32) : Prop := ∀ i, i < 6 → match P i with
  | none => f 31 i = -1
  | some h => f 31 i = nI 16 ∧ ar f (25 + i) h
def lX (L : Nat → Option (List Int32)) (f : Nat → Nat → Int32) : Prop := ∀ i, i < 4 → match L i with
  | none => f 38 i = -1
  | some l => f 38 i = nI l.length ∧ ∀ j x, l[j]? = some x → f (34 + i) j = x
/-- bounds -/
def sO (B : Nat) : st → Prop
  | (G, H, P, U, R, T, W, L) => sg_ok G ∧ U.length + R.length ≤ 8 ∧ (∀ h, (h = H ∨ h ∈ U ∨ h ∈ R) → hz G B h) ∧ (∀ i h, P i = some h → hz G 3 h) ∧ (T.length ≤ 40 ∧ ∀ b, b ∈ T → 1 ≤ b ∧ b ≤ 127) ∧ (∀ s c, W = some (s, c) → s ≤ 3 ∧ 2 ≤ c ∧ c ≤ 5) ∧ ∀ i l, L i = some l → l.length ≤ 40
theorem sO.mono {B B' : Nat} {S : st} (h : sO B S) (hb : B ≤ B') : sO B' S := by
  obtain ⟨G, H, P, U, R, T, W, L⟩ := S
  obtain ⟨h1, h2, h3, h4⟩ := h
  exact ⟨h1, h2, fun h q => (h3 h q).mono hb, h4⟩
def RX : st → (Nat → Nat → Int32) → Prop
  | (G, H, P, U, R, T, W, L), f => gx G f ∧ ar f 7 H ∧ cX H U R f ∧ tX T f ∧ wX W f ∧ pX P f ∧ lX L f
/-! the model's -/
def aro (f : Nat → Nat → Int32) (k o : Nat) (H : Nat → Nat) : Prop := ∀ j, j < 16 → f k (o + j) = nI (H j)
def cM (U R : List (Nat → Nat)) (f : Nat → Nat → Int32) : Prop := f 0 13 = nI U.length ∧ f 0 14 = nI R.length ∧ (∀ i h, U.reverse[i]? = some h → aro f 9 (16 * i) h) ∧ ∀ i h, R.reverse[i]? = some h → aro f 10 (16 * i) h
def tM (T : List Nat) (f : Nat → Nat → Int32) : Prop := f 0 16 = nI T.length ∧ ∀ j b, T[j]? = some b → f 11 j = nI b
def wM (W : Option (Nat × Nat)) (f : Nat → Nat → Int32) : Prop := match W with
  | none => f 0 18 = nI 0
  | some (s, c) => f 0 18 = nI c ∧ f 0 17 = nI s
def pM (P : Nat → Option (Nat → Nat)) (f : Nat → Nat → Int32) : Prop := ∀ i, i < 6 → match P i with
  | none => f 8 i = 0
  | some h => f 8 i = 1 ∧ aro f 7 (16 * i) h
def lM (L : Nat → Option (List Int32)) (f : Nat → Nat → Int32) : Prop := ∀ i, i < 4 → match L i with
  | none => f 25 i = -1
  | some l => f 25 i = nI l.length ∧ ∀ j x, l[j]? = some x → f 26 (40 * i + j) = x
def RM : st → (Nat → Nat → Int32) → Prop
  | (G, H, P, U, R, T, W, L), f => gm G f ∧ ar f 2 H ∧ cM U R f ∧ tM T f ∧ wM W f ∧ pM P f ∧ lM L f
/-! frames -/
theorem cX.fe {H : Nat → Nat} {U R : List (Nat → Nat)} {f f' : Nat → Nat → Int32} (hl : U.length + R.length ≤ 8) (h : cX H U R f) (e : ∀ q, 8 ≤ q → q < 19 → f' q = f q) : cX H U R f' := by
  obtain ⟨h1, h2, h3⟩ := h
  refine ⟨by rw [e 8 (by decide) (by decide)]; exact h1, by rw [e 8 (by decide) (by decide)]; exact h2, fun i g hi j hj => ?_⟩
  have := (List.getElem?_eq_some_iff.mp hi).1
  simp only [List.length_append, List.length_reverse, List.length_cons] at this
  rw [e (10 + i) (by omega) (by omega)]
  exact h3 i g hi j hj
theorem tX.fe {T : List Nat} {f f' : Nat → Nat → Int32} (h : tX T f) (e : f' 19 3 = f 19 3) (e2 : f' 20 = f 20) : tX T f' := ⟨by rw [e]; exact h.1, fun j b hj => by rw [e2]; exact h.2 j b hj⟩
theorem wX.fe {W : Option (Nat × Nat)} {f f' : Nat → Nat → Int32} (h : wX W f) (e : f' 19 4 = f 19 4) (e2 : f' 22 = f 22) : wX W f' := by
  unfold wX at *
  split <;> simp_all
theorem pX.fe {P : Nat → Option (Nat → Nat)} {f f' : Nat → Nat → Int32} (h : pX P f) (e : ∀ q, 25 ≤ q → q < 32 → f' q = f q) : pX P f' := by
  intro i hi
  have h1 := h i hi
  cases hP : P i with
  | none =>
    rw [hP] at h1
    show f' 31 i = -1
    rw [e 31 (by decide) (by decide)]; exact h1
  | some g =>
    rw [hP] at h1
    refine ⟨by rw [e 31 (by decide) (by decide)]; exact h1.1, fun j hj => ?_⟩
    rw [e (25 + i) (by omega) (by omega)]; exact h1.2 j hj
theorem lX.fe {L : Nat → Option (List Int32)} {f f' : Nat → Nat → Int32} (h : lX L f) (e : ∀ q, 34 ≤ q → q < 39 → f' q = f q) : lX L f' := by
  intro i hi
  have h1 := h i hi
  cases hL : L i with
  | none =>
    rw [hL] at h1
    show f' 38 i = -1
    rw [e 38 (by decide) (by decide)]; exact h1
  | some l =>
    rw [hL] at h1
    refine ⟨by rw [e 38 (by decide) (by decide)]; exact h1.1, fun j x hj => ?_⟩
    rw [e (34 + i) (by omega) (by omega)]; exact h1.2 j x hj
theorem RX.fe {B : Nat} {S : st} {f f' : Nat → Nat → Int32} (ho : sO B S) (h : RX S f) (e : ∀ q, q < 39 → f' q = f q) : RX S f' := by
  obtain ⟨G, H, P, U, R, T, W, L⟩ := S
  obtain ⟨h1, h2, h3, h4, h5, h6, h7⟩ := h
  exact ⟨h1.frame (fun q hq => e q (by omega)), fun j hj => by rw [e 7 (by decide)]; exact h2 j hj, h3.fe ho.2.1 (fun q _ h => e q (by omega)), h4.fe (by rw [e 19 (by decide)]) (e 20 (by decide)), h5.fe (by rw [e 19 (by decide)]) (e 22 (by decide)), h6.fe (fun q _ h => e q (by omega)), h7.fe (fun q _ h => e q (by omega))⟩
theorem RX.fr {B : Nat} {S : st} {l : List Nat} {σ σ' : sy_S} (ho : sO B S) (h : RX S σ.1) (hs : sx l σ σ') (hl : ∀ q, q ∈ l → 39 ≤ q) : RX S σ'.1 := h.fe ho (fun q hq => hs.1 q (fun z => by have := hl q z; omega))
theorem cM.fe {U R : List (Nat → Nat)} {f f' : Nat → Nat → Int32} (h : cM U R f) (e1 : f' 0 13 = f 0 13) (e2 : f' 0 14 = f 0 14) (e3 : f' 9 = f 9) (e4 : f' 10 = f 10) : cM U R f' := by
  obtain ⟨h1, h2, h3, h4⟩ := h
  exact ⟨by rw [e1]; exact h1, by rw [e2]; exact h2, fun i g hi j hj => by rw [e3]; exact h3 i g hi j hj, fun i g hi j hj => by rw [e4]; exact h4 i g hi j hj⟩
theorem tM.fe {T : List Nat} {f f' : Nat → Nat → Int32} (h : tM T f) (e : f' 0 16 = f 0 16) (e2 : f' 11 = f 11) : tM T f' := ⟨by rw [e]; exact h.1, fun j b hj => by rw [e2]; exact h.2 j b hj⟩
theorem wM.fe {W : Option (Nat × Nat)} {f f' : Nat → Nat → Int32} (h : wM W f) (e : f' 0 18 = f 0 18) (e2 : f' 0 17 = f 0 17) : wM W f' := by
  unfold wM at *
  split <;> simp_all
theorem pM.fe {P : Nat → Option (Nat → Nat)} {f f' : Nat → Nat → Int32} (h : pM P f) (e7 : f' 7 = f 7) (e8 : f' 8 = f 8) : pM P f' := by
  intro i hi
  have h1 := h i hi
  cases hP : P i with
  | none =>
    rw [hP] at h1
    show f' 8 i = 0
    rw [e8]; exact h1
  | some g =>
    rw [hP] at h1
    exact ⟨by rw [e8]; exact h1.1, fun j hj => by rw [e7]; exact h1.2 j hj⟩
theorem lM.fe {L : Nat → Option (List Int32)} {f f' : Nat → Nat → Int32} (h : lM L f) (e5 : f' 25 = f 25) (e6 : f' 26 = f 26) : lM L f' := by
  intro i hi
  have h1 := h i hi
  cases hL : L i with
  | none =>
    rw [hL] at h1
    show f' 25 i = -1
    rw [e5]; exact h1
  | some l =>
    rw [hL] at h1
    exact ⟨by rw [e5]; exact h1.1, fun j x hj => by rw [e6]; exact h1.2 j x hj⟩
theorem gm.fe {G : sg_G} {f f' : Nat → Nat → Int32} (h : gm G f) (e0 : f' 0 0 = f 0 0) (e1 : f' 0 1 = f 0 1) (e : f' 1 = f 1) (e3 : f' 3 = f 3) (e4 : f' 4 = f 4) : gm G f' := by
  obtain ⟨h1, ⟨h2, h3, h4⟩, h5, h6⟩ := h
  exact ⟨h1, ⟨by rw [e0]; exact h2, by rw [e1]; exact h3, fun k hk => by rw [e]; exact h4 k hk⟩, fun k hk => by rw [e4]; exact h5 k hk, fun k hk j o ho => by rw [e3]; exact h6 k hk j o ho⟩
def mC : List Nat := [1, 2, 3, 4, 7, 8, 9, 10, 11, 25, 26]
def mF : List Nat := [0, 1, 13, 14, 16, 17, 18]
theorem RM.fr {S : st} {l fs : List Nat} {σ σ' : sy_S} (h : RM S σ.1) (hs : sm l fs σ σ') (hl : (mC.all fun q => !l.elem q) = true) (hf : (mF.all fun q => !fs.elem q) = true) : RM S σ'.1 := by
  obtain ⟨G, H, P, U, R, T, W, L⟩ := S
  obtain ⟨h1, h2, h3, h4, h5, h6, h7⟩ := h
  have c : ∀ q, q ∈ mC → q ≠ 0 → σ'.1 q = σ.1 q := fun q hq h0 => hs.1 q h0 (fun z => by
    have := List.all_eq_true.mp hl q hq
    rw [List.elem_iff.mpr z] at this
    cases this)
  have d : ∀ q, q ∈ mF → σ'.1 0 q = σ.1 0 q := fun q hq => hs.2.1 q (fun z => by
    have := List.all_eq_true.mp hf q hq
    rw [List.elem_iff.mpr z] at this
    cases this)
  refine ⟨h1.fe ?_ ?_ ?_ ?_ ?_, fun j hj => ?_, h3.fe ?_ ?_ ?_ ?_, h4.fe ?_ ?_, h5.fe ?_ ?_, h6.fe ?_ ?_, h7.fe ?_ ?_⟩
  case refine_6 => rw [c 2 (by decide) (by decide)]; exact h2 j hj
  all_goals first | exact c _ (by decide) (by decide) | exact d _ (by decide)
end
