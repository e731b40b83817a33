/-! The tables' words that every method may use (by program: wip/whole/gen/words.py) -/
def sy_T : List Cond := lw_tbl.filter goodWord
def sy_cn (k : Nat) : String := [RX0, RX1, RX2, RX3, RX4, RX5, RX6, RX7, RX8, RX9, RX10, RX11, RX12, RJ7, RJ9].getD k ""
def sy_ty (k : Nat) : Nat → FieldType := [tyX0, tyX1, tyX2, tyX3, tyX4, tyX5, tyX6, tyX7, tyX8, tyX9, tyX10, tyX11, tyX12].getD k tyX0
theorem sy_inT {w : Cond} (h : w ∈ tables_1) (hg : goodWord w = true) : w ∈ sy_T := List.mem_filter.mpr ⟨List.mem_append_right _ h, hg⟩
theorem sy_inP {w : Cond} (h : w ∈ k2_sels lw_privs) (hg : goodWord w = true) : w ∈ sy_T := List.mem_filter.mpr ⟨List.mem_append_left _ h, hg⟩
theorem sy_i1 {w : Cond} (h : w ∈ tables_1_1) : w ∈ tables_1 := List.mem_append_left _ h
theorem sy_i2 {w : Cond} (h : w ∈ tables_1_2) : w ∈ tables_1 := List.mem_append_right _ (List.mem_append_left _ h)
theorem sy_i3 {w : Cond} (h : w ∈ tables_1_3) : w ∈ tables_1 := List.mem_append_right _ (List.mem_append_right _ (List.mem_append_left _ h))
theorem sy_i4 {w : Cond} (h : w ∈ tables_1_4) : w ∈ tables_1 := List.mem_append_right _ (List.mem_append_right _ (List.mem_append_right _ (List.mem_append_left _ h)))
theorem sy_i5 {w : Cond} (h : w ∈ tables_1_5) : w ∈ tables_1 := List.mem_append_right _ (List.mem_append_right _ (List.mem_append_right _ (List.mem_append_right _ (List.mem_append_left _ h))))
theorem sy_i6 {w : Cond} (h : w ∈ tables_1_6) : w ∈ tables_1 := List.mem_append_right _ (List.mem_append_right _ (List.mem_append_right _ (List.mem_append_right _ (List.mem_append_right _ h))))

def sy_FL : List (Nat × Nat × Nat × Nat) := [(3, 9, 3, 0), (3, 15, 3, 1), (3, 18, 3, 2), (3, 21, 3, 3), (3, 24, 3, 4), (3, 31, 3, 5), (3, 35, 3, 6), (3, 47, 3, 7), (0, 13, 0, 0), (0, 16, 0, 1), (0, 20, 0, 2), (10, 11, 10, 0), (10, 15, 10, 1), (10, 18, 10, 2), (10, 21, 10, 3), (10, 25, 10, 4), (10, 28, 10, 5), (10, 31, 10, 6), (10, 34, 10, 7), (7, 9, 7, 0), (7, 14, 7, 1), (1, 18, 1, 0), (1, 9, 1, 1), (1, 15, 1, 2), (4, 18, 4, 0), (4, 9, 4, 1), (4, 15, 4, 2), (4, 28, 4, 3), (4, 32, 4, 4), (4, 35, 4, 5), (4, 38, 4, 6), (8, 24, 8, 0), (8, 28, 8, 1), (8, 9, 8, 2), (8, 15, 8, 3), (8, 18, 8, 4), (8, 21, 8, 5), (2, 15, 2, 0), (2, 9, 2, 1), (5, 9, 5, 0), (6, 9, 6, 0), (6, 15, 6, 1), (6, 18, 6, 2), (6, 27, 6, 3), (9, 9, 9, 0), (9, 15, 9, 1), (9, 18, 9, 2), (9, 22, 9, 3), (9, 25, 9, 4), (11, 16, 11, 0), (11, 20, 11, 1), (11, 27, 11, 2), (11, 34, 11, 3), (11, 41, 11, 4), (11, 45, 11, 5), (11, 53, 11, 6), (11, 60, 11, 7), (11, 64, 11, 8), (11, 72, 11, 9), (11, 79, 11, 10), (11, 86, 11, 11), (11, 93, 11, 12), (11, 100, 11, 13), (11, 104, 11, 14), (12, 9, 12, 0), (12, 15, 12, 1), (12, 18, 12, 2), (12, 22, 12, 3), (12, 26, 12, 4), (12, 29, 12, 5), (12, 32, 12, 6), (12, 117, 12, 7), (12, 35, 12, 8), (12, 38, 12, 9), (12, 41, 12, 10), (12, 44, 12, 11), (12, 47, 12, 12), (12, 138, 12, 13), (12, 141, 12, 14), (12, 50, 12, 15), (12, 169, 12, 16), (12, 198, 12, 17), (12, 192, 12, 18), (12, 185, 12, 19), (12, 179, 12, 20), (12, 182, 12, 21), (12, 53, 12, 22), (12, 56, 12, 23), (12, 219, 12, 24), (12, 59, 12, 25), (12, 62, 12, 26), (12, 65, 12, 27), (12, 68, 12, 28), (12, 71, 12, 29), (12, 74, 12, 30), (12, 77, 12, 31), (12, 81, 12, 32), (12, 84, 12, 33), (12, 87, 12, 34), (12, 90, 12, 35), (12, 301, 12, 36), (12, 93, 12, 37), (12, 96, 12, 38), (12, 99, 12, 39)]
def sy_fw (q : Nat × Nat × Nat × Nat) : Cond := match vwCl[q.2.2.1]? with
  | some (_, t, _) => .fieldLink (sy_cn q.1) q.2.1 (t q.2.2.2).1 (t q.2.2.2).2.1 (t q.2.2.2).2.2.1
  | none => .initialized ""
set_option maxRecDepth 100000 in
theorem sy_FL_ok : (sy_FL.all fun q => decide (sy_fw q ∈ tables_1) && goodWord (sy_fw q)) = true := by decide +kernel
def sy_CI : List (Nat × Nat × Int) := [(1, 43, 1000000), (11, 204, 1000000), (11, 244, 1000000000), (6, 35, -1640531535), (11, 372, 1103515245), (11, 373, 2147483647), (11, 374, 65536), (12, 306, 1103515245), (12, 307, 2147483647), (12, 308, 65536)]
def sy_CJ : List (Nat × Nat × Int) := [(5, 39, 4), (5, 51, -1), (11, 337, -9223372036854775808), (12, 147, 4), (12, 156, 999), (12, 161, 99), (12, 167, 127), (12, 172, 48), (12, 174, 57), (12, 201, 2), (12, 236, 3), (12, 252, 5), (12, 272, 1000000000), (12, 278, -1), (12, 304, 200), (12, 329, 1000000), (12, 338, -9223372036854775808)]
set_option maxRecDepth 100000 in
theorem sy_CI_ok : (sy_CI.all fun q => decide (Cond.constant (sy_cn q.1) q.2.1 (Int32.ofInt q.2.2) ∈ tables_1) && goodWord (Cond.constant (sy_cn q.1) q.2.1 (Int32.ofInt q.2.2))) = true := by decide +kernel
set_option maxRecDepth 100000 in
theorem sy_CJ_ok : (sy_CJ.all fun q => decide (Cond.constantLong (sy_cn q.1) q.2.1 (Int64.ofInt q.2.2) ∈ tables_1) && goodWord (Cond.constantLong (sy_cn q.1) q.2.1 (Int64.ofInt q.2.2))) = true := by decide +kernel
set_option maxRecDepth 100000 in
theorem sy_cw0 : (wsX00.all fun w => decide (w ∈ tables_1) && goodWord w) = true := by decide +kernel
set_option maxRecDepth 100000 in
theorem sy_cw1 : (wsX10.all fun w => decide (w ∈ tables_1) && goodWord w) = true := by decide +kernel
set_option maxRecDepth 100000 in
theorem sy_cw2 : (wsX20.all fun w => decide (w ∈ tables_1) && goodWord w) = true := by decide +kernel
set_option maxRecDepth 100000 in
theorem sy_cw3 : (wsX30.all fun w => decide (w ∈ tables_1) && goodWord w) = true := by decide +kernel
set_option maxRecDepth 100000 in
theorem sy_cw4 : (wsX40.all fun w => decide (w ∈ tables_1) && goodWord w) = true := by decide +kernel
set_option maxRecDepth 100000 in
theorem sy_cw5 : (wsX50.all fun w => decide (w ∈ tables_1) && goodWord w) = true := by decide +kernel
set_option maxRecDepth 100000 in
theorem sy_cw6 : (wsX60.all fun w => decide (w ∈ tables_1) && goodWord w) = true := by decide +kernel
set_option maxRecDepth 100000 in
theorem sy_cw7 : (wsX70.all fun w => decide (w ∈ tables_1) && goodWord w) = true := by decide +kernel
set_option maxRecDepth 100000 in
theorem sy_cw8 : (wsX80.all fun w => decide (w ∈ tables_1) && goodWord w) = true := by decide +kernel
set_option maxRecDepth 100000 in
theorem sy_cw9 : (wsX90.all fun w => decide (w ∈ tables_1) && goodWord w) = true := by decide +kernel
set_option maxRecDepth 100000 in
theorem sy_cw10 : (wsX100.all fun w => decide (w ∈ tables_1) && goodWord w) = true := by decide +kernel
set_option maxRecDepth 100000 in
theorem sy_cw11 : (wsX110.all fun w => decide (w ∈ tables_1) && goodWord w) = true := by decide +kernel
set_option maxRecDepth 100000 in
theorem sy_cw12 : (wsX120.all fun w => decide (w ∈ tables_1) && goodWord w) = true := by decide +kernel
