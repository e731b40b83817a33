/-! methods as records, and the words on each (by program: wip/whole/gen/meth.py) -/
def sy_mok (y : sy_M) (st : Bool) (n : Nat) : Prop := Cond.code y.1 y.2.1 y.2.2.1 y.2.2.2.1 ∈ sy_T ∧ Cond.initialized y.1.cls ∈ sy_T ∧ (y.1.cls ≠ "java/lang/invoke/MethodHandle" ∧ y.1.cls ≠ "java/lang/invoke/VarHandle" ∧ (parseMethodDescriptor y.1.desc).map (fun d => d.parameters.length) = some n) ∧ plainName y.1.cls = true ∧ (st = true → Cond.static y.1 ∈ sy_T) ∧ (st = false → Cond.instanceMethod y.1 ∈ sy_T ∧ Cond.selects y.1.cls y.1 y.1 ∈ sy_T) ∧ y.1.cls = sy_cn y.2.2.2.2.1
theorem sy_mokV {y : sy_M} {n : Nat} (h1 : Cond.code y.1 y.2.1 y.2.2.1 y.2.2.2.1 ∈ sy_T) (h2 : Cond.initialized y.1.cls ∈ sy_T) (h3 : y.1.cls ≠ "java/lang/invoke/MethodHandle" ∧ y.1.cls ≠ "java/lang/invoke/VarHandle" ∧ (parseMethodDescriptor y.1.desc).map (fun d => d.parameters.length) = some n) (h4 : plainName y.1.cls = true) (h5 : Cond.instanceMethod y.1 ∈ sy_T) (h6 : Cond.selects y.1.cls y.1 y.1 ∈ sy_T) (h7 : y.1.cls = sy_cn y.2.2.2.2.1) : sy_mok y false n := ⟨h1, h2, h3, h4, (fun h => by cases h), fun _ => ⟨h5, h6⟩, h7⟩
theorem sy_mokS {y : sy_M} {n : Nat} (h1 : Cond.code y.1 y.2.1 y.2.2.1 y.2.2.2.1 ∈ sy_T) (h2 : Cond.initialized y.1.cls ∈ sy_T) (h3 : y.1.cls ≠ "java/lang/invoke/MethodHandle" ∧ y.1.cls ≠ "java/lang/invoke/VarHandle" ∧ (parseMethodDescriptor y.1.desc).map (fun d => d.parameters.length) = some n) (h4 : plainName y.1.cls = true) (h5 : Cond.static y.1 ∈ sy_T) (h7 : y.1.cls = sy_cn y.2.2.2.2.1) : sy_mok y true n := ⟨h1, h2, h3, h4, fun _ => h5, (fun h => by cases h), h7⟩
theorem sy_ini0 : Cond.initialized RX0 ∈ sy_T := sy_inT (sy_i1 (List.mem_of_getElem? (i := 4) (by decide +kernel))) rfl
theorem sy_ini1 : Cond.initialized RX1 ∈ sy_T := sy_inT (sy_i1 (List.mem_of_getElem? (i := 7) (by decide +kernel))) rfl
theorem sy_ini2 : Cond.initialized RX2 ∈ sy_T := sy_inT (sy_i1 (List.mem_of_getElem? (i := 10) (by decide +kernel))) rfl
theorem sy_ini3 : Cond.initialized RX3 ∈ sy_T := sy_inT (sy_i1 (List.mem_of_getElem? (i := 2) (by decide +kernel))) rfl
theorem sy_ini4 : Cond.initialized RX4 ∈ sy_T := sy_inT (sy_i1 (List.mem_of_getElem? (i := 8) (by decide +kernel))) rfl
theorem sy_ini5 : Cond.initialized RX5 ∈ sy_T := sy_inT (sy_i1 (List.mem_of_getElem? (i := 11) (by decide +kernel))) rfl
theorem sy_ini6 : Cond.initialized RX6 ∈ sy_T := sy_inT (sy_i1 (List.mem_of_getElem? (i := 12) (by decide +kernel))) rfl
theorem sy_ini7 : Cond.initialized RX7 ∈ sy_T := sy_inT (sy_i1 (List.mem_of_getElem? (i := 6) (by decide +kernel))) rfl
theorem sy_ini8 : Cond.initialized RX8 ∈ sy_T := sy_inT (sy_i1 (List.mem_of_getElem? (i := 9) (by decide +kernel))) rfl
theorem sy_ini9 : Cond.initialized RX9 ∈ sy_T := sy_inT (sy_i1 (List.mem_of_getElem? (i := 13) (by decide +kernel))) rfl
theorem sy_ini10 : Cond.initialized RX10 ∈ sy_T := sy_inT (sy_i1 (List.mem_of_getElem? (i := 5) (by decide +kernel))) rfl
theorem sy_ini11 : Cond.initialized RX11 ∈ sy_T := sy_inT (sy_i1 (List.mem_of_getElem? (i := 1) (by decide +kernel))) rfl
theorem sy_ini12 : Cond.initialized RX12 ∈ sy_T := sy_inT (sy_i1 (List.mem_of_getElem? (i := 14) (by decide +kernel))) rfl
theorem sy_ini13 : Cond.initialized RJ7 ∈ sy_T := sy_inT (sy_i1 (List.mem_of_getElem? (i := 3) (by decide +kernel))) rfl
theorem sy_ini14 : Cond.initialized RJ9 ∈ sy_T := sy_inT (sy_i1 (List.mem_of_getElem? (i := 16) (by decide +kernel))) rfl
def mX0_back : sy_M := (yX0_back, cX0_back, 2, (some .int), 0, 1, 26)
theorem kX0_back : sy_mok mX0_back false 1 := sy_mokV (sy_inT (sy_i4 (List.mem_of_getElem? (i := 191) rfl)) rfl) sy_ini0 ⟨by decide, by decide, by decide +kernel⟩ (by decide +kernel) (sy_inT (sy_i4 (List.mem_of_getElem? (i := 189) (by decide +kernel))) rfl) (sy_inT (sy_i4 (List.mem_of_getElem? (i := 190) (by decide +kernel))) rfl) rfl
def mX0_forth : sy_M := (yX0_forth, cX0_forth, 2, (some .int), 0, 1, 26)
theorem kX0_forth : sy_mok mX0_forth false 1 := sy_mokV (sy_inT (sy_i4 (List.mem_of_getElem? (i := 203) rfl)) rfl) sy_ini0 ⟨by decide, by decide, by decide +kernel⟩ (by decide +kernel) (sy_inT (sy_i4 (List.mem_of_getElem? (i := 201) (by decide +kernel))) rfl) (sy_inT (sy_i4 (List.mem_of_getElem? (i := 202) (by decide +kernel))) rfl) rfl
def mX0_init : sy_M := (yX0_init, cX0_init, 1, none, 0, 1, 20)
def mX0_note : sy_M := (yX0_note, cX0_note, 3, none, 0, 1, 26)
theorem kX0_note : sy_mok mX0_note false 1 := sy_mokV (sy_inT (sy_i2 (List.mem_of_getElem? (i := 132) rfl)) rfl) sy_ini0 ⟨by decide, by decide, by decide +kernel⟩ (by decide +kernel) (sy_inT (sy_i2 (List.mem_of_getElem? (i := 130) (by decide +kernel))) rfl) (sy_inT (sy_i2 (List.mem_of_getElem? (i := 131) (by decide +kernel))) rfl) rfl
def mX0_redoable : sy_M := (yX0_redoable, cX0_redoable, 1, (some .int), 0, 0, 0)
theorem kX0_redoable : sy_mok mX0_redoable false 0 := sy_mokV (sy_inT (sy_i4 (List.mem_of_getElem? (i := 199) rfl)) rfl) sy_ini0 ⟨by decide, by decide, by decide +kernel⟩ (by decide +kernel) (sy_inT (sy_i4 (List.mem_of_getElem? (i := 197) (by decide +kernel))) rfl) (sy_inT (sy_i4 (List.mem_of_getElem? (i := 198) (by decide +kernel))) rfl) rfl
def mX0_restart : sy_M := (yX0_restart, cX0_restart, 2, none, 0, 1, 26)
theorem kX0_restart : sy_mok mX0_restart false 1 := sy_mokV (sy_inT (sy_i2 (List.mem_of_getElem? (i := 104) rfl)) rfl) sy_ini0 ⟨by decide, by decide, by decide +kernel⟩ (by decide +kernel) (sy_inT (sy_i2 (List.mem_of_getElem? (i := 102) (by decide +kernel))) rfl) (sy_inT (sy_i2 (List.mem_of_getElem? (i := 103) (by decide +kernel))) rfl) rfl
def mX0_undoable : sy_M := (yX0_undoable, cX0_undoable, 1, (some .int), 0, 0, 0)
theorem kX0_undoable : sy_mok mX0_undoable false 0 := sy_mokV (sy_inT (sy_i4 (List.mem_of_getElem? (i := 187) rfl)) rfl) sy_ini0 ⟨by decide, by decide, by decide +kernel⟩ (by decide +kernel) (sy_inT (sy_i4 (List.mem_of_getElem? (i := 185) (by decide +kernel))) rfl) (sy_inT (sy_i4 (List.mem_of_getElem? (i := 186) (by decide +kernel))) rfl) rfl
def mX1_addGrain : sy_M := (yX1_addGrain, cX1_addGrain, 2, none, 1, 0, 0)
theorem kX1_addGrain : sy_mok mX1_addGrain false 1 := sy_mokV (sy_inT (sy_i4 (List.mem_of_getElem? (i := 54) rfl)) rfl) sy_ini1 ⟨by decide, by decide, by decide +kernel⟩ (by decide +kernel) (sy_inT (sy_i4 (List.mem_of_getElem? (i := 52) (by decide +kernel))) rfl) (sy_inT (sy_i4 (List.mem_of_getElem? (i := 53) (by decide +kernel))) rfl) rfl
def mX1_area : sy_M := (yX1_area, cX1_area, 3, (some .int), 1, 0, 0)
theorem kX1_area : sy_mok mX1_area false 0 := sy_mokV (sy_inT (sy_i3 (List.mem_of_getElem? (i := 41) rfl)) rfl) sy_ini1 ⟨by decide, by decide, by decide +kernel⟩ (by decide +kernel) (sy_inT (sy_i3 (List.mem_of_getElem? (i := 39) (by decide +kernel))) rfl) (sy_inT (sy_i3 (List.mem_of_getElem? (i := 40) (by decide +kernel))) rfl) rfl
def mX1_begin : sy_M := (yX1_begin, cX1_begin, 2, none, 1, 1, 26)
theorem kX1_begin : sy_mok mX1_begin false 1 := sy_mokV (sy_inT (sy_i2 (List.mem_of_getElem? (i := 160) rfl)) rfl) sy_ini1 ⟨by decide, by decide, by decide +kernel⟩ (by decide +kernel) (sy_inT (sy_i2 (List.mem_of_getElem? (i := 158) (by decide +kernel))) rfl) (sy_inT (sy_i2 (List.mem_of_getElem? (i := 159) (by decide +kernel))) rfl) rfl
def mX1_code : sy_M := (yX1_code, cX1_code, 1, (some .int), 1, 1, 23)
theorem kX1_code : sy_mok mX1_code false 0 := sy_mokV (sy_inT (sy_i4 (List.mem_of_getElem? (i := 71) rfl)) rfl) sy_ini1 ⟨by decide, by decide, by decide +kernel⟩ (by decide +kernel) (sy_inT (sy_i4 (List.mem_of_getElem? (i := 69) (by decide +kernel))) rfl) (sy_inT (sy_i4 (List.mem_of_getElem? (i := 70) (by decide +kernel))) rfl) rfl
def mX1_copyTo : sy_M := (yX1_copyTo, cX1_copyTo, 2, none, 1, 1, 26)
theorem kX1_copyTo : sy_mok mX1_copyTo false 1 := sy_mokV (sy_inT (sy_i2 (List.mem_of_getElem? (i := 172) rfl)) rfl) sy_ini1 ⟨by decide, by decide, by decide +kernel⟩ (by decide +kernel) (sy_inT (sy_i2 (List.mem_of_getElem? (i := 170) (by decide +kernel))) rfl) (sy_inT (sy_i2 (List.mem_of_getElem? (i := 171) (by decide +kernel))) rfl) rfl
def mX1_countAt : sy_M := (yX1_countAt, cX1_countAt, 2, (some .int), 1, 0, 0)
theorem kX1_countAt : sy_mok mX1_countAt false 1 := sy_mokV (sy_inT (sy_i3 (List.mem_of_getElem? (i := 28) rfl)) rfl) sy_ini1 ⟨by decide, by decide, by decide +kernel⟩ (by decide +kernel) (sy_inT (sy_i3 (List.mem_of_getElem? (i := 26) (by decide +kernel))) rfl) (sy_inT (sy_i3 (List.mem_of_getElem? (i := 27) (by decide +kernel))) rfl) rfl
def mX1_forgetCounts : sy_M := (yX1_forgetCounts, cX1_forgetCounts, 1, none, 1, 1, 23)
theorem kX1_forgetCounts : sy_mok mX1_forgetCounts false 0 := sy_mokV (sy_inT (sy_i4 (List.mem_of_getElem? (i := 99) rfl)) rfl) sy_ini1 ⟨by decide, by decide, by decide +kernel⟩ (by decide +kernel) (sy_inT (sy_i4 (List.mem_of_getElem? (i := 97) (by decide +kernel))) rfl) (sy_inT (sy_i4 (List.mem_of_getElem? (i := 98) (by decide +kernel))) rfl) rfl
def mX1_grains : sy_M := (yX1_grains, cX1_grains, 1, (some .int), 1, 1, 23)
theorem kX1_grains : sy_mok mX1_grains false 0 := sy_mokV (sy_inT (sy_i3 (List.mem_of_getElem? (i := 45) rfl)) rfl) sy_ini1 ⟨by decide, by decide, by decide +kernel⟩ (by decide +kernel) (sy_inT (sy_i3 (List.mem_of_getElem? (i := 43) (by decide +kernel))) rfl) (sy_inT (sy_i3 (List.mem_of_getElem? (i := 44) (by decide +kernel))) rfl) rfl
def mX1_heightAt : sy_M := (yX1_heightAt, cX1_heightAt, 2, (some .int), 1, 0, 0)
theorem kX1_heightAt : sy_mok mX1_heightAt false 1 := sy_mokV (sy_inT (sy_i3 (List.mem_of_getElem? (i := 32) rfl)) rfl) sy_ini1 ⟨by decide, by decide, by decide +kernel⟩ (by decide +kernel) (sy_inT (sy_i3 (List.mem_of_getElem? (i := 30) (by decide +kernel))) rfl) (sy_inT (sy_i3 (List.mem_of_getElem? (i := 31) (by decide +kernel))) rfl) rfl
def mX1_inRounds : sy_M := (yX1_inRounds, cX1_inRounds, 4, (some .int), 1, 2, 44)
theorem kX1_inRounds : sy_mok mX1_inRounds false 0 := sy_mokV (sy_inT (sy_i3 (List.mem_of_getElem? (i := 12) rfl)) rfl) sy_ini1 ⟨by decide, by decide, by decide +kernel⟩ (by decide +kernel) (sy_inT (sy_i3 (List.mem_of_getElem? (i := 10) (by decide +kernel))) rfl) (sy_inT (sy_i3 (List.mem_of_getElem? (i := 11) (by decide +kernel))) rfl) rfl
def mX1_init : sy_M := (yX1_init, cX1_init, 2, none, 1, 1, 20)
def mX1_level : sy_M := (yX1_level, cX1_level, 9, (some .int), 1, 1, 26)
theorem kX1_level : sy_mok mX1_level false 0 := sy_mokV (sy_inT (sy_i2 (List.mem_of_getElem? (i := 166) rfl)) rfl) sy_ini1 ⟨by decide, by decide, by decide +kernel⟩ (by decide +kernel) (sy_inT (sy_i2 (List.mem_of_getElem? (i := 164) (by decide +kernel))) rfl) (sy_inT (sy_i2 (List.mem_of_getElem? (i := 165) (by decide +kernel))) rfl) rfl
def mX1_lost : sy_M := (yX1_lost, cX1_lost, 4, (some .int), 1, 1, 21)
theorem kX1_lost : sy_mok mX1_lost false 0 := sy_mokV (sy_inT (sy_i3 (List.mem_of_getElem? (i := 36) rfl)) rfl) sy_ini1 ⟨by decide, by decide, by decide +kernel⟩ (by decide +kernel) (sy_inT (sy_i3 (List.mem_of_getElem? (i := 34) (by decide +kernel))) rfl) (sy_inT (sy_i3 (List.mem_of_getElem? (i := 35) (by decide +kernel))) rfl) rfl
def mX1_readyBits : sy_M := (yX1_readyBits, cX1_readyBits, 4, (some .int), 1, 1, 21)
theorem kX1_readyBits : sy_mok mX1_readyBits false 0 := sy_mokV (sy_inT (sy_i3 (List.mem_of_getElem? (i := 16) rfl)) rfl) sy_ini1 ⟨by decide, by decide, by decide +kernel⟩ (by decide +kernel) (sy_inT (sy_i3 (List.mem_of_getElem? (i := 15) (by decide +kernel))) rfl) (sy_inP (List.mem_of_getElem? (i := 11) (by decide +kernel)) rfl) rfl
def mX1_toppleOnce : sy_M := (yX1_toppleOnce, cX1_toppleOnce, 2, (some .boolean), 1, 2, 42)
theorem kX1_toppleOnce : sy_mok mX1_toppleOnce false 1 := sy_mokV (sy_inT (sy_i4 (List.mem_of_getElem? (i := 146) rfl)) rfl) sy_ini1 ⟨by decide, by decide, by decide +kernel⟩ (by decide +kernel) (sy_inT (sy_i4 (List.mem_of_getElem? (i := 144) (by decide +kernel))) rfl) (sy_inT (sy_i4 (List.mem_of_getElem? (i := 145) (by decide +kernel))) rfl) rfl
def mX1_toppled : sy_M := (yX1_toppled, cX1_toppled, 1, (some .int), 1, 1, 23)
theorem kX1_toppled : sy_mok mX1_toppled false 0 := sy_mokV (sy_inT (sy_i4 (List.mem_of_getElem? (i := 58) rfl)) rfl) sy_ini1 ⟨by decide, by decide, by decide +kernel⟩ (by decide +kernel) (sy_inT (sy_i4 (List.mem_of_getElem? (i := 56) (by decide +kernel))) rfl) (sy_inT (sy_i4 (List.mem_of_getElem? (i := 57) (by decide +kernel))) rfl) rfl
def mX2_burnOnce : sy_M := (yX2_burnOnce, cX2_burnOnce, 6, (some .boolean), 2, 2, 47)
theorem kX2_burnOnce : sy_mok mX2_burnOnce false 2 := sy_mokV (sy_inT (sy_i4 (List.mem_of_getElem? (i := 17) rfl)) rfl) sy_ini2 ⟨by decide, by decide, by decide +kernel⟩ (by decide +kernel) (sy_inT (sy_i4 (List.mem_of_getElem? (i := 16) (by decide +kernel))) rfl) (sy_inP (List.mem_of_getElem? (i := 23) (by decide +kernel)) rfl) rfl
def mX2_init : sy_M := (yX2_init, cX2_init, 2, none, 2, 1, 20)
def mX2_roundAt : sy_M := (yX2_roundAt, cX2_roundAt, 2, (some .int), 2, 0, 0)
theorem kX2_roundAt : sy_mok mX2_roundAt false 1 := sy_mokV (sy_inT (sy_i4 (List.mem_of_getElem? (i := 29) rfl)) rfl) sy_ini2 ⟨by decide, by decide, by decide +kernel⟩ (by decide +kernel) (sy_inT (sy_i4 (List.mem_of_getElem? (i := 27) (by decide +kernel))) rfl) (sy_inT (sy_i4 (List.mem_of_getElem? (i := 28) (by decide +kernel))) rfl) rfl
def mX2_spread : sy_M := (yX2_spread, cX2_spread, 3, (some .int), 2, 3, 72)
theorem kX2_spread : sy_mok mX2_spread false 1 := sy_mokV (sy_inT (sy_i4 (List.mem_of_getElem? (i := 12) rfl)) rfl) sy_ini2 ⟨by decide, by decide, by decide +kernel⟩ (by decide +kernel) (sy_inT (sy_i4 (List.mem_of_getElem? (i := 10) (by decide +kernel))) rfl) (sy_inT (sy_i4 (List.mem_of_getElem? (i := 11) (by decide +kernel))) rfl) rfl
def mX2_unburnt : sy_M := (yX2_unburnt, cX2_unburnt, 4, (some .int), 2, 1, 21)
theorem kX2_unburnt : sy_mok mX2_unburnt false 0 := sy_mokV (sy_inT (sy_i4 (List.mem_of_getElem? (i := 33) rfl)) rfl) sy_ini2 ⟨by decide, by decide, by decide +kernel⟩ (by decide +kernel) (sy_inT (sy_i4 (List.mem_of_getElem? (i := 31) (by decide +kernel))) rfl) (sy_inT (sy_i4 (List.mem_of_getElem? (i := 32) (by decide +kernel))) rfl) rfl
def mX2_unburntNextTo : sy_M := (yX2_unburntNextTo, cX2_unburntNextTo, 6, (some .int), 2, 1, 22)
theorem kX2_unburntNextTo : sy_mok mX2_unburntNextTo false 2 := sy_mokV (sy_inT (sy_i4 (List.mem_of_getElem? (i := 23) rfl)) rfl) sy_ini2 ⟨by decide, by decide, by decide +kernel⟩ (by decide +kernel) (sy_inT (sy_i4 (List.mem_of_getElem? (i := 22) (by decide +kernel))) rfl) (sy_inP (List.mem_of_getElem? (i := 24) (by decide +kernel)) rfl) rfl
def mX3_build : sy_M := (yX3_build, cX3_build, 3, none, 3, 3, 68)
theorem kX3_build : sy_mok mX3_build false 2 := sy_mokV (sy_inT (sy_i2 (List.mem_of_getElem? (i := 124) rfl)) rfl) sy_ini3 ⟨by decide, by decide, by decide +kernel⟩ (by decide +kernel) (sy_inT (sy_i2 (List.mem_of_getElem? (i := 122) (by decide +kernel))) rfl) (sy_inT (sy_i2 (List.mem_of_getElem? (i := 123) (by decide +kernel))) rfl) rfl
def mX3_cellCount : sy_M := (yX3_cellCount, cX3_cellCount, 1, (some .int), 3, 0, 0)
theorem kX3_cellCount : sy_mok mX3_cellCount false 0 := sy_mokV (sy_inT (sy_i2 (List.mem_of_getElem? (i := 93) rfl)) rfl) sy_ini3 ⟨by decide, by decide, by decide +kernel⟩ (by decide +kernel) (sy_inT (sy_i2 (List.mem_of_getElem? (i := 91) (by decide +kernel))) rfl) (sy_inT (sy_i2 (List.mem_of_getElem? (i := 92) (by decide +kernel))) rfl) rfl
def mX3_columnCount : sy_M := (yX3_columnCount, cX3_columnCount, 1, (some .int), 3, 0, 0)
theorem kX3_columnCount : sy_mok mX3_columnCount false 0 := sy_mokV (sy_inT (sy_i4 (List.mem_of_getElem? (i := 211) rfl)) rfl) sy_ini3 ⟨by decide, by decide, by decide +kernel⟩ (by decide +kernel) (sy_inT (sy_i4 (List.mem_of_getElem? (i := 209) (by decide +kernel))) rfl) (sy_inT (sy_i4 (List.mem_of_getElem? (i := 210) (by decide +kernel))) rfl) rfl
def mX3_grainsOf : sy_M := (yX3_grainsOf, cX3_grainsOf, 4, (some .int), 3, 0, 0)
theorem kX3_grainsOf : sy_mok mX3_grainsOf false 1 := sy_mokV (sy_inT (sy_i3 (List.mem_of_getElem? (i := 49) rfl)) rfl) sy_ini3 ⟨by decide, by decide, by decide +kernel⟩ (by decide +kernel) (sy_inT (sy_i3 (List.mem_of_getElem? (i := 47) (by decide +kernel))) rfl) (sy_inT (sy_i3 (List.mem_of_getElem? (i := 48) (by decide +kernel))) rfl) rfl
def mX3_init : sy_M := (yX3_init, cX3_init, 3, none, 3, 4, 90)
def mX3_isCell : sy_M := (yX3_isCell, cX3_isCell, 2, (some .boolean), 3, 0, 0)
theorem kX3_isCell : sy_mok mX3_isCell false 1 := sy_mokV (sy_inT (sy_i2 (List.mem_of_getElem? (i := 115) rfl)) rfl) sy_ini3 ⟨by decide, by decide, by decide +kernel⟩ (by decide +kernel) (sy_inT (sy_i2 (List.mem_of_getElem? (i := 113) (by decide +kernel))) rfl) (sy_inT (sy_i2 (List.mem_of_getElem? (i := 114) (by decide +kernel))) rfl) rfl
def mX3_isPlace : sy_M := (yX3_isPlace, cX3_isPlace, 2, (some .boolean), 3, 1, 21)
theorem kX3_isPlace : sy_mok mX3_isPlace false 1 := sy_mokV (sy_inT (sy_i2 (List.mem_of_getElem? (i := 119) rfl)) rfl) sy_ini3 ⟨by decide, by decide, by decide +kernel⟩ (by decide +kernel) (sy_inT (sy_i2 (List.mem_of_getElem? (i := 117) (by decide +kernel))) rfl) (sy_inT (sy_i2 (List.mem_of_getElem? (i := 118) (by decide +kernel))) rfl) rfl
def mX3_isStable : sy_M := (yX3_isStable, cX3_isStable, 3, (some .boolean), 3, 0, 0)
theorem kX3_isStable : sy_mok mX3_isStable false 1 := sy_mokV (sy_inT (sy_i4 (List.mem_of_getElem? (i := 50) rfl)) rfl) sy_ini3 ⟨by decide, by decide, by decide +kernel⟩ (by decide +kernel) (sy_inT (sy_i4 (List.mem_of_getElem? (i := 48) (by decide +kernel))) rfl) (sy_inT (sy_i4 (List.mem_of_getElem? (i := 49) (by decide +kernel))) rfl) rfl
def mX3_join : sy_M := (yX3_join, cX3_join, 3, none, 3, 0, 0)
theorem kX3_join : sy_mok mX3_join false 2 := sy_mokV (sy_inT (sy_i1 (List.mem_of_getElem? (i := 49) rfl)) rfl) sy_ini3 ⟨by decide, by decide, by decide +kernel⟩ (by decide +kernel) (sy_inT (sy_i1 (List.mem_of_getElem? (i := 48) (by decide +kernel))) rfl) (sy_inP (List.mem_of_getElem? (i := 2) (by decide +kernel)) rfl) rfl
def mX3_link : sy_M := (yX3_link, cX3_link, 4, none, 3, 2, 45)
theorem kX3_link : sy_mok mX3_link false 0 := sy_mokV (sy_inT (sy_i1 (List.mem_of_getElem? (i := 41) rfl)) rfl) sy_ini3 ⟨by decide, by decide, by decide +kernel⟩ (by decide +kernel) (sy_inT (sy_i1 (List.mem_of_getElem? (i := 40) (by decide +kernel))) rfl) (sy_inP (List.mem_of_getElem? (i := 0) (by decide +kernel)) rfl) rfl
def mX3_linkCell : sy_M := (yX3_linkCell, cX3_linkCell, 4, none, 3, 1, 22)
theorem kX3_linkCell : sy_mok mX3_linkCell false 3 := sy_mokV (sy_inT (sy_i1 (List.mem_of_getElem? (i := 45) rfl)) rfl) sy_ini3 ⟨by decide, by decide, by decide +kernel⟩ (by decide +kernel) (sy_inT (sy_i1 (List.mem_of_getElem? (i := 44) (by decide +kernel))) rfl) (sy_inP (List.mem_of_getElem? (i := 1) (by decide +kernel)) rfl) rfl
def mX3_lossAt : sy_M := (yX3_lossAt, cX3_lossAt, 2, (some .int), 3, 0, 0)
theorem kX3_lossAt : sy_mok mX3_lossAt false 1 := sy_mokV (sy_inT (sy_i2 (List.mem_of_getElem? (i := 152) rfl)) rfl) sy_ini3 ⟨by decide, by decide, by decide +kernel⟩ (by decide +kernel) (sy_inT (sy_i2 (List.mem_of_getElem? (i := 150) (by decide +kernel))) rfl) (sy_inT (sy_i2 (List.mem_of_getElem? (i := 151) (by decide +kernel))) rfl) rfl
def mX3_nextAt : sy_M := (yX3_nextAt, cX3_nextAt, 3, (some .int), 3, 0, 0)
theorem kX3_nextAt : sy_mok mX3_nextAt false 2 := sy_mokV (sy_inT (sy_i3 (List.mem_of_getElem? (i := 97) rfl)) rfl) sy_ini3 ⟨by decide, by decide, by decide +kernel⟩ (by decide +kernel) (sy_inT (sy_i3 (List.mem_of_getElem? (i := 95) (by decide +kernel))) rfl) (sy_inT (sy_i3 (List.mem_of_getElem? (i := 96) (by decide +kernel))) rfl) rfl
def mX3_nextCount : sy_M := (yX3_nextCount, cX3_nextCount, 2, (some .int), 3, 0, 0)
theorem kX3_nextCount : sy_mok mX3_nextCount false 1 := sy_mokV (sy_inT (sy_i3 (List.mem_of_getElem? (i := 93) rfl)) rfl) sy_ini3 ⟨by decide, by decide, by decide +kernel⟩ (by decide +kernel) (sy_inT (sy_i3 (List.mem_of_getElem? (i := 91) (by decide +kernel))) rfl) (sy_inT (sy_i3 (List.mem_of_getElem? (i := 92) (by decide +kernel))) rfl) rfl
def mX3_numberOf : sy_M := (yX3_numberOf, cX3_numberOf, 2, (some .int), 3, 0, 0)
theorem kX3_numberOf : sy_mok mX3_numberOf false 1 := sy_mokV (sy_inT (sy_i3 (List.mem_of_getElem? (i := 239) rfl)) rfl) sy_ini3 ⟨by decide, by decide, by decide +kernel⟩ (by decide +kernel) (sy_inT (sy_i3 (List.mem_of_getElem? (i := 237) (by decide +kernel))) rfl) (sy_inT (sy_i3 (List.mem_of_getElem? (i := 238) (by decide +kernel))) rfl) rfl
def mX3_pack : sy_M := (yX3_pack, cX3_pack, 4, (some .int), 3, 0, 0)
theorem kX3_pack : sy_mok mX3_pack false 1 := sy_mokV (sy_inT (sy_i4 (List.mem_of_getElem? (i := 75) rfl)) rfl) sy_ini3 ⟨by decide, by decide, by decide +kernel⟩ (by decide +kernel) (sy_inT (sy_i4 (List.mem_of_getElem? (i := 73) (by decide +kernel))) rfl) (sy_inT (sy_i4 (List.mem_of_getElem? (i := 74) (by decide +kernel))) rfl) rfl
def mX3_placeAt : sy_M := (yX3_placeAt, cX3_placeAt, 2, (some .int), 3, 0, 0)
theorem kX3_placeAt : sy_mok mX3_placeAt false 1 := sy_mokV (sy_inT (sy_i3 (List.mem_of_getElem? (i := 24) rfl)) rfl) sy_ini3 ⟨by decide, by decide, by decide +kernel⟩ (by decide +kernel) (sy_inT (sy_i3 (List.mem_of_getElem? (i := 22) (by decide +kernel))) rfl) (sy_inT (sy_i3 (List.mem_of_getElem? (i := 23) (by decide +kernel))) rfl) rfl
def mX3_placeCount : sy_M := (yX3_placeCount, cX3_placeCount, 1, (some .int), 3, 0, 0)
theorem kX3_placeCount : sy_mok mX3_placeCount false 0 := sy_mokV (sy_inT (sy_i3 (List.mem_of_getElem? (i := 20) rfl)) rfl) sy_ini3 ⟨by decide, by decide, by decide +kernel⟩ (by decide +kernel) (sy_inT (sy_i3 (List.mem_of_getElem? (i := 18) (by decide +kernel))) rfl) (sy_inT (sy_i3 (List.mem_of_getElem? (i := 19) (by decide +kernel))) rfl) rfl
def mX3_shape : sy_M := (yX3_shape, cX3_shape, 3, none, 3, 3, 68)
theorem kX3_shape : sy_mok mX3_shape false 2 := sy_mokV (sy_inT (sy_i1 (List.mem_of_getElem? (i := 34) rfl)) rfl) sy_ini3 ⟨by decide, by decide, by decide +kernel⟩ (by decide +kernel) (sy_inT (sy_i1 (List.mem_of_getElem? (i := 32) (by decide +kernel))) rfl) (sy_inT (sy_i1 (List.mem_of_getElem? (i := 33) (by decide +kernel))) rfl) rfl
def mX3_spill : sy_M := (yX3_spill, cX3_spill, 7, none, 3, 0, 0)
theorem kX3_spill : sy_mok mX3_spill false 3 := sy_mokV (sy_inT (sy_i2 (List.mem_of_getElem? (i := 148) rfl)) rfl) sy_ini3 ⟨by decide, by decide, by decide +kernel⟩ (by decide +kernel) (sy_inT (sy_i2 (List.mem_of_getElem? (i := 146) (by decide +kernel))) rfl) (sy_inT (sy_i2 (List.mem_of_getElem? (i := 147) (by decide +kernel))) rfl) rfl
def mX3_unpack : sy_M := (yX3_unpack, cX3_unpack, 5, none, 3, 0, 0)
theorem kX3_unpack : sy_mok mX3_unpack false 2 := sy_mokV (sy_inT (sy_i4 (List.mem_of_getElem? (i := 42) rfl)) rfl) sy_ini3 ⟨by decide, by decide, by decide +kernel⟩ (by decide +kernel) (sy_inT (sy_i4 (List.mem_of_getElem? (i := 40) (by decide +kernel))) rfl) (sy_inT (sy_i4 (List.mem_of_getElem? (i := 41) (by decide +kernel))) rfl) rfl
def mX4_begin : sy_M := (yX4_begin, cX4_begin, 4, none, 4, 1, 26)
theorem kX4_begin : sy_mok mX4_begin false 2 := sy_mokV (sy_inT (sy_i3 (List.mem_of_getElem? (i := 61) rfl)) rfl) sy_ini4 ⟨by decide, by decide, by decide +kernel⟩ (by decide +kernel) (sy_inT (sy_i3 (List.mem_of_getElem? (i := 59) (by decide +kernel))) rfl) (sy_inT (sy_i3 (List.mem_of_getElem? (i := 60) (by decide +kernel))) rfl) rfl
def mX4_chosen : sy_M := (yX4_chosen, cX4_chosen, 1, (some .int), 4, 2, 45)
theorem kX4_chosen : sy_mok mX4_chosen false 0 := sy_mokV (sy_inT (sy_i3 (List.mem_of_getElem? (i := 76) rfl)) rfl) sy_ini4 ⟨by decide, by decide, by decide +kernel⟩ (by decide +kernel) (sy_inT (sy_i3 (List.mem_of_getElem? (i := 75) (by decide +kernel))) rfl) (sy_inP (List.mem_of_getElem? (i := 13) (by decide +kernel)) rfl) rfl
def mX4_init : sy_M := (yX4_init, cX4_init, 2, none, 4, 1, 20)
def mX4_leastCell : sy_M := (yX4_leastCell, cX4_leastCell, 3, (some .int), 4, 1, 21)
theorem kX4_leastCell : sy_mok mX4_leastCell false 0 := sy_mokV (sy_inT (sy_i3 (List.mem_of_getElem? (i := 80) rfl)) rfl) sy_ini4 ⟨by decide, by decide, by decide +kernel⟩ (by decide +kernel) (sy_inT (sy_i3 (List.mem_of_getElem? (i := 79) (by decide +kernel))) rfl) (sy_inP (List.mem_of_getElem? (i := 14) (by decide +kernel)) rfl) rfl
def mX4_leave : sy_M := (yX4_leave, cX4_leave, 3, (some .int), 4, 0, 0)
theorem kX4_leave : sy_mok mX4_leave false 1 := sy_mokV (sy_inT (sy_i3 (List.mem_of_getElem? (i := 84) rfl)) rfl) sy_ini4 ⟨by decide, by decide, by decide +kernel⟩ (by decide +kernel) (sy_inT (sy_i3 (List.mem_of_getElem? (i := 83) (by decide +kernel))) rfl) (sy_inP (List.mem_of_getElem? (i := 15) (by decide +kernel)) rfl) rfl
def mX4_lineUp : sy_M := (yX4_lineUp, cX4_lineUp, 3, none, 4, 0, 0)
theorem kX4_lineUp : sy_mok mX4_lineUp false 1 := sy_mokV (sy_inT (sy_i3 (List.mem_of_getElem? (i := 68) rfl)) rfl) sy_ini4 ⟨by decide, by decide, by decide +kernel⟩ (by decide +kernel) (sy_inT (sy_i3 (List.mem_of_getElem? (i := 67) (by decide +kernel))) rfl) (sy_inP (List.mem_of_getElem? (i := 12) (by decide +kernel)) rfl) rfl
def mX4_step : sy_M := (yX4_step, cX4_step, 3, (some .int), 4, 3, 65)
theorem kX4_step : sy_mok mX4_step false 0 := sy_mokV (sy_inT (sy_i3 (List.mem_of_getElem? (i := 72) rfl)) rfl) sy_ini4 ⟨by decide, by decide, by decide +kernel⟩ (by decide +kernel) (sy_inT (sy_i3 (List.mem_of_getElem? (i := 70) (by decide +kernel))) rfl) (sy_inT (sy_i3 (List.mem_of_getElem? (i := 71) (by decide +kernel))) rfl) rfl
def mX4_tallestCell : sy_M := (yX4_tallestCell, cX4_tallestCell, 5, (some .int), 4, 1, 21)
theorem kX4_tallestCell : sy_mok mX4_tallestCell false 0 := sy_mokV (sy_inT (sy_i3 (List.mem_of_getElem? (i := 88) rfl)) rfl) sy_ini4 ⟨by decide, by decide, by decide +kernel⟩ (by decide +kernel) (sy_inT (sy_i3 (List.mem_of_getElem? (i := 87) (by decide +kernel))) rfl) (sy_inP (List.mem_of_getElem? (i := 16) (by decide +kernel)) rfl) rfl
def mX5_determinant : sy_M := (yX5_determinant, cX5_determinant, 6, (some .long), 5, 2, 49)
theorem kX5_determinant : sy_mok mX5_determinant false 1 := sy_mokV (sy_inT (sy_i3 (List.mem_of_getElem? (i := 223) rfl)) rfl) sy_ini5 ⟨by decide, by decide, by decide +kernel⟩ (by decide +kernel) (sy_inT (sy_i3 (List.mem_of_getElem? (i := 221) (by decide +kernel))) rfl) (sy_inT (sy_i3 (List.mem_of_getElem? (i := 222) (by decide +kernel))) rfl) rfl
def mX5_eliminate : sy_M := (yX5_eliminate, cX5_eliminate, 13, none, 5, 0, 0)
theorem kX5_eliminate : sy_mok mX5_eliminate false 3 := sy_mokV (sy_inT (sy_i4 (List.mem_of_getElem? (i := 4) rfl)) rfl) sy_ini5 ⟨by decide, by decide, by decide +kernel⟩ (by decide +kernel) (sy_inT (sy_i4 (List.mem_of_getElem? (i := 3) (by decide +kernel))) rfl) (sy_inP (List.mem_of_getElem? (i := 22) (by decide +kernel)) rfl) rfl
def mX5_fillFrom : sy_M := (yX5_fillFrom, cX5_fillFrom, 6, none, 5, 1, 24)
theorem kX5_fillFrom : sy_mok mX5_fillFrom false 2 := sy_mokV (sy_inT (sy_i3 (List.mem_of_getElem? (i := 228) rfl)) rfl) sy_ini5 ⟨by decide, by decide, by decide +kernel⟩ (by decide +kernel) (sy_inT (sy_i3 (List.mem_of_getElem? (i := 227) (by decide +kernel))) rfl) (sy_inP (List.mem_of_getElem? (i := 21) (by decide +kernel)) rfl) rfl
def mX5_init : sy_M := (yX5_init, cX5_init, 1, none, 5, 1, 20)
def mX6_add : sy_M := (yX6_add, cX6_add, 3, none, 6, 1, 20)
theorem kX6_add : sy_mok mX6_add false 1 := sy_mokV (sy_inT (sy_i4 (List.mem_of_getElem? (i := 79) rfl)) rfl) sy_ini6 ⟨by decide, by decide, by decide +kernel⟩ (by decide +kernel) (sy_inT (sy_i4 (List.mem_of_getElem? (i := 77) (by decide +kernel))) rfl) (sy_inT (sy_i4 (List.mem_of_getElem? (i := 78) (by decide +kernel))) rfl) rfl
def mX6_chainOf : sy_M := (yX6_chainOf, cX6_chainOf, 1, (some .int), 6, 0, 0)
theorem kX6_chainOf : sy_mok mX6_chainOf true 1 := sy_mokS (sy_inT (sy_i4 (List.mem_of_getElem? (i := 82) rfl)) rfl) sy_ini6 ⟨by decide, by decide, by decide +kernel⟩ (by decide +kernel) (sy_inT (sy_i4 (List.mem_of_getElem? (i := 81) (by decide +kernel))) rfl) rfl
def mX6_clear : sy_M := (yX6_clear, cX6_clear, 1, none, 6, 1, 23)
theorem kX6_clear : sy_mok mX6_clear false 0 := sy_mokV (sy_inT (sy_i4 (List.mem_of_getElem? (i := 66) rfl)) rfl) sy_ini6 ⟨by decide, by decide, by decide +kernel⟩ (by decide +kernel) (sy_inT (sy_i4 (List.mem_of_getElem? (i := 64) (by decide +kernel))) rfl) (sy_inT (sy_i4 (List.mem_of_getElem? (i := 65) (by decide +kernel))) rfl) rfl
def mX6_find : sy_M := (yX6_find, cX6_find, 4, (some .int), 6, 1, 20)
theorem kX6_find : sy_mok mX6_find false 1 := sy_mokV (sy_inT (sy_i4 (List.mem_of_getElem? (i := 87) rfl)) rfl) sy_ini6 ⟨by decide, by decide, by decide +kernel⟩ (by decide +kernel) (sy_inT (sy_i4 (List.mem_of_getElem? (i := 85) (by decide +kernel))) rfl) (sy_inT (sy_i4 (List.mem_of_getElem? (i := 86) (by decide +kernel))) rfl) rfl
def mX6_init : sy_M := (yX6_init, cX6_init, 1, none, 6, 1, 20)
def mX7_clear : sy_M := (yX7_clear, cX7_clear, 1, none, 7, 1, 23)
theorem kX7_clear : sy_mok mX7_clear false 0 := sy_mokV (sy_inT (sy_i1 (List.mem_of_getElem? (i := 137) rfl)) rfl) sy_ini7 ⟨by decide, by decide, by decide +kernel⟩ (by decide +kernel) (sy_inT (sy_i1 (List.mem_of_getElem? (i := 135) (by decide +kernel))) rfl) (sy_inT (sy_i1 (List.mem_of_getElem? (i := 136) (by decide +kernel))) rfl) rfl
def mX7_has : sy_M := (yX7_has, cX7_has, 2, (some .boolean), 7, 0, 0)
theorem kX7_has : sy_mok mX7_has false 1 := sy_mokV (sy_inT (sy_i3 (List.mem_of_getElem? (i := 109) rfl)) rfl) sy_ini7 ⟨by decide, by decide, by decide +kernel⟩ (by decide +kernel) (sy_inT (sy_i3 (List.mem_of_getElem? (i := 107) (by decide +kernel))) rfl) (sy_inT (sy_i3 (List.mem_of_getElem? (i := 108) (by decide +kernel))) rfl) rfl
def mX7_heldCount : sy_M := (yX7_heldCount, cX7_heldCount, 3, (some .int), 7, 0, 0)
theorem kX7_heldCount : sy_mok mX7_heldCount false 0 := sy_mokV (sy_inT (sy_i4 (List.mem_of_getElem? (i := 215) rfl)) rfl) sy_ini7 ⟨by decide, by decide, by decide +kernel⟩ (by decide +kernel) (sy_inT (sy_i4 (List.mem_of_getElem? (i := 213) (by decide +kernel))) rfl) (sy_inT (sy_i4 (List.mem_of_getElem? (i := 214) (by decide +kernel))) rfl) rfl
def mX7_hold : sy_M := (yX7_hold, cX7_hold, 3, (some (.array .int)), 7, 0, 0)
theorem kX7_hold : sy_mok mX7_hold false 2 := sy_mokV (sy_inT (sy_i3 (List.mem_of_getElem? (i := 113) rfl)) rfl) sy_ini7 ⟨by decide, by decide, by decide +kernel⟩ (by decide +kernel) (sy_inT (sy_i3 (List.mem_of_getElem? (i := 111) (by decide +kernel))) rfl) (sy_inT (sy_i3 (List.mem_of_getElem? (i := 112) (by decide +kernel))) rfl) rfl
def mX7_holds : sy_M := (yX7_holds, cX7_holds, 2, (some .boolean), 7, 0, 0)
theorem kX7_holds : sy_mok mX7_holds false 1 := sy_mokV (sy_inT (sy_i3 (List.mem_of_getElem? (i := 121) rfl)) rfl) sy_ini7 ⟨by decide, by decide, by decide +kernel⟩ (by decide +kernel) (sy_inT (sy_i3 (List.mem_of_getElem? (i := 119) (by decide +kernel))) rfl) (sy_inT (sy_i3 (List.mem_of_getElem? (i := 120) (by decide +kernel))) rfl) rfl
def mX7_init : sy_M := (yX7_init, cX7_init, 3, none, 7, 2, 43)
def mX7_lengthOf : sy_M := (yX7_lengthOf, cX7_lengthOf, 2, (some .int), 7, 0, 0)
theorem kX7_lengthOf : sy_mok mX7_lengthOf false 1 := sy_mokV (sy_inT (sy_i4 (List.mem_of_getElem? (i := 142) rfl)) rfl) sy_ini7 ⟨by decide, by decide, by decide +kernel⟩ (by decide +kernel) (sy_inT (sy_i4 (List.mem_of_getElem? (i := 140) (by decide +kernel))) rfl) (sy_inT (sy_i4 (List.mem_of_getElem? (i := 141) (by decide +kernel))) rfl) rfl
def mX7_rowAt : sy_M := (yX7_rowAt, cX7_rowAt, 2, (some (.array .int)), 7, 0, 0)
theorem kX7_rowAt : sy_mok mX7_rowAt false 1 := sy_mokV (sy_inT (sy_i3 (List.mem_of_getElem? (i := 125) rfl)) rfl) sy_ini7 ⟨by decide, by decide, by decide +kernel⟩ (by decide +kernel) (sy_inT (sy_i3 (List.mem_of_getElem? (i := 123) (by decide +kernel))) rfl) (sy_inT (sy_i3 (List.mem_of_getElem? (i := 124) (by decide +kernel))) rfl) rfl
def mX8_add : sy_M := (yX8_add, cX8_add, 4, (some .int), 8, 2, 54)
theorem kX8_add : sy_mok mX8_add false 2 := sy_mokV (sy_inT (sy_i3 (List.mem_of_getElem? (i := 139) rfl)) rfl) sy_ini8 ⟨by decide, by decide, by decide +kernel⟩ (by decide +kernel) (sy_inT (sy_i3 (List.mem_of_getElem? (i := 137) (by decide +kernel))) rfl) (sy_inT (sy_i3 (List.mem_of_getElem? (i := 138) (by decide +kernel))) rfl) rfl
def mX8_addInto : sy_M := (yX8_addInto, cX8_addInto, 4, none, 8, 3, 77)
theorem kX8_addInto : sy_mok mX8_addInto false 3 := sy_mokV (sy_inT (sy_i3 (List.mem_of_getElem? (i := 186) rfl)) rfl) sy_ini8 ⟨by decide, by decide, by decide +kernel⟩ (by decide +kernel) (sy_inT (sy_i3 (List.mem_of_getElem? (i := 185) (by decide +kernel))) rfl) (sy_inP (List.mem_of_getElem? (i := 20) (by decide +kernel)) rfl) rfl
def mX8_areOne : sy_M := (yX8_areOne, cX8_areOne, 3, (some .boolean), 8, 4, 100)
theorem kX8_areOne : sy_mok mX8_areOne false 2 := sy_mokV (sy_inT (sy_i3 (List.mem_of_getElem? (i := 215) rfl)) rfl) sy_ini8 ⟨by decide, by decide, by decide +kernel⟩ (by decide +kernel) (sy_inT (sy_i3 (List.mem_of_getElem? (i := 213) (by decide +kernel))) rfl) (sy_inT (sy_i3 (List.mem_of_getElem? (i := 214) (by decide +kernel))) rfl) rfl
def mX8_copyResultTo : sy_M := (yX8_copyResultTo, cX8_copyResultTo, 2, none, 8, 1, 26)
theorem kX8_copyResultTo : sy_mok mX8_copyResultTo false 1 := sy_mokV (sy_inT (sy_i3 (List.mem_of_getElem? (i := 166) rfl)) rfl) sy_ini8 ⟨by decide, by decide, by decide +kernel⟩ (by decide +kernel) (sy_inT (sy_i3 (List.mem_of_getElem? (i := 164) (by decide +kernel))) rfl) (sy_inT (sy_i3 (List.mem_of_getElem? (i := 165) (by decide +kernel))) rfl) rfl
def mX8_init : sy_M := (yX8_init, cX8_init, 3, none, 8, 1, 20)
def mX8_layFullZero : sy_M := (yX8_layFullZero, cX8_layFullZero, 2, none, 8, 2, 54)
theorem kX8_layFullZero : sy_mok mX8_layFullZero false 0 := sy_mokV (sy_inT (sy_i3 (List.mem_of_getElem? (i := 153) rfl)) rfl) sy_ini8 ⟨by decide, by decide, by decide +kernel⟩ (by decide +kernel) (sy_inT (sy_i3 (List.mem_of_getElem? (i := 152) (by decide +kernel))) rfl) (sy_inP (List.mem_of_getElem? (i := 17) (by decide +kernel)) rfl) rfl
def mX8_leastToNought : sy_M := (yX8_leastToNought, cX8_leastToNought, 4, (some .int), 8, 4, 100)
theorem kX8_leastToNought : sy_mok mX8_leastToNought false 2 := sy_mokV (sy_inT (sy_i3 (List.mem_of_getElem? (i := 203) rfl)) rfl) sy_ini8 ⟨by decide, by decide, by decide +kernel⟩ (by decide +kernel) (sy_inT (sy_i3 (List.mem_of_getElem? (i := 201) (by decide +kernel))) rfl) (sy_inT (sy_i3 (List.mem_of_getElem? (i := 202) (by decide +kernel))) rfl) rfl
def mX8_multiply : sy_M := (yX8_multiply, cX8_multiply, 5, none, 8, 4, 100)
theorem kX8_multiply : sy_mok mX8_multiply false 2 := sy_mokV (sy_inT (sy_i3 (List.mem_of_getElem? (i := 181) rfl)) rfl) sy_ini8 ⟨by decide, by decide, by decide +kernel⟩ (by decide +kernel) (sy_inT (sy_i3 (List.mem_of_getElem? (i := 179) (by decide +kernel))) rfl) (sy_inT (sy_i3 (List.mem_of_getElem? (i := 180) (by decide +kernel))) rfl) rfl
def mX8_negate : sy_M := (yX8_negate, cX8_negate, 3, none, 8, 4, 95)
theorem kX8_negate : sy_mok mX8_negate false 1 := sy_mokV (sy_inT (sy_i3 (List.mem_of_getElem? (i := 195) rfl)) rfl) sy_ini8 ⟨by decide, by decide, by decide +kernel⟩ (by decide +kernel) (sy_inT (sy_i3 (List.mem_of_getElem? (i := 193) (by decide +kernel))) rfl) (sy_inT (sy_i3 (List.mem_of_getElem? (i := 194) (by decide +kernel))) rfl) rfl
def mX8_settleResult : sy_M := (yX8_settleResult, cX8_settleResult, 1, none, 8, 2, 54)
theorem kX8_settleResult : sy_mok mX8_settleResult false 0 := sy_mokV (sy_inT (sy_i3 (List.mem_of_getElem? (i := 161) rfl)) rfl) sy_ini8 ⟨by decide, by decide, by decide +kernel⟩ (by decide +kernel) (sy_inT (sy_i3 (List.mem_of_getElem? (i := 160) (by decide +kernel))) rfl) (sy_inP (List.mem_of_getElem? (i := 18) (by decide +kernel)) rfl) rfl
def mX8_startAtNought : sy_M := (yX8_startAtNought, cX8_startAtNought, 1, none, 8, 3, 75)
theorem kX8_startAtNought : sy_mok mX8_startAtNought false 0 := sy_mokV (sy_inT (sy_i3 (List.mem_of_getElem? (i := 149) rfl)) rfl) sy_ini8 ⟨by decide, by decide, by decide +kernel⟩ (by decide +kernel) (sy_inT (sy_i3 (List.mem_of_getElem? (i := 147) (by decide +kernel))) rfl) (sy_inT (sy_i3 (List.mem_of_getElem? (i := 148) (by decide +kernel))) rfl) rfl
def mX9_add : sy_M := (yX9_add, cX9_add, 3, none, 9, 1, 21)
theorem kX9_add : sy_mok mX9_add false 1 := sy_mokV (sy_inT (sy_i4 (List.mem_of_getElem? (i := 111) rfl)) rfl) sy_ini9 ⟨by decide, by decide, by decide +kernel⟩ (by decide +kernel) (sy_inT (sy_i4 (List.mem_of_getElem? (i := 109) (by decide +kernel))) rfl) (sy_inT (sy_i4 (List.mem_of_getElem? (i := 110) (by decide +kernel))) rfl) rfl
def mX9_clear : sy_M := (yX9_clear, cX9_clear, 1, none, 9, 0, 0)
theorem kX9_clear : sy_mok mX9_clear false 0 := sy_mokV (sy_inT (sy_i4 (List.mem_of_getElem? (i := 103) rfl)) rfl) sy_ini9 ⟨by decide, by decide, by decide +kernel⟩ (by decide +kernel) (sy_inT (sy_i4 (List.mem_of_getElem? (i := 101) (by decide +kernel))) rfl) (sy_inT (sy_i4 (List.mem_of_getElem? (i := 102) (by decide +kernel))) rfl) rfl
def mX9_greatest : sy_M := (yX9_greatest, cX9_greatest, 1, (some .int), 9, 0, 0)
theorem kX9_greatest : sy_mok mX9_greatest false 0 := sy_mokV (sy_inT (sy_i4 (List.mem_of_getElem? (i := 122) rfl)) rfl) sy_ini9 ⟨by decide, by decide, by decide +kernel⟩ (by decide +kernel) (sy_inT (sy_i4 (List.mem_of_getElem? (i := 120) (by decide +kernel))) rfl) (sy_inT (sy_i4 (List.mem_of_getElem? (i := 121) (by decide +kernel))) rfl) rfl
def mX9_init : sy_M := (yX9_init, cX9_init, 1, none, 9, 1, 20)
def mX9_oftenAt : sy_M := (yX9_oftenAt, cX9_oftenAt, 2, (some .int), 9, 0, 0)
theorem kX9_oftenAt : sy_mok mX9_oftenAt false 1 := sy_mokV (sy_inT (sy_i4 (List.mem_of_getElem? (i := 134) rfl)) rfl) sy_ini9 ⟨by decide, by decide, by decide +kernel⟩ (by decide +kernel) (sy_inT (sy_i4 (List.mem_of_getElem? (i := 132) (by decide +kernel))) rfl) (sy_inT (sy_i4 (List.mem_of_getElem? (i := 133) (by decide +kernel))) rfl) rfl
def mX9_sizeAt : sy_M := (yX9_sizeAt, cX9_sizeAt, 2, (some .int), 9, 0, 0)
theorem kX9_sizeAt : sy_mok mX9_sizeAt false 1 := sy_mokV (sy_inT (sy_i4 (List.mem_of_getElem? (i := 130) rfl)) rfl) sy_ini9 ⟨by decide, by decide, by decide +kernel⟩ (by decide +kernel) (sy_inT (sy_i4 (List.mem_of_getElem? (i := 128) (by decide +kernel))) rfl) (sy_inT (sy_i4 (List.mem_of_getElem? (i := 129) (by decide +kernel))) rfl) rfl
def mX9_together : sy_M := (yX9_together, cX9_together, 1, (some .int), 9, 0, 0)
theorem kX9_together : sy_mok mX9_together false 0 := sy_mokV (sy_inT (sy_i4 (List.mem_of_getElem? (i := 118) rfl)) rfl) sy_ini9 ⟨by decide, by decide, by decide +kernel⟩ (by decide +kernel) (sy_inT (sy_i4 (List.mem_of_getElem? (i := 116) (by decide +kernel))) rfl) (sy_inT (sy_i4 (List.mem_of_getElem? (i := 117) (by decide +kernel))) rfl) rfl
def mX9_unlike : sy_M := (yX9_unlike, cX9_unlike, 1, (some .int), 9, 0, 0)
theorem kX9_unlike : sy_mok mX9_unlike false 0 := sy_mokV (sy_inT (sy_i4 (List.mem_of_getElem? (i := 126) rfl)) rfl) sy_ini9 ⟨by decide, by decide, by decide +kernel⟩ (by decide +kernel) (sy_inT (sy_i4 (List.mem_of_getElem? (i := 124) (by decide +kernel))) rfl) (sy_inT (sy_i4 (List.mem_of_getElem? (i := 125) (by decide +kernel))) rfl) rfl
def mX10_accept : sy_M := (yX10_accept, cX10_accept, 3, (some .int), 10, 2, 40)
theorem kX10_accept : sy_mok mX10_accept false 1 := sy_mokV (sy_inT (sy_i2 (List.mem_of_getElem? (i := 196) rfl)) rfl) sy_ini10 ⟨by decide, by decide, by decide +kernel⟩ (by decide +kernel) (sy_inT (sy_i2 (List.mem_of_getElem? (i := 195) (by decide +kernel))) rfl) (sy_inP (List.mem_of_getElem? (i := 4) (by decide +kernel)) rfl) rfl
def mX10_acceptSlash : sy_M := (yX10_acceptSlash, cX10_acceptSlash, 1, (some .int), 10, 1, 20)
theorem kX10_acceptSlash : sy_mok mX10_acceptSlash false 0 := sy_mokV (sy_inT (sy_i2 (List.mem_of_getElem? (i := 200) rfl)) rfl) sy_ini10 ⟨by decide, by decide, by decide +kernel⟩ (by decide +kernel) (sy_inT (sy_i2 (List.mem_of_getElem? (i := 199) (by decide +kernel))) rfl) (sy_inP (List.mem_of_getElem? (i := 5) (by decide +kernel)) rfl) rfl
def mX10_append : sy_M := (yX10_append, cX10_append, 2, (some .int), 10, 0, 0)
theorem kX10_append : sy_mok mX10_append false 1 := sy_mokV (sy_inT (sy_i2 (List.mem_of_getElem? (i := 184) rfl)) rfl) sy_ini10 ⟨by decide, by decide, by decide +kernel⟩ (by decide +kernel) (sy_inT (sy_i2 (List.mem_of_getElem? (i := 182) (by decide +kernel))) rfl) (sy_inT (sy_i2 (List.mem_of_getElem? (i := 183) (by decide +kernel))) rfl) rfl
def mX10_closeRow : sy_M := (yX10_closeRow, cX10_closeRow, 1, none, 10, 0, 0)
theorem kX10_closeRow : sy_mok mX10_closeRow false 0 := sy_mokV (sy_inT (sy_i2 (List.mem_of_getElem? (i := 208) rfl)) rfl) sy_ini10 ⟨by decide, by decide, by decide +kernel⟩ (by decide +kernel) (sy_inT (sy_i2 (List.mem_of_getElem? (i := 207) (by decide +kernel))) rfl) (sy_inP (List.mem_of_getElem? (i := 7) (by decide +kernel)) rfl) rfl
def mX10_codeAt : sy_M := (yX10_codeAt, cX10_codeAt, 2, (some .int), 10, 0, 0)
theorem kX10_codeAt : sy_mok mX10_codeAt false 1 := sy_mokV (sy_inT (sy_i3 (List.mem_of_getElem? (i := 4) rfl)) rfl) sy_ini10 ⟨by decide, by decide, by decide +kernel⟩ (by decide +kernel) (sy_inT (sy_i3 (List.mem_of_getElem? (i := 2) (by decide +kernel))) rfl) (sy_inT (sy_i3 (List.mem_of_getElem? (i := 3) (by decide +kernel))) rfl) rfl
def mX10_codeCount : sy_M := (yX10_codeCount, cX10_codeCount, 1, (some .int), 10, 0, 0)
theorem kX10_codeCount : sy_mok mX10_codeCount false 0 := sy_mokV (sy_inT (sy_i4 (List.mem_of_getElem? (i := 223) rfl)) rfl) sy_ini10 ⟨by decide, by decide, by decide +kernel⟩ (by decide +kernel) (sy_inT (sy_i4 (List.mem_of_getElem? (i := 221) (by decide +kernel))) rfl) (sy_inT (sy_i4 (List.mem_of_getElem? (i := 222) (by decide +kernel))) rfl) rfl
def mX10_columnCount : sy_M := (yX10_columnCount, cX10_columnCount, 1, (some .int), 10, 0, 0)
theorem kX10_columnCount : sy_mok mX10_columnCount false 0 := sy_mokV (sy_inT (sy_i2 (List.mem_of_getElem? (i := 228) rfl)) rfl) sy_ini10 ⟨by decide, by decide, by decide +kernel⟩ (by decide +kernel) (sy_inT (sy_i2 (List.mem_of_getElem? (i := 226) (by decide +kernel))) rfl) (sy_inT (sy_i2 (List.mem_of_getElem? (i := 227) (by decide +kernel))) rfl) rfl
def mX10_init : sy_M := (yX10_init, cX10_init, 1, none, 10, 1, 20)
def mX10_isFull : sy_M := (yX10_isFull, cX10_isFull, 1, (some .boolean), 10, 0, 0)
theorem kX10_isFull : sy_mok mX10_isFull false 0 := sy_mokV (sy_inT (sy_i2 (List.mem_of_getElem? (i := 180) rfl)) rfl) sy_ini10 ⟨by decide, by decide, by decide +kernel⟩ (by decide +kernel) (sy_inT (sy_i2 (List.mem_of_getElem? (i := 178) (by decide +kernel))) rfl) (sy_inT (sy_i2 (List.mem_of_getElem? (i := 179) (by decide +kernel))) rfl) rfl
def mX10_isRowWhole : sy_M := (yX10_isRowWhole, cX10_isRowWhole, 1, (some .boolean), 10, 0, 0)
theorem kX10_isRowWhole : sy_mok mX10_isRowWhole false 0 := sy_mokV (sy_inT (sy_i2 (List.mem_of_getElem? (i := 204) rfl)) rfl) sy_ini10 ⟨by decide, by decide, by decide +kernel⟩ (by decide +kernel) (sy_inT (sy_i2 (List.mem_of_getElem? (i := 203) (by decide +kernel))) rfl) (sy_inP (List.mem_of_getElem? (i := 6) (by decide +kernel)) rfl) rfl
def mX10_length : sy_M := (yX10_length, cX10_length, 1, (some .int), 10, 0, 0)
theorem kX10_length : sy_mok mX10_length false 0 := sy_mokV (sy_inT (sy_i4 (List.mem_of_getElem? (i := 219) rfl)) rfl) sy_ini10 ⟨by decide, by decide, by decide +kernel⟩ (by decide +kernel) (sy_inT (sy_i4 (List.mem_of_getElem? (i := 217) (by decide +kernel))) rfl) (sy_inT (sy_i4 (List.mem_of_getElem? (i := 218) (by decide +kernel))) rfl) rfl
def mX10_mostInRow : sy_M := (yX10_mostInRow, cX10_mostInRow, 1, (some .int), 10, 0, 0)
theorem kX10_mostInRow : sy_mok mX10_mostInRow false 0 := sy_mokV (sy_inT (sy_i2 (List.mem_of_getElem? (i := 212) rfl)) rfl) sy_ini10 ⟨by decide, by decide, by decide +kernel⟩ (by decide +kernel) (sy_inT (sy_i2 (List.mem_of_getElem? (i := 211) (by decide +kernel))) rfl) (sy_inP (List.mem_of_getElem? (i := 8) (by decide +kernel)) rfl) rfl
def mX10_parse : sy_M := (yX10_parse, cX10_parse, 3, (some .int), 10, 3, 62)
theorem kX10_parse : sy_mok mX10_parse false 0 := sy_mokV (sy_inT (sy_i2 (List.mem_of_getElem? (i := 192) rfl)) rfl) sy_ini10 ⟨by decide, by decide, by decide +kernel⟩ (by decide +kernel) (sy_inT (sy_i2 (List.mem_of_getElem? (i := 190) (by decide +kernel))) rfl) (sy_inT (sy_i2 (List.mem_of_getElem? (i := 191) (by decide +kernel))) rfl) rfl
def mX10_refuse : sy_M := (yX10_refuse, cX10_refuse, 3, (some .int), 10, 0, 0)
theorem kX10_refuse : sy_mok mX10_refuse false 2 := sy_mokV (sy_inT (sy_i2 (List.mem_of_getElem? (i := 216) rfl)) rfl) sy_ini10 ⟨by decide, by decide, by decide +kernel⟩ (by decide +kernel) (sy_inT (sy_i2 (List.mem_of_getElem? (i := 215) (by decide +kernel))) rfl) (sy_inP (List.mem_of_getElem? (i := 9) (by decide +kernel)) rfl) rfl
def mX10_rewind : sy_M := (yX10_rewind, cX10_rewind, 1, none, 10, 0, 0)
theorem kX10_rewind : sy_mok mX10_rewind false 0 := sy_mokV (sy_inT (sy_i2 (List.mem_of_getElem? (i := 220) rfl)) rfl) sy_ini10 ⟨by decide, by decide, by decide +kernel⟩ (by decide +kernel) (sy_inT (sy_i2 (List.mem_of_getElem? (i := 218) (by decide +kernel))) rfl) (sy_inT (sy_i2 (List.mem_of_getElem? (i := 219) (by decide +kernel))) rfl) rfl
def mX10_rowCount : sy_M := (yX10_rowCount, cX10_rowCount, 1, (some .int), 10, 0, 0)
theorem kX10_rowCount : sy_mok mX10_rowCount false 0 := sy_mokV (sy_inT (sy_i2 (List.mem_of_getElem? (i := 224) rfl)) rfl) sy_ini10 ⟨by decide, by decide, by decide +kernel⟩ (by decide +kernel) (sy_inT (sy_i2 (List.mem_of_getElem? (i := 222) (by decide +kernel))) rfl) (sy_inT (sy_i2 (List.mem_of_getElem? (i := 223) (by decide +kernel))) rfl) rfl
def mX10_valueAt : sy_M := (yX10_valueAt, cX10_valueAt, 2, (some .int), 10, 0, 0)
theorem kX10_valueAt : sy_mok mX10_valueAt false 1 := sy_mokV (sy_inT (sy_i2 (List.mem_of_getElem? (i := 232) rfl)) rfl) sy_ini10 ⟨by decide, by decide, by decide +kernel⟩ (by decide +kernel) (sy_inT (sy_i2 (List.mem_of_getElem? (i := 230) (by decide +kernel))) rfl) (sy_inT (sy_i2 (List.mem_of_getElem? (i := 231) (by decide +kernel))) rfl) rfl
def mX11_again : sy_M := (yX11_again, cX11_again, 6, (some .int), 11, 2, 54)
theorem kX11_again : sy_mok mX11_again false 2 := sy_mokV (sy_inT (sy_i4 (List.mem_of_getElem? (i := 62) rfl)) rfl) sy_ini11 ⟨by decide, by decide, by decide +kernel⟩ (by decide +kernel) (sy_inT (sy_i4 (List.mem_of_getElem? (i := 60) (by decide +kernel))) rfl) (sy_inT (sy_i4 (List.mem_of_getElem? (i := 61) (by decide +kernel))) rfl) rfl
def mX11_alike : sy_M := (yX11_alike, cX11_alike, 3, (some .boolean), 11, 0, 0)
theorem kX11_alike : sy_mok mX11_alike true 2 := sy_mokS (sy_inT (sy_i3 (List.mem_of_getElem? (i := 206) rfl)) rfl) sy_ini11 ⟨by decide, by decide, by decide +kernel⟩ (by decide +kernel) (sy_inT (sy_i3 (List.mem_of_getElem? (i := 205) (by decide +kernel))) rfl) rfl
def mX11_avalanche : sy_M := (yX11_avalanche, cX11_avalanche, 4, (some .int), 11, 3, 67)
theorem kX11_avalanche : sy_mok mX11_avalanche false 2 := sy_mokV (sy_inT (sy_i4 (List.mem_of_getElem? (i := 46) rfl)) rfl) sy_ini11 ⟨by decide, by decide, by decide +kernel⟩ (by decide +kernel) (sy_inT (sy_i4 (List.mem_of_getElem? (i := 44) (by decide +kernel))) rfl) (sy_inT (sy_i4 (List.mem_of_getElem? (i := 45) (by decide +kernel))) rfl) rfl
def mX11_burn : sy_M := (yX11_burn, cX11_burn, 6, (some .int), 11, 4, 94)
theorem kX11_burn : sy_mok mX11_burn false 2 := sy_mokV (sy_inT (sy_i4 (List.mem_of_getElem? (i := 8) rfl)) rfl) sy_ini11 ⟨by decide, by decide, by decide +kernel⟩ (by decide +kernel) (sy_inT (sy_i4 (List.mem_of_getElem? (i := 6) (by decide +kernel))) rfl) (sy_inT (sy_i4 (List.mem_of_getElem? (i := 7) (by decide +kernel))) rfl) rfl
def mX11_common : sy_M := (yX11_common, cX11_common, 7, (some .int), 11, 4, 87)
theorem kX11_common : sy_mok mX11_common false 2 := sy_mokV (sy_inT (sy_i3 (List.mem_of_getElem? (i := 101) rfl)) rfl) sy_ini11 ⟨by decide, by decide, by decide +kernel⟩ (by decide +kernel) (sy_inT (sy_i3 (List.mem_of_getElem? (i := 99) (by decide +kernel))) rfl) (sy_inT (sy_i3 (List.mem_of_getElem? (i := 100) (by decide +kernel))) rfl) rfl
def mX11_count : sy_M := (yX11_count, cX11_count, 2, (some .int), 11, 1, 23)
theorem kX11_count : sy_mok mX11_count false 1 := sy_mokV (sy_inT (sy_i4 (List.mem_of_getElem? (i := 207) rfl)) rfl) sy_ini11 ⟨by decide, by decide, by decide +kernel⟩ (by decide +kernel) (sy_inT (sy_i4 (List.mem_of_getElem? (i := 205) (by decide +kernel))) rfl) (sy_inT (sy_i4 (List.mem_of_getElem? (i := 206) (by decide +kernel))) rfl) rfl
def mX11_drop : sy_M := (yX11_drop, cX11_drop, 3, (some .int), 11, 2, 48)
theorem kX11_drop : sy_mok mX11_drop false 2 := sy_mokV (sy_inT (sy_i2 (List.mem_of_getElem? (i := 140) rfl)) rfl) sy_ini11 ⟨by decide, by decide, by decide +kernel⟩ (by decide +kernel) (sy_inT (sy_i2 (List.mem_of_getElem? (i := 138) (by decide +kernel))) rfl) (sy_inT (sy_i2 (List.mem_of_getElem? (i := 139) (by decide +kernel))) rfl) rfl
def mX11_feed : sy_M := (yX11_feed, cX11_feed, 2, (some .int), 11, 1, 21)
theorem kX11_feed : sy_mok mX11_feed false 1 := sy_mokV (sy_inT (sy_i2 (List.mem_of_getElem? (i := 176) rfl)) rfl) sy_ini11 ⟨by decide, by decide, by decide +kernel⟩ (by decide +kernel) (sy_inT (sy_i2 (List.mem_of_getElem? (i := 174) (by decide +kernel))) rfl) (sy_inT (sy_i2 (List.mem_of_getElem? (i := 175) (by decide +kernel))) rfl) rfl
def mX11_film : sy_M := (yX11_film, cX11_film, 5, (some .int), 11, 2, 54)
theorem kX11_film : sy_mok mX11_film false 1 := sy_mokV (sy_inT (sy_i4 (List.mem_of_getElem? (i := 166) rfl)) rfl) sy_ini11 ⟨by decide, by decide, by decide +kernel⟩ (by decide +kernel) (sy_inT (sy_i4 (List.mem_of_getElem? (i := 164) (by decide +kernel))) rfl) (sy_inT (sy_i4 (List.mem_of_getElem? (i := 165) (by decide +kernel))) rfl) rfl
def mX11_firstUnsteady : sy_M := (yX11_firstUnsteady, cX11_firstUnsteady, 6, (some .int), 11, 1, 22)
theorem kX11_firstUnsteady : sy_mok mX11_firstUnsteady false 1 := sy_mokV (sy_inT (sy_i4 (List.mem_of_getElem? (i := 159) rfl)) rfl) sy_ini11 ⟨by decide, by decide, by decide +kernel⟩ (by decide +kernel) (sy_inT (sy_i4 (List.mem_of_getElem? (i := 158) (by decide +kernel))) rfl) (sy_inP (List.mem_of_getElem? (i := 27) (by decide +kernel)) rfl) rfl
def mX11_firstUntold : sy_M := (yX11_firstUntold, cX11_firstUntold, 4, (some .int), 11, 1, 20)
theorem kX11_firstUntold : sy_mok mX11_firstUntold false 2 := sy_mokV (sy_inT (sy_i4 (List.mem_of_getElem? (i := 155) rfl)) rfl) sy_ini11 ⟨by decide, by decide, by decide +kernel⟩ (by decide +kernel) (sy_inT (sy_i4 (List.mem_of_getElem? (i := 154) (by decide +kernel))) rfl) (sy_inP (List.mem_of_getElem? (i := 26) (by decide +kernel)) rfl) rfl
def mX11_forgetPilesAndChanges : sy_M := (yX11_forgetPilesAndChanges, cX11_forgetPilesAndChanges, 1, none, 11, 2, 47)
theorem kX11_forgetPilesAndChanges : sy_mok mX11_forgetPilesAndChanges false 0 := sy_mokV (sy_inT (sy_i2 (List.mem_of_getElem? (i := 99) rfl)) rfl) sy_ini11 ⟨by decide, by decide, by decide +kernel⟩ (by decide +kernel) (sy_inT (sy_i2 (List.mem_of_getElem? (i := 98) (by decide +kernel))) rfl) (sy_inP (List.mem_of_getElem? (i := 3) (by decide +kernel)) rfl) rfl
def mX11_get : sy_M := (yX11_get, cX11_get, 3, (some .long), 11, 1, 21)
theorem kX11_get : sy_mok mX11_get false 2 := sy_mokV (sy_inT (sy_i4 (List.mem_of_getElem? (i := 178) rfl)) rfl) sy_ini11 ⟨by decide, by decide, by decide +kernel⟩ (by decide +kernel) (sy_inT (sy_i4 (List.mem_of_getElem? (i := 176) (by decide +kernel))) rfl) (sy_inT (sy_i4 (List.mem_of_getElem? (i := 177) (by decide +kernel))) rfl) rfl
def mX11_group : sy_M := (yX11_group, cX11_group, 1, (some .long), 11, 3, 74)
theorem kX11_group : sy_mok mX11_group false 0 := sy_mokV (sy_inT (sy_i3 (List.mem_of_getElem? (i := 219) rfl)) rfl) sy_ini11 ⟨by decide, by decide, by decide +kernel⟩ (by decide +kernel) (sy_inT (sy_i3 (List.mem_of_getElem? (i := 217) (by decide +kernel))) rfl) (sy_inT (sy_i3 (List.mem_of_getElem? (i := 218) (by decide +kernel))) rfl) rfl
def mX11_height : sy_M := (yX11_height, cX11_height, 2, (some .int), 11, 2, 42)
theorem kX11_height : sy_mok mX11_height false 1 := sy_mokV (sy_inT (sy_i2 (List.mem_of_getElem? (i := 136) rfl)) rfl) sy_ini11 ⟨by decide, by decide, by decide +kernel⟩ (by decide +kernel) (sy_inT (sy_i2 (List.mem_of_getElem? (i := 134) (by decide +kernel))) rfl) (sy_inT (sy_i2 (List.mem_of_getElem? (i := 135) (by decide +kernel))) rfl) rfl
def mX11_holdResult : sy_M := (yX11_holdResult, cX11_holdResult, 3, (some .int), 11, 2, 47)
theorem kX11_holdResult : sy_mok mX11_holdResult false 1 := sy_mokV (sy_inT (sy_i3 (List.mem_of_getElem? (i := 171) rfl)) rfl) sy_ini11 ⟨by decide, by decide, by decide +kernel⟩ (by decide +kernel) (sy_inT (sy_i3 (List.mem_of_getElem? (i := 170) (by decide +kernel))) rfl) (sy_inP (List.mem_of_getElem? (i := 19) (by decide +kernel)) rfl) rfl
def mX11_init : sy_M := (yX11_init, cX11_init, 1, none, 11, 5, 112)
def mX11_isOrder : sy_M := (yX11_isOrder, cX11_isOrder, 1, (some .boolean), 11, 0, 0)
theorem kX11_isOrder : sy_mok mX11_isOrder true 1 := sy_mokS (sy_inT (sy_i3 (List.mem_of_getElem? (i := 56) rfl)) rfl) sy_ini11 ⟨by decide, by decide, by decide +kernel⟩ (by decide +kernel) (sy_inT (sy_i3 (List.mem_of_getElem? (i := 55) (by decide +kernel))) rfl) rfl
def mX11_judge : sy_M := (yX11_judge, cX11_judge, 4, (some .int), 11, 3, 63)
theorem kX11_judge : sy_mok mX11_judge false 1 := sy_mokV (sy_inT (sy_i4 (List.mem_of_getElem? (i := 138) rfl)) rfl) sy_ini11 ⟨by decide, by decide, by decide +kernel⟩ (by decide +kernel) (sy_inT (sy_i4 (List.mem_of_getElem? (i := 136) (by decide +kernel))) rfl) (sy_inT (sy_i4 (List.mem_of_getElem? (i := 137) (by decide +kernel))) rfl) rfl
def mX11_keep : sy_M := (yX11_keep, cX11_keep, 3, (some .int), 11, 2, 54)
theorem kX11_keep : sy_mok mX11_keep false 1 := sy_mokV (sy_inT (sy_i3 (List.mem_of_getElem? (i := 105) rfl)) rfl) sy_ini11 ⟨by decide, by decide, by decide +kernel⟩ (by decide +kernel) (sy_inT (sy_i3 (List.mem_of_getElem? (i := 103) (by decide +kernel))) rfl) (sy_inT (sy_i3 (List.mem_of_getElem? (i := 104) (by decide +kernel))) rfl) rfl
def mX11_lay : sy_M := (yX11_lay, cX11_lay, 3, none, 11, 4, 90)
theorem kX11_lay : sy_mok mX11_lay false 2 := sy_mokV (sy_inT (sy_i2 (List.mem_of_getElem? (i := 236) rfl)) rfl) sy_ini11 ⟨by decide, by decide, by decide +kernel⟩ (by decide +kernel) (sy_inT (sy_i2 (List.mem_of_getElem? (i := 235) (by decide +kernel))) rfl) (sy_inP (List.mem_of_getElem? (i := 10) (by decide +kernel)) rfl) rfl
def mX11_list : sy_M := (yX11_list, cX11_list, 3, (some .int), 11, 1, 23)
theorem kX11_list : sy_mok mX11_list false 2 := sy_mokV (sy_inT (sy_i4 (List.mem_of_getElem? (i := 170) rfl)) rfl) sy_ini11 ⟨by decide, by decide, by decide +kernel⟩ (by decide +kernel) (sy_inT (sy_i4 (List.mem_of_getElem? (i := 168) (by decide +kernel))) rfl) (sy_inT (sy_i4 (List.mem_of_getElem? (i := 169) (by decide +kernel))) rfl) rfl
def mX11_load : sy_M := (yX11_load, cX11_load, 2, (some .int), 11, 2, 48)
theorem kX11_load : sy_mok mX11_load false 1 := sy_mokV (sy_inT (sy_i3 (List.mem_of_getElem? (i := 117) rfl)) rfl) sy_ini11 ⟨by decide, by decide, by decide +kernel⟩ (by decide +kernel) (sy_inT (sy_i3 (List.mem_of_getElem? (i := 115) (by decide +kernel))) rfl) (sy_inT (sy_i3 (List.mem_of_getElem? (i := 116) (by decide +kernel))) rfl) rfl
def mX11_lots : sy_M := (yX11_lots, cX11_lots, 4, (some .int), 11, 3, 80)
theorem kX11_lots : sy_mok mX11_lots false 3 := sy_mokV (sy_inT (sy_i4 (List.mem_of_getElem? (i := 91) rfl)) rfl) sy_ini11 ⟨by decide, by decide, by decide +kernel⟩ (by decide +kernel) (sy_inT (sy_i4 (List.mem_of_getElem? (i := 89) (by decide +kernel))) rfl) (sy_inT (sy_i4 (List.mem_of_getElem? (i := 90) (by decide +kernel))) rfl) rfl
def mX11_nought : sy_M := (yX11_nought, cX11_nought, 2, (some .int), 11, 4, 95)
theorem kX11_nought : sy_mok mX11_nought false 1 := sy_mokV (sy_inT (sy_i3 (List.mem_of_getElem? (i := 145) rfl)) rfl) sy_ini11 ⟨by decide, by decide, by decide +kernel⟩ (by decide +kernel) (sy_inT (sy_i3 (List.mem_of_getElem? (i := 143) (by decide +kernel))) rfl) (sy_inT (sy_i3 (List.mem_of_getElem? (i := 144) (by decide +kernel))) rfl) rfl
def mX11_one : sy_M := (yX11_one, cX11_one, 3, (some .int), 11, 5, 122)
theorem kX11_one : sy_mok mX11_one false 2 := sy_mokV (sy_inT (sy_i3 (List.mem_of_getElem? (i := 210) rfl)) rfl) sy_ini11 ⟨by decide, by decide, by decide +kernel⟩ (by decide +kernel) (sy_inT (sy_i3 (List.mem_of_getElem? (i := 208) (by decide +kernel))) rfl) (sy_inT (sy_i3 (List.mem_of_getElem? (i := 209) (by decide +kernel))) rfl) rfl
def mX11_opposite : sy_M := (yX11_opposite, cX11_opposite, 3, (some .int), 11, 5, 117)
theorem kX11_opposite : sy_mok mX11_opposite false 2 := sy_mokV (sy_inT (sy_i3 (List.mem_of_getElem? (i := 191) rfl)) rfl) sy_ini11 ⟨by decide, by decide, by decide +kernel⟩ (by decide +kernel) (sy_inT (sy_i3 (List.mem_of_getElem? (i := 189) (by decide +kernel))) rfl) (sy_inT (sy_i3 (List.mem_of_getElem? (i := 190) (by decide +kernel))) rfl) rfl
def mX11_order : sy_M := (yX11_order, cX11_order, 3, (some .int), 11, 5, 123)
theorem kX11_order : sy_mok mX11_order false 1 := sy_mokV (sy_inT (sy_i3 (List.mem_of_getElem? (i := 199) rfl)) rfl) sy_ini11 ⟨by decide, by decide, by decide +kernel⟩ (by decide +kernel) (sy_inT (sy_i3 (List.mem_of_getElem? (i := 197) (by decide +kernel))) rfl) (sy_inT (sy_i3 (List.mem_of_getElem? (i := 198) (by decide +kernel))) rfl) rfl
def mX11_pile : sy_M := (yX11_pile, cX11_pile, 3, (some .int), 11, 2, 42)
theorem kX11_pile : sy_mok mX11_pile false 2 := sy_mokV (sy_inT (sy_i3 (List.mem_of_getElem? (i := 131) rfl)) rfl) sy_ini11 ⟨by decide, by decide, by decide +kernel⟩ (by decide +kernel) (sy_inT (sy_i3 (List.mem_of_getElem? (i := 129) (by decide +kernel))) rfl) (sy_inT (sy_i3 (List.mem_of_getElem? (i := 130) (by decide +kernel))) rfl) rfl
def mX11_put : sy_M := (yX11_put, cX11_put, 4, (some .int), 11, 1, 21)
theorem kX11_put : sy_mok mX11_put false 3 := sy_mokV (sy_inT (sy_i4 (List.mem_of_getElem? (i := 174) rfl)) rfl) sy_ini11 ⟨by decide, by decide, by decide +kernel⟩ (by decide +kernel) (sy_inT (sy_i4 (List.mem_of_getElem? (i := 172) (by decide +kernel))) rfl) (sy_inT (sy_i4 (List.mem_of_getElem? (i := 173) (by decide +kernel))) rfl) rfl
def mX11_read : sy_M := (yX11_read, cX11_read, 3, (some .int), 11, 5, 112)
theorem kX11_read : sy_mok mX11_read false 0 := sy_mokV (sy_inT (sy_i2 (List.mem_of_getElem? (i := 188) rfl)) rfl) sy_ini11 ⟨by decide, by decide, by decide +kernel⟩ (by decide +kernel) (sy_inT (sy_i2 (List.mem_of_getElem? (i := 186) (by decide +kernel))) rfl) (sy_inT (sy_i2 (List.mem_of_getElem? (i := 187) (by decide +kernel))) rfl) rfl
def mX11_redo : sy_M := (yX11_redo, cX11_redo, 1, (some .int), 11, 2, 47)
theorem kX11_redo : sy_mok mX11_redo false 0 := sy_mokV (sy_inT (sy_i4 (List.mem_of_getElem? (i := 195) rfl)) rfl) sy_ini11 ⟨by decide, by decide, by decide +kernel⟩ (by decide +kernel) (sy_inT (sy_i4 (List.mem_of_getElem? (i := 193) (by decide +kernel))) rfl) (sy_inT (sy_i4 (List.mem_of_getElem? (i := 194) (by decide +kernel))) rfl) rfl
def mX11_scatter : sy_M := (yX11_scatter, cX11_scatter, 7, none, 11, 2, 54)
theorem kX11_scatter : sy_mok mX11_scatter false 2 := sy_mokV (sy_inT (sy_i4 (List.mem_of_getElem? (i := 95) rfl)) rfl) sy_ini11 ⟨by decide, by decide, by decide +kernel⟩ (by decide +kernel) (sy_inT (sy_i4 (List.mem_of_getElem? (i := 94) (by decide +kernel))) rfl) (sy_inP (List.mem_of_getElem? (i := 25) (by decide +kernel)) rfl) rfl
def mX11_set : sy_M := (yX11_set, cX11_set, 4, (some .int), 11, 2, 48)
theorem kX11_set : sy_mok mX11_set false 2 := sy_mokV (sy_inT (sy_i2 (List.mem_of_getElem? (i := 128) rfl)) rfl) sy_ini11 ⟨by decide, by decide, by decide +kernel⟩ (by decide +kernel) (sy_inT (sy_i2 (List.mem_of_getElem? (i := 126) (by decide +kernel))) rfl) (sy_inT (sy_i2 (List.mem_of_getElem? (i := 127) (by decide +kernel))) rfl) rfl
def mX11_settle : sy_M := (yX11_settle, cX11_settle, 2, (some .int), 11, 2, 54)
theorem kX11_settle : sy_mok mX11_settle false 0 := sy_mokV (sy_inT (sy_i2 (List.mem_of_getElem? (i := 156) rfl)) rfl) sy_ini11 ⟨by decide, by decide, by decide +kernel⟩ (by decide +kernel) (sy_inT (sy_i2 (List.mem_of_getElem? (i := 154) (by decide +kernel))) rfl) (sy_inT (sy_i2 (List.mem_of_getElem? (i := 155) (by decide +kernel))) rfl) rfl
def mX11_settled : sy_M := (yX11_settled, cX11_settled, 5, (some .int), 11, 3, 67)
theorem kX11_settled : sy_mok mX11_settled false 1 := sy_mokV (sy_inT (sy_i3 (List.mem_of_getElem? (i := 8) rfl)) rfl) sy_ini11 ⟨by decide, by decide, by decide +kernel⟩ (by decide +kernel) (sy_inT (sy_i3 (List.mem_of_getElem? (i := 6) (by decide +kernel))) rfl) (sy_inT (sy_i3 (List.mem_of_getElem? (i := 7) (by decide +kernel))) rfl) rfl
def mX11_size : sy_M := (yX11_size, cX11_size, 4, (some .int), 11, 4, 90)
theorem kX11_size : sy_mok mX11_size false 2 := sy_mokV (sy_inT (sy_i2 (List.mem_of_getElem? (i := 89) rfl)) rfl) sy_ini11 ⟨by decide, by decide, by decide +kernel⟩ (by decide +kernel) (sy_inT (sy_i2 (List.mem_of_getElem? (i := 87) (by decide +kernel))) rfl) (sy_inT (sy_i2 (List.mem_of_getElem? (i := 88) (by decide +kernel))) rfl) rfl
def mX11_steadies : sy_M := (yX11_steadies, cX11_steadies, 4, (some .int), 11, 2, 47)
theorem kX11_steadies : sy_mok mX11_steadies false 1 := sy_mokV (sy_inT (sy_i4 (List.mem_of_getElem? (i := 151) rfl)) rfl) sy_ini11 ⟨by decide, by decide, by decide +kernel⟩ (by decide +kernel) (sy_inT (sy_i4 (List.mem_of_getElem? (i := 149) (by decide +kernel))) rfl) (sy_inT (sy_i4 (List.mem_of_getElem? (i := 150) (by decide +kernel))) rfl) rfl
def mX11_sum : sy_M := (yX11_sum, cX11_sum, 5, (some .int), 11, 3, 77)
theorem kX11_sum : sy_mok mX11_sum false 3 := sy_mokV (sy_inT (sy_i3 (List.mem_of_getElem? (i := 135) rfl)) rfl) sy_ini11 ⟨by decide, by decide, by decide +kernel⟩ (by decide +kernel) (sy_inT (sy_i3 (List.mem_of_getElem? (i := 133) (by decide +kernel))) rfl) (sy_inT (sy_i3 (List.mem_of_getElem? (i := 134) (by decide +kernel))) rfl) rfl
def mX11_through : sy_M := (yX11_through, cX11_through, 4, (some .int), 11, 4, 94)
theorem kX11_through : sy_mok mX11_through false 0 := sy_mokV (sy_inT (sy_i4 (List.mem_of_getElem? (i := 37) rfl)) rfl) sy_ini11 ⟨by decide, by decide, by decide +kernel⟩ (by decide +kernel) (sy_inT (sy_i4 (List.mem_of_getElem? (i := 35) (by decide +kernel))) rfl) (sy_inT (sy_i4 (List.mem_of_getElem? (i := 36) (by decide +kernel))) rfl) rfl
def mX11_times : sy_M := (yX11_times, cX11_times, 4, (some .int), 11, 5, 124)
theorem kX11_times : sy_mok mX11_times false 3 := sy_mokV (sy_inT (sy_i3 (List.mem_of_getElem? (i := 176) rfl)) rfl) sy_ini11 ⟨by decide, by decide, by decide +kernel⟩ (by decide +kernel) (sy_inT (sy_i3 (List.mem_of_getElem? (i := 174) (by decide +kernel))) rfl) (sy_inT (sy_i3 (List.mem_of_getElem? (i := 175) (by decide +kernel))) rfl) rfl
def mX11_topple : sy_M := (yX11_topple, cX11_topple, 2, (some .int), 11, 2, 48)
theorem kX11_topple : sy_mok mX11_topple false 1 := sy_mokV (sy_inT (sy_i2 (List.mem_of_getElem? (i := 144) rfl)) rfl) sy_ini11 ⟨by decide, by decide, by decide +kernel⟩ (by decide +kernel) (sy_inT (sy_i2 (List.mem_of_getElem? (i := 142) (by decide +kernel))) rfl) (sy_inT (sy_i2 (List.mem_of_getElem? (i := 143) (by decide +kernel))) rfl) rfl
def mX11_trace : sy_M := (yX11_trace, cX11_trace, 5, (some .int), 11, 4, 87)
theorem kX11_trace : sy_mok mX11_trace false 2 := sy_mokV (sy_inT (sy_i3 (List.mem_of_getElem? (i := 53) rfl)) rfl) sy_ini11 ⟨by decide, by decide, by decide +kernel⟩ (by decide +kernel) (sy_inT (sy_i3 (List.mem_of_getElem? (i := 51) (by decide +kernel))) rfl) (sy_inT (sy_i3 (List.mem_of_getElem? (i := 52) (by decide +kernel))) rfl) rfl
def mX11_undo : sy_M := (yX11_undo, cX11_undo, 1, (some .int), 11, 2, 47)
theorem kX11_undo : sy_mok mX11_undo false 0 := sy_mokV (sy_inT (sy_i4 (List.mem_of_getElem? (i := 183) rfl)) rfl) sy_ini11 ⟨by decide, by decide, by decide +kernel⟩ (by decide +kernel) (sy_inT (sy_i4 (List.mem_of_getElem? (i := 181) (by decide +kernel))) rfl) (sy_inT (sy_i4 (List.mem_of_getElem? (i := 182) (by decide +kernel))) rfl) rfl
def mX11_wall : sy_M := (yX11_wall, cX11_wall, 4, (some .int), 11, 4, 90)
theorem kX11_wall : sy_mok mX11_wall false 2 := sy_mokV (sy_inT (sy_i2 (List.mem_of_getElem? (i := 111) rfl)) rfl) sy_ini11 ⟨by decide, by decide, by decide +kernel⟩ (by decide +kernel) (sy_inT (sy_i2 (List.mem_of_getElem? (i := 109) (by decide +kernel))) rfl) (sy_inT (sy_i2 (List.mem_of_getElem? (i := 110) (by decide +kernel))) rfl) rfl
def mX11_why : sy_M := (yX11_why, cX11_why, 2, (some .int), 11, 1, 21)
theorem kX11_why : sy_mok mX11_why false 1 := sy_mokV (sy_inT (sy_i3 (List.mem_of_getElem? (i := 0) rfl)) rfl) sy_ini11 ⟨by decide, by decide, by decide +kernel⟩ (by decide +kernel) (sy_inT (sy_i2 (List.mem_of_getElem? (i := 238) (by decide +kernel))) rfl) (sy_inT (sy_i2 (List.mem_of_getElem? (i := 239) (by decide +kernel))) rfl) rfl
def mX12_addsTo : sy_M := (yX12_addsTo, cX12_addsTo, 4, (some .int), 12, 3, 67)
theorem kX12_addsTo : sy_mok mX12_addsTo false 2 := sy_mokV (sy_inT (sy_i6 (List.mem_of_getElem? (i := 87) rfl)) rfl) sy_ini12 ⟨by decide, by decide, by decide +kernel⟩ (by decide +kernel) (sy_inT (sy_i6 (List.mem_of_getElem? (i := 86) (by decide +kernel))) rfl) (sy_inP (List.mem_of_getElem? (i := 56) (by decide +kernel)) rfl) rfl
def mX12_again : sy_M := (yX12_again, cX12_again, 6, (some .int), 12, 3, 67)
theorem kX12_again : sy_mok mX12_again false 2 := sy_mokV (sy_inT (sy_i6 (List.mem_of_getElem? (i := 157) rfl)) rfl) sy_ini12 ⟨by decide, by decide, by decide +kernel⟩ (by decide +kernel) (sy_inT (sy_i6 (List.mem_of_getElem? (i := 155) (by decide +kernel))) rfl) (sy_inT (sy_i6 (List.mem_of_getElem? (i := 156) (by decide +kernel))) rfl) rfl
def mX12_ahead : sy_M := (yX12_ahead, cX12_ahead, 3, (some .int), 12, 0, 0)
theorem kX12_ahead : sy_mok mX12_ahead false 1 := sy_mokV (sy_inT (sy_i6 (List.mem_of_getElem? (i := 165) rfl)) rfl) sy_ini12 ⟨by decide, by decide, by decide +kernel⟩ (by decide +kernel) (sy_inT (sy_i6 (List.mem_of_getElem? (i := 164) (by decide +kernel))) rfl) (sy_inP (List.mem_of_getElem? (i := 65) (by decide +kernel)) rfl) rfl
def mX12_avalanche : sy_M := (yX12_avalanche, cX12_avalanche, 4, (some .int), 12, 3, 68)
theorem kX12_avalanche : sy_mok mX12_avalanche false 2 := sy_mokV (sy_inT (sy_i6 (List.mem_of_getElem? (i := 153) rfl)) rfl) sy_ini12 ⟨by decide, by decide, by decide +kernel⟩ (by decide +kernel) (sy_inT (sy_i6 (List.mem_of_getElem? (i := 151) (by decide +kernel))) rfl) (sy_inT (sy_i6 (List.mem_of_getElem? (i := 152) (by decide +kernel))) rfl) rfl
def mX12_begins : sy_M := (yX12_begins, cX12_begins, 2, none, 12, 0, 0)
theorem kX12_begins : sy_mok mX12_begins false 0 := sy_mokV (sy_inT (sy_i5 (List.mem_of_getElem? (i := 197) rfl)) rfl) sy_ini12 ⟨by decide, by decide, by decide +kernel⟩ (by decide +kernel) (sy_inT (sy_i5 (List.mem_of_getElem? (i := 196) (by decide +kernel))) rfl) (sy_inP (List.mem_of_getElem? (i := 38) (by decide +kernel)) rfl) rfl
def mX12_beginsOrder : sy_M := (yX12_beginsOrder, cX12_beginsOrder, 3, none, 12, 2, 44)
theorem kX12_beginsOrder : sy_mok mX12_beginsOrder false 1 := sy_mokV (sy_inT (sy_i6 (List.mem_of_getElem? (i := 27) rfl)) rfl) sy_ini12 ⟨by decide, by decide, by decide +kernel⟩ (by decide +kernel) (sy_inT (sy_i6 (List.mem_of_getElem? (i := 26) (by decide +kernel))) rfl) (sy_inP (List.mem_of_getElem? (i := 47) (by decide +kernel)) rfl) rfl
def mX12_burn : sy_M := (yX12_burn, cX12_burn, 4, (some .int), 12, 2, 47)
theorem kX12_burn : sy_mok mX12_burn false 2 := sy_mokV (sy_inT (sy_i6 (List.mem_of_getElem? (i := 129) rfl)) rfl) sy_ini12 ⟨by decide, by decide, by decide +kernel⟩ (by decide +kernel) (sy_inT (sy_i6 (List.mem_of_getElem? (i := 127) (by decide +kernel))) rfl) (sy_inT (sy_i6 (List.mem_of_getElem? (i := 128) (by decide +kernel))) rfl) rfl
def mX12_burns : sy_M := (yX12_burns, cX12_burns, 5, (some .int), 12, 1, 23)
theorem kX12_burns : sy_mok mX12_burns false 1 := sy_mokV (sy_inT (sy_i6 (List.mem_of_getElem? (i := 133) rfl)) rfl) sy_ini12 ⟨by decide, by decide, by decide +kernel⟩ (by decide +kernel) (sy_inT (sy_i6 (List.mem_of_getElem? (i := 132) (by decide +kernel))) rfl) (sy_inP (List.mem_of_getElem? (i := 60) (by decide +kernel)) rfl) rfl
def mX12_cells : sy_M := (yX12_cells, cX12_cells, 1, (some .int), 12, 0, 0)
theorem kX12_cells : sy_mok mX12_cells false 0 := sy_mokV (sy_inT (sy_i4 (List.mem_of_getElem? (i := 237) rfl)) rfl) sy_ini12 ⟨by decide, by decide, by decide +kernel⟩ (by decide +kernel) (sy_inT (sy_i4 (List.mem_of_getElem? (i := 236) (by decide +kernel))) rfl) (sy_inP (List.mem_of_getElem? (i := 29) (by decide +kernel)) rfl) rfl
def mX12_changes : sy_M := (yX12_changes, cX12_changes, 1, none, 12, 1, 21)
theorem kX12_changes : sy_mok mX12_changes false 0 := sy_mokV (sy_inT (sy_i5 (List.mem_of_getElem? (i := 164) rfl)) rfl) sy_ini12 ⟨by decide, by decide, by decide +kernel⟩ (by decide +kernel) (sy_inT (sy_i5 (List.mem_of_getElem? (i := 163) (by decide +kernel))) rfl) (sy_inP (List.mem_of_getElem? (i := 34) (by decide +kernel)) rfl) rfl
def mX12_codeOf : sy_M := (yX12_codeOf, cX12_codeOf, 4, (some .int), 12, 1, 20)
theorem kX12_codeOf : sy_mok mX12_codeOf false 1 := sy_mokV (sy_inT (sy_i6 (List.mem_of_getElem? (i := 161) rfl)) rfl) sy_ini12 ⟨by decide, by decide, by decide +kernel⟩ (by decide +kernel) (sy_inT (sy_i6 (List.mem_of_getElem? (i := 160) (by decide +kernel))) rfl) (sy_inP (List.mem_of_getElem? (i := 64) (by decide +kernel)) rfl) rfl
def mX12_comesBehind : sy_M := (yX12_comesBehind, cX12_comesBehind, 3, none, 12, 1, 22)
theorem kX12_comesBehind : sy_mok mX12_comesBehind false 2 := sy_mokV (sy_inT (sy_i6 (List.mem_of_getElem? (i := 31) rfl)) rfl) sy_ini12 ⟨by decide, by decide, by decide +kernel⟩ (by decide +kernel) (sy_inT (sy_i6 (List.mem_of_getElem? (i := 30) (by decide +kernel))) rfl) (sy_inP (List.mem_of_getElem? (i := 48) (by decide +kernel)) rfl) rfl
def mX12_common : sy_M := (yX12_common, cX12_common, 6, (some .int), 12, 4, 92)
theorem kX12_common : sy_mok mX12_common false 2 := sy_mokV (sy_inT (sy_i6 (List.mem_of_getElem? (i := 51) rfl)) rfl) sy_ini12 ⟨by decide, by decide, by decide +kernel⟩ (by decide +kernel) (sy_inT (sy_i6 (List.mem_of_getElem? (i := 49) (by decide +kernel))) rfl) (sy_inT (sy_i6 (List.mem_of_getElem? (i := 50) (by decide +kernel))) rfl) rfl
def mX12_copies : sy_M := (yX12_copies, cX12_copies, 3, none, 12, 0, 0)
theorem kX12_copies : sy_mok mX12_copies true 2 := sy_mokS (sy_inT (sy_i5 (List.mem_of_getElem? (i := 239) rfl)) rfl) sy_ini12 ⟨by decide, by decide, by decide +kernel⟩ (by decide +kernel) (sy_inT (sy_i5 (List.mem_of_getElem? (i := 238) (by decide +kernel))) rfl) rfl
def mX12_count : sy_M := (yX12_count, cX12_count, 2, (some .int), 12, 2, 43)
theorem kX12_count : sy_mok mX12_count false 1 := sy_mokV (sy_inT (sy_i6 (List.mem_of_getElem? (i := 227) rfl)) rfl) sy_ini12 ⟨by decide, by decide, by decide +kernel⟩ (by decide +kernel) (sy_inT (sy_i6 (List.mem_of_getElem? (i := 225) (by decide +kernel))) rfl) (sy_inT (sy_i6 (List.mem_of_getElem? (i := 226) (by decide +kernel))) rfl) rfl
def mX12_countsSize : sy_M := (yX12_countsSize, cX12_countsSize, 3, none, 12, 0, 0)
theorem kX12_countsSize : sy_mok mX12_countsSize false 1 := sy_mokV (sy_inT (sy_i6 (List.mem_of_getElem? (i := 182) rfl)) rfl) sy_ini12 ⟨by decide, by decide, by decide +kernel⟩ (by decide +kernel) (sy_inT (sy_i6 (List.mem_of_getElem? (i := 181) (by decide +kernel))) rfl) (sy_inP (List.mem_of_getElem? (i := 67) (by decide +kernel)) rfl) rfl
def mX12_drop : sy_M := (yX12_drop, cX12_drop, 3, (some .int), 12, 2, 46)
theorem kX12_drop : sy_mok mX12_drop false 2 := sy_mokV (sy_inT (sy_i5 (List.mem_of_getElem? (i := 172) rfl)) rfl) sy_ini12 ⟨by decide, by decide, by decide +kernel⟩ (by decide +kernel) (sy_inT (sy_i5 (List.mem_of_getElem? (i := 170) (by decide +kernel))) rfl) (sy_inT (sy_i5 (List.mem_of_getElem? (i := 171) (by decide +kernel))) rfl) rfl
def mX12_feed : sy_M := (yX12_feed, cX12_feed, 2, (some .int), 12, 1, 25)
theorem kX12_feed : sy_mok mX12_feed false 1 := sy_mokV (sy_inT (sy_i5 (List.mem_of_getElem? (i := 209) rfl)) rfl) sy_ini12 ⟨by decide, by decide, by decide +kernel⟩ (by decide +kernel) (sy_inT (sy_i5 (List.mem_of_getElem? (i := 207) (by decide +kernel))) rfl) (sy_inT (sy_i5 (List.mem_of_getElem? (i := 208) (by decide +kernel))) rfl) rfl
def mX12_film : sy_M := (yX12_film, cX12_film, 5, (some .int), 12, 3, 67)
theorem kX12_film : sy_mok mX12_film false 1 := sy_mokV (sy_inT (sy_i6 (List.mem_of_getElem? (i := 210) rfl)) rfl) sy_ini12 ⟨by decide, by decide, by decide +kernel⟩ (by decide +kernel) (sy_inT (sy_i6 (List.mem_of_getElem? (i := 208) (by decide +kernel))) rfl) (sy_inT (sy_i6 (List.mem_of_getElem? (i := 209) (by decide +kernel))) rfl) rfl
def mX12_firstUntold : sy_M := (yX12_firstUntold, cX12_firstUntold, 4, (some .int), 12, 1, 25)
theorem kX12_firstUntold : sy_mok mX12_firstUntold false 1 := sy_mokV (sy_inT (sy_i6 (List.mem_of_getElem? (i := 201) rfl)) rfl) sy_ini12 ⟨by decide, by decide, by decide +kernel⟩ (by decide +kernel) (sy_inT (sy_i6 (List.mem_of_getElem? (i := 200) (by decide +kernel))) rfl) (sy_inP (List.mem_of_getElem? (i := 69) (by decide +kernel)) rfl) rfl
def mX12_firstsBy : sy_M := (yX12_firstsBy, cX12_firstsBy, 4, (some .int), 12, 3, 69)
theorem kX12_firstsBy : sy_mok mX12_firstsBy false 1 := sy_mokV (sy_inT (sy_i6 (List.mem_of_getElem? (i := 55) rfl)) rfl) sy_ini12 ⟨by decide, by decide, by decide +kernel⟩ (by decide +kernel) (sy_inT (sy_i6 (List.mem_of_getElem? (i := 54) (by decide +kernel))) rfl) (sy_inP (List.mem_of_getElem? (i := 53) (by decide +kernel)) rfl) rfl
def mX12_forgets : sy_M := (yX12_forgets, cX12_forgets, 2, none, 12, 3, 69)
theorem kX12_forgets : sy_mok mX12_forgets false 0 := sy_mokV (sy_inT (sy_i5 (List.mem_of_getElem? (i := 147) rfl)) rfl) sy_ini12 ⟨by decide, by decide, by decide +kernel⟩ (by decide +kernel) (sy_inT (sy_i5 (List.mem_of_getElem? (i := 146) (by decide +kernel))) rfl) (sy_inP (List.mem_of_getElem? (i := 32) (by decide +kernel)) rfl) rfl
def mX12_get : sy_M := (yX12_get, cX12_get, 3, (some .long), 12, 2, 45)
theorem kX12_get : sy_mok mX12_get false 2 := sy_mokV (sy_inT (sy_i6 (List.mem_of_getElem? (i := 222) rfl)) rfl) sy_ini12 ⟨by decide, by decide, by decide +kernel⟩ (by decide +kernel) (sy_inT (sy_i6 (List.mem_of_getElem? (i := 220) (by decide +kernel))) rfl) (sy_inT (sy_i6 (List.mem_of_getElem? (i := 221) (by decide +kernel))) rfl) rfl
def mX12_goes : sy_M := (yX12_goes, cX12_goes, 5, (some .int), 12, 2, 45)
theorem kX12_goes : sy_mok mX12_goes false 2 := sy_mokV (sy_inT (sy_i6 (List.mem_of_getElem? (i := 35) rfl)) rfl) sy_ini12 ⟨by decide, by decide, by decide +kernel⟩ (by decide +kernel) (sy_inT (sy_i6 (List.mem_of_getElem? (i := 34) (by decide +kernel))) rfl) (sy_inP (List.mem_of_getElem? (i := 49) (by decide +kernel)) rfl) rfl
def mX12_grains : sy_M := (yX12_grains, cX12_grains, 4, (some .int), 12, 1, 20)
theorem kX12_grains : sy_mok mX12_grains false 1 := sy_mokV (sy_inT (sy_i6 (List.mem_of_getElem? (i := 15) rfl)) rfl) sy_ini12 ⟨by decide, by decide, by decide +kernel⟩ (by decide +kernel) (sy_inT (sy_i6 (List.mem_of_getElem? (i := 14) (by decide +kernel))) rfl) (sy_inP (List.mem_of_getElem? (i := 46) (by decide +kernel)) rfl) rfl
def mX12_group : sy_M := (yX12_group, cX12_group, 8, (some .long), 12, 2, 43)
theorem kX12_group : sy_mok mX12_group false 0 := sy_mokV (sy_inT (sy_i6 (List.mem_of_getElem? (i := 120) rfl)) rfl) sy_ini12 ⟨by decide, by decide, by decide +kernel⟩ (by decide +kernel) (sy_inT (sy_i6 (List.mem_of_getElem? (i := 118) (by decide +kernel))) rfl) (sy_inT (sy_i6 (List.mem_of_getElem? (i := 119) (by decide +kernel))) rfl) rfl
def mX12_height : sy_M := (yX12_height, cX12_height, 2, (some .int), 12, 2, 46)
theorem kX12_height : sy_mok mX12_height false 1 := sy_mokV (sy_inT (sy_i5 (List.mem_of_getElem? (i := 168) rfl)) rfl) sy_ini12 ⟨by decide, by decide, by decide +kernel⟩ (by decide +kernel) (sy_inT (sy_i5 (List.mem_of_getElem? (i := 166) (by decide +kernel))) rfl) (sy_inT (sy_i5 (List.mem_of_getElem? (i := 167) (by decide +kernel))) rfl) rfl
def mX12_holding : sy_M := (yX12_holding, cX12_holding, 3, (some .int), 12, 0, 0)
theorem kX12_holding : sy_mok mX12_holding false 0 := sy_mokV (sy_inT (sy_i6 (List.mem_of_getElem? (i := 231) rfl)) rfl) sy_ini12 ⟨by decide, by decide, by decide +kernel⟩ (by decide +kernel) (sy_inT (sy_i6 (List.mem_of_getElem? (i := 230) (by decide +kernel))) rfl) (sy_inP (List.mem_of_getElem? (i := 71) (by decide +kernel)) rfl) rfl
def mX12_in : sy_M := (yX12_in, cX12_in, 6, (some .boolean), 12, 0, 0)
theorem kX12_in : sy_mok mX12_in true 3 := sy_mokS (sy_inT (sy_i5 (List.mem_of_getElem? (i := 4) rfl)) rfl) sy_ini12 ⟨by decide, by decide, by decide +kernel⟩ (by decide +kernel) (sy_inT (sy_i5 (List.mem_of_getElem? (i := 3) (by decide +kernel))) rfl) rfl
def mX12_init : sy_M := (yX12_init, cX12_init, 1, none, 12, 3, 69)
def mX12_isCell : sy_M := (yX12_isCell, cX12_isCell, 1, (some .boolean), 12, 1, 25)
theorem kX12_isCell : sy_mok mX12_isCell true 1 := sy_mokS (sy_inT (sy_i5 (List.mem_of_getElem? (i := 225) rfl)) rfl) sy_ini12 ⟨by decide, by decide, by decide +kernel⟩ (by decide +kernel) (sy_inT (sy_i5 (List.mem_of_getElem? (i := 224) (by decide +kernel))) rfl) rfl
def mX12_isLike : sy_M := (yX12_isLike, cX12_isLike, 5, (some .boolean), 12, 1, 20)
theorem kX12_isLike : sy_mok mX12_isLike false 2 := sy_mokV (sy_inT (sy_i6 (List.mem_of_getElem? (i := 112) rfl)) rfl) sy_ini12 ⟨by decide, by decide, by decide +kernel⟩ (by decide +kernel) (sy_inT (sy_i6 (List.mem_of_getElem? (i := 111) (by decide +kernel))) rfl) (sy_inP (List.mem_of_getElem? (i := 58) (by decide +kernel)) rfl) rfl
def mX12_isList : sy_M := (yX12_isList, cX12_isList, 1, (some .boolean), 12, 1, 25)
theorem kX12_isList : sy_mok mX12_isList true 1 := sy_mokS (sy_inT (sy_i6 (List.mem_of_getElem? (i := 193) rfl)) rfl) sy_ini12 ⟨by decide, by decide, by decide +kernel⟩ (by decide +kernel) (sy_inT (sy_i6 (List.mem_of_getElem? (i := 192) (by decide +kernel))) rfl) rfl
def mX12_isOrder : sy_M := (yX12_isOrder, cX12_isOrder, 1, (some .boolean), 12, 1, 25)
theorem kX12_isOrder : sy_mok mX12_isOrder true 1 := sy_mokS (sy_inT (sy_i6 (List.mem_of_getElem? (i := 22) rfl)) rfl) sy_ini12 ⟨by decide, by decide, by decide +kernel⟩ (by decide +kernel) (sy_inT (sy_i6 (List.mem_of_getElem? (i := 21) (by decide +kernel))) rfl) rfl
def mX12_isPile : sy_M := (yX12_isPile, cX12_isPile, 1, (some .boolean), 12, 1, 25)
theorem kX12_isPile : sy_mok mX12_isPile true 1 := sy_mokS (sy_inT (sy_i6 (List.mem_of_getElem? (i := 62) rfl)) rfl) sy_ini12 ⟨by decide, by decide, by decide +kernel⟩ (by decide +kernel) (sy_inT (sy_i6 (List.mem_of_getElem? (i := 61) (by decide +kernel))) rfl) rfl
def mX12_isPlace : sy_M := (yX12_isPlace, cX12_isPlace, 2, (some .boolean), 12, 1, 25)
theorem kX12_isPlace : sy_mok mX12_isPlace false 1 := sy_mokV (sy_inT (sy_i5 (List.mem_of_getElem? (i := 159) rfl)) rfl) sy_ini12 ⟨by decide, by decide, by decide +kernel⟩ (by decide +kernel) (sy_inT (sy_i5 (List.mem_of_getElem? (i := 158) (by decide +kernel))) rfl) (sy_inP (List.mem_of_getElem? (i := 33) (by decide +kernel)) rfl) rfl
def mX12_isStable : sy_M := (yX12_isStable, cX12_isStable, 4, (some .boolean), 12, 1, 22)
theorem kX12_isStable : sy_mok mX12_isStable false 1 := sy_mokV (sy_inT (sy_i5 (List.mem_of_getElem? (i := 201) rfl)) rfl) sy_ini12 ⟨by decide, by decide, by decide +kernel⟩ (by decide +kernel) (sy_inT (sy_i5 (List.mem_of_getElem? (i := 200) (by decide +kernel))) rfl) (sy_inP (List.mem_of_getElem? (i := 39) (by decide +kernel)) rfl) rfl
def mX12_judge : sy_M := (yX12_judge, cX12_judge, 4, (some .int), 12, 2, 46)
theorem kX12_judge : sy_mok mX12_judge false 1 := sy_mokV (sy_inT (sy_i6 (List.mem_of_getElem? (i := 190) rfl)) rfl) sy_ini12 ⟨by decide, by decide, by decide +kernel⟩ (by decide +kernel) (sy_inT (sy_i6 (List.mem_of_getElem? (i := 188) (by decide +kernel))) rfl) (sy_inT (sy_i6 (List.mem_of_getElem? (i := 189) (by decide +kernel))) rfl) rfl
def mX12_keep : sy_M := (yX12_keep, cX12_keep, 4, (some .int), 12, 3, 67)
theorem kX12_keep : sy_mok mX12_keep false 1 := sy_mokV (sy_inT (sy_i6 (List.mem_of_getElem? (i := 59) rfl)) rfl) sy_ini12 ⟨by decide, by decide, by decide +kernel⟩ (by decide +kernel) (sy_inT (sy_i6 (List.mem_of_getElem? (i := 57) (by decide +kernel))) rfl) (sy_inT (sy_i6 (List.mem_of_getElem? (i := 58) (by decide +kernel))) rfl) rfl
def mX12_lays : sy_M := (yX12_lays, cX12_lays, 4, (some .int), 12, 2, 43)
theorem kX12_lays : sy_mok mX12_lays false 2 := sy_mokV (sy_inT (sy_i6 (List.mem_of_getElem? (i := 67) rfl)) rfl) sy_ini12 ⟨by decide, by decide, by decide +kernel⟩ (by decide +kernel) (sy_inT (sy_i6 (List.mem_of_getElem? (i := 66) (by decide +kernel))) rfl) (sy_inP (List.mem_of_getElem? (i := 54) (by decide +kernel)) rfl) rfl
def mX12_laysMatrix : sy_M := (yX12_laysMatrix, cX12_laysMatrix, 4, none, 12, 1, 20)
theorem kX12_laysMatrix : sy_mok mX12_laysMatrix false 0 := sy_mokV (sy_inT (sy_i6 (List.mem_of_getElem? (i := 124) rfl)) rfl) sy_ini12 ⟨by decide, by decide, by decide +kernel⟩ (by decide +kernel) (sy_inT (sy_i6 (List.mem_of_getElem? (i := 123) (by decide +kernel))) rfl) (sy_inP (List.mem_of_getElem? (i := 59) (by decide +kernel)) rfl) rfl
def mX12_laysNought : sy_M := (yX12_laysNought, cX12_laysNought, 3, none, 12, 3, 67)
theorem kX12_laysNought : sy_mok mX12_laysNought false 0 := sy_mokV (sy_inT (sy_i6 (List.mem_of_getElem? (i := 95) rfl)) rfl) sy_ini12 ⟨by decide, by decide, by decide +kernel⟩ (by decide +kernel) (sy_inT (sy_i6 (List.mem_of_getElem? (i := 94) (by decide +kernel))) rfl) (sy_inP (List.mem_of_getElem? (i := 57) (by decide +kernel)) rfl) rfl
def mX12_least : sy_M := (yX12_least, cX12_least, 3, (some .int), 12, 1, 22)
theorem kX12_least : sy_mok mX12_least false 1 := sy_mokV (sy_inT (sy_i6 (List.mem_of_getElem? (i := 39) rfl)) rfl) sy_ini12 ⟨by decide, by decide, by decide +kernel⟩ (by decide +kernel) (sy_inT (sy_i6 (List.mem_of_getElem? (i := 38) (by decide +kernel))) rfl) (sy_inP (List.mem_of_getElem? (i := 50) (by decide +kernel)) rfl) rfl
def mX12_leaves : sy_M := (yX12_leaves, cX12_leaves, 4, (some .int), 12, 0, 0)
theorem kX12_leaves : sy_mok mX12_leaves false 1 := sy_mokV (sy_inT (sy_i6 (List.mem_of_getElem? (i := 47) rfl)) rfl) sy_ini12 ⟨by decide, by decide, by decide +kernel⟩ (by decide +kernel) (sy_inT (sy_i6 (List.mem_of_getElem? (i := 46) (by decide +kernel))) rfl) (sy_inP (List.mem_of_getElem? (i := 52) (by decide +kernel)) rfl) rfl
def mX12_link : sy_M := (yX12_link, cX12_link, 4, none, 12, 1, 25)
theorem kX12_link : sy_mok mX12_link false 3 := sy_mokV (sy_inT (sy_i5 (List.mem_of_getElem? (i := 1) rfl)) rfl) sy_ini12 ⟨by decide, by decide, by decide +kernel⟩ (by decide +kernel) (sy_inT (sy_i5 (List.mem_of_getElem? (i := 0) (by decide +kernel))) rfl) (sy_inP (List.mem_of_getElem? (i := 30) (by decide +kernel)) rfl) rfl
def mX12_links : sy_M := (yX12_links, cX12_links, 2, none, 12, 2, 48)
theorem kX12_links : sy_mok mX12_links false 0 := sy_mokV (sy_inT (sy_i4 (List.mem_of_getElem? (i := 233) rfl)) rfl) sy_ini12 ⟨by decide, by decide, by decide +kernel⟩ (by decide +kernel) (sy_inT (sy_i4 (List.mem_of_getElem? (i := 232) (by decide +kernel))) rfl) (sy_inP (List.mem_of_getElem? (i := 28) (by decide +kernel)) rfl) rfl
def mX12_list : sy_M := (yX12_list, cX12_list, 4, (some .int), 12, 2, 45)
theorem kX12_list : sy_mok mX12_list false 2 := sy_mokV (sy_inT (sy_i6 (List.mem_of_getElem? (i := 214) rfl)) rfl) sy_ini12 ⟨by decide, by decide, by decide +kernel⟩ (by decide +kernel) (sy_inT (sy_i6 (List.mem_of_getElem? (i := 212) (by decide +kernel))) rfl) (sy_inT (sy_i6 (List.mem_of_getElem? (i := 213) (by decide +kernel))) rfl) rfl
def mX12_load : sy_M := (yX12_load, cX12_load, 2, (some .int), 12, 2, 45)
theorem kX12_load : sy_mok mX12_load false 1 := sy_mokV (sy_inT (sy_i6 (List.mem_of_getElem? (i := 71) rfl)) rfl) sy_ini12 ⟨by decide, by decide, by decide +kernel⟩ (by decide +kernel) (sy_inT (sy_i6 (List.mem_of_getElem? (i := 69) (by decide +kernel))) rfl) (sy_inT (sy_i6 (List.mem_of_getElem? (i := 70) (by decide +kernel))) rfl) rfl
def mX12_lots : sy_M := (yX12_lots, cX12_lots, 11, (some .int), 12, 3, 67)
theorem kX12_lots : sy_mok mX12_lots false 3 := sy_mokV (sy_inT (sy_i6 (List.mem_of_getElem? (i := 169) rfl)) rfl) sy_ini12 ⟨by decide, by decide, by decide +kernel⟩ (by decide +kernel) (sy_inT (sy_i6 (List.mem_of_getElem? (i := 167) (by decide +kernel))) rfl) (sy_inT (sy_i6 (List.mem_of_getElem? (i := 168) (by decide +kernel))) rfl) rfl
def mX12_lotsThen : sy_M := (yX12_lotsThen, cX12_lotsThen, 5, (some .int), 12, 0, 0)
theorem kX12_lotsThen : sy_mok mX12_lotsThen false 4 := sy_mokV (sy_inT (sy_i6 (List.mem_of_getElem? (i := 186) rfl)) rfl) sy_ini12 ⟨by decide, by decide, by decide +kernel⟩ (by decide +kernel) (sy_inT (sy_i6 (List.mem_of_getElem? (i := 185) (by decide +kernel))) rfl) (sy_inP (List.mem_of_getElem? (i := 68) (by decide +kernel)) rfl) rfl
def mX12_may : sy_M := (yX12_may, cX12_may, 3, (some .boolean), 12, 0, 0)
theorem kX12_may : sy_mok mX12_may false 2 := sy_mokV (sy_inT (sy_i5 (List.mem_of_getElem? (i := 181) rfl)) rfl) sy_ini12 ⟨by decide, by decide, by decide +kernel⟩ (by decide +kernel) (sy_inT (sy_i5 (List.mem_of_getElem? (i := 180) (by decide +kernel))) rfl) (sy_inP (List.mem_of_getElem? (i := 35) (by decide +kernel)) rfl) rfl
def mX12_notBurnt : sy_M := (yX12_notBurnt, cX12_notBurnt, 3, (some .int), 12, 1, 20)
theorem kX12_notBurnt : sy_mok mX12_notBurnt false 0 := sy_mokV (sy_inT (sy_i6 (List.mem_of_getElem? (i := 141) rfl)) rfl) sy_ini12 ⟨by decide, by decide, by decide +kernel⟩ (by decide +kernel) (sy_inT (sy_i6 (List.mem_of_getElem? (i := 140) (by decide +kernel))) rfl) (sy_inP (List.mem_of_getElem? (i := 62) (by decide +kernel)) rfl) rfl
def mX12_nought : sy_M := (yX12_nought, cX12_nought, 2, (some .int), 12, 4, 89)
theorem kX12_nought : sy_mok mX12_nought false 1 := sy_mokV (sy_inT (sy_i6 (List.mem_of_getElem? (i := 91) rfl)) rfl) sy_ini12 ⟨by decide, by decide, by decide +kernel⟩ (by decide +kernel) (sy_inT (sy_i6 (List.mem_of_getElem? (i := 89) (by decide +kernel))) rfl) (sy_inT (sy_i6 (List.mem_of_getElem? (i := 90) (by decide +kernel))) rfl) rfl
def mX12_one : sy_M := (yX12_one, cX12_one, 4, (some .int), 12, 4, 90)
theorem kX12_one : sy_mok mX12_one false 2 := sy_mokV (sy_inT (sy_i6 (List.mem_of_getElem? (i := 116) rfl)) rfl) sy_ini12 ⟨by decide, by decide, by decide +kernel⟩ (by decide +kernel) (sy_inT (sy_i6 (List.mem_of_getElem? (i := 114) (by decide +kernel))) rfl) (sy_inT (sy_i6 (List.mem_of_getElem? (i := 115) (by decide +kernel))) rfl) rfl
def mX12_opposite : sy_M := (yX12_opposite, cX12_opposite, 4, (some .int), 12, 4, 89)
theorem kX12_opposite : sy_mok mX12_opposite false 2 := sy_mokV (sy_inT (sy_i6 (List.mem_of_getElem? (i := 104) rfl)) rfl) sy_ini12 ⟨by decide, by decide, by decide +kernel⟩ (by decide +kernel) (sy_inT (sy_i6 (List.mem_of_getElem? (i := 102) (by decide +kernel))) rfl) (sy_inT (sy_i6 (List.mem_of_getElem? (i := 103) (by decide +kernel))) rfl) rfl
def mX12_order : sy_M := (yX12_order, cX12_order, 4, (some .int), 12, 4, 90)
theorem kX12_order : sy_mok mX12_order false 1 := sy_mokV (sy_inT (sy_i6 (List.mem_of_getElem? (i := 108) rfl)) rfl) sy_ini12 ⟨by decide, by decide, by decide +kernel⟩ (by decide +kernel) (sy_inT (sy_i6 (List.mem_of_getElem? (i := 106) (by decide +kernel))) rfl) (sy_inT (sy_i6 (List.mem_of_getElem? (i := 107) (by decide +kernel))) rfl) rfl
def mX12_pile : sy_M := (yX12_pile, cX12_pile, 3, (some .int), 12, 2, 46)
theorem kX12_pile : sy_mok mX12_pile false 2 := sy_mokV (sy_inT (sy_i6 (List.mem_of_getElem? (i := 79) rfl)) rfl) sy_ini12 ⟨by decide, by decide, by decide +kernel⟩ (by decide +kernel) (sy_inT (sy_i6 (List.mem_of_getElem? (i := 77) (by decide +kernel))) rfl) (sy_inT (sy_i6 (List.mem_of_getElem? (i := 78) (by decide +kernel))) rfl) rfl
def mX12_placeOf : sy_M := (yX12_placeOf, cX12_placeOf, 4, (some .int), 12, 1, 20)
theorem kX12_placeOf : sy_mok mX12_placeOf false 1 := sy_mokV (sy_inT (sy_i6 (List.mem_of_getElem? (i := 177) rfl)) rfl) sy_ini12 ⟨by decide, by decide, by decide +kernel⟩ (by decide +kernel) (sy_inT (sy_i6 (List.mem_of_getElem? (i := 176) (by decide +kernel))) rfl) (sy_inP (List.mem_of_getElem? (i := 66) (by decide +kernel)) rfl) rfl
def mX12_places : sy_M := (yX12_places, cX12_places, 3, (some .int), 12, 1, 20)
theorem kX12_places : sy_mok mX12_places false 0 := sy_mokV (sy_inT (sy_i6 (List.mem_of_getElem? (i := 149) rfl)) rfl) sy_ini12 ⟨by decide, by decide, by decide +kernel⟩ (by decide +kernel) (sy_inT (sy_i6 (List.mem_of_getElem? (i := 148) (by decide +kernel))) rfl) (sy_inP (List.mem_of_getElem? (i := 63) (by decide +kernel)) rfl) rfl
def mX12_pushesBefore : sy_M := (yX12_pushesBefore, cX12_pushesBefore, 2, none, 12, 0, 0)
theorem kX12_pushesBefore : sy_mok mX12_pushesBefore false 0 := sy_mokV (sy_inT (sy_i5 (List.mem_of_getElem? (i := 138) rfl)) rfl) sy_ini12 ⟨by decide, by decide, by decide +kernel⟩ (by decide +kernel) (sy_inT (sy_i5 (List.mem_of_getElem? (i := 137) (by decide +kernel))) rfl) (sy_inP (List.mem_of_getElem? (i := 31) (by decide +kernel)) rfl) rfl
def mX12_put : sy_M := (yX12_put, cX12_put, 4, (some .int), 12, 2, 45)
theorem kX12_put : sy_mok mX12_put false 3 := sy_mokV (sy_inT (sy_i6 (List.mem_of_getElem? (i := 218) rfl)) rfl) sy_ini12 ⟨by decide, by decide, by decide +kernel⟩ (by decide +kernel) (sy_inT (sy_i6 (List.mem_of_getElem? (i := 216) (by decide +kernel))) rfl) (sy_inT (sy_i6 (List.mem_of_getElem? (i := 217) (by decide +kernel))) rfl) rfl
def mX12_read : sy_M := (yX12_read, cX12_read, 5, (some .int), 12, 4, 90)
theorem kX12_read : sy_mok mX12_read false 0 := sy_mokV (sy_inT (sy_i5 (List.mem_of_getElem? (i := 214) rfl)) rfl) sy_ini12 ⟨by decide, by decide, by decide +kernel⟩ (by decide +kernel) (sy_inT (sy_i5 (List.mem_of_getElem? (i := 212) (by decide +kernel))) rfl) (sy_inT (sy_i5 (List.mem_of_getElem? (i := 213) (by decide +kernel))) rfl) rfl
def mX12_redo : sy_M := (yX12_redo, cX12_redo, 2, (some .int), 12, 1, 21)
theorem kX12_redo : sy_mok mX12_redo false 0 := sy_mokV (sy_inT (sy_i5 (List.mem_of_getElem? (i := 134) rfl)) rfl) sy_ini12 ⟨by decide, by decide, by decide +kernel⟩ (by decide +kernel) (sy_inT (sy_i5 (List.mem_of_getElem? (i := 132) (by decide +kernel))) rfl) (sy_inT (sy_i5 (List.mem_of_getElem? (i := 133) (by decide +kernel))) rfl) rfl
def mX12_roundsOf : sy_M := (yX12_roundsOf, cX12_roundsOf, 4, (some .int), 12, 2, 45)
theorem kX12_roundsOf : sy_mok mX12_roundsOf false 1 := sy_mokV (sy_inT (sy_i6 (List.mem_of_getElem? (i := 3) rfl)) rfl) sy_ini12 ⟨by decide, by decide, by decide +kernel⟩ (by decide +kernel) (sy_inT (sy_i6 (List.mem_of_getElem? (i := 2) (by decide +kernel))) rfl) (sy_inP (List.mem_of_getElem? (i := 43) (by decide +kernel)) rfl) rfl
def mX12_set : sy_M := (yX12_set, cX12_set, 4, (some .int), 12, 2, 46)
theorem kX12_set : sy_mok mX12_set false 2 := sy_mokV (sy_inT (sy_i5 (List.mem_of_getElem? (i := 155) rfl)) rfl) sy_ini12 ⟨by decide, by decide, by decide +kernel⟩ (by decide +kernel) (sy_inT (sy_i5 (List.mem_of_getElem? (i := 153) (by decide +kernel))) rfl) (sy_inT (sy_i5 (List.mem_of_getElem? (i := 154) (by decide +kernel))) rfl) rfl
def mX12_settle : sy_M := (yX12_settle, cX12_settle, 1, (some .int), 12, 3, 67)
theorem kX12_settle : sy_mok mX12_settle false 0 := sy_mokV (sy_inT (sy_i5 (List.mem_of_getElem? (i := 189) rfl)) rfl) sy_ini12 ⟨by decide, by decide, by decide +kernel⟩ (by decide +kernel) (sy_inT (sy_i5 (List.mem_of_getElem? (i := 187) (by decide +kernel))) rfl) (sy_inT (sy_i5 (List.mem_of_getElem? (i := 188) (by decide +kernel))) rfl) rfl
def mX12_settled : sy_M := (yX12_settled, cX12_settled, 2, (some .int), 12, 4, 89)
theorem kX12_settled : sy_mok mX12_settled false 1 := sy_mokV (sy_inT (sy_i5 (List.mem_of_getElem? (i := 236) rfl)) rfl) sy_ini12 ⟨by decide, by decide, by decide +kernel⟩ (by decide +kernel) (sy_inT (sy_i5 (List.mem_of_getElem? (i := 234) (by decide +kernel))) rfl) (sy_inT (sy_i5 (List.mem_of_getElem? (i := 235) (by decide +kernel))) rfl) rfl
def mX12_settledThen : sy_M := (yX12_settledThen, cX12_settledThen, 3, (some .int), 12, 3, 67)
theorem kX12_settledThen : sy_mok mX12_settledThen false 1 := sy_mokV (sy_inT (sy_i6 (List.mem_of_getElem? (i := 7) rfl)) rfl) sy_ini12 ⟨by decide, by decide, by decide +kernel⟩ (by decide +kernel) (sy_inT (sy_i6 (List.mem_of_getElem? (i := 6) (by decide +kernel))) rfl) (sy_inP (List.mem_of_getElem? (i := 44) (by decide +kernel)) rfl) rfl
def mX12_settles : sy_M := (yX12_settles, cX12_settles, 3, (some .int), 12, 2, 45)
theorem kX12_settles : sy_mok mX12_settles false 1 := sy_mokV (sy_inT (sy_i5 (List.mem_of_getElem? (i := 193) rfl)) rfl) sy_ini12 ⟨by decide, by decide, by decide +kernel⟩ (by decide +kernel) (sy_inT (sy_i5 (List.mem_of_getElem? (i := 192) (by decide +kernel))) rfl) (sy_inP (List.mem_of_getElem? (i := 37) (by decide +kernel)) rfl) rfl
def mX12_size : sy_M := (yX12_size, cX12_size, 5, (some .int), 12, 4, 90)
theorem kX12_size : sy_mok mX12_size false 2 := sy_mokV (sy_inT (sy_i5 (List.mem_of_getElem? (i := 142) rfl)) rfl) sy_ini12 ⟨by decide, by decide, by decide +kernel⟩ (by decide +kernel) (sy_inT (sy_i5 (List.mem_of_getElem? (i := 140) (by decide +kernel))) rfl) (sy_inT (sy_i5 (List.mem_of_getElem? (i := 141) (by decide +kernel))) rfl) rfl
def mX12_sizeCounted : sy_M := (yX12_sizeCounted, cX12_sizeCounted, 3, (some .int), 12, 0, 0)
theorem kX12_sizeCounted : sy_mok mX12_sizeCounted false 0 := sy_mokV (sy_inT (sy_i5 (List.mem_of_getElem? (i := 205) rfl)) rfl) sy_ini12 ⟨by decide, by decide, by decide +kernel⟩ (by decide +kernel) (sy_inT (sy_i5 (List.mem_of_getElem? (i := 204) (by decide +kernel))) rfl) (sy_inP (List.mem_of_getElem? (i := 40) (by decide +kernel)) rfl) rfl
def mX12_steadies : sy_M := (yX12_steadies, cX12_steadies, 5, (some .int), 12, 2, 48)
theorem kX12_steadies : sy_mok mX12_steadies false 1 := sy_mokV (sy_inT (sy_i6 (List.mem_of_getElem? (i := 197) rfl)) rfl) sy_ini12 ⟨by decide, by decide, by decide +kernel⟩ (by decide +kernel) (sy_inT (sy_i6 (List.mem_of_getElem? (i := 195) (by decide +kernel))) rfl) (sy_inT (sy_i6 (List.mem_of_getElem? (i := 196) (by decide +kernel))) rfl) rfl
def mX12_sum : sy_M := (yX12_sum, cX12_sum, 6, (some .int), 12, 4, 90)
theorem kX12_sum : sy_mok mX12_sum false 3 := sy_mokV (sy_inT (sy_i6 (List.mem_of_getElem? (i := 83) rfl)) rfl) sy_ini12 ⟨by decide, by decide, by decide +kernel⟩ (by decide +kernel) (sy_inT (sy_i6 (List.mem_of_getElem? (i := 81) (by decide +kernel))) rfl) (sy_inT (sy_i6 (List.mem_of_getElem? (i := 82) (by decide +kernel))) rfl) rfl
def mX12_takes : sy_M := (yX12_takes, cX12_takes, 4, none, 12, 0, 0)
theorem kX12_takes : sy_mok mX12_takes false 2 := sy_mokV (sy_inT (sy_i6 (List.mem_of_getElem? (i := 75) rfl)) rfl) sy_ini12 ⟨by decide, by decide, by decide +kernel⟩ (by decide +kernel) (sy_inT (sy_i6 (List.mem_of_getElem? (i := 74) (by decide +kernel))) rfl) (sy_inP (List.mem_of_getElem? (i := 55) (by decide +kernel)) rfl) rfl
def mX12_tallest : sy_M := (yX12_tallest, cX12_tallest, 4, (some .int), 12, 1, 22)
theorem kX12_tallest : sy_mok mX12_tallest false 1 := sy_mokV (sy_inT (sy_i6 (List.mem_of_getElem? (i := 43) rfl)) rfl) sy_ini12 ⟨by decide, by decide, by decide +kernel⟩ (by decide +kernel) (sy_inT (sy_i6 (List.mem_of_getElem? (i := 42) (by decide +kernel))) rfl) (sy_inP (List.mem_of_getElem? (i := 51) (by decide +kernel)) rfl) rfl
def mX12_then : sy_M := (yX12_then, cX12_then, 5, (some .long), 12, 0, 0)
theorem kX12_then : sy_mok mX12_then false 1 := sy_mokV (sy_inT (sy_i6 (List.mem_of_getElem? (i := 206) rfl)) rfl) sy_ini12 ⟨by decide, by decide, by decide +kernel⟩ (by decide +kernel) (sy_inT (sy_i6 (List.mem_of_getElem? (i := 205) (by decide +kernel))) rfl) (sy_inP (List.mem_of_getElem? (i := 70) (by decide +kernel)) rfl) rfl
def mX12_through : sy_M := (yX12_through, cX12_through, 6, (some .int), 12, 2, 47)
theorem kX12_through : sy_mok mX12_through false 0 := sy_mokV (sy_inT (sy_i6 (List.mem_of_getElem? (i := 145) rfl)) rfl) sy_ini12 ⟨by decide, by decide, by decide +kernel⟩ (by decide +kernel) (sy_inT (sy_i6 (List.mem_of_getElem? (i := 143) (by decide +kernel))) rfl) (sy_inT (sy_i6 (List.mem_of_getElem? (i := 144) (by decide +kernel))) rfl) rfl
def mX12_times : sy_M := (yX12_times, cX12_times, 6, (some .int), 12, 4, 90)
theorem kX12_times : sy_mok mX12_times false 3 := sy_mokV (sy_inT (sy_i6 (List.mem_of_getElem? (i := 99) rfl)) rfl) sy_ini12 ⟨by decide, by decide, by decide +kernel⟩ (by decide +kernel) (sy_inT (sy_i6 (List.mem_of_getElem? (i := 97) (by decide +kernel))) rfl) (sy_inT (sy_i6 (List.mem_of_getElem? (i := 98) (by decide +kernel))) rfl) rfl
def mX12_topple : sy_M := (yX12_topple, cX12_topple, 2, (some .int), 12, 2, 46)
theorem kX12_topple : sy_mok mX12_topple false 1 := sy_mokV (sy_inT (sy_i5 (List.mem_of_getElem? (i := 177) rfl)) rfl) sy_ini12 ⟨by decide, by decide, by decide +kernel⟩ (by decide +kernel) (sy_inT (sy_i5 (List.mem_of_getElem? (i := 175) (by decide +kernel))) rfl) (sy_inT (sy_i5 (List.mem_of_getElem? (i := 176) (by decide +kernel))) rfl) rfl
def mX12_toppled : sy_M := (yX12_toppled, cX12_toppled, 3, (some .int), 12, 1, 20)
theorem kX12_toppled : sy_mok mX12_toppled false 0 := sy_mokV (sy_inT (sy_i6 (List.mem_of_getElem? (i := 11) rfl)) rfl) sy_ini12 ⟨by decide, by decide, by decide +kernel⟩ (by decide +kernel) (sy_inT (sy_i6 (List.mem_of_getElem? (i := 10) (by decide +kernel))) rfl) (sy_inP (List.mem_of_getElem? (i := 45) (by decide +kernel)) rfl) rfl
def mX12_topples : sy_M := (yX12_topples, cX12_topples, 5, none, 12, 0, 0)
theorem kX12_topples : sy_mok mX12_topples false 3 := sy_mokV (sy_inT (sy_i5 (List.mem_of_getElem? (i := 185) rfl)) rfl) sy_ini12 ⟨by decide, by decide, by decide +kernel⟩ (by decide +kernel) (sy_inT (sy_i5 (List.mem_of_getElem? (i := 184) (by decide +kernel))) rfl) (sy_inP (List.mem_of_getElem? (i := 36) (by decide +kernel)) rfl) rfl
def mX12_trace : sy_M := (yX12_trace, cX12_trace, 5, (some .int), 12, 3, 69)
theorem kX12_trace : sy_mok mX12_trace false 2 := sy_mokV (sy_inT (sy_i6 (List.mem_of_getElem? (i := 19) rfl)) rfl) sy_ini12 ⟨by decide, by decide, by decide +kernel⟩ (by decide +kernel) (sy_inT (sy_i6 (List.mem_of_getElem? (i := 17) (by decide +kernel))) rfl) (sy_inT (sy_i6 (List.mem_of_getElem? (i := 18) (by decide +kernel))) rfl) rfl
def mX12_unburnt : sy_M := (yX12_unburnt, cX12_unburnt, 4, (some .int), 12, 0, 0)
theorem kX12_unburnt : sy_mok mX12_unburnt false 1 := sy_mokV (sy_inT (sy_i6 (List.mem_of_getElem? (i := 137) rfl)) rfl) sy_ini12 ⟨by decide, by decide, by decide +kernel⟩ (by decide +kernel) (sy_inT (sy_i6 (List.mem_of_getElem? (i := 136) (by decide +kernel))) rfl) (sy_inP (List.mem_of_getElem? (i := 61) (by decide +kernel)) rfl) rfl
def mX12_undo : sy_M := (yX12_undo, cX12_undo, 2, (some .int), 12, 0, 0)
theorem kX12_undo : sy_mok mX12_undo false 0 := sy_mokV (sy_inT (sy_i5 (List.mem_of_getElem? (i := 130) rfl)) rfl) sy_ini12 ⟨by decide, by decide, by decide +kernel⟩ (by decide +kernel) (sy_inT (sy_i5 (List.mem_of_getElem? (i := 128) (by decide +kernel))) rfl) (sy_inT (sy_i5 (List.mem_of_getElem? (i := 129) (by decide +kernel))) rfl) rfl
def mX12_wall : sy_M := (yX12_wall, cX12_wall, 4, (some .int), 12, 4, 90)
theorem kX12_wall : sy_mok mX12_wall false 2 := sy_mokV (sy_inT (sy_i5 (List.mem_of_getElem? (i := 151) rfl)) rfl) sy_ini12 ⟨by decide, by decide, by decide +kernel⟩ (by decide +kernel) (sy_inT (sy_i5 (List.mem_of_getElem? (i := 149) (by decide +kernel))) rfl) (sy_inT (sy_i5 (List.mem_of_getElem? (i := 150) (by decide +kernel))) rfl) rfl
def mX12_why : sy_M := (yX12_why, cX12_why, 2, (some .int), 12, 1, 25)
theorem kX12_why : sy_mok mX12_why false 1 := sy_mokV (sy_inT (sy_i5 (List.mem_of_getElem? (i := 231) rfl)) rfl) sy_ini12 ⟨by decide, by decide, by decide +kernel⟩ (by decide +kernel) (sy_inT (sy_i5 (List.mem_of_getElem? (i := 229) (by decide +kernel))) rfl) (sy_inT (sy_i5 (List.mem_of_getElem? (i := 230) (by decide +kernel))) rfl) rfl
def mX12_wrongAt : sy_M := (yX12_wrongAt, cX12_wrongAt, 3, (some .int), 12, 2, 45)
theorem kX12_wrongAt : sy_mok mX12_wrongAt false 1 := sy_mokV (sy_inT (sy_i5 (List.mem_of_getElem? (i := 222) rfl)) rfl) sy_ini12 ⟨by decide, by decide, by decide +kernel⟩ (by decide +kernel) (sy_inT (sy_i5 (List.mem_of_getElem? (i := 221) (by decide +kernel))) rfl) (sy_inP (List.mem_of_getElem? (i := 42) (by decide +kernel)) rfl) rfl
def mX12_wrongPlace : sy_M := (yX12_wrongPlace, cX12_wrongPlace, 2, (some .int), 12, 3, 67)
theorem kX12_wrongPlace : sy_mok mX12_wrongPlace false 0 := sy_mokV (sy_inT (sy_i5 (List.mem_of_getElem? (i := 218) rfl)) rfl) sy_ini12 ⟨by decide, by decide, by decide +kernel⟩ (by decide +kernel) (sy_inT (sy_i5 (List.mem_of_getElem? (i := 217) (by decide +kernel))) rfl) (sy_inP (List.mem_of_getElem? (i := 41) (by decide +kernel)) rfl) rfl
def mJ7_fill_53178 : sy_M := (yJ7_fill_53178, cJ7_fill_53178, 4, none, 13, 0, 0)
theorem kJ7_fill_53178 : sy_mok mJ7_fill_53178 true 2 := sy_mokS (sy_inT (sy_i1 (List.mem_of_getElem? (i := 37) rfl)) rfl) sy_ini13 ⟨by decide, by decide, by decide +kernel⟩ (by decide +kernel) (sy_inT (sy_i1 (List.mem_of_getElem? (i := 36) (by decide +kernel))) rfl) rfl
def mJ7_fill_d0a16 : sy_M := (yJ7_fill_d0a16, cJ7_fill_d0a16, 5, none, 13, 0, 0)
theorem kJ7_fill_d0a16 : sy_mok mJ7_fill_d0a16 true 2 := sy_mokS (sy_inT (sy_i3 (List.mem_of_getElem? (i := 231) rfl)) rfl) sy_ini13 ⟨by decide, by decide, by decide +kernel⟩ (by decide +kernel) (sy_inT (sy_i3 (List.mem_of_getElem? (i := 230) (by decide +kernel))) rfl) rfl
def mJ9_max_7cf53 : sy_M := (yJ9_max_7cf53, cJ9_max_7cf53, 2, (some .int), 14, 0, 0)
theorem jX11_107 : Cond.methodLink RX11 107 yX3_cellCount ∈ sy_T := sy_inT (sy_i2 (List.mem_of_getElem? (i := 90) (by decide +kernel))) rfl
theorem jX11_111 : Cond.methodLink RX11 111 yX3_shape ∈ sy_T := sy_inT (sy_i2 (List.mem_of_getElem? (i := 94) (by decide +kernel))) rfl
theorem jX11_114 : Cond.methodLink RX11 114 yJ7_fill_53178 ∈ sy_T := sy_inT (sy_i2 (List.mem_of_getElem? (i := 95) (by decide +kernel))) rfl
theorem jX11_120 : Cond.methodLink RX11 120 yX11_forgetPilesAndChanges ∈ sy_T := sy_inT (sy_i2 (List.mem_of_getElem? (i := 96) (by decide +kernel))) rfl
theorem jX11_123 : Cond.methodLink RX11 123 yX3_isCell ∈ sy_T := sy_inT (sy_i2 (List.mem_of_getElem? (i := 112) (by decide +kernel))) rfl
theorem jX11_127 : Cond.methodLink RX11 127 yX3_isPlace ∈ sy_T := sy_inT (sy_i2 (List.mem_of_getElem? (i := 116) (by decide +kernel))) rfl
theorem jX11_130 : Cond.methodLink RX11 130 yX3_build ∈ sy_T := sy_inT (sy_i2 (List.mem_of_getElem? (i := 121) (by decide +kernel))) rfl
theorem jX11_134 : Cond.methodLink RX11 134 yX0_note ∈ sy_T := sy_inT (sy_i2 (List.mem_of_getElem? (i := 129) (by decide +kernel))) rfl
theorem jX11_138 : Cond.methodLink RX11 138 yX3_spill ∈ sy_T := sy_inT (sy_i2 (List.mem_of_getElem? (i := 145) (by decide +kernel))) rfl
theorem jX11_142 : Cond.methodLink RX11 142 yX3_lossAt ∈ sy_T := sy_inT (sy_i2 (List.mem_of_getElem? (i := 149) (by decide +kernel))) rfl
theorem jX11_146 : Cond.methodLink RX11 146 yX1_begin ∈ sy_T := sy_inT (sy_i2 (List.mem_of_getElem? (i := 157) (by decide +kernel))) rfl
theorem jX11_149 : Cond.methodLink RX11 149 yX1_level ∈ sy_T := sy_inT (sy_i2 (List.mem_of_getElem? (i := 163) (by decide +kernel))) rfl
theorem jX11_152 : Cond.methodLink RX11 152 yX1_copyTo ∈ sy_T := sy_inT (sy_i2 (List.mem_of_getElem? (i := 169) (by decide +kernel))) rfl
theorem jX11_155 : Cond.methodLink RX11 155 yX10_isFull ∈ sy_T := sy_inT (sy_i2 (List.mem_of_getElem? (i := 177) (by decide +kernel))) rfl
theorem jX11_159 : Cond.methodLink RX11 159 yX10_append ∈ sy_T := sy_inT (sy_i2 (List.mem_of_getElem? (i := 181) (by decide +kernel))) rfl
theorem jX11_162 : Cond.methodLink RX11 162 yX10_parse ∈ sy_T := sy_inT (sy_i2 (List.mem_of_getElem? (i := 189) (by decide +kernel))) rfl
theorem jX11_165 : Cond.methodLink RX11 165 yX10_rewind ∈ sy_T := sy_inT (sy_i2 (List.mem_of_getElem? (i := 217) (by decide +kernel))) rfl
theorem jX11_168 : Cond.methodLink RX11 168 yX10_rowCount ∈ sy_T := sy_inT (sy_i2 (List.mem_of_getElem? (i := 221) (by decide +kernel))) rfl
theorem jX11_171 : Cond.methodLink RX11 171 yX10_columnCount ∈ sy_T := sy_inT (sy_i2 (List.mem_of_getElem? (i := 225) (by decide +kernel))) rfl
theorem jX11_174 : Cond.methodLink RX11 174 yX10_valueAt ∈ sy_T := sy_inT (sy_i2 (List.mem_of_getElem? (i := 229) (by decide +kernel))) rfl
theorem jX11_177 : Cond.methodLink RX11 177 yX11_lay ∈ sy_T := sy_inT (sy_i2 (List.mem_of_getElem? (i := 233) (by decide +kernel))) rfl
theorem jX11_180 : Cond.methodLink RX11 180 yX10_codeAt ∈ sy_T := sy_inT (sy_i3 (List.mem_of_getElem? (i := 1) (by decide +kernel))) rfl
theorem jX11_183 : Cond.methodLink RX11 183 yX1_inRounds ∈ sy_T := sy_inT (sy_i3 (List.mem_of_getElem? (i := 9) (by decide +kernel))) rfl
theorem jX11_186 : Cond.methodLink RX11 186 yX1_countAt ∈ sy_T := sy_inT (sy_i3 (List.mem_of_getElem? (i := 25) (by decide +kernel))) rfl
theorem jX11_189 : Cond.methodLink RX11 189 yX1_heightAt ∈ sy_T := sy_inT (sy_i3 (List.mem_of_getElem? (i := 29) (by decide +kernel))) rfl
theorem jX11_192 : Cond.methodLink RX11 192 yX1_lost ∈ sy_T := sy_inT (sy_i3 (List.mem_of_getElem? (i := 33) (by decide +kernel))) rfl
theorem jX11_195 : Cond.methodLink RX11 195 yX1_area ∈ sy_T := sy_inT (sy_i3 (List.mem_of_getElem? (i := 38) (by decide +kernel))) rfl
theorem jX11_198 : Cond.methodLink RX11 198 yX1_grains ∈ sy_T := sy_inT (sy_i3 (List.mem_of_getElem? (i := 42) (by decide +kernel))) rfl
theorem jX11_201 : Cond.methodLink RX11 201 yX11_isOrder ∈ sy_T := sy_inT (sy_i3 (List.mem_of_getElem? (i := 54) (by decide +kernel))) rfl
theorem jX11_205 : Cond.methodLink RX11 205 yX4_begin ∈ sy_T := sy_inT (sy_i3 (List.mem_of_getElem? (i := 58) (by decide +kernel))) rfl
theorem jX11_207 : Cond.methodLink RX11 207 yX4_step ∈ sy_T := sy_inT (sy_i3 (List.mem_of_getElem? (i := 69) (by decide +kernel))) rfl
theorem jX11_210 : Cond.methodLink RX11 210 yX7_has ∈ sy_T := sy_inT (sy_i3 (List.mem_of_getElem? (i := 106) (by decide +kernel))) rfl
theorem jX11_213 : Cond.methodLink RX11 213 yX7_hold ∈ sy_T := sy_inT (sy_i3 (List.mem_of_getElem? (i := 110) (by decide +kernel))) rfl
theorem jX11_217 : Cond.methodLink RX11 217 yX7_holds ∈ sy_T := sy_inT (sy_i3 (List.mem_of_getElem? (i := 118) (by decide +kernel))) rfl
theorem jX11_220 : Cond.methodLink RX11 220 yX7_rowAt ∈ sy_T := sy_inT (sy_i3 (List.mem_of_getElem? (i := 122) (by decide +kernel))) rfl
theorem jX11_230 : Cond.methodLink RX11 230 yX3_grainsOf ∈ sy_T := sy_inT (sy_i3 (List.mem_of_getElem? (i := 127) (by decide +kernel))) rfl
theorem jX11_234 : Cond.methodLink RX11 234 yX8_add ∈ sy_T := sy_inT (sy_i3 (List.mem_of_getElem? (i := 136) (by decide +kernel))) rfl
theorem jX11_238 : Cond.methodLink RX11 238 yX8_startAtNought ∈ sy_T := sy_inT (sy_i3 (List.mem_of_getElem? (i := 146) (by decide +kernel))) rfl
theorem jX11_241 : Cond.methodLink RX11 241 yX11_holdResult ∈ sy_T := sy_inT (sy_i3 (List.mem_of_getElem? (i := 168) (by decide +kernel))) rfl
theorem jX11_245 : Cond.methodLink RX11 245 yX8_multiply ∈ sy_T := sy_inT (sy_i3 (List.mem_of_getElem? (i := 178) (by decide +kernel))) rfl
theorem jX11_248 : Cond.methodLink RX11 248 yX8_negate ∈ sy_T := sy_inT (sy_i3 (List.mem_of_getElem? (i := 192) (by decide +kernel))) rfl
theorem jX11_251 : Cond.methodLink RX11 251 yX8_leastToNought ∈ sy_T := sy_inT (sy_i3 (List.mem_of_getElem? (i := 200) (by decide +kernel))) rfl
theorem jX11_255 : Cond.methodLink RX11 255 yX11_alike ∈ sy_T := sy_inT (sy_i3 (List.mem_of_getElem? (i := 211) (by decide +kernel))) rfl
theorem jX11_259 : Cond.methodLink RX11 259 yX8_areOne ∈ sy_T := sy_inT (sy_i3 (List.mem_of_getElem? (i := 212) (by decide +kernel))) rfl
theorem jX11_262 : Cond.methodLink RX11 262 yX5_determinant ∈ sy_T := sy_inT (sy_i3 (List.mem_of_getElem? (i := 220) (by decide +kernel))) rfl
theorem jX11_266 : Cond.methodLink RX11 266 yX2_spread ∈ sy_T := sy_inT (sy_i4 (List.mem_of_getElem? (i := 9) (by decide +kernel))) rfl
theorem jX11_269 : Cond.methodLink RX11 269 yX2_roundAt ∈ sy_T := sy_inT (sy_i4 (List.mem_of_getElem? (i := 26) (by decide +kernel))) rfl
theorem jX11_272 : Cond.methodLink RX11 272 yX2_unburnt ∈ sy_T := sy_inT (sy_i4 (List.mem_of_getElem? (i := 30) (by decide +kernel))) rfl
theorem jX11_275 : Cond.methodLink RX11 275 yX3_placeCount ∈ sy_T := sy_inT (sy_i4 (List.mem_of_getElem? (i := 38) (by decide +kernel))) rfl
theorem jX11_278 : Cond.methodLink RX11 278 yX3_unpack ∈ sy_T := sy_inT (sy_i4 (List.mem_of_getElem? (i := 39) (by decide +kernel))) rfl
theorem jX11_282 : Cond.methodLink RX11 282 yX3_isStable ∈ sy_T := sy_inT (sy_i4 (List.mem_of_getElem? (i := 47) (by decide +kernel))) rfl
theorem jX11_286 : Cond.methodLink RX11 286 yX1_addGrain ∈ sy_T := sy_inT (sy_i4 (List.mem_of_getElem? (i := 51) (by decide +kernel))) rfl
theorem jX11_290 : Cond.methodLink RX11 290 yX1_toppled ∈ sy_T := sy_inT (sy_i4 (List.mem_of_getElem? (i := 55) (by decide +kernel))) rfl
theorem jX11_293 : Cond.methodLink RX11 293 yX6_clear ∈ sy_T := sy_inT (sy_i4 (List.mem_of_getElem? (i := 63) (by decide +kernel))) rfl
theorem jX11_296 : Cond.methodLink RX11 296 yX1_code ∈ sy_T := sy_inT (sy_i4 (List.mem_of_getElem? (i := 68) (by decide +kernel))) rfl
theorem jX11_299 : Cond.methodLink RX11 299 yX6_add ∈ sy_T := sy_inT (sy_i4 (List.mem_of_getElem? (i := 76) (by decide +kernel))) rfl
theorem jX11_301 : Cond.methodLink RX11 301 yX6_find ∈ sy_T := sy_inT (sy_i4 (List.mem_of_getElem? (i := 84) (by decide +kernel))) rfl
theorem jX11_304 : Cond.methodLink RX11 304 yX11_scatter ∈ sy_T := sy_inT (sy_i4 (List.mem_of_getElem? (i := 92) (by decide +kernel))) rfl
theorem jX11_307 : Cond.methodLink RX11 307 yX9_together ∈ sy_T := sy_inT (sy_i4 (List.mem_of_getElem? (i := 115) (by decide +kernel))) rfl
theorem jX11_310 : Cond.methodLink RX11 310 yX9_greatest ∈ sy_T := sy_inT (sy_i4 (List.mem_of_getElem? (i := 119) (by decide +kernel))) rfl
theorem jX11_313 : Cond.methodLink RX11 313 yX9_unlike ∈ sy_T := sy_inT (sy_i4 (List.mem_of_getElem? (i := 123) (by decide +kernel))) rfl
theorem jX11_316 : Cond.methodLink RX11 316 yX9_sizeAt ∈ sy_T := sy_inT (sy_i4 (List.mem_of_getElem? (i := 127) (by decide +kernel))) rfl
theorem jX11_319 : Cond.methodLink RX11 319 yX9_oftenAt ∈ sy_T := sy_inT (sy_i4 (List.mem_of_getElem? (i := 131) (by decide +kernel))) rfl
theorem jX11_322 : Cond.methodLink RX11 322 yX7_lengthOf ∈ sy_T := sy_inT (sy_i4 (List.mem_of_getElem? (i := 139) (by decide +kernel))) rfl
theorem jX11_325 : Cond.methodLink RX11 325 yX1_toppleOnce ∈ sy_T := sy_inT (sy_i4 (List.mem_of_getElem? (i := 143) (by decide +kernel))) rfl
theorem jX11_328 : Cond.methodLink RX11 328 yX11_firstUntold ∈ sy_T := sy_inT (sy_i4 (List.mem_of_getElem? (i := 152) (by decide +kernel))) rfl
theorem jX11_331 : Cond.methodLink RX11 331 yX11_firstUnsteady ∈ sy_T := sy_inT (sy_i4 (List.mem_of_getElem? (i := 156) (by decide +kernel))) rfl
theorem jX11_334 : Cond.methodLink RX11 334 yX3_placeAt ∈ sy_T := sy_inT (sy_i4 (List.mem_of_getElem? (i := 107) (by decide +kernel))) rfl
theorem jX11_339 : Cond.methodLink RX11 339 yX0_undoable ∈ sy_T := sy_inT (sy_i4 (List.mem_of_getElem? (i := 184) (by decide +kernel))) rfl
theorem jX11_342 : Cond.methodLink RX11 342 yX0_back ∈ sy_T := sy_inT (sy_i4 (List.mem_of_getElem? (i := 188) (by decide +kernel))) rfl
theorem jX11_345 : Cond.methodLink RX11 345 yX0_redoable ∈ sy_T := sy_inT (sy_i4 (List.mem_of_getElem? (i := 196) (by decide +kernel))) rfl
theorem jX11_348 : Cond.methodLink RX11 348 yX0_forth ∈ sy_T := sy_inT (sy_i4 (List.mem_of_getElem? (i := 200) (by decide +kernel))) rfl
theorem jX11_351 : Cond.methodLink RX11 351 yX3_columnCount ∈ sy_T := sy_inT (sy_i4 (List.mem_of_getElem? (i := 208) (by decide +kernel))) rfl
theorem jX11_352 : Cond.methodLink RX11 352 yX7_heldCount ∈ sy_T := sy_inT (sy_i4 (List.mem_of_getElem? (i := 212) (by decide +kernel))) rfl
theorem jX11_355 : Cond.methodLink RX11 355 yX10_length ∈ sy_T := sy_inT (sy_i4 (List.mem_of_getElem? (i := 216) (by decide +kernel))) rfl
theorem jX11_358 : Cond.methodLink RX11 358 yX10_codeCount ∈ sy_T := sy_inT (sy_i4 (List.mem_of_getElem? (i := 220) (by decide +kernel))) rfl
theorem jX11_361 : Cond.methodLink RX11 361 yX7_clear ∈ sy_T := sy_inT (sy_i2 (List.mem_of_getElem? (i := 100) (by decide +kernel))) rfl
theorem jX11_362 : Cond.methodLink RX11 362 yX0_restart ∈ sy_T := sy_inT (sy_i2 (List.mem_of_getElem? (i := 101) (by decide +kernel))) rfl
theorem jX11_365 : Cond.methodLink RX11 365 yX8_copyResultTo ∈ sy_T := sy_inT (sy_i3 (List.mem_of_getElem? (i := 172) (by decide +kernel))) rfl
theorem jX11_368 : Cond.methodLink RX11 368 yX1_forgetCounts ∈ sy_T := sy_inT (sy_i4 (List.mem_of_getElem? (i := 96) (by decide +kernel))) rfl
theorem jX11_371 : Cond.methodLink RX11 371 yX9_clear ∈ sy_T := sy_inT (sy_i4 (List.mem_of_getElem? (i := 100) (by decide +kernel))) rfl
theorem jX11_375 : Cond.methodLink RX11 375 yX9_add ∈ sy_T := sy_inT (sy_i4 (List.mem_of_getElem? (i := 108) (by decide +kernel))) rfl
theorem jX11_376 : Cond.methodLink RX11 376 yX3_nextCount ∈ sy_T := sy_inT (sy_i4 (List.mem_of_getElem? (i := 160) (by decide +kernel))) rfl
theorem jX11_379 : Cond.methodLink RX11 379 yX3_nextAt ∈ sy_T := sy_inT (sy_i4 (List.mem_of_getElem? (i := 161) (by decide +kernel))) rfl
theorem jX11_383 : Cond.methodLink RX11 383 yX3_numberOf ∈ sy_T := sy_inT (sy_i4 (List.mem_of_getElem? (i := 162) (by decide +kernel))) rfl
theorem jX1_28 : Cond.methodLink RX1 28 yJ7_fill_53178 ∈ sy_T := sy_inT (sy_i2 (List.mem_of_getElem? (i := 162) (by decide +kernel))) rfl
theorem jX1_44 : Cond.methodLink RX1 44 yX3_spill ∈ sy_T := sy_inT (sy_i2 (List.mem_of_getElem? (i := 168) (by decide +kernel))) rfl
theorem jX1_48 : Cond.methodLink RX1 48 yX1_readyBits ∈ sy_T := sy_inT (sy_i3 (List.mem_of_getElem? (i := 13) (by decide +kernel))) rfl
theorem jX1_52 : Cond.methodLink RX1 52 yX3_placeCount ∈ sy_T := sy_inT (sy_i3 (List.mem_of_getElem? (i := 17) (by decide +kernel))) rfl
theorem jX1_54 : Cond.methodLink RX1 54 yX3_placeAt ∈ sy_T := sy_inT (sy_i3 (List.mem_of_getElem? (i := 21) (by decide +kernel))) rfl
theorem jX1_58 : Cond.methodLink RX1 58 yX3_isPlace ∈ sy_T := sy_inT (sy_i4 (List.mem_of_getElem? (i := 147) (by decide +kernel))) rfl
theorem jX1_62 : Cond.methodLink RX1 62 yX3_pack ∈ sy_T := sy_inT (sy_i4 (List.mem_of_getElem? (i := 72) (by decide +kernel))) rfl
theorem jX1_66 : Cond.methodLink RX1 66 yX3_grainsOf ∈ sy_T := sy_inT (sy_i3 (List.mem_of_getElem? (i := 46) (by decide +kernel))) rfl
theorem jX1_69 : Cond.methodLink RX1 69 yX3_lossAt ∈ sy_T := sy_inT (sy_i3 (List.mem_of_getElem? (i := 37) (by decide +kernel))) rfl
theorem jX2_19 : Cond.methodLink RX2 19 yJ7_fill_53178 ∈ sy_T := sy_inT (sy_i4 (List.mem_of_getElem? (i := 13) (by decide +kernel))) rfl
theorem jX2_25 : Cond.methodLink RX2 25 yX2_burnOnce ∈ sy_T := sy_inT (sy_i4 (List.mem_of_getElem? (i := 14) (by decide +kernel))) rfl
theorem jX2_29 : Cond.methodLink RX2 29 yX3_placeCount ∈ sy_T := sy_inT (sy_i4 (List.mem_of_getElem? (i := 18) (by decide +kernel))) rfl
theorem jX2_35 : Cond.methodLink RX2 35 yX3_placeAt ∈ sy_T := sy_inT (sy_i4 (List.mem_of_getElem? (i := 19) (by decide +kernel))) rfl
theorem jX2_39 : Cond.methodLink RX2 39 yX2_unburntNextTo ∈ sy_T := sy_inT (sy_i4 (List.mem_of_getElem? (i := 20) (by decide +kernel))) rfl
theorem jX2_43 : Cond.methodLink RX2 43 yX3_nextCount ∈ sy_T := sy_inT (sy_i4 (List.mem_of_getElem? (i := 24) (by decide +kernel))) rfl
theorem jX2_46 : Cond.methodLink RX2 46 yX3_nextAt ∈ sy_T := sy_inT (sy_i4 (List.mem_of_getElem? (i := 25) (by decide +kernel))) rfl
theorem jX3_27 : Cond.methodLink RX3 27 yX3_shape ∈ sy_T := sy_inT (sy_i1 (List.mem_of_getElem? (i := 31) (by decide +kernel))) rfl
theorem jX3_38 : Cond.methodLink RX3 38 yJ7_fill_53178 ∈ sy_T := sy_inT (sy_i1 (List.mem_of_getElem? (i := 35) (by decide +kernel))) rfl
theorem jX3_44 : Cond.methodLink RX3 44 yX3_link ∈ sy_T := sy_inT (sy_i1 (List.mem_of_getElem? (i := 38) (by decide +kernel))) rfl
theorem jX3_50 : Cond.methodLink RX3 50 yX3_linkCell ∈ sy_T := sy_inT (sy_i1 (List.mem_of_getElem? (i := 42) (by decide +kernel))) rfl
theorem jX3_54 : Cond.methodLink RX3 54 yX3_join ∈ sy_T := sy_inT (sy_i1 (List.mem_of_getElem? (i := 46) (by decide +kernel))) rfl
theorem jX3_57 : Cond.methodLink RX3 57 yX3_isCell ∈ sy_T := sy_inT (sy_i2 (List.mem_of_getElem? (i := 120) (by decide +kernel))) rfl
theorem jX4_41 : Cond.methodLink RX4 41 yX3_placeCount ∈ sy_T := sy_inT (sy_i3 (List.mem_of_getElem? (i := 63) (by decide +kernel))) rfl
theorem jX4_47 : Cond.methodLink RX4 47 yX3_placeAt ∈ sy_T := sy_inT (sy_i3 (List.mem_of_getElem? (i := 64) (by decide +kernel))) rfl
theorem jX4_51 : Cond.methodLink RX4 51 yX4_lineUp ∈ sy_T := sy_inT (sy_i3 (List.mem_of_getElem? (i := 65) (by decide +kernel))) rfl
theorem jX4_55 : Cond.methodLink RX4 55 yX4_chosen ∈ sy_T := sy_inT (sy_i3 (List.mem_of_getElem? (i := 73) (by decide +kernel))) rfl
theorem jX4_58 : Cond.methodLink RX4 58 yX3_spill ∈ sy_T := sy_inT (sy_i3 (List.mem_of_getElem? (i := 89) (by decide +kernel))) rfl
theorem jX4_62 : Cond.methodLink RX4 62 yX3_nextCount ∈ sy_T := sy_inT (sy_i3 (List.mem_of_getElem? (i := 90) (by decide +kernel))) rfl
theorem jX4_65 : Cond.methodLink RX4 65 yX3_nextAt ∈ sy_T := sy_inT (sy_i3 (List.mem_of_getElem? (i := 94) (by decide +kernel))) rfl
theorem jX4_69 : Cond.methodLink RX4 69 yX4_leastCell ∈ sy_T := sy_inT (sy_i3 (List.mem_of_getElem? (i := 77) (by decide +kernel))) rfl
theorem jX4_72 : Cond.methodLink RX4 72 yX4_leave ∈ sy_T := sy_inT (sy_i3 (List.mem_of_getElem? (i := 81) (by decide +kernel))) rfl
theorem jX4_76 : Cond.methodLink RX4 76 yX4_tallestCell ∈ sy_T := sy_inT (sy_i3 (List.mem_of_getElem? (i := 85) (by decide +kernel))) rfl
theorem jX5_15 : Cond.methodLink RX5 15 yX3_placeCount ∈ sy_T := sy_inT (sy_i3 (List.mem_of_getElem? (i := 224) (by decide +kernel))) rfl
theorem jX5_21 : Cond.methodLink RX5 21 yX5_fillFrom ∈ sy_T := sy_inT (sy_i3 (List.mem_of_getElem? (i := 225) (by decide +kernel))) rfl
theorem jX5_25 : Cond.methodLink RX5 25 yX5_eliminate ∈ sy_T := sy_inT (sy_i4 (List.mem_of_getElem? (i := 1) (by decide +kernel))) rfl
theorem jX5_29 : Cond.methodLink RX5 29 yJ7_fill_d0a16 ∈ sy_T := sy_inT (sy_i3 (List.mem_of_getElem? (i := 229) (by decide +kernel))) rfl
theorem jX5_35 : Cond.methodLink RX5 35 yX3_placeAt ∈ sy_T := sy_inT (sy_i3 (List.mem_of_getElem? (i := 232) (by decide +kernel))) rfl
theorem jX5_41 : Cond.methodLink RX5 41 yX3_nextCount ∈ sy_T := sy_inT (sy_i3 (List.mem_of_getElem? (i := 234) (by decide +kernel))) rfl
theorem jX5_44 : Cond.methodLink RX5 44 yX3_nextAt ∈ sy_T := sy_inT (sy_i3 (List.mem_of_getElem? (i := 235) (by decide +kernel))) rfl
theorem jX5_48 : Cond.methodLink RX5 48 yX3_numberOf ∈ sy_T := sy_inT (sy_i3 (List.mem_of_getElem? (i := 236) (by decide +kernel))) rfl
theorem jX6_21 : Cond.methodLink RX6 21 yJ7_fill_53178 ∈ sy_T := sy_inT (sy_i4 (List.mem_of_getElem? (i := 67) (by decide +kernel))) rfl
theorem jX6_31 : Cond.methodLink RX6 31 yX6_chainOf ∈ sy_T := sy_inT (sy_i4 (List.mem_of_getElem? (i := 80) (by decide +kernel))) rfl
theorem jX7_18 : Cond.methodLink RX7 18 yX7_clear ∈ sy_T := sy_inT (sy_i1 (List.mem_of_getElem? (i := 134) (by decide +kernel))) rfl
theorem jX7_21 : Cond.methodLink RX7 21 yJ7_fill_53178 ∈ sy_T := sy_inT (sy_i1 (List.mem_of_getElem? (i := 138) (by decide +kernel))) rfl
theorem jX8_32 : Cond.methodLink RX8 32 yX1_begin ∈ sy_T := sy_inT (sy_i3 (List.mem_of_getElem? (i := 140) (by decide +kernel))) rfl
theorem jX8_38 : Cond.methodLink RX8 38 yX1_level ∈ sy_T := sy_inT (sy_i3 (List.mem_of_getElem? (i := 141) (by decide +kernel))) rfl
theorem jX8_42 : Cond.methodLink RX8 42 yX8_add ∈ sy_T := sy_inT (sy_i3 (List.mem_of_getElem? (i := 187) (by decide +kernel))) rfl
theorem jX8_46 : Cond.methodLink RX8 46 yX1_copyTo ∈ sy_T := sy_inT (sy_i3 (List.mem_of_getElem? (i := 162) (by decide +kernel))) rfl
theorem jX8_55 : Cond.methodLink RX8 55 yX8_layFullZero ∈ sy_T := sy_inT (sy_i3 (List.mem_of_getElem? (i := 150) (by decide +kernel))) rfl
theorem jX8_58 : Cond.methodLink RX8 58 yX8_settleResult ∈ sy_T := sy_inT (sy_i3 (List.mem_of_getElem? (i := 158) (by decide +kernel))) rfl
theorem jX8_61 : Cond.methodLink RX8 61 yX8_copyResultTo ∈ sy_T := sy_inT (sy_i3 (List.mem_of_getElem? (i := 163) (by decide +kernel))) rfl
theorem jX8_64 : Cond.methodLink RX8 64 yJ7_fill_53178 ∈ sy_T := sy_inT (sy_i3 (List.mem_of_getElem? (i := 154) (by decide +kernel))) rfl
theorem jX8_70 : Cond.methodLink RX8 70 yX3_placeCount ∈ sy_T := sy_inT (sy_i3 (List.mem_of_getElem? (i := 155) (by decide +kernel))) rfl
theorem jX8_75 : Cond.methodLink RX8 75 yX3_placeAt ∈ sy_T := sy_inT (sy_i3 (List.mem_of_getElem? (i := 156) (by decide +kernel))) rfl
theorem jX8_79 : Cond.methodLink RX8 79 yX1_heightAt ∈ sy_T := sy_inT (sy_i3 (List.mem_of_getElem? (i := 157) (by decide +kernel))) rfl
theorem jX8_82 : Cond.methodLink RX8 82 yX8_startAtNought ∈ sy_T := sy_inT (sy_i3 (List.mem_of_getElem? (i := 182) (by decide +kernel))) rfl
theorem jX8_85 : Cond.methodLink RX8 85 yX8_addInto ∈ sy_T := sy_inT (sy_i3 (List.mem_of_getElem? (i := 183) (by decide +kernel))) rfl
theorem jX9_28 : Cond.methodLink RX9 28 yJ9_max_7cf53 ∈ sy_T := sy_inT (sy_i4 (List.mem_of_getElem? (i := 112) (by decide +kernel))) rfl
theorem jX10_37 : Cond.methodLink RX10 37 yX10_accept ∈ sy_T := sy_inT (sy_i2 (List.mem_of_getElem? (i := 193) (by decide +kernel))) rfl
theorem jX10_41 : Cond.methodLink RX10 41 yX10_refuse ∈ sy_T := sy_inT (sy_i2 (List.mem_of_getElem? (i := 213) (by decide +kernel))) rfl
theorem jX10_45 : Cond.methodLink RX10 45 yX10_isRowWhole ∈ sy_T := sy_inT (sy_i2 (List.mem_of_getElem? (i := 201) (by decide +kernel))) rfl
theorem jX10_49 : Cond.methodLink RX10 49 yX10_closeRow ∈ sy_T := sy_inT (sy_i2 (List.mem_of_getElem? (i := 205) (by decide +kernel))) rfl
theorem jX10_52 : Cond.methodLink RX10 52 yX10_acceptSlash ∈ sy_T := sy_inT (sy_i2 (List.mem_of_getElem? (i := 197) (by decide +kernel))) rfl
theorem jX10_56 : Cond.methodLink RX10 56 yX10_mostInRow ∈ sy_T := sy_inT (sy_i2 (List.mem_of_getElem? (i := 209) (by decide +kernel))) rfl
theorem jX12_102 : Cond.methodLink RX12 102 yX12_links ∈ sy_T := sy_inT (sy_i4 (List.mem_of_getElem? (i := 230) (by decide +kernel))) rfl
theorem jX12_105 : Cond.methodLink RX12 105 yX12_cells ∈ sy_T := sy_inT (sy_i4 (List.mem_of_getElem? (i := 234) (by decide +kernel))) rfl
theorem jX12_109 : Cond.methodLink RX12 109 yX12_in ∈ sy_T := sy_inT (sy_i5 (List.mem_of_getElem? (i := 2) (by decide +kernel))) rfl
theorem jX12_113 : Cond.methodLink RX12 113 yX12_link ∈ sy_T := sy_inT (sy_i4 (List.mem_of_getElem? (i := 238) (by decide +kernel))) rfl
theorem jX12_120 : Cond.methodLink RX12 120 yX12_may ∈ sy_T := sy_inT (sy_i5 (List.mem_of_getElem? (i := 178) (by decide +kernel))) rfl
theorem jX12_124 : Cond.methodLink RX12 124 yX12_begins ∈ sy_T := sy_inT (sy_i5 (List.mem_of_getElem? (i := 194) (by decide +kernel))) rfl
theorem jX12_127 : Cond.methodLink RX12 127 yX12_isStable ∈ sy_T := sy_inT (sy_i5 (List.mem_of_getElem? (i := 198) (by decide +kernel))) rfl
theorem jX12_131 : Cond.methodLink RX12 131 yX12_topples ∈ sy_T := sy_inT (sy_i5 (List.mem_of_getElem? (i := 182) (by decide +kernel))) rfl
theorem jX12_135 : Cond.methodLink RX12 135 yX12_sizeCounted ∈ sy_T := sy_inT (sy_i5 (List.mem_of_getElem? (i := 202) (by decide +kernel))) rfl
theorem jX12_144 : Cond.methodLink RX12 144 yX12_pushesBefore ∈ sy_T := sy_inT (sy_i5 (List.mem_of_getElem? (i := 135) (by decide +kernel))) rfl
theorem jX12_149 : Cond.methodLink RX12 149 yX12_forgets ∈ sy_T := sy_inT (sy_i5 (List.mem_of_getElem? (i := 144) (by decide +kernel))) rfl
theorem jX12_152 : Cond.methodLink RX12 152 yX12_isPlace ∈ sy_T := sy_inT (sy_i5 (List.mem_of_getElem? (i := 156) (by decide +kernel))) rfl
theorem jX12_158 : Cond.methodLink RX12 158 yX12_changes ∈ sy_T := sy_inT (sy_i5 (List.mem_of_getElem? (i := 161) (by decide +kernel))) rfl
theorem jX12_163 : Cond.methodLink RX12 163 yX12_settles ∈ sy_T := sy_inT (sy_i5 (List.mem_of_getElem? (i := 190) (by decide +kernel))) rfl
theorem jX12_176 : Cond.methodLink RX12 176 yX12_isCell ∈ sy_T := sy_inT (sy_i5 (List.mem_of_getElem? (i := 223) (by decide +kernel))) rfl
theorem jX12_188 : Cond.methodLink RX12 188 yX12_wrongAt ∈ sy_T := sy_inT (sy_i5 (List.mem_of_getElem? (i := 219) (by decide +kernel))) rfl
theorem jX12_195 : Cond.methodLink RX12 195 yX12_wrongPlace ∈ sy_T := sy_inT (sy_i5 (List.mem_of_getElem? (i := 215) (by decide +kernel))) rfl
theorem jX12_203 : Cond.methodLink RX12 203 yX12_toppled ∈ sy_T := sy_inT (sy_i6 (List.mem_of_getElem? (i := 8) (by decide +kernel))) rfl
theorem jX12_206 : Cond.methodLink RX12 206 yX12_grains ∈ sy_T := sy_inT (sy_i6 (List.mem_of_getElem? (i := 12) (by decide +kernel))) rfl
theorem jX12_209 : Cond.methodLink RX12 209 yX12_copies ∈ sy_T := sy_inT (sy_i5 (List.mem_of_getElem? (i := 237) (by decide +kernel))) rfl
theorem jX12_213 : Cond.methodLink RX12 213 yX12_roundsOf ∈ sy_T := sy_inT (sy_i6 (List.mem_of_getElem? (i := 0) (by decide +kernel))) rfl
theorem jX12_216 : Cond.methodLink RX12 216 yX12_settledThen ∈ sy_T := sy_inT (sy_i6 (List.mem_of_getElem? (i := 4) (by decide +kernel))) rfl
theorem jX12_222 : Cond.methodLink RX12 222 yX12_comesBehind ∈ sy_T := sy_inT (sy_i6 (List.mem_of_getElem? (i := 28) (by decide +kernel))) rfl
theorem jX12_226 : Cond.methodLink RX12 226 yX12_least ∈ sy_T := sy_inT (sy_i6 (List.mem_of_getElem? (i := 36) (by decide +kernel))) rfl
theorem jX12_229 : Cond.methodLink RX12 229 yX12_tallest ∈ sy_T := sy_inT (sy_i6 (List.mem_of_getElem? (i := 40) (by decide +kernel))) rfl
theorem jX12_232 : Cond.methodLink RX12 232 yX12_leaves ∈ sy_T := sy_inT (sy_i6 (List.mem_of_getElem? (i := 44) (by decide +kernel))) rfl
theorem jX12_238 : Cond.methodLink RX12 238 yX12_isOrder ∈ sy_T := sy_inT (sy_i6 (List.mem_of_getElem? (i := 20) (by decide +kernel))) rfl
theorem jX12_241 : Cond.methodLink RX12 241 yX12_beginsOrder ∈ sy_T := sy_inT (sy_i6 (List.mem_of_getElem? (i := 24) (by decide +kernel))) rfl
theorem jX12_245 : Cond.methodLink RX12 245 yX12_goes ∈ sy_T := sy_inT (sy_i6 (List.mem_of_getElem? (i := 32) (by decide +kernel))) rfl
theorem jX12_249 : Cond.methodLink RX12 249 yX12_firstsBy ∈ sy_T := sy_inT (sy_i6 (List.mem_of_getElem? (i := 52) (by decide +kernel))) rfl
theorem jX12_254 : Cond.methodLink RX12 254 yX12_isPile ∈ sy_T := sy_inT (sy_i6 (List.mem_of_getElem? (i := 60) (by decide +kernel))) rfl
theorem jX12_257 : Cond.methodLink RX12 257 yX12_lays ∈ sy_T := sy_inT (sy_i6 (List.mem_of_getElem? (i := 64) (by decide +kernel))) rfl
theorem jX12_261 : Cond.methodLink RX12 261 yX12_takes ∈ sy_T := sy_inT (sy_i6 (List.mem_of_getElem? (i := 72) (by decide +kernel))) rfl
theorem jX12_265 : Cond.methodLink RX12 265 yX12_addsTo ∈ sy_T := sy_inT (sy_i6 (List.mem_of_getElem? (i := 84) (by decide +kernel))) rfl
theorem jX12_269 : Cond.methodLink RX12 269 yX12_laysNought ∈ sy_T := sy_inT (sy_i6 (List.mem_of_getElem? (i := 92) (by decide +kernel))) rfl
theorem jX12_274 : Cond.methodLink RX12 274 yX12_isLike ∈ sy_T := sy_inT (sy_i6 (List.mem_of_getElem? (i := 109) (by decide +kernel))) rfl
theorem jX12_280 : Cond.methodLink RX12 280 yX12_laysMatrix ∈ sy_T := sy_inT (sy_i6 (List.mem_of_getElem? (i := 121) (by decide +kernel))) rfl
theorem jX12_283 : Cond.methodLink RX12 283 yX12_unburnt ∈ sy_T := sy_inT (sy_i6 (List.mem_of_getElem? (i := 134) (by decide +kernel))) rfl
theorem jX12_286 : Cond.methodLink RX12 286 yX12_burns ∈ sy_T := sy_inT (sy_i6 (List.mem_of_getElem? (i := 130) (by decide +kernel))) rfl
theorem jX12_289 : Cond.methodLink RX12 289 yX12_notBurnt ∈ sy_T := sy_inT (sy_i6 (List.mem_of_getElem? (i := 138) (by decide +kernel))) rfl
theorem jX12_292 : Cond.methodLink RX12 292 yX12_places ∈ sy_T := sy_inT (sy_i6 (List.mem_of_getElem? (i := 146) (by decide +kernel))) rfl
theorem jX12_295 : Cond.methodLink RX12 295 yX12_codeOf ∈ sy_T := sy_inT (sy_i6 (List.mem_of_getElem? (i := 158) (by decide +kernel))) rfl
theorem jX12_298 : Cond.methodLink RX12 298 yX12_ahead ∈ sy_T := sy_inT (sy_i6 (List.mem_of_getElem? (i := 162) (by decide +kernel))) rfl
theorem jX12_309 : Cond.methodLink RX12 309 yX12_placeOf ∈ sy_T := sy_inT (sy_i6 (List.mem_of_getElem? (i := 174) (by decide +kernel))) rfl
theorem jX12_312 : Cond.methodLink RX12 312 yJ9_max_7cf53 ∈ sy_T := sy_inT (sy_i6 (List.mem_of_getElem? (i := 178) (by decide +kernel))) rfl
theorem jX12_318 : Cond.methodLink RX12 318 yX12_countsSize ∈ sy_T := sy_inT (sy_i6 (List.mem_of_getElem? (i := 179) (by decide +kernel))) rfl
theorem jX12_322 : Cond.methodLink RX12 322 yX12_lotsThen ∈ sy_T := sy_inT (sy_i6 (List.mem_of_getElem? (i := 183) (by decide +kernel))) rfl
theorem jX12_326 : Cond.methodLink RX12 326 yX12_isList ∈ sy_T := sy_inT (sy_i6 (List.mem_of_getElem? (i := 191) (by decide +kernel))) rfl
theorem jX12_331 : Cond.methodLink RX12 331 yX12_firstUntold ∈ sy_T := sy_inT (sy_i6 (List.mem_of_getElem? (i := 198) (by decide +kernel))) rfl
theorem jX12_334 : Cond.methodLink RX12 334 yX12_then ∈ sy_T := sy_inT (sy_i6 (List.mem_of_getElem? (i := 203) (by decide +kernel))) rfl
theorem jX12_340 : Cond.methodLink RX12 340 yX12_holding ∈ sy_T := sy_inT (sy_i6 (List.mem_of_getElem? (i := 228) (by decide +kernel))) rfl
theorem jX11_224 : Cond.methodLink RX11 224 arraycopyName ∈ sy_T := sy_inT (sy_i3 (List.mem_of_getElem? (i := 126) (by decide +kernel))) rfl
theorem jX0_23 : Cond.methodLink RX0 23 arraycopyName ∈ sy_T := sy_inT (sy_i2 (List.mem_of_getElem? (i := 105) (by decide +kernel))) rfl
theorem jX1_22 : Cond.methodLink RX1 22 arraycopyName ∈ sy_T := sy_inT (sy_i2 (List.mem_of_getElem? (i := 161) (by decide +kernel))) rfl
theorem jX4_22 : Cond.methodLink RX4 22 arraycopyName ∈ sy_T := sy_inT (sy_i3 (List.mem_of_getElem? (i := 62) (by decide +kernel))) rfl
theorem jX8_49 : Cond.methodLink RX8 49 arraycopyName ∈ sy_T := sy_inT (sy_i3 (List.mem_of_getElem? (i := 167) (by decide +kernel))) rfl
theorem sy_acN : Cond.native arraycopyName ∈ sy_T := sy_inT (sy_i2 (List.mem_of_getElem? (i := 107) (by decide +kernel))) rfl
theorem sy_acS : Cond.static arraycopyName ∈ sy_T := sy_inT (sy_i2 (List.mem_of_getElem? (i := 106) (by decide +kernel))) rfl
theorem sy_acI : Cond.initialized "java/lang/System" ∈ sy_T := sy_inT (sy_i1 (List.mem_of_getElem? (i := 15) (by decide +kernel))) rfl
