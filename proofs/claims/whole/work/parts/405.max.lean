/-! Math.max (by program: wip/whole/gen/p405.py) -/
theorem sy_mxC : Cond.code Lib.Math.max.name Lib.Math.max.code 2 (some .int) ∈ sy_T := by
  have h : Cond.code yJ9_max_7cf53 cJ9_max_7cf53 2 (some .int) ∈ sy_T := sy_inT (sy_i4 (List.mem_of_getElem? (i := 114) rfl)) rfl
  have e : cJ9_max_7cf53 = Lib.Math.max.code := by decide +kernel
  rw [e] at h
  exact h
theorem sy_mxS : Cond.static Lib.Math.max.name ∈ sy_T := sy_inT (sy_i4 (List.mem_of_getElem? (i := 113) (by decide +kernel))) rfl
theorem sy_max {sh : sy_Z} {y : sy_M} {Q : Option Value → sy_S → Prop} {pc idx : Nat} {loc : List (Option Value)} {st : List Value} {σ : sy_S} {a b : Int32} (rest : List Value) (hj : Cond.methodLink y.1.cls idx yJ9_max_7cf53 ∈ sy_T) (hd : decode y.2.1 pc = .ok (.invokestatic idx, 3)) (hst : st = .int b :: .int a :: rest) (hsum : (rest.map fun v => v.category).sum ≤ 8) (hfr : 1 ≤ y.2.2.2.2.2.1) (hlo : 21 ≤ y.2.2.2.2.2.2) (kk : sy_E sh y (pc + 3, loc, .int (if a < b then b else a) :: rest, σ) Q) : sy_E sh y (pc, loc, st, σ) Q := by
  intro l X p e s m args below meth c C H locs ls hW hD hS hl
  obtain ⟨hx, hb, hr1, hlocks, hml, hown, hts, hK, hcn⟩ := id C
  subst hst
  refine va_mmax hx hb (hml.trans hl.2.1.symm) hown (hts _ hj) (hts _ sy_mxS) (hts _ sy_ini14) (hts _ sy_mxC) hfr ?_ (Nat.zero_le _) (Nat.zero_le _) hd (kk l X p e s m args below meth c C H locs ls hW hD hS hl)
  rw [sy_sum]
  show _ + 13 ≤ y.2.2.2.2.2.2
  omega
