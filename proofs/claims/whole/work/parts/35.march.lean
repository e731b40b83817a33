/-! the orders of toppling, as mathematics; the odometer and what is settled, as functions -/
noncomputable def od (G : sg_G) (h : Nat → Nat) : Nat → Nat := by
  classical
  exact if e : ∃ u, sg_odo G h u then Classical.choose e else fun _ => 0
theorem od_eq {G : sg_G} {h u : Nat → Nat} (hu : sg_odo G h u) : u = od G h := by
  have e : ∃ u, sg_odo G h u := ⟨u, hu⟩
  unfold od
  rw [dif_pos e]
  exact sg_odo_one hu (Classical.choose_spec e)
noncomputable def stt (G : sg_G) (h : Nat → Nat) : Nat → Nat := by
  classical
  exact fun k => if sg_p G k then h k + sg_su G (od G h) k - 4 * od G h k else h k
theorem stt_eq {G : sg_G} {h u H : Nat → Nat} (hr : sg_rc G h u H) (hs : ∀ k, sg_p G k → H k ≤ 3) : u = od G h ∧ H = stt G h := by
  have e := od_eq (sg_rc_odo hr hs)
  refine ⟨e, ?_⟩
  funext k
  unfold stt
  by_cases q : sg_p G k
  · rw [if_pos q, ← e]
    have := hr.1 k q
    omega
  · rw [if_neg q]
    exact (hr.2.2.1 k q).2
noncomputable def rdn (G : sg_G) (h : Nat → Nat) : Nat := by
  classical
  exact if e : ∃ N, rdE G h N then Classical.choose e else 0
theorem rdn_eq {G : sg_G} {h : Nat → Nat} {N : Nat} (hN : rdE G h N) : N = rdn G h := by
  have e : ∃ N, rdE G h N := ⟨N, hN⟩
  unfold rdn
  rw [dif_pos e]
  exact rdE_one hN (Classical.choose_spec e)
/-! the orders -/
def mline (H : Nat → Nat) (L : List Nat) (c : Nat) : List Nat := if c ∉ L ∧ 3 < H c then L ++ [c] else L
def mtall (H : Nat → Nat) (b : Option Nat) (c : Nat) : Option Nat := match b with
  | none => if 3 < H c then some c else none
  | some d => if H d < H c then some c else some d
def mpick (G : sg_G) (o : Nat) (H : Nat → Nat) (L : List Nat) : Option Nat := match o with
  | 0 => (sg_P G).find? fun c => decide (3 < H c)
  | 1 => L.head?
  | 2 => L.getLast?
  | _ => (sg_P G).foldl (mtall H) none
def mrest (o : Nat) (L : List Nat) : List Nat := if o = 1 then L.tail else L.dropLast
def mnext (G : sg_G) (o : Nat) (s : (Nat → Nat) × List Nat) : Option (Nat × (Nat → Nat) × List Nat) := match mpick G o s.1 s.2 with
  | none => none
  | some c => some (c, sg_tp G s.1 c 1, if o = 1 ∨ o = 2 then (sg_nb G c ++ [c]).foldl (mline (sg_tp G s.1 c 1)) (mrest o s.2) else s.2)
def m0 (G : sg_G) (o : Nat) (h : Nat → Nat) : (Nat → Nat) × List Nat := (h, if o = 1 ∨ o = 2 then (sg_P G).foldl (mline h) [] else [])
def mrun (G : sg_G) (o : Nat) (h : Nat → Nat) : Nat → (Nat → Nat) × List Nat
  | 0 => m0 G o h
  | n + 1 => match mnext G o (mrun G o h n) with
    | some (_, s) => s
    | none => mrun G o h n
def mcell (G : sg_G) (o : Nat) (h : Nat → Nat) (n : Nat) : Option Nat := mpick G o (mrun G o h n).1 (mrun G o h n).2
/-- the row holds just those that may topple -/
def minv (G : sg_G) (o : Nat) (H : Nat → Nat) (L : List Nat) : Prop := (o = 1 ∨ o = 2) → L.Nodup ∧ ∀ c, c ∈ L ↔ sg_p G c ∧ 3 < H c
theorem mline_mem {H : Nat → Nat} {L : List Nat} {c x : Nat} : x ∈ mline H L c ↔ x ∈ L ∨ (x = c ∧ 3 < H c) := by
  unfold mline
  split
  · rename_i q
    rw [List.mem_append, List.mem_singleton]
    exact ⟨fun h => h.elim Or.inl (fun h => Or.inr ⟨h, q.2⟩), fun h => h.elim Or.inl (fun h => Or.inr h.1)⟩
  · rename_i q
    refine ⟨Or.inl, fun h => h.elim id (fun h => ?_)⟩
    obtain ⟨rfl, h2⟩ := h
    exact Classical.byContradiction fun z => q ⟨z, h2⟩
theorem mline_nodup {H : Nat → Nat} {L : List Nat} {c : Nat} (h : L.Nodup) : (mline H L c).Nodup := by
  unfold mline
  split
  · rename_i q
    rw [List.nodup_append]
    exact ⟨h, by simp, fun a ha b hb => by rw [List.mem_singleton] at hb; subst hb; exact fun e => q.1 (e ▸ ha)⟩
  · exact h
theorem mfold_mem {H : Nat → Nat} (l : List Nat) : ∀ (L : List Nat) (x : Nat), x ∈ l.foldl (mline H) L ↔ x ∈ L ∨ (x ∈ l ∧ 3 < H x) := by
  induction l with
  | nil => intro L x; simp
  | cons a l ih =>
    intro L x
    rw [List.foldl_cons, ih, mline_mem, List.mem_cons]
    constructor
    · rintro ((h | ⟨rfl, h⟩) | h)
      · exact Or.inl h
      · exact Or.inr ⟨Or.inl rfl, h⟩
      · exact Or.inr ⟨Or.inr h.1, h.2⟩
    · rintro (h | ⟨rfl | h, h2⟩)
      · exact Or.inl (Or.inl h)
      · exact Or.inl (Or.inr ⟨rfl, h2⟩)
      · exact Or.inr ⟨h, h2⟩
theorem mfold_nodup {H : Nat → Nat} (l : List Nat) : ∀ (L : List Nat), L.Nodup → (l.foldl (mline H) L).Nodup := by
  induction l with
  | nil => intro L h; exact h
  | cons a l ih => intro L h; exact ih _ (mline_nodup h)
theorem m0_inv (G : sg_G) (o : Nat) (h : Nat → Nat) : minv G o (m0 G o h).1 (m0 G o h).2 := by
  intro ho
  unfold m0
  rw [if_pos ho]
  refine ⟨mfold_nodup _ _ (by simp), fun c => ?_⟩
  rw [mfold_mem, sg_P_mem]
  simp
theorem mtall_fold {G : sg_G} {H : Nat → Nat} (l : List Nat) (hl : ∀ c, c ∈ l → sg_p G c) : ∀ b : Option Nat, (∀ d, b = some d → sg_p G d ∧ 3 < H d) → (∀ c, l.foldl (mtall H) b = some c → sg_p G c ∧ 3 < H c) ∧ (l.foldl (mtall H) b = none → b = none ∧ ∀ c, c ∈ l → H c ≤ 3) := by
  induction l with
  | nil => intro b hb; exact ⟨fun c hc => hb c hc, fun h => ⟨h, fun c hc => absurd hc List.not_mem_nil⟩⟩
  | cons a l ih =>
    intro b hb
    rw [List.foldl_cons]
    have hn : ∀ d, mtall H b a = some d → sg_p G d ∧ 3 < H d := by
      intro d hd
      unfold mtall at hd
      split at hd
      · split at hd
        · rename_i q
          cases hd
          exact ⟨hl a List.mem_cons_self, q⟩
        · cases hd
      · rename_i d'
        have h9 := hb d' rfl
        split at hd
        · rename_i q
          cases hd
          exact ⟨hl a List.mem_cons_self, by omega⟩
        · cases hd; exact h9
    obtain ⟨i1, i2⟩ := ih (fun c hc => hl c (List.mem_cons_of_mem _ hc)) _ hn
    refine ⟨i1, fun h => ?_⟩
    obtain ⟨j1, j2⟩ := i2 h
    unfold mtall at j1
    split at j1
    · split at j1
      · cases j1
      · rename_i q
        refine ⟨rfl, fun c hc => ?_⟩
        rcases List.mem_cons.mp hc with rfl | hc
        · omega
        · exact j2 c hc
    · split at j1 <;> cases j1
theorem mpick_ok {G : sg_G} {o : Nat} {H : Nat → Nat} {L : List Nat} (hi : minv G o H L) : (∀ c, mpick G o H L = some c → sg_p G c ∧ 3 < H c) ∧ (mpick G o H L = none ↔ ∀ c, sg_p G c → H c ≤ 3) := by
  have some_none : (∀ c, mpick G o H L = some c → sg_p G c ∧ 3 < H c) → (mpick G o H L = none → ∀ c, sg_p G c → H c ≤ 3) → (∀ c, mpick G o H L = some c → sg_p G c ∧ 3 < H c) ∧ (mpick G o H L = none ↔ ∀ c, sg_p G c → H c ≤ 3) := by
    intro a b
    refine ⟨a, b, fun h => ?_⟩
    cases hp : mpick G o H L with
    | none => rfl
    | some c =>
      obtain ⟨a1, a2⟩ := a c hp
      have := h c a1
      omega
  match o, hi, some_none with
  | 0, hi, sn =>
    refine sn (fun c hc => ?_) (fun h c hc => ?_)
    · have h1 := List.mem_of_find?_eq_some hc
      have h2 := List.find?_some hc
      exact ⟨sg_P_mem.mp h1, by simpa using h2⟩
    · have := (List.find?_eq_none.mp h) c (sg_P_mem.mpr hc)
      simp at this
      omega
  | 1, hi, sn =>
    obtain ⟨-, h2⟩ := hi (Or.inl rfl)
    refine sn (fun c hc => (h2 c).mp (List.mem_of_head? hc)) (fun h c hc => ?_)
    have e : L = [] := List.head?_eq_none_iff.mp h
    rcases Nat.lt_or_ge 3 (H c) with q | q
    · have := (h2 c).mpr ⟨hc, q⟩
      rw [e] at this
      exact absurd this List.not_mem_nil
    · exact q
  | 2, hi, sn =>
    obtain ⟨-, h2⟩ := hi (Or.inr rfl)
    refine sn (fun c hc => (h2 c).mp (List.mem_of_getLast? hc)) (fun h c hc => ?_)
    have e : L = [] := List.getLast?_eq_none_iff.mp h
    rcases Nat.lt_or_ge 3 (H c) with q | q
    · have := (h2 c).mpr ⟨hc, q⟩
      rw [e] at this
      exact absurd this List.not_mem_nil
    · exact q
  | o + 3, hi, sn =>
    obtain ⟨t1, t2⟩ := mtall_fold (G := G) (H := H) (sg_P G) (fun c hc => sg_P_mem.mp hc) none (fun d hd => by cases hd)
    exact sn t1 (fun h c hc => (t2 h).2 c (sg_P_mem.mpr hc))
theorem mrest_mem {G : sg_G} {o : Nat} {H : Nat → Nat} {L : List Nat} {c : Nat} (ho : o = 1 ∨ o = 2) (hn : L.Nodup) (hp : mpick G o H L = some c) : (mrest o L).Nodup ∧ ∀ x, x ∈ mrest o L ↔ x ∈ L ∧ x ≠ c := by
  unfold mrest
  rcases ho with rfl | rfl
  · rw [if_pos rfl]
    have hp : L.head? = some c := hp
    match L, hp, hn with
    | d :: L', hp, hn =>
      cases hp
      rw [List.nodup_cons] at hn
      refine ⟨hn.2, fun x => ?_⟩
      rw [List.tail_cons, List.mem_cons]
      exact ⟨fun h => ⟨Or.inr h, fun e => hn.1 (e ▸ h)⟩, fun h => h.1.elim (fun e => absurd e h.2) id⟩
  · rw [if_neg (by decide)]
    have hp : L.getLast? = some c := hp
    have e : L = L.dropLast ++ [c] := by
      have hne : L ≠ [] := fun z => by rw [z] at hp; cases hp
      have h1 := List.dropLast_concat_getLast hne
      rw [List.getLast?_eq_some_getLast hne] at hp
      cases hp
      exact h1.symm
    rw [e, List.nodup_append] at hn
    refine ⟨hn.1, fun x => ?_⟩
    conv => rhs; rw [e]
    rw [List.mem_append, List.mem_singleton]
    exact ⟨fun h => ⟨Or.inl h, fun z => hn.2.2 x h c (List.mem_singleton.mpr rfl) z⟩, fun h => h.1.elim id (fun z => absurd z h.2)⟩
theorem mnext_inv {G : sg_G} (hG : sg_ok G) {o : Nat} {H H' : Nat → Nat} {L L' : List Nat} {c : Nat} (hi : minv G o H L) (hn : mnext G o (H, L) = some (c, H', L')) : mpick G o H L = some c ∧ H' = sg_tp G H c 1 ∧ minv G o H' L' := by
  unfold mnext at hn
  dsimp only at hn
  cases hp : mpick G o H L with
  | none => rw [hp] at hn; cases hn
  | some d =>
    rw [hp] at hn
    cases hn
    refine ⟨rfl, rfl, fun ho => ?_⟩
    rw [if_pos ho]
    obtain ⟨p1, p2⟩ := (mpick_ok hi).1 c hp
    obtain ⟨hnd, hmem⟩ := hi ho
    obtain ⟨r1, r2⟩ := mrest_mem ho hnd hp
    refine ⟨mfold_nodup _ _ r1, fun x => ?_⟩
    rw [mfold_mem, r2, hmem, List.mem_append, List.mem_singleton]
    constructor
    · rintro (⟨⟨h1, h2⟩, h3⟩ | ⟨h1, h2⟩)
      · refine ⟨h1, ?_⟩
        unfold sg_tp
        rw [if_neg h3]
        omega
      · refine ⟨?_, h2⟩
        rcases h1 with h1 | rfl
        · exact (sg_nb_p hG p1.1 h1).1
        · exact p1
    · rintro ⟨h1, h2⟩
      by_cases e : x = c
      · exact Or.inr ⟨Or.inr e, h2⟩
      · by_cases m : x ∈ sg_nb G c
        · exact Or.inr ⟨Or.inl m, h2⟩
        · left
          unfold sg_tp at h2
          rw [if_neg e, if_neg m] at h2
          exact ⟨⟨h1, by omega⟩, e⟩
/-- the run by an order: legal, and it ends when all is settled -/
theorem mrun_ok {G : sg_G} (hG : sg_ok G) (o : Nat) (h : Nat → Nat) (n : Nat) : minv G o (mrun G o h n).1 (mrun G o h n).2 ∧ ∃ u, sg_rc G h u (mrun G o h n).1 ∧ (ssum 16 u = n ∨ (ssum 16 u ≤ n ∧ ∀ c, sg_p G c → (mrun G o h n).1 c ≤ 3)) := by
  have h16 := sg_n16 hG
  induction n with
  | zero => exact ⟨m0_inv G o h, fun _ => 0, sg_rc_0 G h, Or.inl (ssum_zero 16)⟩
  | succ n ih =>
    obtain ⟨i1, u, i2, i3⟩ := ih
    rw [mrun]
    cases hn : mnext G o (mrun G o h n) with
    | none =>
      have hst : ∀ c, sg_p G c → (mrun G o h n).1 c ≤ 3 := by
        refine (mpick_ok i1).2.mp ?_
        unfold mnext at hn
        cases hp : mpick G o (mrun G o h n).1 (mrun G o h n).2 with
        | none => rfl
        | some c => rw [hp] at hn; cases hn
      refine ⟨i1, u, i2, Or.inr ⟨?_, hst⟩⟩
      rcases i3 with i3 | i3
      · omega
      · have := i3.1; omega
    | some q =>
      obtain ⟨c, H', L'⟩ := q
      obtain ⟨j1, j2, j3⟩ := mnext_inv hG i1 hn
      obtain ⟨p1, p2⟩ := (mpick_ok i1).1 c j1
      refine ⟨j3, sg_ad u c 1, ?_, Or.inl ?_⟩
      · show sg_rc G h (sg_ad u c 1) H'
        rw [j2]
        exact sg_rc_tp hG i2 p1 (by omega)
      · rw [ssum_ad (Nat.lt_of_lt_of_le p1.1 h16)]
        rcases i3 with i3 | i3
        · omega
        · have := i3.2 c p1; omega
theorem mcell_iff {G : sg_G} (hG : sg_ok G) (o : Nat) {h : Nat → Nat} (he : ∃ u, sg_odo G h u) (n : Nat) : mcell G o h n = none ↔ ssum 16 (od G h) ≤ n := by
  have h16 := sg_n16 hG
  obtain ⟨i1, u, i2, i3⟩ := mrun_ok hG o h n
  have hod : sg_odo G h (od G h) := by
    obtain ⟨v, hv⟩ := he
    rw [← od_eq hv]; exact hv
  unfold mcell
  rw [(mpick_ok i1).2]
  constructor
  · intro hst
    have e := od_eq (sg_rc_odo i2 hst)
    rw [← e]
    rcases i3 with i3 | i3
    · omega
    · exact i3.1
  · intro hle
    rcases i3 with i3 | i3
    · have hle2 : ∀ k, u k ≤ od G h k := fun k => by
        by_cases q : sg_p G k
        · exact i2.2.1 _ hod.1 k q
        · rw [(i2.2.2.1 k q).1]; exact Nat.zero_le _
      have heq : ∀ k, k < 16 → u k = od G h k := by
        have key : ∀ m, (∀ k, k < m → u k = od G h k) ∨ ssum m u < ssum m (od G h) := by
          intro m
          induction m with
          | zero => exact Or.inl (fun k hk => absurd hk (Nat.not_lt_zero _))
          | succ m ihm =>
            rw [ssum, ssum]
            have h1 := hle2 m
            have h2 : ssum m u ≤ ssum m (od G h) := ssum_le (fun j _ => hle2 j)
            rcases ihm with ihm | ihm
            · by_cases e : u m = od G h m
              · left
                intro k hk
                by_cases z : k = m
                · subst z; exact e
                · exact ihm k (by omega)
              · right; omega
            · right; omega
        rcases key 16 with z | z
        · exact z
        · omega
      intro c hc
      have h1 := i2.1 c hc
      have h2 := hod.1 c hc
      have h3 : sg_su G u c = sg_su G (od G h) c := by
        unfold sg_su
        apply ssum_congr
        intro j hj
        rw [heq j hj]
      have h4 := heq c (Nat.lt_of_lt_of_le hc.1 h16)
      omega
    · exact i3.2
