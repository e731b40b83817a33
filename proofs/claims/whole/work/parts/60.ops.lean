/-! what each call answers and makes of the state -/
abbrev pR (a b : Nat) : Nat → Prop := fun m => a ≤ m ∧ m ≤ b
abbrev p3 : Nat → Prop := fun m => m < 3
noncomputable def bnd (G : sg_G) (p : Nat → Nat) : Nat := by
  classical
  exact if e : ∃ N, bE G p N then Classical.choose e else 0
theorem bnd_eq {G : sg_G} {p : Nat → Nat} {N : Nat} (h : bE G p N) : N = bnd G p := by
  have e : ∃ N, bE G p N := ⟨N, h⟩
  unfold bnd
  rw [dif_pos e]
  exact bE_one h (Classical.choose_spec e)
noncomputable def bfn (G : sg_G) (p : Nat → Nat) : Nat → Nat := bru G p (bnd G p)
noncomputable def ubt (G : sg_G) (p : Nat → Nat) : Int32 := bts (fun c => decide (bfn G p c = 0)) (sg_P G)
def hset (H : Nat → Nat) (c v : Nat) : Nat → Nat := fun k => if k = c then v else H k
def pset {α : Type} (P : Nat → Option α) (p : Nat) (x : α) : Nat → Option α := fun i => if i = p then some x else P i
def pno {α : Type} : Nat → Option α := fun _ => none
def gwal (G : sg_G) (c : Nat) (b : Bool) : sg_G := (G.1, G.2.1, fun k => if k = c then b else G.2.2 k)
noncomputable def f_size (r c : Int32) : st → Int32 × st
  | (G, H, P, U, R, T, W, L) => match px (pR 1 4) r, px (pR 1 4) c with
    | some r', some c' => (nI (sg_n G), ((r', c', fun _ => false), (fun _ => 0), pno, [], [], T, W, L))
    | _, _ => (-2, (G, H, P, U, R, T, W, L))
noncomputable def f_wall (cell : Int32) (b : Bool) : st → Int32 × st
  | (G, H, P, U, R, T, W, L) => match px (fun m => m < sg_n G) cell with
    | none => (-1, (G, H, P, U, R, T, W, L))
    | some c => if G.2.2 c = b then ((if b = true then 1 else 0), (G, H, P, U, R, T, W, L)) else ((if b = true then 0 else 1), (gwal G c b, hset H c 0, pno, [], [], T, W, L))
noncomputable def f_set (cell v : Int32) : st → Int32 × st
  | (G, H, P, U, R, T, W, L) => match px (sg_p G) cell with
    | none => (-1, (G, H, P, U, R, T, W, L))
    | some c => match px (pR 0 999) v with
      | none => (-2, (G, H, P, U, R, T, W, L))
      | some w => (nI (H c), (G, hset H c w, P, (H :: U).take 8, [], T, W, L))
noncomputable def f_height (cell : Int32) : st → Int32
  | (G, H, _) => match px (sg_p G) cell with
    | none => -1
    | some c => nI (H c)
noncomputable def f_drop (cell n : Int32) : st → Int32 × st
  | (G, H, P, U, R, T, W, L) => match px (sg_p G) cell with
    | none => (-1, (G, H, P, U, R, T, W, L))
    | some c => match px (pR 1 99) n with
      | none => (-2, (G, H, P, U, R, T, W, L))
      | some m => if 999 < H c + m then (-4, (G, H, P, U, R, T, W, L)) else (nI (H c + m), (G, sg_ad H c m, P, (H :: U).take 8, [], T, W, L))
noncomputable def f_topple (cell : Int32) : st → Int32 × st
  | (G, H, P, U, R, T, W, L) => match px (sg_p G) cell with
    | none => (-1, (G, H, P, U, R, T, W, L))
    | some c => if H c < 4 then (-5, (G, H, P, U, R, T, W, L)) else (nI (4 - (sg_nb G c).length), (G, sg_tp G H c 1, P, (H :: U).take 8, [], T, W, L))
noncomputable def f_settle : st → Int32 × st
  | (G, H, P, U, R, T, W, L) => (nI (ssum 16 (od G H)), (G, stt G H, P, (H :: U).take 8, [], T, W, L))
noncomputable def f_feed (b : Int32) : st → Int32 × st
  | (G, H, P, U, R, T, W, L) => match px (pR 1 127) b with
    | none => (-2, (G, H, P, U, R, T, W, L))
    | some m => if T.length = 40 then (-4, (G, H, P, U, R, T, W, L)) else (nI (T.length + 1), (G, H, P, U, R, T ++ [m], W, L))
def tgw (v : List (Option Nat)) (k : Nat) : Bool := match v[k]? with
  | some none => true
  | _ => false
def tgh (v : List (Option Nat)) (k : Nat) : Nat := match v[k]? with
  | some (some d) => d
  | _ => 0
def f_read : st → Int32 × st
  | (G, H, P, U, R, T, W, L) => match trun T 0 (0, 0, 0, []) with
    | .inl (fa, s, c) => (-100 - nI fa, (G, H, P, U, R, [], some (s, c), L))
    | .inr q => (nI ((q.1 + 1) * q.2.2.1), ((q.1 + 1, q.2.2.1, tgw q.2.2.2), tgh q.2.2.2, pno, [], [], [], none, L))
noncomputable def f_why (i : Int32) : st → Int32
  | (_, _, _, _, _, _, W, _) => match W with
    | none => -1
    | some (s, c) => match px p3 i with
      | none => -1
      | some 0 => nI 1
      | some 1 => nI (10 + s)
      | some _ => nI c
noncomputable def f_settled (w : Int32) : st → Int32
  | (G, H, _) => match px (pR 0 4) w with
    | some 0 => nI (ssum 16 (od G H))
    | some 1 => nI (sg_lost G (od G H))
    | some 2 => nI (rdn G H)
    | some 3 => bts (fun c => decide (0 < od G H c)) (List.range 16)
    | some _ => nI (sg_sum G (stt G H))
    | none => match px (sg_p G) (w - 100) with
      | some c => nI (od G H c)
      | none => match px (sg_p G) (w - 200) with
        | some c => nI (stt G H c)
        | none => -1
noncomputable def f_trace (o i : Int32) : st → Int32
  | (G, H, _) => match px p4 o with
    | none => -1
    | some o => match px (fun _ => True) i with
      | none => -5
      | some m => (mcell G o H m).elim (-5) nI
def cmn (G : sg_G) (H : Nat → Nat) (o o' : Nat) (n : Nat) : Nat := ssum n fun k => if (mcell G o H k).isSome = true ∧ mcell G o H k = mcell G o' H k then 1 else 0
noncomputable def f_common (o o' : Int32) : st → Int32
  | (G, H, _) => match px p4 o, px p4 o' with
    | some o, some o' => nI (cmn G H o o' 60)
    | _, _ => -1
noncomputable def f_keep (p : Int32) : st → Int32 × st
  | (G, H, P, U, R, T, W, L) => match px p6 p with
    | none => (-1, (G, H, P, U, R, T, W, L))
    | some p => (nI (ssum 16 (od G H)), (G, H, pset P p (stt G H), U, R, T, W, L))
noncomputable def f_load (p : Int32) : st → Int32 × st
  | (G, H, P, U, R, T, W, L) => match px p6 p with
    | none => (-1, (G, H, P, U, R, T, W, L))
    | some p => match P p with
      | none => (-6, (G, H, P, U, R, T, W, L))
      | some h => (nI (sg_sum G h), (G, h, P, (H :: U).take 8, [], T, W, L))
noncomputable def f_pile (p cell : Int32) : st → Int32
  | (G, _, P, _) => match px p6 p, px (sg_p G) cell with
    | some p, some c => match P p with
      | none => -6
      | some h => nI (h c)
    | _, _ => -1
noncomputable def f_sum (p a b : Int32) : st → Int32 × st
  | (G, H, P, U, R, T, W, L) => match px p6 p, px p6 a, px p6 b with
    | some p, some a, some b => match P a, P b with
      | some x, some y => (nI (ssum 16 (od G (vad x y))), (G, H, pset P p (stt G (vad x y)), U, R, T, W, L))
      | _, _ => (-6, (G, H, P, U, R, T, W, L))
    | _, _, _ => (-1, (G, H, P, U, R, T, W, L))
noncomputable def f_nought (p : Int32) : st → Int32 × st
  | (G, H, P, U, R, T, W, L) => match px p6 p with
    | none => (-1, (G, H, P, U, R, T, W, L))
    | some p => (nI (sg_sum G (nt G)), (G, H, pset P p (nt G), U, R, T, W, L))
noncomputable def f_times (p a k : Int32) : st → Int32 × st
  | (G, H, P, U, R, T, W, L) => match px p6 p, px p6 a with
    | some p, some a => match px (pR 0 1000000000) k with
      | none => (-2, (G, H, P, U, R, T, W, L))
      | some k => match P a with
        | none => (-6, (G, H, P, U, R, T, W, L))
        | some x => (nI (sg_sum G (tms G x k)), (G, H, pset P p (tms G x k), U, R, T, W, L))
    | _, _ => (-1, (G, H, P, U, R, T, W, L))
noncomputable def f_opposite (p a : Int32) : st → Int32 × st
  | (G, H, P, U, R, T, W, L) => match px p6 p, px p6 a with
    | some p, some a => match P a with
      | none => (-6, (G, H, P, U, R, T, W, L))
      | some x => (nI (sg_sum G (opp G x)), (G, H, pset P p (opp G x), U, R, T, W, L))
    | _, _ => (-1, (G, H, P, U, R, T, W, L))
noncomputable def f_order (p : Int32) : st → Int32
  | (G, _, P, _) => match px p6 p with
    | none => -1
    | some p => match P p with
      | none => -6
      | some x => (fst1 (fun n => feq (orn G x n) (nt G)) 1 2000).elim (-5) nI
noncomputable def f_one (a b : Int32) : st → Int32
  | (G, _, P, _) => match px p6 a, px p6 b with
    | some a, some b => match P a, P b with
      | some x, some y => if feq x y = true then 2 else if feq (stt G (vad (nt G) x)) (stt G (vad (nt G) y)) = true then 1 else 0
      | _, _ => -6
    | _, _ => -1
def f_group : st → Int64
  | (G, _) => Int64.ofInt (grp G)
noncomputable def f_burn (p w : Int32) : st → Int32
  | (G, _, P, _) => match px p6 p with
    | none => -1
    | some p => match px (pR 0 2) w with
      | some w => match P p with
        | none => -6
        | some x => if w = 0 then (if ubt G x = 0 then 1 else 0) else if w = 1 then nI (bnd G x) else ubt G x
      | none => match px (sg_p G) (w - 100) with
        | none => -1
        | some c => match P p with
          | none => -6
          | some x => if bfn G x c = 0 then -5 else nI (bfn G x c)
def plc (G : sg_G) (code : Nat) : Nat → Nat := fun c => code / 4 ^ (sg_pm G c).length % 4
noncomputable def f_through : st → Int32
  | (G, _) => if 6 < (sg_P G).length then -3 else nI (ssum (4 ^ (sg_P G).length) fun code => if ubt G (plc G code) = 0 then 1 else 0)
noncomputable def f_avalanche (cell w : Int32) : st → Int32
  | (G, H, _) => match px (sg_p G) cell, px (pR 0 3) w with
    | some c, some w => if (sg_P G).all (fun d => decide (H d ≤ 3)) = true then (match w with
      | 0 => nI (ssum 16 (od G (sg_ad H c 1)))
      | 1 => bts (fun d => decide (0 < od G (sg_ad H c 1) d)) (List.range 16)
      | 2 => nI (sg_lost G (od G (sg_ad H c 1)))
      | _ => nI (rdn G (sg_ad H c 1))) else -3
    | _, _ => -1
noncomputable def agn (G : sg_G) (H : Nat → Nat) (c : Nat) : Nat → Nat → Nat
  | 0 => stt G H
  | n + 1 => stt G (sg_ad (agn G H c n) c 1)
noncomputable def aga (G : sg_G) (H : Nat → Nat) (c n : Nat) : Option Nat := fst1 (fun k => feq (agn G H c k) (agn G H c n)) 0 n
noncomputable def f_again (cell w : Int32) : st → Int32
  | (G, H, _) => match px (sg_p G) cell, px (pR 0 1) w with
    | some c, some w => match fst1 (fun n => (aga G H c n).isSome) 1 2000 with
      | none => -5
      | some n => if w = 0 then nI (n - (aga G H c n).getD 0) else nI ((aga G H c n).getD 0)
    | _, _ => -1
/-- grains by lots: the seed's number, heights, sizes, what is lost, sizes together, the greatest -/
abbrev lq : Type := Int32 × (Nat → Nat) × List (Nat × Nat) × Nat × Nat × Nat
def lz (z : Int32) : Int32 := z * 1103515245 + 12345
def lnum (z : Int32) (many : Nat) : Nat := (z &&& 2147483647).toBitVec.toNat / 65536 % many
noncomputable def lnx (G : sg_G) (q : lq) : lq :=
  let z := lz q.1
  let h := sg_ad q.2.1 ((sg_P G).getD (lnum z (sg_P G).length) 0) 1
  (z, stt G h, tadd (ssum 16 (od G h)) q.2.2.1, q.2.2.2.1 + sg_lost G (od G h), q.2.2.2.2.1 + ssum 16 (od G h), max q.2.2.2.2.2 (ssum 16 (od G h)))
noncomputable def lrn (G : sg_G) (H : Nat → Nat) (seed : Int32) : Nat → lq
  | 0 => (seed, stt G H, [], 0, 0, 0)
  | n + 1 => lnx G (lrn G H seed n)
noncomputable def f_lots (seed n w : Int32) : st → Int32
  | (G, H, _) => match px (fun m => m ≤ 3 ∨ 100 ≤ m) w with
    | none => -1
    | some w => match px (pR 1 200) n with
      | none => -2
      | some n => if (sg_P G).length = 0 then -3 else if 400 ≤ w then ((lrn G H seed n).2.2.1[w - 400]?).elim (-5) (fun q => nI q.2) else if 100 ≤ w then ((lrn G H seed n).2.2.1[w - 100]?).elim (-5) (fun q => nI q.1) else if w = 0 then nI (lrn G H seed n).2.2.2.1 else if w = 1 then nI (lrn G H seed n).2.2.2.2.1 else if w = 2 then nI (lrn G H seed n).2.2.2.2.2 else nI (lrn G H seed n).2.2.1.length
noncomputable def jgo (G : sg_G) : List Int32 → Nat → (Nat → Nat) → Option Nat
  | [], _, _ => none
  | x :: l, i, H => match px (sg_p G) x with
    | none => some i
    | some c => if H c < 4 then some i else jgo G l (i + 1) (sg_tp G H c 1)
noncomputable def f_judge (q : Int32) : st → Int32
  | (G, H, _, _, _, _, _, L) => match px p4 q with
    | none => -1
    | some q => match L q with
      | none => -11
      | some l => (jgo G l 0 H).elim (-5) nI
noncomputable def tld (l : List Int32) (j : Nat) : Option Nat := match l[j]? with
  | none => none
  | some x => px (pR 0 1000000) x
noncomputable def tnv (l : List Int32) (j : Nat) : Nat := (tld l j).getD 0
noncomputable def stu (G : sg_G) (l : List Int32) : Option Nat := fst1 (fun j => (tld l j).isNone) 0 (sg_P G).length
noncomputable def sts (G : sg_G) (H : Nat → Nat) (l : List Int32) : Option Nat := fst1 (fun j => decide (3 + 4 * tnv l j < H ((sg_P G).getD j 0) + lsum (fun o => tnv l (sg_pm G o).length) (sg_nb G ((sg_P G).getD j 0)))) 0 (sg_P G).length
noncomputable def f_steadies (q : Int32) : st → Int32
  | (G, H, _, _, _, _, _, L) => match px p4 q with
    | none => -1
    | some q => match L q with
      | none => -11
      | some l => match stu G l with
        | some j => nI j
        | none => (sts G H l).elim (-5) nI
noncomputable def f_film (q : Int32) : st → Int32 × st
  | (G, H, P, U, R, T, W, L) => match px p4 q with
    | none => (-1, (G, H, P, U, R, T, W, L))
    | some q => (nI (sg_P G).length, (G, H, P, U, R, T, W, pset L q ((sg_P G).map fun c => nI (od G H c))))
noncomputable def f_list (q n : Int32) : st → Int32 × st
  | (G, H, P, U, R, T, W, L) => match px p4 q with
    | none => (-1, (G, H, P, U, R, T, W, L))
    | some q => match px (pR 0 40) n with
      | none => if n < 0 then (-14, (G, H, P, U, R, T, W, L)) else (-2, (G, H, P, U, R, T, W, L))
      | some n => (1, (G, H, P, U, R, T, W, pset L q (List.replicate n 0)))
noncomputable def f_put (q i v : Int32) : st → Int32 × st
  | (G, H, P, U, R, T, W, L) => match px p4 q with
    | none => (-1, (G, H, P, U, R, T, W, L))
    | some q => match L q with
      | none => (-11, (G, H, P, U, R, T, W, L))
      | some l => match px (fun m => m < l.length) i with
        | none => (-13, (G, H, P, U, R, T, W, L))
        | some i => (1, (G, H, P, U, R, T, W, pset L q (l.set i v)))
noncomputable def f_get (q i : Int32) : st → Int64
  | (_, _, _, _, _, _, _, L) => match px p4 q with
    | none => -9223372036854775808
    | some q => match L q with
      | none => -9223372036854775808
      | some l => match px (fun m => m < l.length) i with
        | none => -9223372036854775808
        | some i => (l.getD i 0).toInt64
def f_undo : st → Int32 × st
  | (G, H, P, [], R, T, W, L) => (-3, (G, H, P, [], R, T, W, L))
  | (G, H, P, h :: U, R, T, W, L) => (nI U.length, (G, h, P, U, H :: R, T, W, L))
def f_redo : st → Int32 × st
  | (G, H, P, U, [], T, W, L) => (-3, (G, H, P, U, [], T, W, L))
  | (G, H, P, U, h :: R, T, W, L) => (nI R.length, (G, h, P, H :: U, R, T, W, L))
noncomputable def f_count (w : Int32) : st → Int32
  | (G, H, P, U, R, T, W, _) => match px (fun m => m < 9) w with
    | some 0 => nI (sg_n G)
    | some 1 => nI G.2.1
    | some 2 => nI (sg_P G).length
    | some 3 => nI (sg_sum G H)
    | some 4 => nI (phd P)
    | some 5 => nI T.length
    | some 6 => (match W with | none => nI 0 | some _ => nI 3)
    | some 7 => nI U.length
    | some 8 => nI R.length
    | _ => -2
/-! bounds are kept -/
theorem take8_mem {H h : Nat → Nat} {U : List (Nat → Nat)} (q : h ∈ (H :: U).take 8) : h = H ∨ h ∈ U := List.mem_cons.mp (List.mem_of_mem_take q)
theorem take8_len (H : Nat → Nat) (U : List (Nat → Nat)) : ((H :: U).take 8).length + ([] : List (Nat → Nat)).length ≤ 8 := by
  rw [List.length_take, List.length_nil]
  omega
theorem gwal_ok {G : sg_G} (hG : sg_ok G) (c : Nat) (b : Bool) : sg_ok (gwal G c b) := hG
theorem sO_h {B B' : Nat} {G : sg_G} {H H' : Nat → Nat} {P : Nat → Option (Nat → Nat)} {U R : List (Nat → Nat)} {T : List Nat} {W : Option (Nat × Nat)} {L : Nat → Option (List Int32)} (h : sO B (G, H, P, U, R, T, W, L)) (hb : B ≤ B') (hz' : hz G B' H') : sO B' (G, H', P, (H :: U).take 8, [], T, W, L) := by
  obtain ⟨h1, h2, h3, h4⟩ := h
  refine ⟨h1, take8_len H U, fun g q => ?_, h4⟩
  rcases q with rfl | q | q
  · exact hz'
  · exact ((h3 g ((take8_mem q).elim Or.inl (fun z => Or.inr (Or.inl z))))).mono hb
  · exact absurd q List.not_mem_nil
theorem sO_p {B : Nat} {G : sg_G} {H : Nat → Nat} {P : Nat → Option (Nat → Nat)} {U R : List (Nat → Nat)} {T : List Nat} {W : Option (Nat × Nat)} {L : Nat → Option (List Int32)} {p : Nat} {x : Nat → Nat} (h : sO B (G, H, P, U, R, T, W, L)) (hx : hz G 3 x) : sO B (G, H, pset P p x, U, R, T, W, L) := by
  obtain ⟨h1, h2, h3, h4, h5⟩ := h
  refine ⟨h1, h2, h3, fun i g q => ?_, h5⟩
  unfold pset at q
  split at q
  · cases q; exact hx
  · exact h4 i g q
theorem sO_l {B : Nat} {G : sg_G} {H : Nat → Nat} {P : Nat → Option (Nat → Nat)} {U R : List (Nat → Nat)} {T : List Nat} {W : Option (Nat × Nat)} {L : Nat → Option (List Int32)} {p : Nat} {x : List Int32} (h : sO B (G, H, P, U, R, T, W, L)) (hx : x.length ≤ 40) : sO B (G, H, P, U, R, T, W, pset L p x) := by
  obtain ⟨h1, h2, h3, h4, h5, h6, h7⟩ := h
  refine ⟨h1, h2, h3, h4, h5, h6, fun i g q => ?_⟩
  unfold pset at q
  split at q
  · cases q; exact hx
  · exact h7 i g q
/-- a new grid: piles and changes are gone -/
theorem sO_g {B B' : Nat} {G G' : sg_G} {H H' : Nat → Nat} {P : Nat → Option (Nat → Nat)} {U R : List (Nat → Nat)} {T : List Nat} {W : Option (Nat × Nat)} {L : Nat → Option (List Int32)} (h : sO B (G, H, P, U, R, T, W, L)) (hG : sg_ok G') (hh : hz G' B' H') : sO B' (G', H', pno, [], [], T, W, L) := by
  obtain ⟨h1, h2, h3, h4, h5⟩ := h
  refine ⟨hG, Nat.zero_le _, fun g q => ?_, (fun i g q => by cases q), h5⟩
  rcases q with rfl | q | q
  · exact hh
  · exact absurd q List.not_mem_nil
  · exact absurd q List.not_mem_nil
theorem sO_H {B : Nat} {G : sg_G} {H : Nat → Nat} {P : Nat → Option (Nat → Nat)} {U R : List (Nat → Nat)} {T : List Nat} {W : Option (Nat × Nat)} {L : Nat → Option (List Int32)} (h : sO B (G, H, P, U, R, T, W, L)) : hz G B H := h.2.2.1 H (Or.inl rfl)
theorem O_size {B : Nat} {S : st} (r c : Int32) (h : sO B S) : sO B (f_size r c S).2 := by
  obtain ⟨G, H, P, U, R, T, W, L⟩ := S
  unfold f_size
  cases hr : px (pR 1 4) r with
  | none => exact h
  | some r' =>
    cases hc : px (pR 1 4) c with
    | none => exact h
    | some c' =>
      obtain ⟨a1, a2⟩ := (px_s hr).1
      obtain ⟨b1, b2⟩ := (px_s hc).1
      exact sO_g h ⟨a1, a2, b1, b2⟩ (hz_0 _ _)
theorem O_wall {B : Nat} {S : st} (cell : Int32) (b : Bool) (h : sO B S) : sO B (f_wall cell b S).2 := by
  obtain ⟨G, H, P, U, R, T, W, L⟩ := S
  unfold f_wall
  dsimp only
  split
  · exact h
  · rename_i c hc
    split
    · exact h
    · rename_i hne
      have hH := sO_H h
      refine sO_g h (gwal_ok h.1 c b) ⟨fun k hk => ?_, fun k => ?_⟩
      · unfold hset
        by_cases e : k = c
        · rw [if_pos e]
        · rw [if_neg e]
          refine hH.1 k (fun z => hk ⟨z.1, ?_⟩)
          show (if k = c then b else G.2.2 k) = false
          rw [if_neg e]; exact z.2
      · unfold hset
        split
        · exact Nat.zero_le _
        · exact hH.2 k
theorem hz_set {G : sg_G} {B B' : Nat} {H : Nat → Nat} {c v : Nat} (h : hz G B H) (hb : B ≤ B') (hc : sg_p G c) (hv : v ≤ B') : hz G B' (hset H c v) := by
  refine ⟨fun k hk => ?_, fun k => ?_⟩
  · unfold hset
    rw [if_neg (fun e => hk (by rw [e]; exact hc))]
    exact h.1 k hk
  · unfold hset
    split
    · exact hv
    · exact Nat.le_trans (h.2 k) hb
theorem O_set {B : Nat} {S : st} (cell v : Int32) (hB : 999 ≤ B) (h : sO B S) : sO B (f_set cell v S).2 := by
  obtain ⟨G, H, P, U, R, T, W, L⟩ := S
  unfold f_set
  dsimp only
  split
  · exact h
  · rename_i c hc
    split
    · exact h
    · rename_i w hw
      have := (px_s hw).1.2
      exact sO_h h (Nat.le_refl _) (hz_set (sO_H h) (Nat.le_refl _) (px_s hc).1 (by omega))
theorem hz_ad {G : sg_G} {B B' : Nat} {H : Nat → Nat} {c n : Nat} (h : hz G B H) (hc : sg_p G c) (hb : B ≤ B') (hv : H c + n ≤ B') : hz G B' (sg_ad H c n) := by
  refine ⟨fun k hk => ?_, fun k => ?_⟩
  · unfold sg_ad
    rw [if_neg (fun e => hk (by rw [e]; exact hc))]
    exact h.1 k hk
  · unfold sg_ad
    split
    · rename_i e; rw [e]; exact hv
    · exact Nat.le_trans (h.2 k) hb
theorem O_drop {B : Nat} {S : st} (cell n : Int32) (hB : 999 ≤ B) (h : sO B S) : sO B (f_drop cell n S).2 := by
  obtain ⟨G, H, P, U, R, T, W, L⟩ := S
  unfold f_drop
  dsimp only
  split
  · exact h
  · rename_i c hc
    split
    · exact h
    · split
      · exact h
      · rename_i hle
        exact sO_h h (Nat.le_refl _) (hz_ad (sO_H h) (px_s hc).1 (Nat.le_refl _) (by omega))
theorem hz_tp {G : sg_G} {B : Nat} {H : Nat → Nat} {c : Nat} (hG : sg_ok G) (h : hz G B H) (hc : sg_p G c) : hz G (B + 1) (sg_tp G H c 1) := by
  refine ⟨fun k hk => ?_, fun k => ?_⟩
  · unfold sg_tp
    rw [if_neg (fun e => hk (by rw [e]; exact hc)), if_neg (fun q => hk (sg_nb_p hG hc.1 q).1)]
    exact h.1 k hk
  · unfold sg_tp
    have := h.2 k
    split <;> split <;> omega
theorem O_topple {B : Nat} {S : st} (cell : Int32) (h : sO B S) : sO (B + 1) (f_topple cell S).2 := by
  obtain ⟨G, H, P, U, R, T, W, L⟩ := S
  unfold f_topple
  dsimp only
  split
  · exact h.mono (by omega)
  · rename_i c hc
    split
    · exact h.mono (by omega)
    · exact sO_h h (by omega) (hz_tp h.1 (sO_H h) (px_s hc).1)
theorem O_settle {B : Nat} {S : st} (hB : 999 ≤ B) (h : sO B S) : sO B (f_settle S).2 := by
  obtain ⟨G, H, P, U, R, T, W, L⟩ := S
  exact sO_h h (Nat.le_refl _) ((stt_hz h.1 (sO_H h).1).mono (by omega))
theorem O_feed {B : Nat} {S : st} (b : Int32) (h : sO B S) : sO B (f_feed b S).2 := by
  obtain ⟨G, H, P, U, R, T, W, L⟩ := S
  unfold f_feed
  dsimp only
  split
  · exact h
  · rename_i m hm
    split
    · exact h
    · rename_i hne
      obtain ⟨h1, h2, h3, h4, ⟨h5, h6⟩, h7⟩ := h
      refine ⟨h1, h2, h3, h4, ⟨?_, fun x hx => ?_⟩, h7⟩
      · rw [List.length_append, List.length_singleton]; omega
      · rcases List.mem_append.mp hx with q | q
        · exact h6 x q
        · rw [List.mem_singleton] at q
          rw [q]; exact (px_s hm).1
theorem O_read {B : Nat} {S : st} (hB : 999 ≤ B) (h : sO B S) : sO B (f_read S).2 := by
  obtain ⟨G, H, P, U, R, T, W, L⟩ := S
  unfold f_read
  dsimp only
  obtain ⟨t1, t2⟩ := trun_ok T 0 (0, 0, 0, []) tok_0
  split
  · rename_i fa s c e
    obtain ⟨-, a1, a2, a3⟩ := t1 fa s c e
    obtain ⟨h1, h2, h3, h4, h5, h6, h7⟩ := h
    exact ⟨h1, h2, h3, h4, ⟨Nat.zero_le _, fun b hb => absurd hb List.not_mem_nil⟩, fun s' c' e' => by cases e'; exact ⟨a1, a2, a3⟩, h7⟩
  · rename_i q e
    obtain ⟨⟨k1, k2, k3, k4, k5, k6, k7⟩, hw⟩ := t2 q e
    obtain ⟨s, w, r, v⟩ := q
    dsimp only at k1 k2 k3 k4 k5 k6 k7 hw ⊢
    have hr4 : r ≤ 4 := by unfold tmost at k3; split at k3 <;> omega
    have hr1 : 1 ≤ r := by
      unfold twh at hw
      by_cases z : s = 0
      · rw [if_pos z, decide_eq_true_eq] at hw; exact hw
      · rw [if_neg z, decide_eq_true_eq] at hw
        rw [hw]; exact k5 (by omega)
    have hlen : v.length = (s + 1) * r := by
      rw [k6]
      unfold twh at hw
      by_cases z : s = 0
      · rw [z]; omega
      · rw [if_neg z, decide_eq_true_eq] at hw
        rw [hw, Nat.add_mul]; omega
    obtain ⟨h1, h2, h3, h4, h5, h6, h7⟩ := h
    refine sO_g (T := []) (W := none) (G := G) (H := H) (P := P) (U := U) (R := R) ⟨h1, h2, h3, h4, ⟨Nat.zero_le _, fun b hb => absurd hb List.not_mem_nil⟩, (fun s c e => by cases e), h7⟩ ⟨by dsimp only; omega, by dsimp only; omega, hr1, hr4⟩ ⟨fun c hc => ?_, fun c => ?_⟩
    · unfold tgh
      split
      · rename_i d hd
        exfalso
        refine hc ⟨?_, ?_⟩
        · show c < (s + 1) * r
          rw [← hlen]; exact (List.getElem?_eq_some_iff.mp hd).1
        · show tgw v c = false
          unfold tgw
          rw [hd]
      · rfl
    · unfold tgh
      split
      · rename_i d hd
        have := k7 d (List.mem_of_getElem? hd)
        omega
      · exact Nat.zero_le _
theorem O_keep {B : Nat} {S : st} (p : Int32) (h : sO B S) : sO B (f_keep p S).2 := by
  obtain ⟨G, H, P, U, R, T, W, L⟩ := S
  unfold f_keep
  dsimp only
  split
  · exact h
  · exact sO_p h (stt_hz h.1 (sO_H h).1)
theorem O_load {B : Nat} {S : st} (p : Int32) (hB : 999 ≤ B) (h : sO B S) : sO B (f_load p S).2 := by
  obtain ⟨G, H, P, U, R, T, W, L⟩ := S
  unfold f_load
  dsimp only
  split
  · exact h
  · split
    · exact h
    · rename_i x hx
      exact sO_h h (Nat.le_refl _) ((h.2.2.2.1 _ x hx).mono (by omega))
theorem O_sum {B : Nat} {S : st} (p a b : Int32) (h : sO B S) : sO B (f_sum p a b S).2 := by
  obtain ⟨G, H, P, U, R, T, W, L⟩ := S
  unfold f_sum
  dsimp only
  split
  · split
    · rename_i x y hx hy
      exact sO_p h (svad_hz h.1 (h.2.2.2.1 _ x hx) (h.2.2.2.1 _ y hy))
    · exact h
  · exact h
theorem O_nought {B : Nat} {S : st} (p : Int32) (h : sO B S) : sO B (f_nought p S).2 := by
  obtain ⟨G, H, P, U, R, T, W, L⟩ := S
  unfold f_nought
  dsimp only
  split
  · exact h
  · exact sO_p h (nt_hz h.1)
theorem O_times {B : Nat} {S : st} (p a k : Int32) (h : sO B S) : sO B (f_times p a k S).2 := by
  obtain ⟨G, H, P, U, R, T, W, L⟩ := S
  unfold f_times
  dsimp only
  split
  · split
    · exact h
    · split
      · exact h
      · rename_i x hx
        exact sO_p h (tml_hz h.1 _ _ (nt_hz h.1) (h.2.2.2.1 _ x hx))
  · exact h
theorem O_opposite {B : Nat} {S : st} (p a : Int32) (h : sO B S) : sO B (f_opposite p a S).2 := by
  obtain ⟨G, H, P, U, R, T, W, L⟩ := S
  unfold f_opposite
  dsimp only
  split
  · split
    · exact h
    · exact sO_p h (opp_hz h.1 _)
  · exact h
theorem O_film {B : Nat} {S : st} (q : Int32) (h : sO B S) : sO B (f_film q S).2 := by
  obtain ⟨G, H, P, U, R, T, W, L⟩ := S
  unfold f_film
  dsimp only
  split
  · exact h
  · refine sO_l h ?_
    rw [List.length_map]
    exact Nat.le_trans (sg_P_len h.1) (by decide)
theorem O_list {B : Nat} {S : st} (q n : Int32) (h : sO B S) : sO B (f_list q n S).2 := by
  obtain ⟨G, H, P, U, R, T, W, L⟩ := S
  unfold f_list
  dsimp only
  split
  · exact h
  · split
    · split <;> exact h
    · rename_i m hm
      refine sO_l h ?_
      rw [List.length_replicate]
      exact (px_s hm).1.2
theorem O_put {B : Nat} {S : st} (q i v : Int32) (h : sO B S) : sO B (f_put q i v S).2 := by
  obtain ⟨G, H, P, U, R, T, W, L⟩ := S
  unfold f_put
  dsimp only
  split
  · exact h
  · split
    · exact h
    · rename_i l hl
      split
      · exact h
      · refine sO_l h ?_
        rw [List.length_set]
        exact h.2.2.2.2.2.2 _ l hl
theorem O_undo {B : Nat} {S : st} (h : sO B S) : sO B (f_undo S).2 := by
  obtain ⟨G, H, P, U, R, T, W, L⟩ := S
  match U, h with
  | [], h => exact h
  | u :: U, h =>
    obtain ⟨h1, h2, h3, h4⟩ := h
    refine ⟨h1, ?_, fun g q => h3 g ?_, h4⟩
    · show U.length + (H :: R).length ≤ 8
      simp only [List.length_cons] at h2 ⊢; omega
    · rcases q with rfl | q | q
      · exact Or.inr (Or.inl List.mem_cons_self)
      · exact Or.inr (Or.inl (List.mem_cons_of_mem _ q))
      · rcases List.mem_cons.mp q with rfl | q
        · exact Or.inl rfl
        · exact Or.inr (Or.inr q)
theorem O_redo {B : Nat} {S : st} (h : sO B S) : sO B (f_redo S).2 := by
  obtain ⟨G, H, P, U, R, T, W, L⟩ := S
  match R, h with
  | [], h => exact h
  | u :: R, h =>
    obtain ⟨h1, h2, h3, h4⟩ := h
    refine ⟨h1, ?_, fun g q => h3 g ?_, h4⟩
    · show (H :: U).length + R.length ≤ 8
      simp only [List.length_cons] at h2 ⊢; omega
    · rcases q with rfl | q | q
      · exact Or.inr (Or.inr List.mem_cons_self)
      · rcases List.mem_cons.mp q with rfl | q
        · exact Or.inl rfl
        · exact Or.inr (Or.inl q)
      · exact Or.inr (Or.inr (List.mem_cons_of_mem _ q))
