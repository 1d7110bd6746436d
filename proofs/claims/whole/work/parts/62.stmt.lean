/-! ===== statements, purely: reading, blame, NAMES, code, what is printed ===== -/
abbrev bgS (c : Nat) : Prop := c = 2 ∨ c = 43 ∨ c = 44 ∨ c = 47 ∨ c = 48 ∨ c = 50 ∨ c = 51
/-- a tree, where it ends, statements so far, lets that can be seen -/
abbrev Q4 : Type := Tr × Nat × Nat × Nat
section PureSt
variable (kd : Nat → Nat) (vl : Nat → Int)
def pNm (full : Prop) [Decidable full] (i : Nat) : PE Nat := if kd i = 2 ∧ full then .error (2, i) else ex kd 2 i
def pSet (m c l i : Nat) : PE Q4 := bnd (ex kd 2 i) (fun i1 => bnd (ex kd 12 i1) (fun i2 => bnd (pE kd m i2) (fun q => bnd (ex kd 4 q.2) (fun j => .ok (nd 11 i q.2 q.1 nl, j, c, l)))))
def pLet (m c l i : Nat) : PE Q4 := bnd (ex kd 43 i) (fun i1 => bnd (pNm kd (8 ≤ l) i1) (fun i2 => bnd (ex kd 12 i2) (fun i3 => bnd (pE kd m i3) (fun q => bnd (ex kd 4 q.2) (fun j => .ok (nd 12 i1 q.2 q.1 nl, j, c, l + 1))))))
def pSend (m c l i : Nat) : PE Q4 := bnd (ex kd 44 i) (fun i1 => bnd (ex kd 2 i1) (fun i2 => bnd (pE kd m i2) (fun q => bnd (ex kd (if kd q.2 = 46 then 46 else 45) q.2) (fun i3 => bnd (ex kd 4 i3) (fun j => .ok (nd 13 i1 i3 q.1 nl, j, c, l))))))
def pGive (m c l i : Nat) : PE Q4 := bnd (ex kd 47 i) (fun i1 => bnd (ex kd 2 i1) (fun i2 => bnd (pE kd m i2) (fun q => bnd (ex kd 4 q.2) (fun j => .ok (nd 14 i1 q.2 q.1 nl, j, c, l)))))
def pIf (blk : Nat → Nat → Nat → PE (Tr × Nat × Nat)) (m c l i : Nat) : PE Q4 := bnd (ex kd 48 i) (fun i1 => bnd (pE kd m i1) (fun q => bnd (blk c l q.2) (fun b1 => if kd b1.2.1 = 49 then bnd (ex kd 49 b1.2.1) (fun i2 => bnd (blk b1.2.2 l i2) (fun b2 => .ok (nd 15 i 0 q.1 (nd 9 0 b1.2.1 b1.1 b2.1), b2.2.1, b2.2.2, l))) else .ok (nd 15 i 0 q.1 (nd 9 0 0 b1.1 nl), b1.2.1, b1.2.2, l))))
def pLoop (blk : Nat → Nat → Nat → PE (Tr × Nat × Nat)) (c l i : Nat) : PE Q4 := bnd (ex kd 50 i) (fun i1 => bnd (if kd i1 = 3 ∧ 100 < vl i1 then .error (2, i1) else ex kd 3 i1) (fun i2 => bnd (blk c l i2) (fun b1 => .ok (nd 16 i1 0 b1.1 nl, b1.2.1, b1.2.2, l))))
def pHalt (c l i : Nat) : PE Q4 := bnd (ex kd 51 i) (fun i1 => bnd (ex kd 4 i1) (fun j => .ok (nd 17 i 0 nl nl, j, c, l)))
def pSt (blk : Nat → Nat → Nat → PE (Tr × Nat × Nat)) (m c l i : Nat) : PE Q4 :=
  if 120 ≤ c then .error (2, i)
  else if kd i = 2 then pSet kd m (c + 1) l i else if kd i = 43 then pLet kd m (c + 1) l i else if kd i = 44 then pSend kd m (c + 1) l i else if kd i = 47 then pGive kd m (c + 1) l i else if kd i = 48 then pIf kd blk m (c + 1) l i else if kd i = 50 then pLoop kd vl blk (c + 1) l i else pHalt kd (c + 1) l i
def pSL (st : Nat → Nat → Nat → PE Q4) : Nat → Nat → Nat → Nat → PE (Tr × Nat × Nat)
  | 0, c, _, i => .ok (nl, i, c)
  | f + 1, c, l, i => if bgS (kd i) then bnd (st c l i) (fun q => bnd (pSL st f q.2.2.1 q.2.2.2 q.2.1) (fun z => .ok (nd 20 0 0 q.1 z.1, z.2.1, z.2.2))) else .ok (nl, i, c)
def pBk : Nat → Nat → Nat → Nat → PE (Tr × Nat × Nat)
  | 0, _, _, i => if kd i = 5 then .error (2, i) else .error (1, i)
  | n + 1, c, l, i => bnd (ex kd 5 i) (fun i1 => bnd (pSL kd (pSt kd vl (pBk n) n) 121 c l i1) (fun z => bnd (ex kd 6 z.2.1) (fun j => .ok (nd 21 i z.2.1 z.1 nl, j, z.2.2))))
end PureSt
/-- the first TOKEN of a statement -/
def fsS : Tr → Nat
  | .leaf => 0
  | .inner c t _ _ _ => if c = 12 ∨ c = 13 ∨ c = 14 ∨ c = 16 then t - 1 else t
/-- how many deeds: of a statement all but its first -/
def nK : Tr → Nat
  | .leaf => 0
  | .inner c _ q l r => if c = 11 ∨ c = 12 ∨ c = 14 then nD l + 1 else if c = 13 then nD l + 3 else if c = 15 then nD l + 1 + nK r else if c = 9 then nK l + (if q = 0 then 0 else 1 + nK r) else if c = 16 then nK l + 3 else if c = 17 then 1 else if c = 20 then 1 + nK l + nK r else nK l
def lK : Tr → Nat
  | .leaf => 0
  | .inner _ _ q l _ => nK l + (if q = 0 then 0 else 1)
section MeanS
variable (T : Nat → Int) (L : Nat)
def eSt (E : List En) : Tr → List En
  | .leaf => E
  | .inner c t _ l _ => if c = 12 then E ++ [(t, 4, cntE 4 E, (knT T L E false l).toNat)] else E
/-- the entry that is named, if it is of this sort -/
def nmE (E : List En) (so : Int) (t : Nat) : Option En := if eSo (fnd T L E t) = so then fnd T L E t else none
def jS : Tr → List En → Nat
  | .leaf, _ => 100000
  | .inner c t _ l r, E =>
    if c = 11 then min (min (if eSo (fnd T L E t) = 1 ∨ eSo (fnd T L E t) = 4 then 100000 else tAt T L t * 8 + 4) (jkT T L E false l)) (dm T L (knT T L E false l) (if eSo (fnd T L E t) = 1 ∨ eSo (fnd T L E t) = 4 then eKi (fnd T L E t) else 0) (fst_ l))
    else if c = 12 then min (if fnd T L E t = none then 100000 else tAt T L t * 8 + 3) (jkT T L E false l)
    else if c = 13 then min (min (if eSo (fnd T L E t) = 2 then 100000 else tAt T L t * 8 + 4) (jkT T L E true l)) (dm T L (knT T L E true l) (eKi (nmE T L E 2 t)) (fst_ l))
    else if c = 14 then min (min (if eSo (fnd T L E t) = 3 then 100000 else tAt T L t * 8 + 4) (jkT T L E false l)) (dm T L (knT T L E false l) (eKi (nmE T L E 3 t)) (fst_ l))
    else if c = 15 then min (min (jkT T L E false l) (dm T L (knT T L E false l) 2 (fst_ l))) (jS r E)
    else if c = 9 then min (jS l E) (jS r E)
    else if c = 20 then min (jS l E) (jS r (eSt T L E l))
    else if c = 17 then 100000
    else jS l E
/-- an exp's deeds with their home -/
abbrev hX (E : List En) (a : Tr) (s : Nat) (h : Int) : List Hd := (cmT T L E a s).map (fun e => (e.1, e.2.1, e.2.2, h))
def cmS : Tr → List En → Nat → Nat → Int → List Hd
  | .leaf, _, _, _, _ => []
  | .inner c t q l r, E, s, lp, h =>
    if c = 11 then hX T L E l s h ++ [((if eSo (fnd T L E t) = 4 then 27 else 26), eNu (fnd T L E t), 0, h)]
    else if c = 12 then hX T L E l s h ++ [(27, ((cntE 4 E : Nat) : Int), 0, h)]
    else if c = 13 then (24, ((s + 1 + nD l + 2 : Nat) : Int), (if kdT T L (q - 1) = 46 then 1 else 0), h) :: (hX T L E l (s + 1) h ++ [(28, eNu (nmE T L E 2 t), 0, h), (25, ((s + 1 : Nat) : Int), 0, h)])
    else if c = 14 then hX T L E l s h ++ [(29, eNu (nmE T L E 3 t), 0, h)]
    else if c = 15 then hX T L E l s h ++ ((20, ((s + nD l + 1 + lK r : Nat) : Int), 0, h) :: cmS r E (s + nD l + 1) lp h)
    else if c = 9 then cmS l E s lp h ++ (if q = 0 then [] else (21, ((s + nK l + 1 + nK r : Nat) : Int), 0, h) :: cmS r E (s + nK l + 1) lp h)
    else if c = 16 then (22, tVl T L (tAt T L t), (lp : Int), h) :: (23, ((s + 2 + nK l + 1 : Nat) : Int), (lp : Int), h) :: (cmS l E (s + 2) (lp + 1) h ++ [(21, ((s + 1 : Nat) : Int), 0, h)])
    else if c = 17 then [(30, 0, 0, h)]
    else if c = 20 then (19, 0, 0, ((tAt T L (fsS l) : Nat) : Int)) :: (cmS l E (s + 1) lp ((tAt T L (fsS l) : Nat) : Int) ++ cmS r (eSt T L E l) (s + 1 + nK l) lp h)
    else cmS l E s lp h
end MeanS
/-- the TOKENS that are printed -/
def oP (kd : Nat → Nat) : Tr → List Nat
  | .leaf => []
  | .inner c t q l r =>
    if c = 11 then t :: (t + 1) :: (oS kd l 1 ++ [q]) else if c = 12 then (t - 1) :: t :: (t + 1) :: (oS kd l 1 ++ [q]) else if c = 13 then (t - 1) :: t :: (oS kd l 1 ++ [q - 1, q]) else if c = 14 then (t - 1) :: t :: (oS kd l 1 ++ [q])
    else if c = 15 then t :: (oS kd l 1 ++ oP kd r) else if c = 9 then oP kd l ++ (if q = 0 then [] else q :: oP kd r) else if c = 16 then (t - 1) :: t :: oP kd l else if c = 17 then [t, t + 1]
    else if c = 20 then oP kd l ++ oP kd r else t :: (oP kd l ++ [q])
/-! what the reading of statements keeps -/
/-- blocks: where, how long, how many deeds, how many statements -/
def GB (c i : Nat) (q : Tr × Nat × Nat) : Prop := (∃ z s, q.1 = nd 21 i z s nl ∧ q.2.1 = z + 1) ∧ i < q.2.1 ∧ q.2.1 ≤ 1000 ∧ nK q.1 + 2 ≤ q.2.1 - i ∧ c ≤ q.2.2 ∧ q.2.2 ≤ 120
def GS (i : Nat) (q : Q4) : Prop := fsS q.1 = i ∧ i < q.2.1 ∧ q.2.1 ≤ 1000 ∧ 1 + nK q.1 ≤ q.2.1 - i
section PureGS
variable {kd : Nat → Nat} {vl : Nat → Int}
theorem pE_gw {n i : Nat} {q : Tr × Nat} (h : pE kd n i = .ok q) : GW i q := cL_gw h
theorem pNm_ok {full : Prop} [Decidable full] {i j : Nat} (h : pNm kd full i = .ok j) : kd i = 2 ∧ j = i + 1 ∧ ¬ 1000 ≤ i ∧ ¬ full := by
  unfold pNm at h
  split at h
  · cases h
  · rename_i h1
    obtain ⟨a, b, c⟩ := ex_ok h
    exact ⟨a, b, c, fun z => h1 ⟨a, z⟩⟩
theorem pSet_ok {m c l i : Nat} {r : Q4} (h : pSet kd m c l i = .ok r) : ∃ q : Tr × Nat, pE kd m (i + 1 + 1) = .ok q ∧ r = (nd 11 i q.2 q.1 nl, q.2 + 1, c, l) ∧ GW (i + 1 + 1) q ∧ kd i = 2 ∧ kd (i + 1) = 12 ∧ kd q.2 = 4 ∧ q.2 < 1000 := by
  unfold pSet at h
  obtain ⟨i1, h1, h⟩ := bnd_ok h
  obtain ⟨k1, rfl, -⟩ := ex_ok h1
  obtain ⟨i2, h2, h⟩ := bnd_ok h
  obtain ⟨k2, rfl, -⟩ := ex_ok h2
  obtain ⟨q, h3, h⟩ := bnd_ok h
  obtain ⟨j, h4, h⟩ := bnd_ok h
  obtain ⟨k4, rfl, k5⟩ := ex_ok h4
  cases h
  exact ⟨q, h3, rfl, pE_gw h3, k1, k2, k4, by omega⟩
theorem pLet_ok {m c l i : Nat} {r : Q4} (h : pLet kd m c l i = .ok r) : ∃ q : Tr × Nat, pE kd m (i + 1 + 1 + 1) = .ok q ∧ r = (nd 12 (i + 1) q.2 q.1 nl, q.2 + 1, c, l + 1) ∧ GW (i + 1 + 1 + 1) q ∧ kd i = 43 ∧ kd (i + 1) = 2 ∧ kd (i + 1 + 1) = 12 ∧ kd q.2 = 4 ∧ q.2 < 1000 ∧ l < 8 := by
  unfold pLet at h
  obtain ⟨i1, h1, h⟩ := bnd_ok h
  obtain ⟨k1, rfl, -⟩ := ex_ok h1
  obtain ⟨i2, h2, h⟩ := bnd_ok h
  obtain ⟨k2, rfl, -, hl⟩ := pNm_ok h2
  obtain ⟨i3, h2', h⟩ := bnd_ok h
  obtain ⟨k3, rfl, -⟩ := ex_ok h2'
  obtain ⟨q, h3, h⟩ := bnd_ok h
  obtain ⟨j, h4, h⟩ := bnd_ok h
  obtain ⟨k4, rfl, k5⟩ := ex_ok h4
  cases h
  exact ⟨q, h3, rfl, pE_gw h3, k1, k2, k3, k4, by omega, by omega⟩
theorem pSend_ok {m c l i : Nat} {r : Q4} (h : pSend kd m c l i = .ok r) : ∃ q : Tr × Nat, pE kd m (i + 1 + 1) = .ok q ∧ r = (nd 13 (i + 1) (q.2 + 1) q.1 nl, q.2 + 1 + 1, c, l) ∧ GW (i + 1 + 1) q ∧ kd i = 44 ∧ kd (i + 1) = 2 ∧ (kd q.2 = 46 ∨ kd q.2 = 45) ∧ kd (q.2 + 1) = 4 ∧ q.2 + 1 < 1000 := by
  unfold pSend at h
  obtain ⟨i1, h1, h⟩ := bnd_ok h
  obtain ⟨k1, rfl, -⟩ := ex_ok h1
  obtain ⟨i2, h2, h⟩ := bnd_ok h
  obtain ⟨k2, rfl, -⟩ := ex_ok h2
  obtain ⟨q, h3, h⟩ := bnd_ok h
  obtain ⟨i3, h4, h⟩ := bnd_ok h
  obtain ⟨k4, rfl, k5⟩ := ex_ok h4
  obtain ⟨j, h6, h⟩ := bnd_ok h
  obtain ⟨k6, rfl, k7⟩ := ex_ok h6
  cases h
  refine ⟨q, h3, rfl, pE_gw h3, k1, k2, ?_, k6, by omega⟩
  split at k4
  · exact Or.inl k4
  · exact Or.inr k4
theorem pGive_ok {m c l i : Nat} {r : Q4} (h : pGive kd m c l i = .ok r) : ∃ q : Tr × Nat, pE kd m (i + 1 + 1) = .ok q ∧ r = (nd 14 (i + 1) q.2 q.1 nl, q.2 + 1, c, l) ∧ GW (i + 1 + 1) q ∧ kd i = 47 ∧ kd (i + 1) = 2 ∧ kd q.2 = 4 ∧ q.2 < 1000 := by
  unfold pGive at h
  obtain ⟨i1, h1, h⟩ := bnd_ok h
  obtain ⟨k1, rfl, -⟩ := ex_ok h1
  obtain ⟨i2, h2, h⟩ := bnd_ok h
  obtain ⟨k2, rfl, -⟩ := ex_ok h2
  obtain ⟨q, h3, h⟩ := bnd_ok h
  obtain ⟨j, h4, h⟩ := bnd_ok h
  obtain ⟨k4, rfl, k5⟩ := ex_ok h4
  cases h
  exact ⟨q, h3, rfl, pE_gw h3, k1, k2, k4, by omega⟩
theorem pSet_gs {m c l i : Nat} {r : Q4} (h : pSet kd m c l i = .ok r) : GS i r ∧ r.2.2.1 = c := by
  obtain ⟨q, -, rfl, ⟨⟨g1, g2, g3, g4⟩, -, -⟩, -, -, -, h5⟩ := pSet_ok h
  refine ⟨⟨by simp [fsS], ?_, ?_, ?_⟩, rfl⟩
  · show i < q.2 + 1; omega
  · show q.2 + 1 ≤ 1000; omega
  · show 1 + nK (nd 11 i q.2 q.1 nl) ≤ q.2 + 1 - i
    simp [nK]; omega
theorem pLet_gs {m c l i : Nat} {r : Q4} (h : pLet kd m c l i = .ok r) : GS i r ∧ r.2.2.1 = c := by
  obtain ⟨q, -, rfl, ⟨⟨g1, g2, g3, g4⟩, -, -⟩, -, -, -, -, h5, -⟩ := pLet_ok h
  refine ⟨⟨by simp [fsS], ?_, ?_, ?_⟩, rfl⟩
  · show i < q.2 + 1; omega
  · show q.2 + 1 ≤ 1000; omega
  · show 1 + nK (nd 12 (i + 1) q.2 q.1 nl) ≤ q.2 + 1 - i
    simp [nK]; omega
theorem pSend_gs {m c l i : Nat} {r : Q4} (h : pSend kd m c l i = .ok r) : GS i r ∧ r.2.2.1 = c := by
  obtain ⟨q, -, rfl, ⟨⟨g1, g2, g3, g4⟩, -, -⟩, -, -, -, -, h5⟩ := pSend_ok h
  refine ⟨⟨by simp [fsS], ?_, ?_, ?_⟩, rfl⟩
  · show i < q.2 + 1 + 1; omega
  · show q.2 + 1 + 1 ≤ 1000; omega
  · show 1 + nK (nd 13 (i + 1) (q.2 + 1) q.1 nl) ≤ q.2 + 1 + 1 - i
    simp [nK]; omega
theorem pGive_gs {m c l i : Nat} {r : Q4} (h : pGive kd m c l i = .ok r) : GS i r ∧ r.2.2.1 = c := by
  obtain ⟨q, -, rfl, ⟨⟨g1, g2, g3, g4⟩, -, -⟩, -, -, -, h5⟩ := pGive_ok h
  refine ⟨⟨by simp [fsS], ?_, ?_, ?_⟩, rfl⟩
  · show i < q.2 + 1; omega
  · show q.2 + 1 ≤ 1000; omega
  · show 1 + nK (nd 14 (i + 1) q.2 q.1 nl) ≤ q.2 + 1 - i
    simp [nK]; omega
theorem pHalt_ok {c l i : Nat} {r : Q4} (h : pHalt kd c l i = .ok r) : r = (nd 17 i 0 nl nl, i + 1 + 1, c, l) ∧ kd i = 51 ∧ kd (i + 1) = 4 ∧ i + 1 < 1000 := by
  unfold pHalt at h
  obtain ⟨i1, h1, h⟩ := bnd_ok h
  obtain ⟨k1, rfl, -⟩ := ex_ok h1
  obtain ⟨j, h4, h⟩ := bnd_ok h
  obtain ⟨k4, rfl, k5⟩ := ex_ok h4
  cases h
  exact ⟨rfl, k1, k4, by omega⟩
section WithBlk
variable {blk : Nat → Nat → Nat → PE (Tr × Nat × Nat)} (hb : ∀ c l i q, c ≤ 120 → blk c l i = .ok q → GB c i q)
theorem pLoop_ok {c l i : Nat} {r : Q4} (h : pLoop kd vl blk c l i = .ok r) : ∃ b1 : Tr × Nat × Nat, blk c l (i + 1 + 1) = .ok b1 ∧ r = (nd 16 (i + 1) 0 b1.1 nl, b1.2.1, b1.2.2, l) ∧ kd i = 50 ∧ kd (i + 1) = 3 ∧ vl (i + 1) ≤ 100 ∧ i + 1 < 1000 := by
  unfold pLoop at h
  obtain ⟨i1, h1, h⟩ := bnd_ok h
  obtain ⟨k1, rfl, -⟩ := ex_ok h1
  obtain ⟨i2, h2, h⟩ := bnd_ok h
  obtain ⟨b1, h3, h⟩ := bnd_ok h
  cases h
  split at h2
  · cases h2
  · rename_i hv
    obtain ⟨k2, rfl, k3⟩ := ex_ok h2
    exact ⟨b1, h3, rfl, k1, k2, by omega, by omega⟩
theorem pIf_ok {m c l i : Nat} {r : Q4} (h : pIf kd blk m c l i = .ok r) : ∃ (q : Tr × Nat) (b1 : Tr × Nat × Nat), pE kd m (i + 1) = .ok q ∧ GW (i + 1) q ∧ kd i = 48 ∧ i < 1000 ∧ blk c l q.2 = .ok b1 ∧ ((kd b1.2.1 = 49 ∧ ∃ b2 : Tr × Nat × Nat, blk b1.2.2 l (b1.2.1 + 1) = .ok b2 ∧ r = (nd 15 i 0 q.1 (nd 9 0 b1.2.1 b1.1 b2.1), b2.2.1, b2.2.2, l) ∧ b1.2.1 < 1000) ∨ (¬ kd b1.2.1 = 49 ∧ r = (nd 15 i 0 q.1 (nd 9 0 0 b1.1 nl), b1.2.1, b1.2.2, l))) := by
  unfold pIf at h
  obtain ⟨i1, h1, h⟩ := bnd_ok h
  obtain ⟨k1, rfl, k2⟩ := ex_ok h1
  obtain ⟨q, h3, h⟩ := bnd_ok h
  obtain ⟨b1, h4, h⟩ := bnd_ok h
  refine ⟨q, b1, h3, pE_gw h3, k1, by omega, h4, ?_⟩
  split at h
  · rename_i hk
    obtain ⟨i2, h5, h⟩ := bnd_ok h
    obtain ⟨-, rfl, k5⟩ := ex_ok h5
    obtain ⟨b2, h6, h⟩ := bnd_ok h
    cases h
    exact Or.inl ⟨hk, b2, h6, rfl, by omega⟩
  · rename_i hk
    cases h
    exact Or.inr ⟨hk, rfl⟩
end WithBlk
end PureGS
