/-! ===== trees, and the reading of exps, purely ===== -/
/-- a node: its shape, its TOKEN, another number, two below. Exps: 0 a TOKEN alone, 1 arc . NAME, 2 has NAME (the NAME's TOKEN), 3 draw (and the )'s), 4 if (and the )'s; below right: 9 with both commas), 5 - or !, 6 an operator between two, 7 ( ) with the )'s TOKEN.
Statements: 11 set, 12 let, 13 send (1 along), 14 give (the NAME's TOKEN each), 15 if (right: 9, 1 with else), 16 loop (the number's TOKEN), 17 halt; 20 a block's next -/
abbrev Tr : Type := Std.DTreeMap.Internal.Impl Nat (fun _ => Nat)
abbrev nd (c t q : Nat) (l r : Tr) : Tr := .inner c t q l r
abbrev nl : Tr := .leaf
abbrev PE (α : Type) : Type := Except (Nat × Nat) α
def bnd {α β : Type} (r : PE α) (f : α → PE β) : PE β := match r with
  | .error e => .error e
  | .ok a => f a
abbrev bgO (c : Nat) : Prop := c = 2 ∨ c = 3 ∨ c = 7 ∨ c = 16 ∨ c = 20 ∨ c = 31 ∨ c = 32 ∨ c = 48 ∨ c = 52 ∨ c = 53 ∨ c = 59 ∨ (54 ≤ c ∧ c ≤ 58)
def lnO (c : Nat) : Nat := if c = 26 then 1 else if c = 25 then 2 else if c = 21 ∨ c = 22 ∨ c = 13 ∨ c = 23 ∨ c = 14 ∨ c = 24 then 3 else if c = 15 ∨ c = 16 then 4 else if c = 17 ∨ c = 18 ∨ c = 19 then 5 else 0
section PureParse
variable (kd : Nat → Nat)
/-- goes past a TOKEN of kind c -/
def ex (c i : Nat) : PE Nat := if kd i = c then (if 1000 ≤ i then .error (2, i) else .ok (i + 1)) else .error (1, i)
def pCh (sub : Nat → PE (Tr × Nat)) (line : Nat) : Nat → Tr → Nat → PE (Tr × Nat)
  | 0, a, i => .ok (a, i)
  | f + 1, a, i => if lnO (kd i) = line then (if 1000 ≤ i then .error (2, i) else bnd (sub (i + 1)) (fun q => pCh sub line f (nd 6 i 0 a q.1) q.2)) else .ok (a, i)
/-- level k: line 6 - k of the grammar (0: one) -/
def cL (o : Nat → PE (Tr × Nat)) : Nat → Nat → PE (Tr × Nat)
  | 0, i => o i
  | k + 1, i => bnd (cL o k i) (fun q => pCh kd (cL o k) (5 - k) (if k = 2 then 1 else 1000) q.1 q.2)
/-- what stands at i, an operand or - or !, once it is known that it begins one and may be passed; o: one deeper -/
def pB (o : Nat → PE (Tr × Nat)) (i : Nat) : PE (Tr × Nat) :=
  if kd i = 16 ∨ kd i = 20 then bnd (o (i + 1)) (fun q => .ok (nd 5 i 0 q.1 nl, q.2))
  else if kd i = 7 then bnd (cL kd o 5 (i + 1)) (fun q => bnd (ex kd 8 q.2) (fun j => .ok (nd 7 i q.2 q.1 nl, j)))
  else if kd i = 59 then bnd (ex kd 7 (i + 1)) (fun i1 => bnd (cL kd o 5 i1) (fun q => bnd (ex kd 8 q.2) (fun j => .ok (nd 3 i q.2 q.1 nl, j))))
  else if kd i = 48 then bnd (ex kd 7 (i + 1)) (fun i1 => bnd (cL kd o 5 i1) (fun a => bnd (ex kd 9 a.2) (fun i2 => bnd (cL kd o 5 i2) (fun b => bnd (ex kd 9 b.2) (fun i3 => bnd (cL kd o 5 i3) (fun c => bnd (ex kd 8 c.2) (fun j => .ok (nd 4 i c.2 a.1 (nd 9 a.2 b.2 b.1 c.1), j))))))))
  else if kd i = 52 then bnd (ex kd 10 (i + 1)) (fun i1 => bnd (ex kd 2 i1) (fun j => .ok (nd 1 i1 0 nl nl, j)))
  else if kd i = 53 then bnd (ex kd 2 (i + 1)) (fun j => .ok (nd 2 (i + 1) 0 nl nl, j))
  else .ok (nd 0 i 0 nl nl, i + 1)
/-- n: how much deeper it may go; 0: not even here -/
def pOne : Nat → Nat → PE (Tr × Nat)
  | 0, i => if bgO (kd i) then .error (2, i) else .error (1, i)
  | n + 1, i => if bgO (kd i) then (if 1000 ≤ i then .error (2, i) else pB kd (pOne n) i) else .error (1, i)
abbrev pE (n : Nat) : Nat → PE (Tr × Nat) := cL kd (pOne kd n) 5
end PureParse
theorem bnd_ok {α β : Type} {r : PE α} {f : α → PE β} {b : β} (h : bnd r f = .ok b) : ∃ a, r = .ok a ∧ f a = .ok b := by
  cases r with
  | error e => cases h
  | ok a => exact ⟨a, rfl, h⟩
theorem ex_ok {kd : Nat → Nat} {c i j : Nat} (h : ex kd c i = .ok j) : kd i = c ∧ j = i + 1 ∧ ¬ 1000 ≤ i := by
  unfold ex at h
  split at h
  · split at h
    · cases h
    · rename_i h1 h2
      cases h
      exact ⟨h1, rfl, h2⟩
  · cases h
/-- the first TOKEN of an exp -/
def fst_ : Tr → Nat
  | .leaf => 0
  | .inner c t _ l _ => if c = 1 then t - 2 else if c = 2 then t - 1 else if c = 6 then fst_ l else t
/-- how many deeds an exp makes -/
def nD : Tr → Nat
  | .leaf => 0
  | .inner c _ _ l r => nD l + nD r + (if c = 7 then 0 else 1)
/-- what the reading of an exp keeps: it begins where it began, goes on, stays within, and makes no more deeds than TOKENS -/
def GP (i : Nat) (q : Tr × Nat) : Prop := fst_ q.1 = i ∧ i < q.2 ∧ q.2 ≤ 1000 ∧ nD q.1 ≤ q.2 - i
theorem pCh_gp {kd : Nat → Nat} {sub : Nat → PE (Tr × Nat)} {line : Nat} (hs : ∀ i q, sub i = .ok q → GP i q) : ∀ (f : Nat) (a : Tr) (i : Nat) (i0 : Nat) (q : Tr × Nat), GP i0 (a, i) → pCh kd sub line f a i = .ok q → GP i0 q
  | 0, a, i, i0, q, h, e => by cases e; exact h
  | f + 1, a, i, i0, q, h, e => by
    rw [pCh] at e
    split at e
    · split at e
      · cases e
      · obtain ⟨b, hb, he⟩ := bnd_ok e
        refine pCh_gp hs f _ _ i0 q ?_ he
        have h1 := hs _ _ hb
        obtain ⟨a1, a2, a3, a4⟩ := h
        obtain ⟨b1, b2, b3, b4⟩ := h1
        simp only at a1 a2 a3 a4
        refine ⟨?_, ?_, b3, ?_⟩
        · show fst_ (nd 6 i 0 a b.1) = i0
          simp only [fst_]; simp; exact a1
        · show i0 < b.2; omega
        · show nD (nd 6 i 0 a b.1) ≤ b.2 - i0
          simp only [nD]; simp; omega
    · cases e; exact h
theorem cL_gp {kd : Nat → Nat} {o : Nat → PE (Tr × Nat)} (ho : ∀ i q, o i = .ok q → GP i q) : ∀ (k i : Nat) (q : Tr × Nat), cL kd o k i = .ok q → GP i q
  | 0, i, q, e => ho i q e
  | k + 1, i, q, e => by
    rw [cL] at e
    obtain ⟨b, hb, he⟩ := bnd_ok e
    exact pCh_gp (fun i q e => cL_gp ho k i q e) _ _ _ i q (cL_gp ho k i b hb) he
theorem pB_gp {kd : Nat → Nat} {o : Nat → PE (Tr × Nat)} (ho : ∀ i q, o i = .ok q → GP i q) {i : Nat} (hi : i < 1000) {q : Tr × Nat} (e : pB kd o i = .ok q) : GP i q := by
  unfold pB at e
  split at e
  · obtain ⟨a, ha, he⟩ := bnd_ok e
    cases he
    obtain ⟨a1, a2, a3, a4⟩ := ho _ _ ha
    refine ⟨rfl, ?_, a3, ?_⟩
    · show i < a.2; omega
    · show nD (nd 5 i 0 a.1 nl) ≤ a.2 - i
      simp only [nD]; simp; omega
  split at e
  · obtain ⟨a, ha, he⟩ := bnd_ok e
    obtain ⟨j, hj, he⟩ := bnd_ok he
    cases he
    obtain ⟨a1, a2, a3, a4⟩ := cL_gp ho _ _ _ ha
    obtain ⟨_, rfl, h3⟩ := ex_ok hj
    refine ⟨rfl, ?_, ?_, ?_⟩
    · show i < a.2 + 1; omega
    · show a.2 + 1 ≤ 1000; omega
    · show nD (nd 7 i a.2 a.1 nl) ≤ a.2 + 1 - i
      simp only [nD]; simp; omega
  split at e
  · obtain ⟨i1, h1, he⟩ := bnd_ok e
    obtain ⟨a, ha, he⟩ := bnd_ok he
    obtain ⟨j, hj, he⟩ := bnd_ok he
    cases he
    obtain ⟨_, rfl, _⟩ := ex_ok h1
    obtain ⟨a1, a2, a3, a4⟩ := cL_gp ho _ _ _ ha
    obtain ⟨_, rfl, h3⟩ := ex_ok hj
    refine ⟨rfl, ?_, ?_, ?_⟩
    · show i < a.2 + 1; omega
    · show a.2 + 1 ≤ 1000; omega
    · show nD (nd 3 i a.2 a.1 nl) ≤ a.2 + 1 - i
      simp only [nD]; simp; omega
  split at e
  · obtain ⟨i1, h1, he⟩ := bnd_ok e
    obtain ⟨a, ha, he⟩ := bnd_ok he
    obtain ⟨i2, h2, he⟩ := bnd_ok he
    obtain ⟨b, hb, he⟩ := bnd_ok he
    obtain ⟨i3, h3, he⟩ := bnd_ok he
    obtain ⟨c, hc, he⟩ := bnd_ok he
    obtain ⟨j, hj, he⟩ := bnd_ok he
    cases he
    obtain ⟨_, rfl, _⟩ := ex_ok h1
    obtain ⟨a1, a2, a3, a4⟩ := cL_gp ho _ _ _ ha
    obtain ⟨_, rfl, _⟩ := ex_ok h2
    obtain ⟨b1, b2, b3, b4⟩ := cL_gp ho _ _ _ hb
    obtain ⟨_, rfl, _⟩ := ex_ok h3
    obtain ⟨c1, c2, c3, c4⟩ := cL_gp ho _ _ _ hc
    obtain ⟨_, rfl, h9⟩ := ex_ok hj
    refine ⟨rfl, ?_, ?_, ?_⟩
    · show i < c.2 + 1; omega
    · show c.2 + 1 ≤ 1000; omega
    · show nD (nd 4 i c.2 a.1 (nd 9 a.2 b.2 b.1 c.1)) ≤ c.2 + 1 - i
      simp only [nD]; simp; omega
  split at e
  · obtain ⟨i1, h1, he⟩ := bnd_ok e
    obtain ⟨j, hj, he⟩ := bnd_ok he
    cases he
    obtain ⟨_, rfl, _⟩ := ex_ok h1
    obtain ⟨_, rfl, h3⟩ := ex_ok hj
    refine ⟨rfl, ?_, ?_, ?_⟩
    · show i < i + 1 + 1 + 1; omega
    · show i + 1 + 1 + 1 ≤ 1000; omega
    · show nD (nd 1 (i + 1 + 1) 0 nl nl) ≤ i + 1 + 1 + 1 - i
      simp only [nD]; simp; omega
  split at e
  · obtain ⟨j, hj, he⟩ := bnd_ok e
    cases he
    obtain ⟨_, rfl, h3⟩ := ex_ok hj
    refine ⟨rfl, ?_, ?_, ?_⟩
    · show i < i + 1 + 1; omega
    · show i + 1 + 1 ≤ 1000; omega
    · show nD (nd 2 (i + 1) 0 nl nl) ≤ i + 1 + 1 - i
      simp only [nD]; simp; omega
  · cases e
    refine ⟨rfl, ?_, ?_, ?_⟩
    · show i < i + 1; omega
    · show i + 1 ≤ 1000; omega
    · show nD (nd 0 i 0 nl nl) ≤ i + 1 - i
      simp only [nD]; simp
theorem pOne_gp {kd : Nat → Nat} : ∀ (n i : Nat) (q : Tr × Nat), pOne kd n i = .ok q → GP i q := by
  intro n
  induction n with
  | zero =>
    intro i q e
    rw [pOne] at e
    split at e <;> cases e
  | succ n ih =>
    intro i q e
    rw [pOne] at e
    split at e
    · split at e
      · cases e
      · exact pB_gp ih (by omega) e
    · cases e
