/-! ===== exps as they are read: TOKENS alone, how many operands wait ===== -/
def K0 (kd : Nat → Nat) : Tr → Prop
  | .leaf => True
  | .inner c t _ l r => K0 kd l ∧ K0 kd r ∧ (c = 0 → kd t = 2 ∨ kd t = 3 ∨ kd t = 31 ∨ kd t = 32 ∨ (54 ≤ kd t ∧ kd t ≤ 58))
def skN (kd : Nat → Nat) : Tr → Nat
  | .leaf => 0
  | .inner c t _ l r => if c = 0 ∨ c = 1 ∨ c = 2 then 1 else if c = 6 then max (skN kd l) (skN kd r + (if lnO (kd t) ≤ 2 then 0 else 1)) else max (skN kd l) (skN kd r)
section PureK0
variable {kd : Nat → Nat}
def GY (kd : Nat → Nat) (B : Nat) (q : Tr × Nat) : Prop := K0 kd q.1 ∧ skN kd q.1 ≤ B
theorem pCh_y {sub : Nat → PE (Tr × Nat)} {line B : Nat} (hs : ∀ i q, sub i = .ok q → GY kd B q) : ∀ (f : Nat) (a : Tr) (i : Nat) (q : Tr × Nat), K0 kd a → skN kd a ≤ B + (if line ≤ 2 then 0 else 1) → pCh kd sub line f a i = .ok q → GY kd (B + (if line ≤ 2 then 0 else 1)) q
  | 0, a, i, q, h, h2, e => by cases e; exact ⟨h, h2⟩
  | f + 1, a, i, q, h, h2, e => by
    rw [pCh] at e
    split at e
    · rename_i hln
      split at e
      · cases e
      · obtain ⟨b, hb, he⟩ := bnd_ok e
        obtain ⟨b1, b2⟩ := hs _ _ hb
        refine pCh_y hs f (nd 6 i 0 a b.1) _ q ⟨h, b1, fun z => absurd z (by decide)⟩ ?_ he
        show max (skN kd a) (skN kd b.1 + (if lnO (kd i) ≤ 2 then 0 else 1)) ≤ _
        rw [hln]
        split
        · rename_i z; rw [if_pos z] at h2; omega
        · rename_i z; rw [if_neg z] at h2; omega
    · cases e; exact ⟨h, h2⟩
theorem GY.le {B B' : Nat} {q : Tr × Nat} (h : GY kd B q) (hb : B ≤ B') : GY kd B' q := ⟨h.1, by have := h.2; omega⟩
theorem cL_y {o : Nat → PE (Tr × Nat)} {B : Nat} (ho : ∀ i q, o i = .ok q → GY kd B q) : ∀ (k i : Nat) (q : Tr × Nat), k ≤ 5 → cL kd o k i = .ok q → GY kd (B + min k 3) q
  | 0, i, q, hk, e => ho i q e
  | k + 1, i, q, hk, e => by
    rw [cL] at e
    obtain ⟨b, hb, he⟩ := bnd_ok e
    obtain ⟨b1, b2⟩ := cL_y ho k i b (by omega) hb
    refine (pCh_y (fun i q e => cL_y ho k i q (by omega) e) _ b.1 b.2 q b1 (by omega) he).le ?_
    split <;> omega
theorem pB_y {o : Nat → PE (Tr × Nat)} {B : Nat} (ho : ∀ i q, o i = .ok q → GY kd B q) {i : Nat} {q : Tr × Nat} (hb : bgO (kd i)) (e : pB kd o i = .ok q) : GY kd (B + 3) q := by
  unfold pB at e
  split at e
  · obtain ⟨a, ha, he⟩ := bnd_ok e
    cases he
    obtain ⟨h1, h2⟩ := ho _ _ ha
    exact ⟨⟨h1, trivial, fun z => absurd z (by decide)⟩, by show max (skN kd a.1) 0 ≤ _; omega⟩
  rename_i n1
  split at e
  · obtain ⟨a, ha, he⟩ := bnd_ok e
    obtain ⟨j, hj, he⟩ := bnd_ok he
    cases he
    obtain ⟨h1, h2⟩ := cL_y ho _ _ _ (Nat.le_refl _) ha
    exact ⟨⟨h1, trivial, fun z => absurd z (by decide)⟩, by show max (skN kd a.1) 0 ≤ _; omega⟩
  rename_i n2
  split at e
  · obtain ⟨i1, g1, he⟩ := bnd_ok e
    obtain ⟨a, ha, he⟩ := bnd_ok he
    obtain ⟨j, hj, he⟩ := bnd_ok he
    cases he
    obtain ⟨h1, h2⟩ := cL_y ho _ _ _ (Nat.le_refl _) ha
    exact ⟨⟨h1, trivial, fun z => absurd z (by decide)⟩, by show max (skN kd a.1) 0 ≤ _; omega⟩
  rename_i n3
  split at e
  · obtain ⟨i1, g1, he⟩ := bnd_ok e
    obtain ⟨a, ha, he⟩ := bnd_ok he
    obtain ⟨i2, g2, he⟩ := bnd_ok he
    obtain ⟨b, hb', he⟩ := bnd_ok he
    obtain ⟨i3, g3, he⟩ := bnd_ok he
    obtain ⟨c, hc, he⟩ := bnd_ok he
    obtain ⟨j, hj, he⟩ := bnd_ok he
    cases he
    obtain ⟨a1, a2⟩ := cL_y ho _ _ _ (Nat.le_refl _) ha
    obtain ⟨b1, b2⟩ := cL_y ho _ _ _ (Nat.le_refl _) hb'
    obtain ⟨c1, c2⟩ := cL_y ho _ _ _ (Nat.le_refl _) hc
    exact ⟨⟨a1, ⟨b1, c1, fun z => absurd z (by decide)⟩, fun z => absurd z (by decide)⟩, by show max (skN kd a.1) (max (skN kd b.1) (skN kd c.1)) ≤ _; omega⟩
  rename_i n4
  split at e
  · obtain ⟨i1, g1, he⟩ := bnd_ok e
    obtain ⟨j, hj, he⟩ := bnd_ok he
    cases he
    exact ⟨⟨trivial, trivial, fun z => absurd z (by decide)⟩, by show 1 ≤ _; omega⟩
  rename_i n5
  split at e
  · obtain ⟨j, hj, he⟩ := bnd_ok e
    cases he
    exact ⟨⟨trivial, trivial, fun z => absurd z (by decide)⟩, by show 1 ≤ _; omega⟩
  · rename_i n6
    cases e
    refine ⟨⟨trivial, trivial, fun _ => ?_⟩, by show 1 ≤ _; omega⟩
    unfold bgO at hb
    omega
theorem pOne_y : ∀ (n i : Nat) (q : Tr × Nat), pOne kd n i = .ok q → GY kd (3 * n) q := by
  intro n
  induction n with
  | zero =>
    intro i q e
    rw [pOne] at e
    split at e <;> cases e
  | succ n ih =>
    intro i q e
    rw [pOne] at e
    split at e
    · rename_i hb
      split at e
      · cases e
      · exact (pB_y ih hb e).le (by omega)
    · cases e
theorem pE_y {n i : Nat} {q : Tr × Nat} (h : pE kd n i = .ok q) : GY kd (3 * n + 3) q := (cL_y (pOne_y n) 5 i q (Nat.le_refl _) h).le (by omega)
end PureK0
/-- the same of the exps of statements -/
def SY (kd : Nat → Nat) : Tr → Prop
  | .leaf => True
  | .inner c _ _ l r => if c = 20 ∨ c = 9 then SY kd l ∧ SY kd r else if c = 21 ∨ c = 16 then SY kd l else if c = 15 then (K0 kd l ∧ skN kd l ≤ 50) ∧ SY kd r else if c = 17 then True else K0 kd l ∧ skN kd l ≤ 50
section PureSY
variable {kd : Nat → Nat} {vl : Nat → Int} {blk : Nat → Nat → Nat → PE (Tr × Nat × Nat)}
theorem pE_y2 {n i : Nat} {q : Tr × Nat} (hn : n ≤ 13) (h : pE kd n i = .ok q) : K0 kd q.1 ∧ skN kd q.1 ≤ 50 := ⟨(pE_y h).1, by have := (pE_y h).2; omega⟩
theorem pSt_sy (hb : ∀ c l i q, c ≤ 120 → blk c l i = .ok q → SY kd q.1) (hb2 : ∀ c l i q, c ≤ 120 → blk c l i = .ok q → GB c i q) {m c l i : Nat} {r : Q4} (hm : m ≤ 13) (h : pSt kd vl blk m c l i = .ok r) : SY kd r.1 := by
  unfold pSt at h
  split at h
  · cases h
  rename_i hc
  split at h
  · obtain ⟨q, hq, rfl, -⟩ := pSet_ok h
    exact pE_y2 hm hq
  split at h
  · obtain ⟨q, hq, rfl, -⟩ := pLet_ok h
    exact pE_y2 hm hq
  split at h
  · obtain ⟨q, hq, rfl, -⟩ := pSend_ok h
    exact pE_y2 hm hq
  split at h
  · obtain ⟨q, hq, rfl, -⟩ := pGive_ok h
    exact pE_y2 hm hq
  split at h
  · obtain ⟨q, b1, hq, hg, k1, -, hb1, hr⟩ := pIf_ok h
    have f5 := (hb2 _ _ _ _ (by omega) hb1).2.2.2.2.2
    have s1 := hb _ _ _ _ (by omega) hb1
    rcases hr with ⟨k2, b2, hb2', rfl, -⟩ | ⟨-, rfl⟩
    · exact ⟨pE_y2 hm hq, s1, hb _ _ _ _ (by omega) hb2'⟩
    · exact ⟨pE_y2 hm hq, s1, trivial⟩
  split at h
  · obtain ⟨b1, hb1, rfl, -⟩ := pLoop_ok h
    exact hb _ _ _ _ (by omega) hb1
  · obtain ⟨rfl, -⟩ := pHalt_ok h
    exact trivial
theorem pSL_sy {st : Nat → Nat → Nat → PE Q4} (hs : ∀ c l i r, st c l i = .ok r → SY kd r.1) : ∀ (f c l i : Nat) (z : Tr × Nat × Nat), pSL kd st f c l i = .ok z → SY kd z.1
  | 0, c, l, i, z, h => by cases h; exact trivial
  | f + 1, c, l, i, z, h => by
    rw [pSL] at h
    split at h
    · obtain ⟨q, hq, h⟩ := bnd_ok h
      obtain ⟨y, hy, h⟩ := bnd_ok h
      cases h
      exact ⟨hs _ _ _ _ hq, pSL_sy hs f _ _ _ y hy⟩
    · cases h; exact trivial
theorem pBk_sy : ∀ (n c l i : Nat) (q : Tr × Nat × Nat), n ≤ 13 → c ≤ 120 → pBk kd vl n c l i = .ok q → SY kd q.1
  | 0, c, l, i, q, hn, hc, h => by rw [pBk] at h; split at h <;> cases h
  | n + 1, c, l, i, q, hn, hc, h => by
    rw [pBk] at h
    obtain ⟨i1, h1, h⟩ := bnd_ok h
    obtain ⟨z, h2, h⟩ := bnd_ok h
    obtain ⟨j, h3, h⟩ := bnd_ok h
    cases h
    exact pSL_sy (fun c l i r hr => pSt_sy (fun c l i q => pBk_sy n c l i q (by omega)) (pBk_gb n) (by omega) hr) 121 c l i1 z h2
end PureSY
