/-! ===== exps as they are read, for printing ===== -/
def lk (kd : Nat → Nat) (a : Tr) (k : Nat) : Prop := tg a = 7 ∨ k ≤ lnT kd a
def XK (kd : Nat → Nat) : Tr → Prop
  | .leaf => True
  | .inner c t q l r => XK kd l ∧ XK kd r ∧ (c = 1 → kd (t - 2) = 52 ∧ kd (t - 1) = 10) ∧ (c = 2 → kd (t - 1) = 53) ∧ ((c = 3 ∨ c = 4) → kd (t + 1) = 7 ∧ kd q = 8) ∧ (c = 9 → kd t = 9 ∧ kd q = 9) ∧ (c = 7 → kd t = 7 ∧ kd q = 8) ∧ (c = 6 → lk kd l (if lnO (kd t) = 3 then 4 else lnO (kd t)) ∧ lk kd r (lnO (kd t) + 1)) ∧ (c = 5 → lk kd l 6)
section PureXK
variable {kd : Nat → Nat}
def GZ (kd : Nat → Nat) (k i : Nat) (q : Tr × Nat) : Prop := XK kd q.1 ∧ szT q.1 ≤ q.2 - i ∧ i < q.2 ∧ lk kd q.1 k
theorem lk.le {a : Tr} {k k' : Nat} (h : lk kd a k) (hk : k' ≤ k) : lk kd a k' := by
  rcases h with z | z
  · exact Or.inl z
  · exact Or.inr (by omega)
theorem pCh_xk {sub : Nat → PE (Tr × Nat)} {line : Nat} (hs : ∀ i q, sub i = .ok q → GZ kd (line + 1) i q) : ∀ (f : Nat) (a : Tr) (i i0 : Nat) (q : Tr × Nat), (line = 3 → f ≤ 1) → XK kd a → szT a ≤ i - i0 → i0 < i → lk kd a line → (f ≠ 0 → lk kd a (if line = 3 then 4 else line)) → pCh kd sub line f a i = .ok q → GZ kd line i0 q
  | 0, a, i, i0, q, h3, hx, hz, hi, hl, hl2, e => by cases e; exact ⟨hx, hz, hi, hl⟩
  | f + 1, a, i, i0, q, h3, hx, hz, hi, hl, hl2, e => by
    rw [pCh] at e
    split at e
    · rename_i hln
      split at e
      · cases e
      · obtain ⟨b, hb, he⟩ := bnd_ok e
        obtain ⟨b1, b2, b3, b4⟩ := hs _ _ hb
        have hl3 := hl2 (by omega)
        have hlt : lnT kd (nd 6 i 0 a b.1) = line := hln
        refine pCh_xk hs f (nd 6 i 0 a b.1) b.2 i0 q (fun z => by have := h3 z; omega) ⟨hx, b1, fun z => absurd z (by decide), fun z => absurd z (by decide), fun z => absurd z (by decide), fun z => absurd z (by decide), fun z => absurd z (by decide), fun _ => ⟨by rw [hln]; exact hl3, by rw [hln]; exact b4⟩, fun z => absurd z (by decide)⟩ ?_ (by omega) (Or.inr (by omega)) (fun hf => Or.inr ?_) he
        · show 1 + szT a + szT b.1 ≤ b.2 - i0
          omega
        · have : line ≠ 3 := fun z => by have := h3 z; omega
          rw [if_neg this]; omega
    · cases e; exact ⟨hx, hz, hi, hl⟩
theorem cL_xk {o : Nat → PE (Tr × Nat)} (ho : ∀ i q, o i = .ok q → GZ kd 6 i q) : ∀ (k i : Nat) (q : Tr × Nat), k ≤ 5 → cL kd o k i = .ok q → GZ kd (6 - k) i q
  | 0, i, q, hk, e => ho i q e
  | k + 1, i, q, hk, e => by
    rw [cL] at e
    obtain ⟨b, hb, he⟩ := bnd_ok e
    obtain ⟨b1, b2, b3, b4⟩ := cL_xk ho k i b (by omega) hb
    have e5 : 6 - (k + 1) = 5 - k := by omega
    rw [e5]
    have e6 : 5 - k + 1 = 6 - k := by omega
    refine pCh_xk (fun i q e => by rw [e6]; exact cL_xk ho k i q (by omega) e) _ b.1 b.2 i q (fun z => by rw [if_pos (by omega)]; exact Nat.le_refl _) b1 b2 b3 (b4.le (by omega)) (fun _ => b4.le ?_) he
    split <;> omega
theorem pB_xk {o : Nat → PE (Tr × Nat)} (ho : ∀ i q, o i = .ok q → GZ kd 6 i q) {i : Nat} {q : Tr × Nat} (e : pB kd o i = .ok q) : GZ kd 6 i q := by
  unfold pB at e
  split at e
  · rename_i hk
    obtain ⟨a, ha, he⟩ := bnd_ok e
    cases he
    obtain ⟨h1, h2, h3, h4⟩ := ho _ _ ha
    refine ⟨⟨h1, trivial, fun z => absurd z (by decide), fun z => absurd z (by decide), fun z => absurd z (by decide), fun z => absurd z (by decide), fun z => absurd z (by decide), fun z => absurd z (by decide), fun _ => h4⟩, ?_, ?_, Or.inr (Nat.le_refl _)⟩
    · show 1 + szT a.1 + 0 ≤ a.2 - i; omega
    · show i < a.2; omega
  split at e
  · rename_i hk
    obtain ⟨a, ha, he⟩ := bnd_ok e
    obtain ⟨j, hj, he⟩ := bnd_ok he
    cases he
    obtain ⟨h1, h2, h3, h4⟩ := cL_xk ho _ _ _ (Nat.le_refl _) ha
    obtain ⟨k1, rfl, k3⟩ := ex_ok hj
    refine ⟨⟨h1, trivial, fun z => absurd z (by decide), fun z => absurd z (by decide), fun z => absurd z (by decide), fun z => absurd z (by decide), fun _ => ⟨hk, k1⟩, fun z => absurd z (by decide), fun z => absurd z (by decide)⟩, ?_, ?_, Or.inl rfl⟩
    · show 1 + szT a.1 + 0 ≤ a.2 + 1 - i; omega
    · show i < a.2 + 1; omega
  split at e
  · obtain ⟨i1, g1, he⟩ := bnd_ok e
    obtain ⟨a, ha, he⟩ := bnd_ok he
    obtain ⟨j, hj, he⟩ := bnd_ok he
    cases he
    obtain ⟨k0, rfl, -⟩ := ex_ok g1
    obtain ⟨h1, h2, h3, h4⟩ := cL_xk ho _ _ _ (Nat.le_refl _) ha
    obtain ⟨k1, rfl, k3⟩ := ex_ok hj
    refine ⟨⟨h1, trivial, fun z => absurd z (by decide), fun z => absurd z (by decide), fun _ => ⟨k0, k1⟩, fun z => absurd z (by decide), fun z => absurd z (by decide), fun z => absurd z (by decide), fun z => absurd z (by decide)⟩, ?_, ?_, Or.inr (by show 6 ≤ 7; decide)⟩
    · show 1 + szT a.1 + 0 ≤ a.2 + 1 - i; omega
    · show i < a.2 + 1; omega
  split at e
  · obtain ⟨i1, g1, he⟩ := bnd_ok e
    obtain ⟨a, ha, he⟩ := bnd_ok he
    obtain ⟨i2, g2, he⟩ := bnd_ok he
    obtain ⟨b, hb, he⟩ := bnd_ok he
    obtain ⟨i3, g3, he⟩ := bnd_ok he
    obtain ⟨c, hc, he⟩ := bnd_ok he
    obtain ⟨j, hj, he⟩ := bnd_ok he
    cases he
    obtain ⟨k0, rfl, -⟩ := ex_ok g1
    obtain ⟨a1, a2, a3, a4⟩ := cL_xk ho _ _ _ (Nat.le_refl _) ha
    obtain ⟨k1, rfl, -⟩ := ex_ok g2
    obtain ⟨b1, b2, b3, b4⟩ := cL_xk ho _ _ _ (Nat.le_refl _) hb
    obtain ⟨k2, rfl, -⟩ := ex_ok g3
    obtain ⟨c1, c2, c3, c4⟩ := cL_xk ho _ _ _ (Nat.le_refl _) hc
    obtain ⟨k3, rfl, k4⟩ := ex_ok hj
    refine ⟨⟨a1, ⟨b1, c1, fun z => absurd z (by decide), fun z => absurd z (by decide), fun z => absurd z (by decide), fun _ => ⟨k1, k2⟩, fun z => absurd z (by decide), fun z => absurd z (by decide), fun z => absurd z (by decide)⟩, fun z => absurd z (by decide), fun z => absurd z (by decide), fun _ => ⟨k0, k3⟩, fun z => absurd z (by decide), fun z => absurd z (by decide), fun z => absurd z (by decide), fun z => absurd z (by decide)⟩, ?_, ?_, Or.inr (by show 6 ≤ 7; decide)⟩
    · show 1 + szT a.1 + (1 + szT b.1 + szT c.1) ≤ c.2 + 1 - i; omega
    · show i < c.2 + 1; omega
  split at e
  · rename_i hk
    obtain ⟨i1, g1, he⟩ := bnd_ok e
    obtain ⟨j, hj, he⟩ := bnd_ok he
    cases he
    obtain ⟨k0, rfl, -⟩ := ex_ok g1
    obtain ⟨k1, rfl, k3⟩ := ex_ok hj
    refine ⟨⟨trivial, trivial, fun _ => ⟨hk, k0⟩, fun z => absurd z (by decide), fun z => absurd z (by decide), fun z => absurd z (by decide), fun z => absurd z (by decide), fun z => absurd z (by decide), fun z => absurd z (by decide)⟩, ?_, ?_, Or.inr (by show 6 ≤ 7; decide)⟩
    · show 1 + 0 + 0 ≤ i + 1 + 1 + 1 - i; omega
    · show i < i + 1 + 1 + 1; omega
  split at e
  · rename_i hk
    obtain ⟨j, hj, he⟩ := bnd_ok e
    cases he
    obtain ⟨k1, rfl, k3⟩ := ex_ok hj
    refine ⟨⟨trivial, trivial, fun z => absurd z (by decide), fun _ => hk, fun z => absurd z (by decide), fun z => absurd z (by decide), fun z => absurd z (by decide), fun z => absurd z (by decide), fun z => absurd z (by decide)⟩, ?_, ?_, Or.inr (by show 6 ≤ 7; decide)⟩
    · show 1 + 0 + 0 ≤ i + 1 + 1 - i; omega
    · show i < i + 1 + 1; omega
  · cases e
    refine ⟨⟨trivial, trivial, fun z => absurd z (by decide), fun z => absurd z (by decide), fun z => absurd z (by decide), fun z => absurd z (by decide), fun z => absurd z (by decide), fun z => absurd z (by decide), fun z => absurd z (by decide)⟩, ?_, ?_, Or.inr (by show 6 ≤ 7; decide)⟩
    · show 1 + 0 + 0 ≤ i + 1 - i; omega
    · show i < i + 1; omega
theorem pOne_xk : ∀ (n i : Nat) (q : Tr × Nat), pOne kd n i = .ok q → GZ kd 6 i q := by
  intro n
  induction n with
  | zero =>
    intro i q e
    rw [pOne] at e
    split at e <;> cases e
  | succ n ih =>
    intro i q e
    rw [pOne] at e
    split at e
    · split at e
      · cases e
      · exact pB_xk ih e
    · cases e
theorem pE_xk {n i : Nat} {q : Tr × Nat} (h : pE kd n i = .ok q) : GZ kd 1 i q := cL_xk (pOne_xk n) 5 i q (Nat.le_refl _) h
end PureXK
/-- the exps and TOKENS of statements -/
def SK (kd : Nat → Nat) : Tr → Prop
  | .leaf => True
  | .inner c t q l r =>
    if c = 20 then SK kd l ∧ SK kd r
    else if c = 9 then SK kd l ∧ SK kd r ∧ (q ≠ 0 → kd q = 49)
    else if c = 21 then SK kd l ∧ kd t = 5 ∧ kd q = 6
    else if c = 16 then SK kd l ∧ kd (t - 1) = 50
    else if c = 15 then XK kd l ∧ szT l ≤ 1000 ∧ SK kd r ∧ kd t = 48
    else if c = 17 then kd t = 51 ∧ kd (t + 1) = 4
    else XK kd l ∧ szT l ≤ 1000 ∧ kd q = 4 ∧ ((c = 11 ∨ c = 12) → kd (t + 1) = 12) ∧ (c = 12 → kd (t - 1) = 43) ∧ (c = 13 → kd (t - 1) = 44) ∧ (c = 14 → kd (t - 1) = 47)
section PureSK
variable {kd : Nat → Nat} {vl : Nat → Int} {blk : Nat → Nat → Nat → PE (Tr × Nat × Nat)}
theorem pE_x2 {n i : Nat} {q : Tr × Nat} (h : pE kd n i = .ok q) : XK kd q.1 ∧ szT q.1 ≤ 1000 := by
  obtain ⟨h1, h2, h3, -⟩ := pE_xk h
  have := (pE_gw h).1.2.2.1
  exact ⟨h1, by omega⟩
theorem pSt_sk (hb : ∀ c l i q, c ≤ 120 → blk c l i = .ok q → SK kd q.1) (hb2 : ∀ c l i q, c ≤ 120 → blk c l i = .ok q → GB c i q) {m c l i : Nat} {r : Q4} (h : pSt kd vl blk m c l i = .ok r) : SK kd r.1 := by
  unfold pSt at h
  split at h
  · cases h
  rename_i hc
  split at h
  · obtain ⟨q, hq, rfl, hg, k1, k2, k3, -⟩ := pSet_ok h
    obtain ⟨x1, x2⟩ := pE_x2 hq
    exact ⟨x1, x2, k3, fun _ => k2, fun z => absurd z (by decide), fun z => absurd z (by decide), fun z => absurd z (by decide)⟩
  split at h
  · obtain ⟨q, hq, rfl, hg, k1, k2, k3, k4, -⟩ := pLet_ok h
    obtain ⟨x1, x2⟩ := pE_x2 hq
    exact ⟨x1, x2, k4, fun _ => k3, fun _ => k1, fun z => absurd z (by decide), fun z => absurd z (by decide)⟩
  split at h
  · obtain ⟨q, hq, rfl, hg, k1, k2, k3, k4, -⟩ := pSend_ok h
    obtain ⟨x1, x2⟩ := pE_x2 hq
    exact ⟨x1, x2, k4, fun z => absurd z (by decide), fun z => absurd z (by decide), fun _ => k1, fun z => absurd z (by decide)⟩
  split at h
  · obtain ⟨q, hq, rfl, hg, k1, k2, k3, -⟩ := pGive_ok h
    obtain ⟨x1, x2⟩ := pE_x2 hq
    exact ⟨x1, x2, k3, fun z => absurd z (by decide), fun z => absurd z (by decide), fun z => absurd z (by decide), fun _ => k1⟩
  split at h
  · obtain ⟨q, b1, hq, hg, k1, -, hb1, hr⟩ := pIf_ok h
    obtain ⟨x1, x2⟩ := pE_x2 hq
    have f5 := (hb2 _ _ _ _ (by omega) hb1).2.2.2.2.2
    have s1 := hb _ _ _ _ (by omega) hb1
    rcases hr with ⟨k2, b2, hb2', rfl, -⟩ | ⟨-, rfl⟩
    · have s2 := hb _ _ _ _ (by omega) hb2'
      exact ⟨x1, x2, ⟨s1, s2, fun _ => k2⟩, k1⟩
    · exact ⟨x1, x2, ⟨s1, trivial, fun z => absurd rfl z⟩, k1⟩
  split at h
  · obtain ⟨b1, hb1, rfl, k1, -⟩ := pLoop_ok h
    exact ⟨hb _ _ _ _ (by omega) hb1, k1⟩
  · obtain ⟨rfl, k1, k2, -⟩ := pHalt_ok h
    exact ⟨k1, k2⟩
theorem pSL_sk {st : Nat → Nat → Nat → PE Q4} (hs : ∀ c l i r, st c l i = .ok r → SK kd r.1) : ∀ (f c l i : Nat) (z : Tr × Nat × Nat), pSL kd st f c l i = .ok z → SK kd z.1
  | 0, c, l, i, z, h => by cases h; exact trivial
  | f + 1, c, l, i, z, h => by
    rw [pSL] at h
    split at h
    · obtain ⟨q, hq, h⟩ := bnd_ok h
      obtain ⟨y, hy, h⟩ := bnd_ok h
      cases h
      exact ⟨hs _ _ _ _ hq, pSL_sk hs f _ _ _ y hy⟩
    · cases h; exact trivial
theorem pBk_sk : ∀ (n c l i : Nat) (q : Tr × Nat × Nat), c ≤ 120 → pBk kd vl n c l i = .ok q → SK kd q.1
  | 0, c, l, i, q, hc, h => by rw [pBk] at h; split at h <;> cases h
  | n + 1, c, l, i, q, hc, h => by
    rw [pBk] at h
    obtain ⟨i1, h1, h⟩ := bnd_ok h
    obtain ⟨k1, -, -⟩ := ex_ok h1
    obtain ⟨z, h2, h⟩ := bnd_ok h
    obtain ⟨j, h3, h⟩ := bnd_ok h
    obtain ⟨k2, -, -⟩ := ex_ok h3
    cases h
    exact ⟨pSL_sk (fun c l i r hr => pSt_sk (pBk_sk n) (pBk_gb n) hr) 121 c l i1 z h2, k1, k2⟩
end PureSK
