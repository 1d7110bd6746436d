/-! ===== the exps of statements ===== -/
abbrev XO (kd : Nat → Nat) (j : Nat) (l : Tr) : Prop := M9 l ∧ tkB kd j l
def SX (kd : Nat → Nat) (j : Nat) : Tr → Prop
  | .leaf => True
  | .inner c t _ l r => if c = 20 ∨ c = 9 then SX kd j l ∧ SX kd j r else if c = 21 ∨ c = 16 then SX kd j l else if c = 15 then XO kd j l ∧ SX kd j r else if c = 17 then True else XO kd j l ∧ t < j
theorem XO.le {kd : Nat → Nat} {j j' : Nat} {l : Tr} (h : j ≤ j') (hx : XO kd j l) : XO kd j' l := ⟨hx.1, tkB.le h l hx.2⟩
theorem SX.le {kd : Nat → Nat} {j j' : Nat} (h : j ≤ j') : ∀ (a : Tr), SX kd j a → SX kd j' a
  | .leaf, _ => trivial
  | .inner c t q l r, hx => by
    rw [SX] at hx ⊢
    split
    · rename_i z
      rw [if_pos z] at hx
      exact ⟨SX.le h l hx.1, SX.le h r hx.2⟩
    · rename_i z
      rw [if_neg z] at hx
      split
      · rename_i z
        rw [if_pos z] at hx
        exact SX.le h l hx
      · rename_i z
        rw [if_neg z] at hx
        split
        · rename_i z
          rw [if_pos z] at hx
          exact ⟨XO.le h hx.1, SX.le h r hx.2⟩
        · rename_i z
          rw [if_neg z] at hx
          split
          · trivial
          · rename_i z
            rw [if_neg z] at hx
            exact ⟨XO.le h hx.1, by omega⟩
section PureSX
variable {kd : Nat → Nat} {vl : Nat → Int} {blk : Nat → Nat → Nat → PE (Tr × Nat × Nat)}
theorem pE_xo {n i : Nat} {q : Tr × Nat} (h : pE kd n i = .ok q) : XO kd q.2 q.1 := ⟨pE_n9 h, pE_tk h⟩
theorem pSt_sx (hb : ∀ c l i q, c ≤ 120 → blk c l i = .ok q → SX kd q.2.1 q.1) (hb2 : ∀ c l i q, c ≤ 120 → blk c l i = .ok q → GB c i q) {m c l i : Nat} {r : Q4} (h : pSt kd vl blk m c l i = .ok r) : SX kd r.2.1 r.1 := by
  unfold pSt at h
  split at h
  · cases h
  rename_i hc
  split at h
  · obtain ⟨q, hq, rfl, hg, -⟩ := pSet_ok h
    have g2 := hg.1.2.1
    exact ⟨XO.le (Nat.le_succ _) (pE_xo hq), by show i < q.2 + 1; omega⟩
  split at h
  · obtain ⟨q, hq, rfl, hg, -⟩ := pLet_ok h
    have g2 := hg.1.2.1
    exact ⟨XO.le (Nat.le_succ _) (pE_xo hq), by show i + 1 < q.2 + 1; omega⟩
  split at h
  · obtain ⟨q, hq, rfl, hg, -⟩ := pSend_ok h
    have g2 := hg.1.2.1
    exact ⟨XO.le (by show q.2 ≤ q.2 + 1 + 1; omega) (pE_xo hq), by show i + 1 < q.2 + 1 + 1; omega⟩
  split at h
  · obtain ⟨q, hq, rfl, hg, -⟩ := pGive_ok h
    have g2 := hg.1.2.1
    exact ⟨XO.le (Nat.le_succ _) (pE_xo hq), by show i + 1 < q.2 + 1; omega⟩
  split at h
  · obtain ⟨q, b1, hq, hg, -, -, hb1, hr⟩ := pIf_ok h
    have e1 := (hb2 _ _ _ _ (by omega) hb1).2.1
    have f5 := (hb2 _ _ _ _ (by omega) hb1).2.2.2.2.2
    have s1 := hb _ _ _ _ (by omega) hb1
    rcases hr with ⟨-, b2, hb2', rfl, -⟩ | ⟨-, rfl⟩
    · have f1 := (hb2 _ _ _ _ (by omega) hb2').2.1
      have s2 := hb _ _ _ _ (by omega) hb2'
      exact ⟨XO.le (by show q.2 ≤ b2.2.1; omega) (pE_xo hq), SX.le (by show b1.2.1 ≤ b2.2.1; omega) _ s1, s2⟩
    · exact ⟨XO.le (by show q.2 ≤ b1.2.1; omega) (pE_xo hq), s1, trivial⟩
  split at h
  · obtain ⟨b1, hb1, rfl, -⟩ := pLoop_ok h
    exact hb _ _ _ _ (by omega) hb1
  · obtain ⟨rfl, -⟩ := pHalt_ok h
    trivial
theorem pSL_sx {st : Nat → Nat → Nat → PE Q4} (hs : ∀ c l i r, st c l i = .ok r → SX kd r.2.1 r.1 ∧ i < r.2.1) : ∀ (f c l i : Nat) (z : Tr × Nat × Nat), pSL kd st f c l i = .ok z → SX kd z.2.1 z.1 ∧ i ≤ z.2.1
  | 0, c, l, i, z, h => by cases h; exact ⟨trivial, Nat.le_refl _⟩
  | f + 1, c, l, i, z, h => by
    rw [pSL] at h
    split at h
    · obtain ⟨q, hq, h⟩ := bnd_ok h
      obtain ⟨y, hy, h⟩ := bnd_ok h
      cases h
      obtain ⟨g1, g2⟩ := hs _ _ _ _ hq
      obtain ⟨a1, a2⟩ := pSL_sx hs f _ _ _ y hy
      exact ⟨⟨SX.le a2 _ g1, a1⟩, by show i ≤ y.2.1; omega⟩
    · cases h; exact ⟨trivial, Nat.le_refl _⟩
theorem pBk_sx : ∀ (n c l i : Nat) (q : Tr × Nat × Nat), c ≤ 120 → pBk kd vl n c l i = .ok q → SX kd q.2.1 q.1
  | 0, c, l, i, q, hc, h => by rw [pBk] at h; split at h <;> cases h
  | n + 1, c, l, i, q, hc, h => by
    rw [pBk] at h
    obtain ⟨i1, h1, h⟩ := bnd_ok h
    obtain ⟨z, h2, h⟩ := bnd_ok h
    obtain ⟨j, h3, h⟩ := bnd_ok h
    obtain ⟨-, rfl, k3⟩ := ex_ok h3
    cases h
    obtain ⟨a1, a2⟩ := pSL_sx (fun c l i r hr => ⟨pSt_sx (pBk_sx n) (pBk_gb n) hr, (pSt_gs (pBk_gb n) hr).1.2.1⟩) 121 c l i1 z h2
    exact SX.le (Nat.le_succ _) _ a1
end PureSX
