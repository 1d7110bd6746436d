/-! ===== the TOKENS of a tree lie before its end ===== -/
def tkB (kd : Nat → Nat) (j : Nat) : Tr → Prop
  | .leaf => True
  | .inner c t _ l r => tkB kd j l ∧ tkB kd j r ∧ t < j ∧ (c = 6 → lnO (kd t) ≠ 0) ∧ (c = 1 → 2 ≤ t) ∧ (c = 5 → kd t = 16 ∨ kd t = 20)
theorem tkB.le {kd : Nat → Nat} {j j' : Nat} (h : j ≤ j') : ∀ (a : Tr), tkB kd j a → tkB kd j' a
  | .leaf, _ => trivial
  | .inner c t q l r, ⟨h1, h2, h3, h4⟩ => ⟨tkB.le h l h1, tkB.le h r h2, by omega, h4⟩
theorem fst_tk {kd : Nat → Nat} {j : Nat} : ∀ (a : Tr), WE a → tkB kd j a → fst_ a < j
  | .leaf, h, _ => h.elim
  | .inner c t q l r, h, ⟨h1, h2, h3, h4⟩ => by
    have ih := fst_tk (kd := kd) (j := j) l
    simp only [WE] at h
    by_cases h6 : c = 6
    · subst h6
      rcases h with ⟨z, -⟩ | ⟨z, -⟩ | ⟨z, -⟩ | ⟨z, -⟩ | ⟨z, -⟩ | ⟨z, -⟩ | ⟨z, -⟩ | ⟨-, hl, -⟩ | ⟨z, -⟩
      all_goals first | (exact absurd z (by decide)) | exact ih hl h1
    · simp only [fst_, if_neg h6]
      split
      · omega
      · split <;> omega
section PureTok
variable {kd : Nat → Nat}
def GT (kd : Nat → Nat) (i : Nat) (q : Tr × Nat) : Prop := GP i q ∧ tkB kd q.2 q.1
theorem pCh_tk {sub : Nat → PE (Tr × Nat)} {line : Nat} (hl : line ≠ 0) (hs : ∀ i q, sub i = .ok q → GT kd i q) : ∀ (f : Nat) (a : Tr) (i i0 : Nat) (q : Tr × Nat), GT kd i0 (a, i) → pCh kd sub line f a i = .ok q → GT kd i0 q
  | 0, a, i, i0, q, h, e => by cases e; exact h
  | f + 1, a, i, i0, q, h, e => by
    refine ⟨pCh_gp (fun i q e => (hs i q e).1) (f + 1) a i i0 q h.1 e, ?_⟩
    rw [pCh] at e
    split at e
    · rename_i hln
      split at e
      · cases e
      · obtain ⟨b, hb, he⟩ := bnd_ok e
        have hb2 := hs _ _ hb
        have hg1 : GP i0 (nd 6 i 0 a b.1, b.2) := by
          refine pCh_gp (line := line) (kd := kd) (sub := sub) (fun i q e => (hs i q e).1) 1 a i i0 (nd 6 i 0 a b.1, b.2) h.1 ?_
          rename_i h1000
          rw [pCh, if_pos hln, if_neg h1000, hb]
          rfl
        have hlt := hb2.1.2.1
        refine (pCh_tk hl hs f _ _ i0 q ⟨hg1, ?_⟩ he).2
        exact ⟨tkB.le (by show i ≤ b.2; omega) _ h.2, hb2.2, by show i < b.2; omega, fun _ => by rw [hln]; exact hl, fun z => absurd z (by decide), fun z => absurd z (by decide)⟩
    · cases e; exact h.2
theorem cL_tk {o : Nat → PE (Tr × Nat)} (ho : ∀ i q, o i = .ok q → GT kd i q) : ∀ (k i : Nat) (q : Tr × Nat), k ≤ 5 → cL kd o k i = .ok q → GT kd i q
  | 0, i, q, hk, e => ho i q e
  | k + 1, i, q, hk, e => by
    rw [cL] at e
    obtain ⟨b, hb, he⟩ := bnd_ok e
    exact pCh_tk (by omega) (fun i q e => cL_tk ho k i q (by omega) e) _ _ _ i q (cL_tk ho k i b (by omega) hb) he
theorem pB_tk {o : Nat → PE (Tr × Nat)} (ho : ∀ i q, o i = .ok q → GT kd i q) {i : Nat} {q : Tr × Nat} (e : pB kd o i = .ok q) : tkB kd q.2 q.1 := by
  unfold pB at e
  split at e
  · rename_i hk
    obtain ⟨a, ha, he⟩ := bnd_ok e
    cases he
    have h := ho _ _ ha
    have := h.1.2.1
    exact ⟨h.2, trivial, by show i < a.2; omega, fun z => absurd z (by decide), fun z => absurd z (by decide), fun _ => hk⟩
  split at e
  · obtain ⟨a, ha, he⟩ := bnd_ok e
    obtain ⟨j, hj, he⟩ := bnd_ok he
    cases he
    have h := cL_tk ho _ _ _ (Nat.le_refl _) ha
    have := h.1.2.1
    obtain ⟨_, rfl, _⟩ := ex_ok hj
    exact ⟨tkB.le (Nat.le_succ _) _ h.2, trivial, by show i < a.2 + 1; omega, fun z => absurd z (by decide), fun z => absurd z (by decide), fun z => absurd z (by decide)⟩
  split at e
  · obtain ⟨i1, h1, he⟩ := bnd_ok e
    obtain ⟨a, ha, he⟩ := bnd_ok he
    obtain ⟨j, hj, he⟩ := bnd_ok he
    cases he
    have h := cL_tk ho _ _ _ (Nat.le_refl _) ha
    have := h.1.2.1
    obtain ⟨_, rfl, _⟩ := ex_ok hj
    obtain ⟨_, rfl, _⟩ := ex_ok h1
    exact ⟨tkB.le (Nat.le_succ _) _ h.2, trivial, by show i < a.2 + 1; omega, fun z => absurd z (by decide), fun z => absurd z (by decide), fun z => absurd z (by decide)⟩
  split at e
  · obtain ⟨i1, h1, he⟩ := bnd_ok e
    obtain ⟨a, ha, he⟩ := bnd_ok he
    obtain ⟨i2, h2, he⟩ := bnd_ok he
    obtain ⟨b, hb, he⟩ := bnd_ok he
    obtain ⟨i3, h3, he⟩ := bnd_ok he
    obtain ⟨c, hc, he⟩ := bnd_ok he
    obtain ⟨j, hj, he⟩ := bnd_ok he
    cases he
    have ga := cL_tk ho _ _ _ (Nat.le_refl _) ha
    have gb := cL_tk ho _ _ _ (Nat.le_refl _) hb
    have gc := cL_tk ho _ _ _ (Nat.le_refl _) hc
    have ga1 := ga.1.2.1
    have gb1 := gb.1.2.1
    have gc1 := gc.1.2.1
    obtain ⟨_, rfl, _⟩ := ex_ok hj
    obtain ⟨_, rfl, _⟩ := ex_ok h1
    obtain ⟨_, rfl, _⟩ := ex_ok h2
    obtain ⟨_, rfl, _⟩ := ex_ok h3
    refine ⟨tkB.le ?_ _ ga.2, ⟨tkB.le ?_ _ gb.2, tkB.le (Nat.le_succ _) _ gc.2, ?_, fun z => absurd z (by decide), fun z => absurd z (by decide), fun z => absurd z (by decide)⟩, ?_, fun z => absurd z (by decide), fun z => absurd z (by decide), fun z => absurd z (by decide)⟩
    · show a.2 ≤ c.2 + 1; omega
    · show b.2 ≤ c.2 + 1; omega
    · show a.2 < c.2 + 1; omega
    · show i < c.2 + 1; omega
  split at e
  · obtain ⟨i1, h1, he⟩ := bnd_ok e
    obtain ⟨j, hj, he⟩ := bnd_ok he
    cases he
    obtain ⟨_, rfl, _⟩ := ex_ok hj
    obtain ⟨_, rfl, _⟩ := ex_ok h1
    exact ⟨trivial, trivial, Nat.lt_succ_self _, fun z => absurd z (by decide), fun _ => by omega, fun z => absurd z (by decide)⟩
  split at e
  · obtain ⟨j, hj, he⟩ := bnd_ok e
    cases he
    obtain ⟨_, rfl, _⟩ := ex_ok hj
    exact ⟨trivial, trivial, Nat.lt_succ_self _, fun z => absurd z (by decide), fun z => absurd z (by decide), fun z => absurd z (by decide)⟩
  · cases e
    exact ⟨trivial, trivial, Nat.lt_succ_self _, fun z => absurd z (by decide), fun z => absurd z (by decide), fun z => absurd z (by decide)⟩
theorem pOne_tk : ∀ (n i : Nat) (q : Tr × Nat), pOne kd n i = .ok q → GT kd i q := by
  intro n
  induction n with
  | zero =>
    intro i q e
    rw [pOne] at e
    split at e <;> cases e
  | succ n ih =>
    intro i q e
    refine ⟨pOne_gp (n + 1) i q e, ?_⟩
    rw [pOne] at e
    split at e
    · split at e
      · cases e
      · exact pB_tk ih e
    · cases e
theorem pE_tk {n i : Nat} {q : Tr × Nat} (h : pE kd n i = .ok q) : tkB kd q.2 q.1 := (cL_tk (pOne_tk n) 5 i q (Nat.le_refl _) h).2
end PureTok
