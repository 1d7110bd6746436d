/-! ===== the model judges any exp ===== -/
def tg : Tr → Nat
  | .leaf => 0
  | .inner c _ _ _ _ => c
def szT : Tr → Nat
  | .leaf => 0
  | .inner _ _ _ l r => 1 + szT l + szT r
/-- a pair stands nowhere but behind an if -/
def N9 : Tr → Prop
  | .leaf => True
  | .inner c _ _ l r => N9 l ∧ N9 r ∧ tg l ≠ 9 ∧ (c ≠ 4 → tg r ≠ 9)
section PureN9
variable {kd : Nat → Nat}
abbrev M9 (a : Tr) : Prop := N9 a ∧ tg a ≠ 9
theorem pCh_n9 {sub : Nat → PE (Tr × Nat)} {line : Nat} (hs : ∀ i q, sub i = .ok q → M9 q.1) : ∀ (f : Nat) (a : Tr) (i : Nat) (q : Tr × Nat), M9 a → pCh kd sub line f a i = .ok q → M9 q.1
  | 0, a, i, q, h, e => by cases e; exact h
  | f + 1, a, i, q, h, e => by
    rw [pCh] at e
    split at e
    · split at e
      · cases e
      · obtain ⟨b, hb, he⟩ := bnd_ok e
        have h2 := hs _ _ hb
        refine pCh_n9 hs f (nd 6 i 0 a b.1) _ q ?_ he
        exact ⟨⟨h.1, h2.1, h.2, fun _ => h2.2⟩, (by decide : (6 : Nat) ≠ 9)⟩
    · cases e; exact h
theorem cL_n9 {o : Nat → PE (Tr × Nat)} (ho : ∀ i q, o i = .ok q → M9 q.1) : ∀ (k i : Nat) (q : Tr × Nat), cL kd o k i = .ok q → M9 q.1
  | 0, i, q, e => ho i q e
  | k + 1, i, q, e => by
    rw [cL] at e
    obtain ⟨b, hb, he⟩ := bnd_ok e
    exact pCh_n9 (fun i q e => cL_n9 ho k i q e) _ _ _ q (cL_n9 ho k i b hb) he
theorem pB_n9 {o : Nat → PE (Tr × Nat)} (ho : ∀ i q, o i = .ok q → M9 q.1) {i : Nat} {q : Tr × Nat} (e : pB kd o i = .ok q) : M9 q.1 := by
  unfold pB at e
  split at e
  · obtain ⟨a, ha, he⟩ := bnd_ok e
    cases he
    have h := ho _ _ ha
    exact ⟨⟨h.1, trivial, h.2, fun _ => by decide⟩, (by decide : (5 : Nat) ≠ 9)⟩
  split at e
  · obtain ⟨a, ha, he⟩ := bnd_ok e
    obtain ⟨j, hj, he⟩ := bnd_ok he
    cases he
    have h := cL_n9 ho _ _ _ ha
    exact ⟨⟨h.1, trivial, h.2, fun _ => by decide⟩, (by decide : (7 : Nat) ≠ 9)⟩
  split at e
  · obtain ⟨i1, h1, he⟩ := bnd_ok e
    obtain ⟨a, ha, he⟩ := bnd_ok he
    obtain ⟨j, hj, he⟩ := bnd_ok he
    cases he
    have h := cL_n9 ho _ _ _ ha
    exact ⟨⟨h.1, trivial, h.2, fun _ => by decide⟩, (by decide : (3 : Nat) ≠ 9)⟩
  split at e
  · obtain ⟨i1, h1, he⟩ := bnd_ok e
    obtain ⟨a, ha, he⟩ := bnd_ok he
    obtain ⟨i2, h2, he⟩ := bnd_ok he
    obtain ⟨b, hb, he⟩ := bnd_ok he
    obtain ⟨i3, h3, he⟩ := bnd_ok he
    obtain ⟨c, hc, he⟩ := bnd_ok he
    obtain ⟨j, hj, he⟩ := bnd_ok he
    cases he
    have ga := cL_n9 ho _ _ _ ha
    have gb := cL_n9 ho _ _ _ hb
    have gc := cL_n9 ho _ _ _ hc
    exact ⟨⟨ga.1, ⟨gb.1, gc.1, gb.2, fun _ => gc.2⟩, ga.2, fun z => absurd rfl z⟩, (by decide : (4 : Nat) ≠ 9)⟩
  split at e
  · obtain ⟨i1, h1, he⟩ := bnd_ok e
    obtain ⟨j, hj, he⟩ := bnd_ok he
    cases he
    exact ⟨⟨trivial, trivial, by decide, fun _ => by decide⟩, (by decide : (1 : Nat) ≠ 9)⟩
  split at e
  · obtain ⟨j, hj, he⟩ := bnd_ok e
    cases he
    exact ⟨⟨trivial, trivial, by decide, fun _ => by decide⟩, (by decide : (2 : Nat) ≠ 9)⟩
  · cases e
    exact ⟨⟨trivial, trivial, by decide, fun _ => by decide⟩, (by decide : (0 : Nat) ≠ 9)⟩
theorem pOne_n9 : ∀ (n i : Nat) (q : Tr × Nat), pOne kd n i = .ok q → M9 q.1 := by
  intro n
  induction n with
  | zero =>
    intro i q e
    rw [pOne] at e
    split at e <;> cases e
  | succ n ih =>
    intro i q e
    rw [pOne] at e
    split at e
    · split at e
      · cases e
      · exact pB_n9 ih e
    · cases e
theorem pE_n9 {n i : Nat} {q : Tr × Nat} (h : pE kd n i = .ok q) : M9 q.1 := cL_n9 (pOne_n9 n) 5 i q h
end PureN9
section ModelJudge6
variable {g : Mg} {T : Nat → Int} {L m : Nat} {E1 E2 : List En} {b : Bool}
theorem sp_judge (hN : ∀ e ∈ E1 ++ E2, e.2.1 ≤ 4 ∧ e.2.2.2 ≤ 2) : ∀ (N : Nat) (a : Tr) (lo D : Nat), szT a ≤ N → WE a → M9 a → tkB (kdT T L) (m + 1) a → nX a + 8 ≤ D → lo + nX a ≤ 2000 → SpJ g D T L m E1 E2 b a lo := by
  intro N
  induction N with
  | zero =>
    intro a lo D hs hW
    cases a with
    | leaf => exact hW.elim
    | inner c t q l r =>
      have e : szT (.inner c t q l r) = 1 + szT l + szT r := rfl
      rw [e] at hs
      omega
  | succ N ih =>
    intro a lo D hs hW h9 hT hD hlo
    cases a with
    | leaf => exact hW.elim
    | inner c t q l r =>
      have e : szT (.inner c t q l r) = 1 + szT l + szT r := rfl
      rw [e] at hs
      obtain ⟨⟨n1, n2, n3, n4⟩, n5⟩ := h9
      obtain ⟨t1, t2, t3, t4, t5, t6⟩ := hT
      have hn : nX (.inner c t q l r) = nX l + nX r + (if c = 7 ∨ c = 9 then 0 else 1) := rfl
      rw [hn] at hD hlo
      simp only [WE] at hW
      rcases hW with ⟨rfl, rfl, rfl⟩ | ⟨rfl, rfl, rfl⟩ | ⟨rfl, rfl, rfl⟩ | ⟨rfl, hl, rfl⟩ | ⟨rfl, hl, t9, q9, x, y, rfl, hr⟩ | ⟨rfl, -⟩ | ⟨rfl, hl, rfl⟩ | ⟨rfl, hl, hr⟩ | ⟨rfl, hl, rfl⟩
      · exact jd_0 hN (by omega) (by omega) (by simp at hlo; omega)
      · exact jd_1 (by omega) (by omega) (by simp at hlo; omega)
      · exact jd_2 (by omega) (by omega) (by simp at hlo; omega)
      · have z : (if (3 : Nat) = 7 ∨ (3 : Nat) = 9 then 0 else 1) = 1 := rfl
        rw [z] at hD hlo
        obtain ⟨d, rfl⟩ : ∃ d, D = d + 1 := ⟨D - 1, by omega⟩
        have h1 := nX_pos l hl
        have hf := fst_tk l hl t1
        exact jd_un (by omega) hN (Or.inl rfl) (ih l lo d (by omega) hl ⟨n1, n3⟩ t1 (by omega) (by omega)) h1 (by omega) (by omega)
      · have z : (if (4 : Nat) = 7 ∨ (4 : Nat) = 9 then 0 else 1) = 1 := rfl
        have z9 : nX (nd 9 t9 q9 x y) = nX x + nX y := rfl
        rw [z, z9] at hD hlo
        obtain ⟨d, rfl⟩ : ∃ d, D = d + 1 := ⟨D - 1, by omega⟩
        have es : szT (nd 9 t9 q9 x y) = 1 + szT x + szT y := rfl
        rw [es] at hs
        obtain ⟨m1, m2, m3, m4⟩ := n2
        obtain ⟨u1, u2, -⟩ := t2
        have hxy : WE x ∧ WE y := by
          simp only [nd, WE] at hr
          rcases hr with ⟨z, -⟩ | ⟨z, -⟩ | ⟨z, -⟩ | ⟨z, -⟩ | ⟨z, -⟩ | ⟨-, a, b⟩ | ⟨z, -⟩ | ⟨z, -⟩ | ⟨z, -⟩
          all_goals first | (exact absurd z (by decide)) | exact ⟨a, b⟩
        have h1 := nX_pos l hl
        have h2 := nX_pos x hxy.1
        have h3 := nX_pos y hxy.2
        have hf := fst_tk l hl t1
        have hfy := fst_tk y hxy.2 u2
        exact jd_if (by omega) hN (ih l lo d (by omega) hl ⟨n1, n3⟩ t1 (by omega) (by omega)) (ih x _ d (by omega) hxy.1 ⟨m1, m3⟩ u1 (by omega) (by omega)) (ih y _ d (by omega) hxy.2 ⟨m2, m4 (by decide)⟩ u2 (by omega) (by omega)) h1 h2 h3 (by omega) (by omega) (by omega)
      · exact absurd rfl n5
      · have z : (if (5 : Nat) = 7 ∨ (5 : Nat) = 9 then 0 else 1) = 1 := rfl
        rw [z] at hD hlo
        obtain ⟨d, rfl⟩ : ∃ d, D = d + 1 := ⟨D - 1, by omega⟩
        have h1 := nX_pos l hl
        have hf := fst_tk l hl t1
        exact jd_un (by omega) hN (Or.inr ⟨rfl, t6 rfl⟩) (ih l lo d (by omega) hl ⟨n1, n3⟩ t1 (by omega) (by omega)) h1 (by omega) (by omega)
      · have z : (if (6 : Nat) = 7 ∨ (6 : Nat) = 9 then 0 else 1) = 1 := rfl
        rw [z] at hD hlo
        have h1 := nX_pos l hl
        have h2 := nX_pos r hr
        obtain ⟨d, rfl⟩ : ∃ d, D = d + 2 := ⟨D - 2, by omega⟩
        have hfl := fst_tk l hl t1
        have hfr := fst_tk r hr t2
        exact jd_bin (by omega) hN (t4 rfl) (ih l lo d (by omega) hl ⟨n1, n3⟩ t1 (by omega) (by omega)) (ih r _ d (by omega) hr ⟨n2, n4 (by decide)⟩ t2 (by omega) (by omega)) h1 h2 (by omega) (by omega) (by omega) (by omega)
      · have z : (if (7 : Nat) = 7 ∨ (7 : Nat) = 9 then 0 else 1) = 0 := rfl
        rw [z] at hD hlo
        exact jd_7 (ih l lo D (by omega) hl ⟨n1, n3⟩ t1 (by omega) (by omega))
end ModelJudge6
