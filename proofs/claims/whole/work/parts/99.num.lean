/-! ===== numbers and kinds of what is told ===== -/
theorem num_add {E : List En} {e : En} (h : NUM E) (he : e.2.2.1 = cntE e.2.1 E) : NUM (E ++ [e]) := by
  intro k x hx
  by_cases z : k < E.length
  · rw [List.getElem?_append_left z] at hx
    rw [List.take_append_of_le_length (by omega)]
    exact h k x hx
  · have hk : k = E.length := by
      have := (List.getElem?_eq_some_iff.mp hx).1
      rw [List.length_append] at this
      simp at this
      omega
    subst hk
    rw [List.getElem?_append_right (Nat.le_refl _)] at hx
    simp at hx
    subst hx
    rw [List.take_append_of_le_length (Nat.le_refl _), List.take_of_length_le (Nat.le_refl _)]
    exact he
section PureNum
variable {T : Nat → Int} {L : Nat}
theorem pTd_kind {E : List En} {i : Nat} {q : (Nat × Int) × Nat} (h : pTd (kdT T L) (vlT T L) E i = .ok q) : q.1.1 = 1 ∨ q.1.1 = 2 := by
  unfold pTd at h
  obtain ⟨i1, -, h⟩ := bnd_ok h
  obtain ⟨i2, -, h⟩ := bnd_ok h
  obtain ⟨r, hr, h⟩ := bnd_ok h
  obtain ⟨j, -, h⟩ := bnd_ok h
  cases h
  show r.1.1 = 1 ∨ r.1.1 = 2
  unfold pTv at hr
  split at hr
  · cases hr; exact Or.inl rfl
  · obtain ⟨i3, -, hr⟩ := bnd_ok hr
    split at hr
    · obtain ⟨i4, -, hr⟩ := bnd_ok hr
      obtain ⟨i5, -, hr⟩ := bnd_ok hr
      obtain ⟨v, -, hr⟩ := bnd_ok hr
      cases hr
      show (if kdT T L i3 = 30 then 2 else 1) = 1 ∨ (if kdT T L i3 = 30 then 2 else 1) = 2
      split
      · exact Or.inr rfl
      · exact Or.inl rfl
    · split at hr
      · obtain ⟨i4, -, hr⟩ := bnd_ok hr
        cases hr
        show (if kdT T L i3 = 39 ∨ kdT T L i3 = 40 then 2 else 1) = 1 ∨ (if kdT T L i3 = 39 ∨ kdT T L i3 = 40 then 2 else 1) = 2
        split
        · exact Or.inr rfl
        · exact Or.inl rfl
      · cases hr
/-- numbers count, sorts and kinds are right, NAMES lie before the place -/
def EOK (E : List En) (j : Nat) : Prop := NUM E ∧ ∀ e ∈ E, e.2.1 ≤ 3 ∧ 1 ≤ e.2.2.2 ∧ e.2.2.2 ≤ 2 ∧ e.1 < j
theorem fTs_eok : ∀ (f : Nat) (p p' : ST × DE), EOK (sE p.1) (sI p.1) → fTs T L f p = .ok p' → EOK (sE p'.1) (sI p'.1)
  | 0, p, p', h, e => by cases e; exact h
  | f + 1, p, p', h, e => by
    rw [fTs] at e
    split at e
    · obtain ⟨p1, h1, h2⟩ := bnd_ok e
      refine fTs_eok f p1 p' ?_ h2
      unfold fTo2 at h1
      obtain ⟨q, hq, h3⟩ := bnd_ok h1
      have hk := pTd_kind hq
      have hs := tlS_3 (kdT T L (sI p.1))
      have hlt : sI p.1 + 1 < q.2 := by
        unfold pTd at hq
        obtain ⟨i1, e1, hq⟩ := bnd_ok hq
        obtain ⟨i2, e2, hq⟩ := bnd_ok hq
        obtain ⟨r, hr, hq⟩ := bnd_ok hq
        obtain ⟨j, e4, hq⟩ := bnd_ok hq
        cases hq
        have a1 := (ex_i e1).1
        have a2 := (pNm_ok e2).2.1
        have a4 := (ex_i e4).1
        have a3 : i2 ≤ r.2 := by
          unfold pTv at hr
          split at hr
          · cases hr; exact Nat.le_refl _
          · obtain ⟨i3, b3, hr⟩ := bnd_ok hr
            have b3 := (ex_i b3).1
            split at hr
            · obtain ⟨i4, b4, hr⟩ := bnd_ok hr
              obtain ⟨i5, b5, hr⟩ := bnd_ok hr
              obtain ⟨v, bv, hr⟩ := bnd_ok hr
              have b4 := (ex_i b4).1
              have b5 := (ex_i b5).1
              cases hr
              show i2 ≤ v.2
              split at bv
              · unfold pBool at bv
                split at bv
                · obtain ⟨z, c1, c2⟩ := bnd_ok bv
                  have c1 := (ex_i c1).1
                  cases c2
                  show i2 ≤ z
                  omega
                · obtain ⟨z, c1, c2⟩ := bnd_ok bv
                  have c1 := (ex_i c1).1
                  cases c2
                  show i2 ≤ z
                  omega
              · have := (pInt_ok bv).1
                omega
            · split at hr
              · obtain ⟨i4, b4, hr⟩ := bnd_ok hr
                have b4 := (ex_i b4).1
                cases hr
                show i2 ≤ i4
                omega
              · cases hr
        show sI p.1 + 1 < j
        omega
      cases h3
      refine ⟨num_add h.1 rfl, fun x hx => ?_⟩
      rcases List.mem_append.mp hx with z | z
      · obtain ⟨a1, a2, a3, a4⟩ := h.2 x z
        exact ⟨a1, a2, a3, by show x.1 < q.2; omega⟩
      · simp at z
        subst z
        exact ⟨hs, by show 1 ≤ q.1.1; omega, by show q.1.1 ≤ 2; omega, hlt⟩
    · cases e; exact h
theorem fTs_eok0 {p : ST × DE} (h : fTs T L 1000 (st0, []) = .ok p) : EOK (sE p.1) (sI p.1) := fTs_eok 1000 _ p ⟨fun k e hk => (by have hk : ([] : List En)[k]? = some e := hk; simp at hk), fun e he => (by have he : e ∈ ([] : List En) := he; simp at he)⟩ h
end PureNum
