/-! ===== ways and first values as they are told ===== -/
def DOK (D : DE) : Prop := ∀ e ∈ D, (2 ≤ e.1.2.1 → 35 ≤ e.2 ∧ e.2 ≤ 40 ∧ (e.1.2.2.2 = 2 ↔ (e.2 = 39 ∨ e.2 = 40))) ∧ (e.1.2.1 = 1 → inI e.2 ∧ (e.1.2.2.2 = 2 → b01 e.2))
/-- the class's ways, kind by kind -/
def WyK (E : List En) (wc : Wd) : Prop := ∀ en ∈ E, (en.2.1 = 2 → en.2.2.2 = 2 → wc 10 en.2.2.1 = 39 ∨ wc 10 en.2.2.1 = 40) ∧ (en.2.1 = 3 → en.2.2.2 = 2 → wc 11 en.2.2.1 = 39 ∨ wc 11 en.2.2.1 = 40)
section Ways
variable {T : Nat → Int} {L : Nat}
theorem pTd_dok {E : List En} {i : Nat} {q : (Nat × Int) × Nat} (h : pTd (kdT T L) (vlT T L) E i = .ok q) : (2 ≤ tlS (kdT T L i) → 35 ≤ q.1.2 ∧ q.1.2 ≤ 40 ∧ (q.1.1 = 2 ↔ (q.1.2 = 39 ∨ q.1.2 = 40))) ∧ (tlS (kdT T L i) = 1 → inI q.1.2 ∧ (q.1.1 = 2 → b01 q.1.2)) := by
  unfold pTd at h
  obtain ⟨i1, -, h⟩ := bnd_ok h
  obtain ⟨i2, -, h⟩ := bnd_ok h
  obtain ⟨r, hr, h⟩ := bnd_ok h
  obtain ⟨j, -, h⟩ := bnd_ok h
  cases h
  generalize tlS (kdT T L i) = so at hr
  show (2 ≤ so → 35 ≤ r.1.2 ∧ r.1.2 ≤ 40 ∧ (r.1.1 = 2 ↔ (r.1.2 = 39 ∨ r.1.2 = 40))) ∧ (so = 1 → inI r.1.2 ∧ (r.1.1 = 2 → b01 r.1.2))
  unfold pTv at hr
  split at hr
  · rename_i h0
    exact ⟨fun z => by omega, fun z => by omega⟩
  · obtain ⟨i3, -, hr⟩ := bnd_ok hr
    split at hr
    · rename_i h1
      refine ⟨fun z => by omega, fun _ => ?_⟩
      obtain ⟨i4, -, hr⟩ := bnd_ok hr
      obtain ⟨i5, -, hr⟩ := bnd_ok hr
      obtain ⟨v, bv, hr⟩ := bnd_ok hr
      cases hr
      show inI v.1 ∧ ((if kdT T L i3 = 30 then 2 else 1) = 2 → b01 v.1)
      by_cases h30 : kdT T L i3 = 30
      · rw [if_pos h30] at bv ⊢
        have hb : b01 v.1 := by
          unfold pBool at bv
          split at bv
          · obtain ⟨z, -, c2⟩ := bnd_ok bv
            cases c2
            exact Or.inr rfl
          · obtain ⟨z, -, c2⟩ := bnd_ok bv
            cases c2
            exact Or.inl rfl
        refine ⟨?_, fun _ => hb⟩
        rcases hb with z | z <;> rw [z] <;> decide
      · rw [if_neg h30] at bv ⊢
        refine ⟨?_, fun z => absurd z (by decide)⟩
        unfold pInt at bv
        split at bv
        · obtain ⟨z, -, c2⟩ := bnd_ok bv
          obtain ⟨y, -, c3⟩ := bnd_ok c2
          cases c3
          exact wr_in _
        · obtain ⟨z, c1, c2⟩ := bnd_ok bv
          obtain ⟨k1, -, -⟩ := ex_ok c1
          cases c2
          have := kd3_val k1
          show inI (vlT T L i5)
          unfold vlT inI
          omega
    · split at hr
      · rename_i h35
        obtain ⟨i4, -, hr⟩ := bnd_ok hr
        cases hr
        refine ⟨fun _ => ⟨?_, ?_, ?_⟩, fun z => by omega⟩
        · show (35 : Int) ≤ ((kdT T L i3 : Nat) : Int)
          omega
        · show ((kdT T L i3 : Nat) : Int) ≤ 40
          omega
        · show ((if kdT T L i3 = 39 ∨ kdT T L i3 = 40 then 2 else 1) = 2 ↔ (((kdT T L i3 : Nat) : Int) = 39 ∨ ((kdT T L i3 : Nat) : Int) = 40))
          by_cases z : kdT T L i3 = 39 ∨ kdT T L i3 = 40
          · rw [if_pos z]
            exact ⟨fun _ => by omega, fun _ => rfl⟩
          · rw [if_neg z]
            exact ⟨fun y => absurd y (by decide), fun y => absurd (by omega) z⟩
      · cases hr
theorem fTs_dok : ∀ (f : Nat) (p p' : ST × DE), DOK p.2 → fTs T L f p = .ok p' → DOK p'.2
  | 0, p, p', h, e => by cases e; exact h
  | f + 1, p, p', h, e => by
    rw [fTs] at e
    split at e
    · obtain ⟨p1, h1, h2⟩ := bnd_ok e
      refine fTs_dok f p1 p' ?_ h2
      unfold fTo2 at h1
      obtain ⟨q, hq, h3⟩ := bnd_ok h1
      have hk := pTd_dok hq
      cases h3
      intro x hx
      rcases List.mem_append.mp hx with z | z
      · exact h x z
      · simp at z
        subst z
        exact hk
    · cases e; exact h
theorem fTs_dok0 {p : ST × DE} (h : fTs T L 1000 (st0, []) = .ok p) : DOK p.2 := fTs_dok 1000 _ p (fun e he => by cases he) h
theorem wy_ex {D : DE} {so k : Nat} (hN : NUM (D.map (fun e => e.1))) (hk : k < cntE so (D.map (fun e => e.1))) : ∃ e ∈ D, e.1.2.1 = so ∧ e.1.2.2.1 = k ∧ wyD D so k = (if so = 1 then e.2 else e.2 - 35) := by
  cases hf : D.find? (fun e => decide (e.1.2.1 = so ∧ e.1.2.2.1 = k)) with
  | none =>
    exfalso
    obtain ⟨i0, e0, h1, h2, h3⟩ := cnt_ex _ hk
    have hn := hN i0 e0 h1
    rw [h2, h3] at hn
    rw [List.getElem?_map] at h1
    cases hd : D[i0]? with
    | none => rw [hd] at h1; cases h1
    | some x =>
      rw [hd] at h1
      have hx : x.1 = e0 := Option.some.inj h1
      rw [List.find?_eq_none] at hf
      have := hf x (List.mem_of_getElem? hd)
      rw [hx] at this
      simp [h2, hn] at this
  | some e =>
    have h1 := List.mem_of_find?_eq_some hf
    have h2 := List.find?_some hf
    have h2 : e.1.2.1 = so ∧ e.1.2.2.1 = k := of_decide_eq_true h2
    refine ⟨e, h1, h2.1, h2.2, ?_⟩
    unfold wyD
    rw [hf]
theorem WyR.of {D : DE} {E : List En} {w : Wd} (hE : E = D.map (fun e => e.1)) (hN : NUM E) (hD : DOK D) (hV : VS w D) : WyR D E w ∧ WyK E w := by
  subst hE
  have key : ∀ so k, (so = 2 ∨ so = 3) → k < cntE so (D.map (fun e => e.1)) → w (vcl so) k - 35 = wyD D so k := by
    intro so k hso hk
    obtain ⟨e, h1, h2, h3, h4⟩ := wy_ex hN hk
    obtain ⟨-, -, v3⟩ := hV e h1
    rw [h2, h3] at v3
    rw [h4, if_neg (by omega), v3 (by omega)]
  refine ⟨⟨fun k hk => key 2 k (Or.inl rfl) hk, fun k hk => key 3 k (Or.inr rfl) hk, fun en hen => ?_⟩, fun en hen => ?_⟩
  · obtain ⟨e, he, rfl⟩ := List.mem_map.mp hen
    obtain ⟨-, -, v3⟩ := hV e he
    obtain ⟨d1, -⟩ := hD e he
    refine ⟨fun z => ?_, fun z => ?_⟩
    · rw [z] at v3 d1
      obtain ⟨a, b, c⟩ := d1 (by decide)
      have : w 10 e.1.2.2.1 = e.2 := v3 (by decide)
      rw [this]
      exact ⟨a, b, c.2⟩
    · rw [z] at v3 d1
      obtain ⟨a, b, c⟩ := d1 (by decide)
      have : w 11 e.1.2.2.1 = e.2 := v3 (by decide)
      rw [this]
      exact ⟨a, b, c.2⟩
  · obtain ⟨e, he, rfl⟩ := List.mem_map.mp hen
    obtain ⟨-, -, v3⟩ := hV e he
    obtain ⟨d1, -⟩ := hD e he
    refine ⟨fun z => ?_, fun z => ?_⟩
    · rw [z] at v3 d1
      obtain ⟨a, b, c⟩ := d1 (by decide)
      have : w 10 e.1.2.2.1 = e.2 := v3 (by decide)
      rw [this]
      exact c.1
    · rw [z] at v3 d1
      obtain ⟨a, b, c⟩ := d1 (by decide)
      have : w 11 e.1.2.2.1 = e.2 := v3 (by decide)
      rw [this]
      exact c.1
end Ways
