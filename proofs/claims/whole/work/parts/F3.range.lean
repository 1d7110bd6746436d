/-! ===== values are ints ===== -/
def RgX (E : List En) (own lets : Nat → Int) (X : Xv) : Prop := (∀ e ∈ E, (e.2.1 = 1 → inI (own e.2.2.1)) ∧ (e.2.1 = 4 → inI (lets e.2.2.1)) ∧ (e.2.1 = 2 → inI (X 1 e.2.2.1)) ∧ (e.2.1 = 3 → inI (X 3 e.2.2.1))) ∧ ∀ b, b ≤ 5 → inI (X 0 b)
section Range
variable {T : Nat → Int} {L : Nat} {X : Xv} {E : List En} {own lets : Nat → Int} {h_ arc : Nat} {bb : Bool}
theorem in01 {p : Prop} [Decidable p] : inI (if p then 1 else 0) := by split <;> decide
theorem in10 {p : Prop} [Decidable p] : inI (if p then 0 else 1) := by split <;> decide
theorem bnv_in {k : Nat} {a b : Int} : inI (bnv k a b) := by
  unfold bnv
  split
  · exact wr_in _
  split
  · exact wr_in _
  split
  · exact wr_in _
  split
  · exact i_in _
  split
  · exact i_in _
  split
  · exact in01
  split
  · exact in10
  split
  · exact in01
  split
  · exact in01
  split
  · exact in01
  · exact in01
theorem drw_in {d : Nat} {a : Int} : inI (drw X d a) := i_in _
theorem opv_in {c t : Nat} (hL : L ≤ 4000) (hE : ENb E) (hR : RgX E own lets X) (hA : bb = true → ∀ k, k < 4 → inI (X 4 (4 * arc + k))) (hc : c = 0 ∨ c = 1 ∨ c = 2) (hj : 100000 ≤ jkT T L E bb (nd c t 0 nl nl)) : inI (opv T L X E own lets arc c t) := by
  unfold opv
  rcases hc with rfl | rfl | rfl
  · rw [if_neg (by decide), if_neg (by decide)]
    by_cases k3 : kdT T L t = 3 ∨ kdT T L t = 32
    · rw [if_pos k3]
      rcases k3 with z | z
      · have := kd3_val z; unfold inI; omega
      · rw [kd32_val z]; decide
    rw [if_neg k3]
    by_cases k31 : kdT T L t = 31
    · rw [if_pos k31]; decide
    rw [if_neg k31]
    by_cases k2 : kdT T L t = 2
    · rw [if_pos k2]
      obtain ⟨e, hf, hso⟩ := nm_ok hL hE k2 hj
      obtain ⟨n1, n2, n3, n4⟩ := fnd_nb hE hf
      obtain ⟨r1, r4, r2, r3⟩ := hR.1 e (fnd_mem _ hf)
      rw [n3, n1]
      rcases hso with z | z | z | z
      · rw [z, if_pos (by decide)]; exact r1 z
      · rw [z, if_neg (by decide), if_neg (by decide), if_pos (by decide)]; exact r2 z
      · rw [z, if_neg (by decide), if_neg (by decide), if_neg (by decide)]; exact r3 z
      · rw [z, if_neg (by decide), if_pos (by decide)]; exact r4 z
    rw [if_neg k2]
    split
    · exact hR.2 0 (by decide)
    split
    · exact hR.2 1 (by decide)
    split
    · exact hR.2 3 (by decide)
    split
    · exact hR.2 4 (by decide)
    · exact hR.2 5 (by decide)
  · rw [if_pos rfl]
    obtain ⟨hbb, e, hf, hs0⟩ := arc_ok hL hj
    obtain ⟨n1, n2, n3, n4⟩ := fnd_nb hE hf
    rw [n1]
    exact hA hbb _ (nb_4 (Or.inl hs0) n4)
  · rw [if_neg (by decide), if_pos rfl]
    exact in10
theorem evx_in (hL : L ≤ 4000) (hE : ENb E) (hR : RgX E own lets X) (hA : bb = true → ∀ k, k < 4 → inI (X 4 (4 * arc + k))) : ∀ (a : Tr) (b : Bool) (s d : Nat) (q : Int × Nat × Nat), WE a → 100000 ≤ jkT T L E bb a → evx T L X h_ E own lets arc b a s d = .ok q → inI q.1
  | .leaf, _, _, _, _, hW, _, _ => hW.elim
  | .inner c t qq l r, b, s, d, q, hW, hj, he => by
    have ihl := evx_in hL hE hR hA l
    have ihr := evx_in hL hE hR hA r
    simp only [WE] at hW
    have leafy : (c = 0 ∨ c = 1 ∨ c = 2) → 100000 ≤ jkT T L E bb (nd c t 0 nl nl) → inI q.1 := by
      intro hc hj
      have e : evx T L X h_ E own lets arc b (.inner c t qq l r) s d = _ := evx0 hc
      rw [e] at he
      obtain ⟨s1, h1, e2⟩ := bnd_ok he
      cases e2
      exact opv_in hL hE hR hA hc hj
    rcases hW with ⟨rfl, rfl, rfl⟩ | ⟨rfl, rfl, rfl⟩ | ⟨rfl, rfl, rfl⟩ | ⟨rfl, hl, rfl⟩ | ⟨rfl, hl, t9, q9, x, y, rfl, hxy⟩ | ⟨rfl, hl, hr⟩ | ⟨rfl, hl, rfl⟩ | ⟨rfl, hl, hr⟩ | ⟨rfl, hl, rfl⟩
    · exact leafy (Or.inl rfl) hj
    · exact leafy (Or.inr (Or.inl rfl)) hj
    · exact leafy (Or.inr (Or.inr rfl)) hj
    · have e : evx T L X h_ E own lets arc b (.inner 3 t qq l .leaf) s d = _ := evx3
      rw [e] at he
      obtain ⟨p, h1, e2⟩ := bnd_ok he
      obtain ⟨s1, h2, e3⟩ := bnd_ok e2
      split at e3
      · cases e3
      · cases e3; exact drw_in
    · have e : evx T L X h_ E own lets arc b (.inner 4 t qq l (nd 9 t9 q9 x y)) s d = _ := evx4
      rw [e] at he
      obtain ⟨p, h1, e2⟩ := bnd_ok he
      obtain ⟨s1, h2, e3⟩ := bnd_ok e2
      have hjj : jkT T L E bb (.inner 4 t qq l (nd 9 t9 q9 x y)) = min (min (jkT T L E bb l) (dm T L (knT T L E bb l) 2 (fst_ l))) (jkT T L E bb (nd 9 t9 q9 x y)) := rfl
      rw [hjj] at hj
      exact ihr _ _ _ _ hxy (by omega) e3
    · have e : evx T L X h_ E own lets arc b (.inner 9 t qq l r) s d = _ := evx9
      rw [e] at he
      have hjj : jkT T L E bb (.inner 9 t qq l r) = min (min (jkT T L E bb l) (jkT T L E bb r)) (dm T L (knT T L E bb r) (knT T L E bb l) (fst_ r)) := rfl
      rw [hjj] at hj
      split at he
      · exact ihl _ _ _ _ hl (by omega) he
      · exact ihr _ _ _ _ hr (by omega) he
    · have e : evx T L X h_ E own lets arc b (.inner 5 t qq l .leaf) s d = _ := evx5
      rw [e] at he
      obtain ⟨p, h1, e2⟩ := bnd_ok he
      obtain ⟨s1, h2, e3⟩ := bnd_ok e2
      cases e3
      show inI (if kdT T L t = 16 then _ else _)
      split
      · exact wr_in _
      · exact wr_in _
    · have e : evx T L X h_ E own lets arc b (.inner 6 t qq l r) s d = _ := evx6
      rw [e] at he
      have hjl : 100000 ≤ jkT T L E bb l ∧ 100000 ≤ jkT T L E bb r := by
        have hjj : jkT T L E bb (.inner 6 t qq l r) = (if kdT T L t = 21 ∨ kdT T L t = 22 then min (min (jkT T L E bb l) (jkT T L E bb r)) (dm T L (knT T L E bb r) (knT T L E bb l) (fst_ r)) else min (min (jkT T L E bb l) (jkT T L E bb r)) (min (dm T L (knT T L E bb l) (if lnO (kdT T L t) ≤ 2 then 2 else 1) (fst_ l)) (dm T L (knT T L E bb r) (if lnO (kdT T L t) ≤ 2 then 2 else 1) (fst_ r)))) := rfl
        rw [hjj] at hj
        split at hj <;> omega
      split at he
      · obtain ⟨p, h1, e2⟩ := bnd_ok he
        obtain ⟨s1, h2, e3⟩ := bnd_ok e2
        by_cases hq : p.1 = (if lnO (kdT T L t) = 2 then 0 else 1)
        · rw [if_pos hq] at e3; cases e3; exact ihl _ _ _ p hl hjl.1 h1
        · rw [if_neg hq] at e3; exact ihr _ _ _ _ hr hjl.2 e3
      · obtain ⟨p, h1, e2⟩ := bnd_ok he
        obtain ⟨p2, h2, e3⟩ := bnd_ok e2
        obtain ⟨s1, h3, e4⟩ := bnd_ok e3
        split at e4
        · cases e4
        · cases e4; exact bnv_in
    · have e : evx T L X h_ E own lets arc b (.inner 7 t qq l .leaf) s d = _ := evx7
      rw [e] at he
      exact ihl _ _ _ _ hl hj he
end Range
