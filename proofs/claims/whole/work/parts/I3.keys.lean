/-! ===== the place of the least FAULT lies in the text ===== -/
def LK (L k : Nat) : Prop := k = 100000 ∨ k / 8 ≤ L
section Keys
variable {T : Nat → Int} {L : Nat}
theorem LK.mn {a b : Nat} (ha : LK L a) (hb : LK L b) : LK L (min a b) := by
  rcases Nat.le_total a b with h | h
  · rw [Nat.min_eq_left h]; exact ha
  · rw [Nat.min_eq_right h]; exact hb
theorem LK.no : LK L 100000 := Or.inl rfl
theorem LK.at {t f : Nat} (hf : f < 8) : LK L (tAt T L t * 8 + f) := by
  have := tAt_le T L t
  refine Or.inr ?_
  omega
theorem LK.ite {p : Prop} [Decidable p] {a b : Nat} (ha : LK L a) (hb : LK L b) : LK L (if p then a else b) := by
  split
  · exact ha
  · exact hb
theorem dm_lk {x y : Int} {t : Nat} : LK L (dm T L x y t) := by
  unfold dm
  split
  · exact LK.at (by decide)
  · exact LK.no
theorem jkT_lk {E : List En} {b : Bool} : ∀ a : Tr, LK L (jkT T L E b a)
  | .leaf => LK.no
  | .inner c t q l r => by
    have hl := jkT_lk (E := E) (b := b) l
    have hr := jkT_lk (E := E) (b := b) r
    rw [jkT]
    split
    · exact LK.ite (LK.at (by decide)) LK.no
    split
    · exact LK.ite LK.no (LK.at (by decide))
    split
    · exact LK.ite LK.no (LK.at (by decide))
    split
    · exact hl.mn dm_lk
    split
    · exact (hl.mn dm_lk).mn hr
    split
    · exact (hl.mn hr).mn dm_lk
    split
    · exact hl.mn dm_lk
    split
    · exact LK.ite ((hl.mn hr).mn dm_lk) ((hl.mn hr).mn (dm_lk.mn dm_lk))
    · exact hl
theorem jS_lk : ∀ (a : Tr) (E : List En), LK L (jS T L a E)
  | .leaf, _ => LK.no
  | .inner c t q l r, E => by
    rw [jS]
    split
    · exact ((LK.ite LK.no (LK.at (by decide))).mn (jkT_lk l)).mn dm_lk
    split
    · exact (LK.ite LK.no (LK.at (by decide))).mn (jkT_lk l)
    split
    · exact ((LK.ite LK.no (LK.at (by decide))).mn (jkT_lk l)).mn dm_lk
    split
    · exact ((LK.ite LK.no (LK.at (by decide))).mn (jkT_lk l)).mn dm_lk
    split
    · exact ((jkT_lk l).mn dm_lk).mn (jS_lk r E)
    split
    · exact (jS_lk l E).mn (jS_lk r E)
    split
    · exact (jS_lk l E).mn (jS_lk r _)
    split
    · exact LK.no
    · exact jS_lk l E
theorem kyT_lk {E : List En} : ∀ n, LK L (kyT T L E n)
  | 0 => LK.no
  | n + 1 => by
    rw [kyT]
    refine (kyT_lk n).mn ?_
    cases E[n]? with
    | none => exact LK.no
    | some e => exact LK.ite LK.no (LK.at (by decide))
theorem keyM_lk {r : RT} (h : keyM T L r ≠ 100000) : keyM T L r / 8 ≤ L := by
  have : LK L (keyM T L r) := ((kyT_lk _).mn (jS_lk _ _)).mn (jS_lk _ _)
  rcases this with z | z
  · exact absurd z h
  · exact z
end Keys
