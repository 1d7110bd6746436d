/-! ===== what a call answers; weaker ends; more room ===== -/
abbrev rI (o : Ou) (k : Int → Prop) : Prop := match o with
  | .inl (some (.inl x)) => k x
  | _ => False
abbrev rV (o : Ou) (k : Prop) : Prop := match o with
  | .inl none => k
  | _ => False
abbrev rA (o : Ou) (k : Nat → Prop) : Prop := match o with
  | .inl (some (.inr (.inl a))) => k a
  | _ => False
abbrev rIt (o : Ou) (T : Nat → Prop) (k : Int → Prop) : Prop := match o with
  | .inl (some (.inl x)) => k x
  | .inr b => T b
  | _ => False
abbrev rVt (o : Ou) (T : Nat → Prop) (k : Prop) : Prop := match o with
  | .inl none => k
  | .inr b => T b
  | _ => False
theorem rI_of {o : Ou} {k : Int → Prop} (h : rI o k) : ∃ x, o = .inl (some (vI x)) ∧ k x := by
  rcases o with v | b
  · rcases v with _ | v
    · exact h.elim
    · rcases v with x | x | x
      · exact ⟨x, rfl, h⟩
      · exact h.elim
      · exact h.elim
  · exact h.elim
theorem rV_of {o : Ou} {k : Prop} (h : rV o k) : o = .inl none ∧ k := by
  rcases o with v | b
  · rcases v with _ | v
    · exact ⟨rfl, h⟩
    · exact h.elim
  · exact h.elim
theorem rA_of {o : Ou} {k : Nat → Prop} (h : rA o k) : ∃ a, o = .inl (some (vA a)) ∧ k a := by
  rcases o with v | b
  · rcases v with _ | v
    · exact h.elim
    · rcases v with x | x | x
      · exact h.elim
      · exact ⟨x, rfl, h⟩
      · exact h.elim
  · exact h.elim
theorem rIt_of {o : Ou} {T : Nat → Prop} {k : Int → Prop} (h : rIt o T k) : (∃ x, o = .inl (some (vI x)) ∧ k x) ∨ ∃ b, o = .inr b ∧ T b := by
  rcases o with v | b
  · rcases v with _ | v
    · exact h.elim
    · rcases v with x | x | x
      · exact Or.inl ⟨x, rfl, h⟩
      · exact h.elim
      · exact h.elim
  · exact Or.inr ⟨b, rfl, h⟩
theorem rVt_of {o : Ou} {T : Nat → Prop} {k : Prop} (h : rVt o T k) : (o = .inl none ∧ k) ∨ ∃ b, o = .inr b ∧ T b := by
  rcases o with v | b
  · rcases v with _ | v
    · exact Or.inl ⟨rfl, h⟩
    · exact h.elim
  · exact Or.inr ⟨b, rfl, h⟩
theorem Cal.weak {g : Mg} {y : Ly} {J : Jm} {d : Nat} {a : List AV} {w : Wd} {K K' : Ou → Wd → Prop} (h : Cal g y J d a w K) (hk : ∀ o w', K o w' → K' o w') : Cal g y J d a w K' := by
  intro p e ha hc hcl s m args below hf happ hP hK
  obtain ⟨n, o, h1, h2, h3, o', w', q1, q2, q3, q4, q5⟩ := h p e ha hc hcl s m args below hf happ hP hK
  exact ⟨n, o, h1, h2, h3, o', w', q1, q2, q3, hk o' w' q4, q5⟩
/-- a call is asked for only where what is held is within -/
theorem Cal.rng {g : Mg} {y : Ly} {J : Jm} {d : Nat} {a : List AV} {w : Wd} {K : Ou → Wd → Prop} (h : (∀ o, o < y.nn → ∀ k, k < (y.ly o).2 → rng y o k (w o k)) → (∀ v ∈ a, okv v) → (∀ o k r, y.rf o k = some r → w o k = r) → Cal g y J d a w K) : Cal g y J d a w K := by
  intro p e ha hc hcl s m args below hf happ hP hK
  exact h hP.2.2.1.2.1 hP.2.1 hP.2.2.1.2.2 p e ha hc hcl s m args below hf happ hP hK
theorem mo_lt {q : Nat} (h : isMo q) : q < 1000 := by obtain ⟨k, hk, rfl⟩ := h; omega
section RowsD
variable {g : Mg} {y : Ly} {J : Jm} {d : Nat} {K : Ou → Wd → Prop} {pc : Nat} {ls : List (Nat × AV)} {st : List AV} {w : Wd}
def MST (own : String) (i : Nat) : Prop := Cond.fieldLink own i "VertexLanguage$Lot" "MOST" "[I" ∈ lw_g
theorem v_most {i : Nat} (hd : decode J.cc pc = .ok (.getstatic i, 3)) (hl : MST J.own i) (k : V g y J d K (pc + 3) ls (vA 1000 :: st) w) : V g y J d K pc ls st w := by
  intro p e s m args below meth c A0 H locs lsA hH hS hl2 hlo hst
  obtain ⟨h1, h2, h3, h4, h5, h6, h7, h8, h9, h10, h11⟩ := id A0
  exact va_gets h1 h2 h9.1 hS h6 (h7 _ hl) (fun _ h => h) hd (k p e s m args below meth c A0 H locs lsA hH hS hl2 hlo (ok_cons trivial hst))
theorem v_mald {i : Int} (hd : decode J.cc pc = .ok (.iaload, 1)) (hb : 0 ≤ i ∧ i < 5) (k : V g y J d K (pc + 1) ls (vI (mostL.getD i.toNat 0) :: st) w) : V g y J d K pc ls (vI i :: vA 1000 :: st) w := by
  intro p e s m args below meth c A0 H locs lsA hH hS hl2 hlo hst
  obtain ⟨h1, h2, h3, h4, h5, h6, h7, h8, h9, h10, h11⟩ := id A0
  refine va_ti h1 h2 h9.2.1 hS (in_of (n := 5) (ok_hd hst) hb) (v := .int (Int32.ofInt (mostL.getD i.toNat 0))) (by rw [i_nat (ok_hd hst)]) hd ?_
  refine k p e s m args below meth c A0 H locs lsA hH hS hl2 hlo (ok_cons ?_ (ok_tl (ok_tl hst)))
  show inI (mostL.getD i.toNat 0)
  rcases (by omega : i = 0 ∨ i = 1 ∨ i = 2 ∨ i = 3 ∨ i = 4) with rfl | rfl | rfl | rfl | rfl <;> decide
end RowsD
