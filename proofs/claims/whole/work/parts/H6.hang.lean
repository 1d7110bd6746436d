/-! ===== arcs are hung behind those of their node ===== -/
theorem fltA_cg {f f' : Nat → Int} {v : Int} : ∀ (n i : Nat), (∀ x, i ≤ x → x < i + n → f' x = f x) → fltA f' v n i = fltA f v n i
  | 0, _, _ => rfl
  | n + 1, i, h => by rw [fltA, fltA, h i (Nat.le_refl _) (by omega), fltA_cg n (i + 1) (fun x a b => h x (by omega) (by omega))]
theorem nxA_cg {f f' : Nat → Int} {v : Int} : ∀ (n i : Nat), (∀ x, i ≤ x → x < i + n → f' x = f x) → nxA f' v n i = nxA f v n i
  | 0, _, _ => rfl
  | n + 1, i, h => by rw [nxA, nxA, h i (Nat.le_refl _) (by omega), nxA_cg n (i + 1) (fun x a b => h x (by omega) (by omega))]
theorem lsA_cg {f f' : Nat → Int} {v : Int} : ∀ (n : Nat), (∀ x, x < n → f' x = f x) → lsA f' v n = lsA f v n
  | 0, _ => rfl
  | n + 1, h => by rw [lsA, lsA, h n (by omega), lsA_cg n (fun x a => h x (by omega))]
theorem fltA_s {f : Nat → Int} {v : Int} : ∀ (n i : Nat), (fltA f v (n + 1) i).length = (fltA f v n i).length + (if f (i + n) = v then 1 else 0)
  | 0, i => by
    have e : fltA f v (0 + 1) i = (if f i = v then i :: fltA f v 0 (i + 1) else fltA f v 0 (i + 1)) := rfl
    rw [e]
    show _ = (fltA f v 0 i).length + (if f i = v then 1 else 0)
    by_cases z : f i = v
    · rw [if_pos z, if_pos z]; rfl
    · rw [if_neg z, if_neg z]; rfl
  | n + 1, i => by
    have ih := fltA_s (f := f) (v := v) n (i + 1)
    rw [show i + 1 + n = i + (n + 1) by omega] at ih
    rw [fltA, fltA.eq_def f v (n + 1) i]
    by_cases z : f i = v
    · rw [if_pos z]
      simp only [if_pos z, List.length_cons]
      rw [ih]
      omega
    · rw [if_neg z]
      simp only [if_neg z]
      exact ih
theorem nxA_r {f : Nat → Int} {v : Int} : ∀ (n i : Nat), nxA f v n i = -1 ∨ ((i : Int) ≤ nxA f v n i ∧ nxA f v n i < ((i + n : Nat) : Int))
  | 0, _ => Or.inl rfl
  | n + 1, i => by
    rw [nxA]
    split
    · exact Or.inr ⟨Int.le_refl _, by omega⟩
    · rcases nxA_r (f := f) (v := v) n (i + 1) with h | h
      · exact Or.inl h
      · exact Or.inr ⟨by omega, by omega⟩
theorem nxA_s {f : Nat → Int} {v : Int} : ∀ (n i : Nat), nxA f v (n + 1) i = (if nxA f v n i = -1 then (if f (i + n) = v then ((i + n : Nat) : Int) else -1) else nxA f v n i)
  | 0, i => by
    rw [nxA, nxA, if_pos rfl, Nat.add_zero]
    rfl
  | n + 1, i => by
    have ih := nxA_s (f := f) (v := v) n (i + 1)
    rw [show i + 1 + n = i + (n + 1) by omega] at ih
    by_cases z : f i = v
    · have e1 : nxA f v (n + 1 + 1) i = (i : Int) := by rw [nxA, if_pos z]
      have e2 : nxA f v (n + 1) i = (i : Int) := by rw [nxA, if_pos z]
      rw [e1, e2, if_neg (by omega)]
    · have e1 : nxA f v (n + 1 + 1) i = nxA f v (n + 1) (i + 1) := by rw [nxA, if_neg z]
      have e2 : nxA f v (n + 1) i = nxA f v n (i + 1) := by rw [nxA, if_neg z]
      rw [e1, e2]
      exact ih
/-- none behind i: it is the last -/
theorem lsA_of {f : Nat → Int} {v : Int} {i : Nat} (hi : f i = v) : ∀ (n : Nat), nxA f v n (i + 1) = -1 → lsA f v (i + 1 + n) = (i : Int)
  | 0, _ => by rw [Nat.add_zero, lsA, if_pos hi]
  | n + 1, h => by
    rw [nxA_s] at h
    by_cases z : nxA f v n (i + 1) = -1
    · rw [if_pos z] at h
      by_cases y : f (i + 1 + n) = v
      · rw [if_pos y] at h; omega
      · rw [show i + 1 + (n + 1) = (i + 1 + n) + 1 by omega, lsA, if_neg y]
        exact lsA_of hi n z
    · rw [if_neg z] at h; exact absurd h z
theorem lsA_r {f : Nat → Int} {v : Int} : ∀ (n : Nat), lsA f v n = -1 ∨ ∃ i : Nat, i < n ∧ lsA f v n = (i : Int) ∧ f i = v ∧ nxA f v (n - (i + 1)) (i + 1) = -1
  | 0 => Or.inl rfl
  | n + 1 => by
    by_cases z : f n = v
    · refine Or.inr ⟨n, by omega, by rw [lsA, if_pos z], z, ?_⟩
      rw [show n + 1 - (n + 1) = 0 by omega]; rfl
    · rcases lsA_r (f := f) (v := v) n with h | ⟨i, h1, h2, h3, h4⟩
      · exact Or.inl (by rw [lsA, if_neg z]; exact h)
      · refine Or.inr ⟨i, by omega, by rw [lsA, if_neg z]; exact h2, h3, ?_⟩
        rw [show n + 1 - (i + 1) = (n - (i + 1)) + 1 by omega, nxA_s, if_pos h4, show i + 1 + (n - (i + 1)) = n by omega, if_neg z]
theorem lsA_nx {f : Nat → Int} {v : Int} : ∀ (n : Nat), nxA f v n 0 ≠ -1 → lsA f v n ≠ -1
  | 0, h => absurd rfl h
  | n + 1, h => by
    rw [nxA_s, Nat.zero_add] at h
    rw [lsA]
    by_cases y : f n = v
    · rw [if_pos y]; omega
    · rw [if_neg y]
      by_cases z : nxA f v n 0 = -1
      · rw [if_pos z, if_neg y] at h; exact absurd rfl h
      · exact lsA_nx n z
/-- how the arcs of one end hang -/
def HgI (f : Nat → Int) (na : Nat) (F Ls N : Nat → Int) : Prop := (∀ v : Nat, v < 40 → F v = nxA f (v : Int) na 0) ∧ (∀ v : Nat, v < 40 → lsA f (v : Int) na ≠ -1 → Ls v = lsA f (v : Int) na) ∧ ∀ i, i < na → N i = nxA f (f i) (na - (i + 1)) (i + 1)
section Hang
variable {f f' F Ls N : Nat → Int} {na v : Nat}
theorem hg_nx (hc : ∀ x, x < na → f' x = f x) {u : Int} {n i : Nat} (h : i + n = na) : nxA f' u (n + 1) i = (if nxA f u n i = -1 then (if f' na = u then (na : Int) else -1) else nxA f u n i) := by
  rw [nxA_s, h, nxA_cg n i (fun x a b => hc x (by omega))]
theorem hg_ls (hc : ∀ x, x < na → f' x = f x) {u : Int} : lsA f' u (na + 1) = (if f' na = u then (na : Int) else lsA f u na) := by
  rw [lsA, lsA_cg na hc]
theorem hg_sub {i : Nat} (h : i < na) : na + 1 - (i + 1) = (na - (i + 1)) + 1 := by omega
theorem hg_ad {i : Nat} (h : i < na) : i + 1 + (na - (i + 1)) = na := by omega
theorem hg_add (h : HgI f na F Ls N) (hc : ∀ x, x < na → f' x = f x) (hv : v < 40) (hn : f' na = (v : Int)) : (0 ≤ F v → ∃ i : Nat, i < na ∧ Ls v = (i : Int) ∧ HgI f' (na + 1) F (upf Ls v (na : Int)) (upf (upf N i (na : Int)) na (-1))) ∧ (¬ 0 ≤ F v → HgI f' (na + 1) (upf F v (na : Int)) (upf Ls v (na : Int)) (upf N na (-1))) := by
  obtain ⟨h1, h2, h3⟩ := h
  have ls' : ∀ u : Nat, u < 40 → lsA f' (u : Int) (na + 1) ≠ -1 → upf Ls v (na : Int) u = lsA f' (u : Int) (na + 1) := by
    intro u hu hne
    rw [hg_ls hc, hn] at hne ⊢
    unfold upf
    by_cases z : u = v
    · rw [if_pos z, if_pos (by omega)]
    · rw [if_neg z]
      rw [if_neg (by omega)] at hne ⊢
      exact h2 u hu hne
  refine ⟨fun hF => ?_, fun hF => ?_⟩
  · rw [h1 v hv] at hF
    have hne : nxA f (v : Int) na 0 ≠ -1 := by omega
    have hl := lsA_nx na hne
    rcases lsA_r (f := f) (v := (v : Int)) na with z | ⟨i, i1, i2, i3, i4⟩
    · exact absurd z hl
    refine ⟨i, i1, by rw [h2 v hv hl, i2], fun u hu => ?_, ls', fun x hx => ?_⟩
    · rw [h1 u hu, hg_nx hc (Nat.zero_add na), hn]
      by_cases z : nxA f (u : Int) na 0 = -1
      · rw [if_pos z]
        by_cases y : (v : Int) = (u : Int)
        · rw [← y] at z; exact absurd z hne
        · rw [if_neg y]; exact z
      · rw [if_neg z]
    · unfold upf
      by_cases zx : x = na
      · subst zx
        rw [if_pos rfl, show x + 1 - (x + 1) = 0 by omega]
        rfl
      · rw [if_neg zx]
        have hx' : x < na := by omega
        rw [hg_sub hx', hg_nx hc (hg_ad hx'), hc x hx', hn]
        by_cases zi : x = i
        · subst zi
          rw [if_pos rfl, i3, if_pos i4, if_pos rfl]
        · rw [if_neg zi, h3 x hx']
          by_cases y : nxA f (f x) (na - (x + 1)) (x + 1) = -1
          · rw [if_pos y]
            by_cases y2 : (v : Int) = f x
            · exfalso
              rw [← y2] at y
              have := lsA_of (f := f) (v := (v : Int)) y2.symm _ y
              rw [hg_ad hx', i2] at this
              omega
            · rw [if_neg y2]; exact y
          · rw [if_neg y]
  · rw [h1 v hv] at hF
    have hm : nxA f (v : Int) na 0 = -1 := by
      rcases nxA_r (f := f) (v := (v : Int)) na 0 with z | z
      · exact z
      · omega
    refine ⟨fun u hu => ?_, ls', fun x hx => ?_⟩
    · rw [hg_nx hc (Nat.zero_add na), hn]
      unfold upf
      by_cases z : u = v
      · subst z
        rw [if_pos rfl, if_pos hm, if_pos rfl]
      · have hvu : ¬ (v : Int) = (u : Int) := by omega
        rw [if_neg z, h1 u hu]
        by_cases y : nxA f (u : Int) na 0 = -1
        · rw [if_pos y, if_neg hvu]; exact y
        · rw [if_neg y]
    · unfold upf
      by_cases zx : x = na
      · subst zx
        rw [if_pos rfl, show x + 1 - (x + 1) = 0 by omega]
        rfl
      · rw [if_neg zx]
        have hx' : x < na := by omega
        rw [hg_sub hx', hg_nx hc (hg_ad hx'), hc x hx', hn, h3 x hx']
        by_cases y : nxA f (f x) (na - (x + 1)) (x + 1) = -1
        · rw [if_pos y]
          by_cases y2 : (v : Int) = f x
          · exfalso
            -- then v has an arc
            have := lsA_of (f := f) (v := (v : Int)) y2.symm _ (by rw [← y2] at y; exact y)
            rw [hg_ad hx'] at this
            have hno : ∀ n, n ≤ na → lsA f (v : Int) n = -1 := by
              intro n
              induction n with
              | zero => intro _; rfl
              | succ n ih =>
                intro hn'
                rw [lsA]
                by_cases q : f n = (v : Int)
                · exfalso
                  have hq : ∀ k, n + 1 + k ≤ na → nxA f (v : Int) (n + 1 + k) 0 ≠ -1 := by
                    intro k
                    induction k with
                    | zero =>
                      intro _
                      rw [Nat.add_zero, nxA_s, Nat.zero_add]
                      by_cases q2 : nxA f (v : Int) n 0 = -1
                      · rw [if_pos q2, if_pos q]; omega
                      · rw [if_neg q2]; exact q2
                    | succ k ihk =>
                      intro hk
                      have := ihk (by omega)
                      rw [show n + 1 + (k + 1) = (n + 1 + k) + 1 by omega, nxA_s, if_neg this]
                      exact this
                  have := hq (na - (n + 1)) (by omega)
                  rw [show n + 1 + (na - (n + 1)) = na by omega] at this
                  exact this hm
                · rw [if_neg q]; exact ih (by omega)
            rw [hno na (Nat.le_refl _)] at this
            omega
          · rw [if_neg y2]; exact y
        · rw [if_neg y]
end Hang
