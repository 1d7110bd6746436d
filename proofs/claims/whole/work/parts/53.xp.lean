/-! ===== what the class's reading of an exp leaves ===== -/
abbrev bI (b : Bool) : Int := if b = true then 1 else 0
section XPdefs
variable (T : Nat → Int) (L : Nat) (E : List En) (b : Bool)
def XP (w w' : Wd) (i j : Nat) (a : Tr) : Prop :=
  (∀ x, x < i → w' 27 x = w 27 x ∧ w' 28 x = w 28 x ∧ w' 29 x = w 29 x ∧ w' 30 x = w 30 x) ∧
  (∀ x, j ≤ x → w' 30 x = w 30 x) ∧
  w' 27 i = knT T L E b a ∧ w' 28 i = ((lnT (kdT T L) a : Nat) : Int) ∧ w' 29 i = ((czT a : Nat) : Int) ∧
  ((∀ x, i ≤ x → w 30 x = 0) → DX (kdT T L) w' i j a) ∧
  (∀ k, KY w k → KY w' (min k (jkT T L E b a))) ∧
  (∀ s : Nat, w 19 4 = (s : Int) → s ≤ i → XC w w' s (cmT T L E a s))
def RsC (w w' : Wd) (σ : PE Nat) (r : Nat → PE (Tr × Nat)) (x : Nat) : Prop := match σ with
  | .error e => CS T L w' (.error e)
  | .ok i => match r i with
    | .error e => CS T L w' (.error e)
    | .ok q => x = i ∧ CS T L w' (.ok q.2) ∧ XP T L E b w w' i q.2 q.1
end XPdefs
abbrev FEl : List Nat := [19, 20, 21, 22, 23, 25, 27, 28, 29, 30]
/-- what every step of exps needs -/
def PX (T : Nat → Int) (L : Nat) (E : List En) (b : Bool) (w : Wd) (σ : PE Nat) : Prop := IC T L w ∧ CS T L w σ ∧ (∀ i, σ = .ok i → EC T L w E) ∧ w 26 4 = bI b
section XPlemmas
variable {T : Nat → Int} {L : Nat} {E : List En} {b : Bool} {w w' w'' : Wd} {σ : PE Nat}
theorem IC.fe (h : IC T L w) (hf : Fx FEl w w') (hc : CodB w') (hl : ClB w') : IC T L w' := h.fx hf (by decide) (by decide) (by decide) (by decide) (by decide) (by decide) (by decide) (by decide) (by decide) hc hl
theorem IC.f25 (h : IC T L w) (hf : Fx [25] w w') : IC T L w' := h.fx hf (by decide) (by decide) (by decide) (by decide) (by decide) (by decide) (by decide) (by decide) (by decide) (h.2.2.1.fx hf (by decide)) (h.2.2.2.fx hf (by decide))
theorem IC.f19 (h : IC T L w) (hf : Fx [19, 20, 21, 22, 23] w w') (hc : CodB w') : IC T L w' := h.fx hf (by decide) (by decide) (by decide) (by decide) (by decide) (by decide) (by decide) (by decide) (by decide) hc (h.2.2.2.fx hf (by decide))
theorem IC.f21 (h : IC T L w) (hf : Fx [21] w w') : IC T L w' := h.fx hf (by decide) (by decide) (by decide) (by decide) (by decide) (by decide) (by decide) (by decide) (by decide) (h.2.2.1.fx hf (by decide)) (h.2.2.2.fx hf (by decide))
theorem IC.kn {x : Nat} {k l : Int} (h : IC T L w) : IC T L (knW w x k l) := by
  have hf : Fx [27, 28, 29] w (knW w x k l) := by unfold knW; exact (((Fx.rf _ w).up (by decide)).up (by decide)).up (by decide)
  refine h.fx hf (by decide) (by decide) (by decide) (by decide) (by decide) (by decide) (by decide) (by decide) (by decide) (h.2.2.1.fx hf (by decide)) ?_
  intro y hy
  unfold knW
  by_cases hyx : y = x
  · rw [hyx, up_s]; decide
  · rw [up_k hyx, up_o (by decide), up_o (by decide)]; exact h.2.2.2 y hy
theorem IC.se {x : Nat} {r : Int} (h : IC T L w) : IC T L (seW w x r) := by
  have hf := seW_fx w x r
  refine h.fx hf (by decide) (by decide) (by decide) (by decide) (by decide) (by decide) (by decide) (by decide) (by decide) (h.2.2.1.fx hf (by decide)) ?_
  intro y hy
  unfold seW
  by_cases hyx : y = x
  · split
    · rw [hyx, up_s]; decide
    · rw [hyx, up_s]; decide
  · split
    · rw [up_k hyx, up_o (by decide), up_o (by decide)]; exact h.2.2.2 y hy
    · rw [up_k hyx]; exact h.2.2.2 y hy
theorem knW_fx (w : Wd) (x : Nat) (k l : Int) : Fx [27, 28, 29] w (knW w x k l) := by unfold knW; exact (((Fx.rf _ w).up (by decide)).up (by decide)).up (by decide)
theorem PX.mk' (h : PX T L E b w σ) {τ : PE Nat} (hf : Fx FEl w w') (hI : IC T L w') (hC : CS T L w' τ) (ht : ∀ i, τ = .ok i → ∃ j, σ = .ok j) : PX T L E b w' τ :=
  ⟨hI, hC, fun i hi => by obtain ⟨j, hj⟩ := ht i hi; exact (h.2.2.1 j hj).fx hf (by decide) (by decide) (by decide) (by decide) (by decide), by rw [hf 26 (by decide)]; exact h.2.2.2⟩
theorem knW_27 (w : Wd) (x : Nat) (k l : Int) (y : Nat) : knW w x k l 27 y = if y = x then k else w 27 y := by simp [knW, up]
theorem knW_28 (w : Wd) (x : Nat) (k l : Int) (y : Nat) : knW w x k l 28 y = if y = x then l else w 28 y := by simp [knW, up]
theorem knW_29 (w : Wd) (x : Nat) (k l : Int) (y : Nat) : knW w x k l 29 y = if y = x then 0 else w 29 y := by simp [knW, up]
theorem seW_29 (w : Wd) (x : Nat) (r : Int) (y : Nat) : seW w x r 29 y = if y = x then 0 else w 29 y := by
  unfold seW
  split <;> (simp [up])
theorem KY.f (hf : Fx [25] w w' → False ∨ True) : True := trivial
theorem KY.same {k : Nat} (h : KY w k) (h4 : w' 25 = w 25) : KY w' k := by unfold KY at *; rw [h4]; exact h
/-- one TOKEN's exp, one deed -/
theorem XP.leaf {w1 w2 : Wd} {i j : Nat} {a : Tr} {d ar m : Int} {k : Int} (hF : Fx [25] w w1) (hF2 : Fx [19, 20, 21, 22, 23] w1 w2) (hA : ∀ s : Nat, w1 19 4 = (s : Int) → s < 1024 → w2 = addW w1 s d ar m) (hi : i ≤ 1000) (hk : k = knT T L E b a) (hl : lnT (kdT T L) a = 7) (hz : czT a = 0) (hj : ∀ q, KY w q → KY w1 (min q (jkT T L E b a))) (hd : ∀ v : Wd, (∀ x, i ≤ x → x < j → v 30 x = 0) → DX (kdT T L) v i j a) (hc : ∀ s, cmT T L E a s = [(d, ar, m)]) : XP T L E b w (knW w2 i k 7) i j a := by
  have h30 : ∀ x, knW w2 i k 7 30 x = w 30 x := fun x => by rw [knW_fx w2 i k 7 30 (by decide), hF2 30 (by decide), hF 30 (by decide)]
  refine ⟨fun x hx => ?_, fun x _ => h30 x, ?_, ?_, ?_, fun h0 => hd _ (fun x h1 h2 => by rw [h30]; exact h0 x h1), fun q hq => ?_, fun s hs hsi => ?_⟩
  · rw [knW_27, knW_28, knW_29, if_neg (by omega), if_neg (by omega), if_neg (by omega), h30, hF2 27 (by decide), hF 27 (by decide), hF2 28 (by decide), hF 28 (by decide), hF2 29 (by decide), hF 29 (by decide)]
    exact ⟨rfl, rfl, rfl, rfl⟩
  · rw [knW_27, if_pos rfl]; exact hk
  · rw [knW_28, if_pos rfl, hl]; rfl
  · rw [knW_29, if_pos rfl, hz]; rfl
  · exact (hj q hq).same (by rw [knW_fx w2 i k 7 25 (by decide), hF2 25 (by decide)])
  · have hs1 : w1 19 4 = (s : Int) := by rw [hF 19 (by decide)]; exact hs
    have hw2 := hA s hs1 (by omega)
    rw [hc]
    have h1 : XC w1 w2 s [(d, ar, m)] := by rw [hw2]; exact XC.one d ar m
    exact (h1.fx (knW_fx w2 i k 7) (by decide) (by decide) (by decide) (by decide) (by decide)).fx0 hF (by decide) (by decide) (by decide) (by decide) (by decide)
end XPlemmas
/-! what is read is well made -/
theorem pCh_we {kd : Nat → Nat} {sub : Nat → PE (Tr × Nat)} {line : Nat} (hs : ∀ i q, sub i = .ok q → WE q.1) : ∀ (f : Nat) (a : Tr) (i : Nat) (q : Tr × Nat), WE a → pCh kd sub line f a i = .ok q → WE q.1
  | 0, a, i, q, h, e => by cases e; exact h
  | f + 1, a, i, q, h, e => by
    rw [pCh] at e
    split at e
    · split at e
      · cases e
      · obtain ⟨b, hb, he⟩ := bnd_ok e
        refine pCh_we hs f _ _ q ?_ he
        simp [WE, h, hs _ _ hb]
    · cases e; exact h
theorem cL_we {kd : Nat → Nat} {o : Nat → PE (Tr × Nat)} (ho : ∀ i q, o i = .ok q → WE q.1) : ∀ (k i : Nat) (q : Tr × Nat), cL kd o k i = .ok q → WE q.1
  | 0, i, q, e => ho i q e
  | k + 1, i, q, e => by
    rw [cL] at e
    obtain ⟨b, hb, he⟩ := bnd_ok e
    exact pCh_we (fun i q e => cL_we ho k i q e) _ _ _ q (cL_we ho k i b hb) he
theorem pB_we {kd : Nat → Nat} {o : Nat → PE (Tr × Nat)} (ho : ∀ i q, o i = .ok q → WE q.1) {i : Nat} {q : Tr × Nat} (e : pB kd o i = .ok q) : WE q.1 := by
  unfold pB at e
  split at e
  · obtain ⟨a, ha, he⟩ := bnd_ok e
    cases he
    simp only [WE]
    simp [ho _ _ ha]
  split at e
  · obtain ⟨a, ha, he⟩ := bnd_ok e
    obtain ⟨j, hj, he⟩ := bnd_ok he
    cases he
    simp only [WE]
    simp [cL_we ho _ _ _ ha]
  split at e
  · obtain ⟨i1, h1, he⟩ := bnd_ok e
    obtain ⟨a, ha, he⟩ := bnd_ok he
    obtain ⟨j, hj, he⟩ := bnd_ok he
    cases he
    simp only [WE]
    simp [cL_we ho _ _ _ ha]
  split at e
  · obtain ⟨i1, h1, he⟩ := bnd_ok e
    obtain ⟨a, ha, he⟩ := bnd_ok he
    obtain ⟨i2, h2, he⟩ := bnd_ok he
    obtain ⟨b, hb, he⟩ := bnd_ok he
    obtain ⟨i3, h3, he⟩ := bnd_ok he
    obtain ⟨c, hc, he⟩ := bnd_ok he
    obtain ⟨j, hj, he⟩ := bnd_ok he
    cases he
    simp only [WE]
    simp [cL_we ho _ _ _ ha, cL_we ho _ _ _ hb, cL_we ho _ _ _ hc]
  split at e
  · obtain ⟨i1, h1, he⟩ := bnd_ok e
    obtain ⟨j, hj, he⟩ := bnd_ok he
    cases he
    simp [WE]
  split at e
  · obtain ⟨j, hj, he⟩ := bnd_ok e
    cases he
    simp [WE]
  · cases e
    simp [WE]
theorem pOne_we {kd : Nat → Nat} : ∀ (n i : Nat) (q : Tr × Nat), pOne kd n i = .ok q → WE q.1 := by
  intro n
  induction n with
  | zero =>
    intro i q e
    rw [pOne] at e
    split at e <;> cases e
  | succ n ih =>
    intro i q e
    rw [pOne] at e
    split at e
    · split at e
      · cases e
      · exact pB_we ih e
    · cases e
