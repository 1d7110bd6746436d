/-! ===== the class while it reads statements: the state of the reading as one value ===== -/
/-- deed, arg, mark, home -/
abbrev Hd : Type := Int × Int × Int × Int
/-- place, NAMES, statements, loops, in a send, least blame, code, what is printed, home -/
abbrev ST : Type := Nat × List En × Nat × Nat × Bool × Nat × List Hd × List Nat × Int
abbrev sI (s : ST) : Nat := s.1
abbrev sE (s : ST) : List En := s.2.1
abbrev sc (s : ST) : Nat := s.2.2.1
abbrev sl (s : ST) : Nat := s.2.2.2.1
abbrev sb (s : ST) : Bool := s.2.2.2.2.1
abbrev sK (s : ST) : Nat := s.2.2.2.2.2.1
abbrev sC (s : ST) : List Hd := s.2.2.2.2.2.2.1
abbrev sO (s : ST) : List Nat := s.2.2.2.2.2.2.2.1
abbrev sh (s : ST) : Int := s.2.2.2.2.2.2.2.2
def cntE (s : Nat) : List En → Nat
  | [] => 0
  | e :: E => cntE s E + (if e.2.1 = s then 1 else 0)
def SZ (w : Wd) (E : List En) : Prop := (∀ s, s < 5 → w 18 s = ((cntE s E : Nat) : Int) ∧ ((cntE s E : Nat) : Int) ≤ mostL.getD s 0) ∧ ∀ e ∈ E, e.2.1 < 5
def CD (w : Wd) (C : List Hd) (h : Int) : Prop := w 19 4 = (C.length : Int) ∧ w 19 5 = h ∧ ∀ q e, C[q]? = some e → w 20 q = e.1 ∧ w 21 q = e.2.1 ∧ w 22 q = e.2.2.1 ∧ w 23 q = e.2.2.2
def OKs (T : Nat → Int) (L : Nat) (w : Wd) (s : ST) : Prop := CS T L w (.ok (sI s)) ∧ EC T L w (sE s) ∧ SZ w (sE s) ∧ w 8 3 = (sc s : Int) ∧ w 24 6 = (sl s : Int) ∧ w 26 4 = bI (sb s) ∧ KY w (sK s) ∧ CD w (sC s) (sh s) ∧ DL w 0 (sI s) (sO s) ∧ ∀ x, sI s ≤ x → w 30 x = 0
def RdS (T : Nat → Int) (L : Nat) (w : Wd) (ρ : PE ST) : Prop := IC T L w ∧ (w 26 4 = 0 ∨ w 26 4 = 1) ∧ match ρ with
  | .error e => CS T L w (.error e)
  | .ok s => OKs T L w s
abbrev FSl : List Nat := [8, 13, 14, 15, 16, 17, 18, 19, 20, 21, 22, 23, 24, 25, 26, 27, 28, 29, 30]
def FxS (w w' : Wd) : Prop := Fx FSl w w' ∧ ∀ b, b ≠ 3 → w' 8 b = w 8 b
abbrev iS (ρ : PE ST) : PE Nat := bnd ρ (fun s => .ok (sI s))
section StateSpecs
variable {g : Mg} {D : Nat} {K : Ou → Wd → Prop} {w : Wd} {T : Nat → Int} {L : Nat} {ρ : PE ST}
theorem bnd_as {α β γ : Type} (r : PE α) (f : α → PE β) (h : β → PE γ) : bnd (bnd r f) h = bnd r (fun a => bnd (f a) h) := by cases r <;> rfl
theorem FxS.rf (w : Wd) : FxS w w := ⟨Fx.rf _ w, fun _ _ => rfl⟩
theorem FxS.tr {a b c : Wd} (h1 : FxS a b) (h2 : FxS b c) : FxS a c := ⟨h1.1.tr h2.1, fun x hx => (h2.2 x hx).trans (h1.2 x hx)⟩
theorem FxS.of {M : List Nat} {w w' : Wd} (h : Fx M w w') (h8 : 8 ∉ M) (hs : ∀ a ∈ M, a ∈ FSl) : FxS w w' := ⟨h.mono hs, fun b _ => by rw [h 8 h8]⟩
theorem RdS.cs (h : RdS T L w ρ) : CS T L w (iS ρ) := by
  cases ρ with
  | error e => exact h.2.2
  | ok s => exact h.2.2.1
theorem SZ.fx {M : List Nat} {w w' : Wd} {E : List En} (h : SZ w E) (hf : Fx M w w') (h18 : 18 ∉ M) : SZ w' E := by
  unfold SZ at *; rw [hf 18 h18]; exact h
theorem CD.fx {M : List Nat} {w w' : Wd} {C : List Hd} {x : Int} (h : CD w C x) (hf : Fx M w w') (h19 : 19 ∉ M) (h20 : 20 ∉ M) (h21 : 21 ∉ M) (h22 : 22 ∉ M) (h23 : 23 ∉ M) : CD w' C x := by
  unfold CD at *; rw [hf 19 h19, hf 20 h20, hf 21 h21, hf 22 h22, hf 23 h23]; exact h
def fTk (kd : Nat → Nat) (c : Nat) (s : ST) : PE ST := bnd (ex kd c (sI s)) (fun j => .ok (j, sE s, sc s, sl s, sb s, sK s, sC s, sO s ++ [sI s], sh s))
theorem st_take {c : Nat} (hD : 1 ≤ D) (hR : RdS T L w ρ) (hc : c ≠ 0) (h : ∀ (w' : Wd) (x : Nat), Fx FEl w w' → x ≤ nTk T L → (∀ s, ρ = .ok s → x = sI s) → RdS T L w' (bnd ρ (fTk (kdT T L) c)) → w' 27 = w 27 → K (.inl (some (vI (x : Int)))) w') : Cal g LC jCu_take D [vA 25, vI (c : Int)] w K := by
  refine sp_take hD hR.1 hR.cs (fun _ _ => hc) (fun w' x hC3 hx hxi hC => h w' x (hC3.1.mono (by decide)) hx (fun s hs => hxi (sI s) (by subst hs; rfl)) ⟨hR.1.f25 hC3.1, by rw [hC3.1 26 (by decide)]; exact hR.2.1, ?_⟩ (hC3.1 27 (by decide)))
  cases ρ with
  | error e => exact hC
  | ok s =>
    have hC' : CS T L w' (ex (kdT T L) c (sI s)) := hC
    show match fTk (kdT T L) c s with | .error e => CS T L w' (.error e) | .ok s => OKs T L w' s
    unfold fTk
    cases he : ex (kdT T L) c (sI s) with
    | error e => rw [he] at hC'; exact hC'
    | ok j =>
      rw [he] at hC'
      obtain ⟨-, rfl, -⟩ := ex_ok he
      obtain ⟨o1, o2, o3, o4, o5, o6, o7, o8, o9, o10⟩ := hR.2.2
      refine ⟨hC', o2.fx hC3.1 (by decide) (by decide) (by decide) (by decide) (by decide), o3.fx hC3.1 (by decide), by rw [hC3.1 8 (by decide)]; exact o4, by rw [hC3.1 24 (by decide)]; exact o5, by rw [hC3.1 26 (by decide)]; exact o6, hC3.ky o7, o8.fx hC3.1 (by decide) (by decide) (by decide) (by decide) (by decide), ?_, fun x hx => ?_⟩
      · exact (o9.app (DL.one (o10 (sI s) (Nat.le_refl _)))).congr (fun x _ _ => by rw [hC3.1 30 (by decide)])
      · rw [hC3.1 30 (by decide)]; have hx' : sI s + 1 ≤ x := hx; exact o10 x (by omega)
def fSp (f : Nat) (s : ST) : PE ST := .error (f, sI s)
theorem st_stop {f : Nat} (hf : f ≠ 0) (hR : RdS T L w ρ) (h : ∀ w', Fx FEl w w' → RdS T L w' (bnd ρ (fSp f)) → w' 27 = w 27 → K (.inl none) w') : Cal g LC jCu_stop D [vA 25, vI (f : Int)] w K := by
  refine sp_stop hf hR.1 hR.cs (fun w' hC3 hC => h w' (hC3.1.mono (by decide)) ⟨hR.1.f25 hC3.1, by rw [hC3.1 26 (by decide)]; exact hR.2.1, ?_⟩ (hC3.1 27 (by decide)))
  cases ρ with
  | error e => exact hC
  | ok s => exact hC
theorem st_kind (hR : RdS T L w ρ) (h : K (.inl (some (vI ((kS T L (iS ρ) : Nat) : Int)))) w) : Cal g LC jCu_kind D [vA 25] w K := sp_kind hR.1 hR.cs h
theorem st_sees {c : Nat} (hR : RdS T L w ρ) (h : K (.inl (some (vI (if kS T L (iS ρ) = c then 1 else 0)))) w) : Cal g LC jCu_sees D [vA 25, vI (c : Int)] w K := sp_sees hR.1 hR.cs h
/-- code: a deed more -/
def fAd (d a m : Int) (s : ST) : PE ST := .ok (sI s, sE s, sc s, sl s, sb s, sK s, sC s ++ [(d, a, m, sh s)], sO s, sh s)
theorem CD.add {C : List Hd} {x d a m : Int} (h : CD w C x) : CD (addW w C.length d a m) (C ++ [(d, a, m, x)]) x := by
  obtain ⟨h1, h2, h3⟩ := h
  refine ⟨by unfold addW; rw [up_s, List.length_append]; rfl, ?_, fun q e he => ?_⟩
  · unfold addW; rw [up_k (by decide), up_o (by decide), up_o (by decide), up_o (by decide), up_o (by decide)]; exact h2
  · by_cases hq : q < C.length
    · rw [List.getElem?_append_left hq] at he
      obtain ⟨a1, a2, a3, a4⟩ := h3 q e he
      have hne : q ≠ C.length := by omega
      refine ⟨?_, ?_, ?_, ?_⟩ <;> simp [addW, up, hne] <;> assumption
    · rw [List.getElem?_append_right (by omega)] at he
      cases hqq : q - C.length with
      | zero =>
        rw [hqq] at he
        have hqe : q = C.length := by omega
        subst hqe
        cases he
        refine ⟨?_, ?_, ?_, ?_⟩ <;> simp [addW, up, h2]
      | succ p => rw [hqq] at he; simp at he
theorem st_add {d a m : Int} (hR : RdS T L w ρ) (hl : ∀ s, ρ = .ok s → (sC s).length < 1024) (h : ∀ (w' : Wd) (x : Nat), Fx FEl w w' → x ≤ 1024 → (∀ s, ρ = .ok s → x = (sC s).length) → RdS T L w' (bnd ρ (fAd d a m)) → w' 27 = w 27 → K (.inl (some (vI (x : Int)))) w') : Cal g LC jCo_add D [vA 19, vI d, vI a, vI m] w K := by
  refine sp_codeAdd hR.1 (fun w' x hF hc hx hs hA => h w' x (hF.mono (by decide)) hx (fun s hs2 => ?_) ⟨hR.1.f19 hF hc, by rw [hF 26 (by decide)]; exact hR.2.1, ?_⟩ (hF 27 (by decide)))
  · subst hs2
    have := hR.2.2.2.2.2.2.2.2.2.1.1
    rw [hs] at this; omega
  · cases ρ with
    | error e => exact CS.fx (σ := .error e) hR.2.2 hF (by decide)
    | ok s =>
      obtain ⟨o1, o2, o3, o4, o5, o6, o7, o8, o9, o10⟩ := hR.2.2
      have hxs : x = (sC s).length := by have := o8.1; rw [hs] at this; omega
      subst hxs
      have hw := hA (hl s rfl)
      refine ⟨CS.fx (σ := .ok (sI s)) o1 hF (by decide), o2.fx hF (by decide) (by decide) (by decide) (by decide) (by decide), o3.fx hF (by decide), by rw [hF 8 (by decide)]; exact o4, by rw [hF 24 (by decide)]; exact o5, by rw [hF 26 (by decide)]; exact o6, o7.same (hF 25 (by decide)), ?_, o9.congr (fun x _ _ => by rw [hF 30 (by decide)]), fun x hx => by rw [hF 30 (by decide)]; exact o10 x hx⟩
      rw [hw]
      exact o8.add
/-- a deed's arg, mark -/
def agL (C : List Hd) (p : Nat) (v : Int) : List Hd := match C[p]? with
  | some e => C.set p (e.1, v, e.2.2.1, e.2.2.2)
  | none => C
def mkL (C : List Hd) (p : Nat) (v : Int) : List Hd := match C[p]? with
  | some e => C.set p (e.1, e.2.1, v, e.2.2.2)
  | none => C
theorem agL_at {A B : List Hd} {d a m x v : Int} : agL (A ++ (d, a, m, x) :: B) A.length v = A ++ (d, v, m, x) :: B := by
  unfold agL
  rw [List.getElem?_append_right (Nat.le_refl _), Nat.sub_self]
  simp
theorem mkL_at {A B : List Hd} {d a m x v : Int} : mkL (A ++ (d, a, m, x) :: B) A.length v = A ++ (d, a, v, x) :: B := by
  unfold mkL
  rw [List.getElem?_append_right (Nat.le_refl _), Nat.sub_self]
  simp
theorem agL_len (C : List Hd) (p : Nat) (v : Int) : (agL C p v).length = C.length := by unfold agL; split <;> simp
theorem mkL_len (C : List Hd) (p : Nat) (v : Int) : (mkL C p v).length = C.length := by unfold mkL; split <;> simp
theorem CD.ag {C : List Hd} {x v : Int} {p : Nat} (h : CD w C x) (hp : p < C.length) : CD (up w 21 p v) (agL C p v) x := by
  obtain ⟨h1, h2, h3⟩ := h
  refine ⟨by rw [agL_len, up_o (by decide)]; exact h1, by rw [up_o (by decide)]; exact h2, fun q e he => ?_⟩
  unfold agL at he
  rw [List.getElem?_eq_getElem hp] at he
  simp only [List.getElem?_set] at he
  by_cases hq : p = q
  · subst hq
    rw [if_pos rfl, if_pos hp] at he
    cases he
    obtain ⟨a1, a2, a3, a4⟩ := h3 p _ (List.getElem?_eq_getElem hp)
    exact ⟨by rw [up_o (by decide)]; exact a1, up_s _ _ _ _, by rw [up_o (by decide)]; exact a3, by rw [up_o (by decide)]; exact a4⟩
  · rw [if_neg hq] at he
    obtain ⟨a1, a2, a3, a4⟩ := h3 q e he
    exact ⟨by rw [up_o (by decide)]; exact a1, by rw [up_k (by omega)]; exact a2, by rw [up_o (by decide)]; exact a3, by rw [up_o (by decide)]; exact a4⟩
theorem CD.mk {C : List Hd} {x v : Int} {p : Nat} (h : CD w C x) (hp : p < C.length) : CD (up w 22 p v) (mkL C p v) x := by
  obtain ⟨h1, h2, h3⟩ := h
  refine ⟨by rw [mkL_len, up_o (by decide)]; exact h1, by rw [up_o (by decide)]; exact h2, fun q e he => ?_⟩
  unfold mkL at he
  rw [List.getElem?_eq_getElem hp] at he
  simp only [List.getElem?_set] at he
  by_cases hq : p = q
  · subst hq
    rw [if_pos rfl, if_pos hp] at he
    cases he
    obtain ⟨a1, a2, a3, a4⟩ := h3 p _ (List.getElem?_eq_getElem hp)
    exact ⟨by rw [up_o (by decide)]; exact a1, by rw [up_o (by decide)]; exact a2, up_s _ _ _ _, by rw [up_o (by decide)]; exact a4⟩
  · rw [if_neg hq] at he
    obtain ⟨a1, a2, a3, a4⟩ := h3 q e he
    exact ⟨by rw [up_o (by decide)]; exact a1, by rw [up_o (by decide)]; exact a2, by rw [up_k (by omega)]; exact a3, by rw [up_o (by decide)]; exact a4⟩
def fAm (p : Nat) (s : ST) : PE ST := .ok (sI s, sE s, sc s, sl s, sb s, sK s, agL (sC s) p ((sC s).length : Int), sO s, sh s)
def fMk (p : Nat) (v : Int) (s : ST) : PE ST := .ok (sI s, sE s, sc s, sl s, sb s, sK s, mkL (sC s) p v, sO s, sh s)
theorem st_aim {p : Nat} (hp : p ≤ 1024) (hR : RdS T L w ρ) (hl : ∀ s, ρ = .ok s → p < (sC s).length ∧ (sC s).length ≤ 1024) (h : ∀ (w' : Wd), Fx FEl w w' → RdS T L w' (bnd ρ (fAm p)) → w' 27 = w 27 → K (.inl none) w') : Cal g LC jCo_aimHere D [vA 19, vI (p : Int)] w K := by
  refine sp_aimHere hp (fun w' hF hA => h w' (hF.mono (by decide)) ⟨hR.1.f21 hF, by rw [hF 26 (by decide)]; exact hR.2.1, ?_⟩ (hF 27 (by decide)))
  cases ρ with
  | error e => exact CS.fx (σ := .error e) hR.2.2 hF (by decide)
  | ok s =>
    obtain ⟨o1, o2, o3, o4, o5, o6, o7, o8, o9, o10⟩ := hR.2.2
    obtain ⟨l1, l2⟩ := hl s rfl
    have hw := hA (by omega)
    rw [o8.1] at hw
    refine ⟨CS.fx (σ := .ok (sI s)) o1 hF (by decide), o2.fx hF (by decide) (by decide) (by decide) (by decide) (by decide), o3.fx hF (by decide), by rw [hF 8 (by decide)]; exact o4, by rw [hF 24 (by decide)]; exact o5, by rw [hF 26 (by decide)]; exact o6, o7.same (hF 25 (by decide)), ?_, o9.congr (fun x _ _ => by rw [hF 30 (by decide)]), fun x hx => by rw [hF 30 (by decide)]; exact o10 x hx⟩
    rw [hw]
    exact o8.ag l1
theorem st_mark {p : Nat} {v : Int} (hp : p ≤ 1024) (hR : RdS T L w ρ) (hl : ∀ s, ρ = .ok s → p < (sC s).length ∧ (sC s).length ≤ 1024) (h : ∀ (w' : Wd), Fx FEl w w' → RdS T L w' (bnd ρ (fMk p v)) → w' 27 = w 27 → K (.inl none) w') : Cal g LC jCo_mark D [vA 19, vI (p : Int), vI v] w K := by
  refine sp_mark hp (fun w' hF hA => h w' (hF.mono (by decide)) ⟨hR.1.fx hF (by decide) (by decide) (by decide) (by decide) (by decide) (by decide) (by decide) (by decide) (by decide) (hR.1.2.2.1.fx hF (by decide)) (hR.1.2.2.2.fx hF (by decide)), by rw [hF 26 (by decide)]; exact hR.2.1, ?_⟩ (hF 27 (by decide)))
  cases ρ with
  | error e => exact CS.fx (σ := .error e) hR.2.2 hF (by decide)
  | ok s =>
    obtain ⟨o1, o2, o3, o4, o5, o6, o7, o8, o9, o10⟩ := hR.2.2
    obtain ⟨l1, l2⟩ := hl s rfl
    have hw := hA (by omega)
    refine ⟨CS.fx (σ := .ok (sI s)) o1 hF (by decide), o2.fx hF (by decide) (by decide) (by decide) (by decide) (by decide), o3.fx hF (by decide), by rw [hF 8 (by decide)]; exact o4, by rw [hF 24 (by decide)]; exact o5, by rw [hF 26 (by decide)]; exact o6, o7.same (hF 25 (by decide)), ?_, o9.congr (fun x _ _ => by rw [hF 30 (by decide)]), fun x hx => by rw [hF 30 (by decide)]; exact o10 x hx⟩
    rw [hw]
    exact o8.mk l1
theorem FxS.e {w w' : Wd} (h : Fx FEl w w') : FxS w w' := FxS.of h (by decide) (by decide)
/-- something is blamed -/
def fBl (v : Nat) (s : ST) : PE ST := .ok (sI s, sE s, sc s, sl s, sb s, min (sK s) v, sC s, sO s, sh s)
theorem RdS.b2 {w' : Wd} {v : Nat} (hR : RdS T L w ρ) (hB : B2 w w') (hk : ∀ s, ρ = .ok s → KY w (sK s) → KY w' (min (sK s) v)) : RdS T L w' (bnd ρ (fBl v)) := by
  refine ⟨hR.1.f25 hB.1, by rw [hB.1 26 (by decide)]; exact hR.2.1, ?_⟩
  cases ρ with
  | error e => exact hB.cs (σ := .error e) hR.2.2
  | ok s =>
    obtain ⟨o1, o2, o3, o4, o5, o6, o7, o8, o9, o10⟩ := hR.2.2
    exact ⟨hB.cs (σ := .ok (sI s)) o1, o2.fx hB.1 (by decide) (by decide) (by decide) (by decide) (by decide), o3.fx hB.1 (by decide), by rw [hB.1 8 (by decide)]; exact o4, by rw [hB.1 24 (by decide)]; exact o5, by rw [hB.1 26 (by decide)]; exact o6, hk s rfl o7, o8.fx hB.1 (by decide) (by decide) (by decide) (by decide) (by decide), o9.congr (fun x _ _ => by rw [hB.1 30 (by decide)]), fun x hx => by rw [hB.1 30 (by decide)]; exact o10 x hx⟩
theorem st_blame {f t : Nat} (hR : RdS T L w ρ) (hf : 3 ≤ f ∧ f ≤ 5) (ht : t ≤ nTk T L) (ht2 : ∀ s, ρ = .ok s → t ≤ 1000) (h : ∀ w', Fx FEl w w' → RdS T L w' (bnd ρ (fBl (tAt T L t * 8 + f))) → w' 27 = w 27 → K (.inl none) w') : Cal g LC jCu_blame D [vA 25, vI (f : Int), vI (t : Int)] w K :=
  sp_blame hR.1 hf ht (fun w' hB hk => h w' (hB.1.mono (by decide)) (hR.b2 hB (fun s hs hky => hk (ht2 s hs) _ hky)) (hB.1 27 (by decide)))
theorem st_demand {x : Nat} {k : Int} (hD : 1 ≤ D) (hR : RdS T L w ρ) (hx : x ≤ nTk T L) (ht2 : ∀ s, ρ = .ok s → x ≤ 1000) (h : ∀ w', Fx FEl w w' → RdS T L w' (bnd ρ (fBl (dm T L (w 27 x) k x))) → w' 27 = w 27 → K (.inl none) w') : Cal g LC jEx_demand D [vA 26, vI (x : Int), vI k] w K :=
  sp_demand hD hR.1 hx (fun w' hB hk => h w' (hB.1.mono (by decide)) (hR.b2 hB (fun s hs hky => hk (ht2 s hs) _ hky)) (hB.1 27 (by decide)))
/-- an exp -/
def fEx (T : Nat → Int) (L n : Nat) (s : ST) : PE ST := bnd (pE (kdT T L) n (sI s)) (fun q => .ok (q.2, sE s, sc s, sl s, sb s, min (sK s) (jkT T L (sE s) (sb s) q.1), sC s ++ (cmT T L (sE s) q.1 (sC s).length).map (fun e => (e.1, e.2.1, e.2.2, sh s)), sO s ++ oS (kdT T L) q.1 1, sh s))
theorem CD.xc {w' : Wd} {C : List Hd} {x : Int} {l : List Dd} (h : CD w C x) (hX : XC w w' C.length l) : CD w' (C ++ l.map (fun e => (e.1, e.2.1, e.2.2, x))) x := by
  obtain ⟨h1, h2, h3⟩ := h
  obtain ⟨x1, x2, x3, x4⟩ := hX
  refine ⟨by rw [x1, List.length_append, List.length_map], x2.trans h2, fun q e he => ?_⟩
  by_cases hq : q < C.length
  · rw [List.getElem?_append_left hq] at he
    obtain ⟨a1, a2, a3, a4⟩ := h3 q e he
    obtain ⟨b1, b2, b3, b4⟩ := x3 q hq
    exact ⟨b1.trans a1, b2.trans a2, b3.trans a3, b4.trans a4⟩
  · rw [List.getElem?_append_right (by omega), List.getElem?_map] at he
    cases hl : l[q - C.length]? with
    | none => rw [hl] at he; cases he
    | some e' =>
      rw [hl] at he
      cases he
      obtain ⟨b1, b2, b3, b4⟩ := x4 (q - C.length) e' hl
      rw [show C.length + (q - C.length) = q by omega] at b1 b2 b3 b4
      exact ⟨b1, b2, b3, b4.trans h2⟩
theorem st_exp {n within : Nat} (hD : 140 ≤ D) (hw : within + n = 13) (hR : RdS T L w ρ) (hl : ∀ s, ρ = .ok s → (sC s).length ≤ sI s) (h : ∀ (w' : Wd) (x : Nat), Fx FEl w w' → x ≤ nTk T L → (∀ s, ρ = .ok s → ∀ q, pE (kdT T L) n (sI s) = .ok q → x = sI s ∧ w' 27 x = knT T L (sE s) (sb s) q.1) → RdS T L w' (bnd ρ (fEx T L n)) → K (.inl (some (vI (x : Int)))) w') : Cal g LC jEx_exp D [vA 26, vI (within : Int)] w K := by
  cases ρ with
  | error e =>
    have hb : ∃ b : Bool, w 26 4 = bI b := by
      rcases hR.2.1 with z | z
      · exact ⟨false, z⟩
      · exact ⟨true, z⟩
    obtain ⟨b, hb⟩ := hb
    refine sp_expW (E := []) (b := b) hw hD K w (.error e) ⟨hR.1, hR.2.2, (fun i z => by cases z), hb⟩ (fun w' x hF hI hx hRR => h w' x (hF.mono (by decide)) hx (fun s z => by cases z) ⟨hI, by rw [hF 26 (by decide)]; exact hR.2.1, hRR⟩)
  | ok s =>
    obtain ⟨o1, o2, o3, o4, o5, o6, o7, o8, o9, o10⟩ := id hR.2.2
    refine sp_expW (E := sE s) (b := sb s) hw hD K w (.ok (sI s)) ⟨hR.1, o1, fun i _ => o2, o6⟩ (fun w' x hF hI hx hRR => h w' x (hF.mono (by decide)) hx (fun s' z q hq => ?_) ⟨hI, by rw [hF 26 (by decide)]; exact hR.2.1, ?_⟩)
    · cases z
      obtain ⟨rfl, -, s1, s2, s3, -⟩ := hRR.get hq
      exact ⟨rfl, s3⟩
    · show match fEx T L n s with | .error e => CS T L w' (.error e) | .ok s => OKs T L w' s
      unfold fEx
      cases hq : pE (kdT T L) n (sI s) with
      | error e =>
        unfold RR at hRR
        simp only [hq] at hRR
        exact hRR
      | ok q =>
        obtain ⟨rfl, hC, s1, s2, s3, s4, s5, s6, s7⟩ := hRR.get hq
        refine ⟨hC, o2.fx hF (by decide) (by decide) (by decide) (by decide) (by decide), o3.fx hF (by decide), by rw [hF 8 (by decide)]; exact o4, by rw [hF 24 (by decide)]; exact o5, by rw [hF 26 (by decide)]; exact o6, s6 _ o7, o8.xc (s7 _ o8.1 (hl s rfl)), ?_, fun x hx => ?_⟩
        · exact (o9.congr (fun x _ hx => (s1 x hx).2.2.2)).app (s5 o10)
        · have hx' : q.2 ≤ x := hx
          have hg := (cL_gw hq).1.2.1
          rw [s2 x hx']; exact o10 x (by omega)
end StateSpecs
