/-! ===== the class's exps: operands ===== -/
/-- exps that are settled where line r is asked for -/
def XS (T : Nat → Int) (L : Nat) (E : List En) (b : Bool) (r : Nat) (w w' : Wd) (i j : Nat) (a : Tr) : Prop :=
  (∀ x, x < i → w' 27 x = w 27 x ∧ w' 28 x = w 28 x ∧ w' 29 x = w 29 x ∧ w' 30 x = w 30 x) ∧
  (∀ x, j ≤ x → w' 30 x = w 30 x) ∧
  w' 27 i = knT T L E b a ∧ w' 28 i = ((lnT (kdT T L) a : Nat) : Int) ∧
  ((∀ x, i ≤ x → w 30 x = 0) → DL w' i j (oS (kdT T L) a r)) ∧
  (∀ k, KY w k → KY w' (min k (jkT T L E b a))) ∧
  (∀ s : Nat, w 19 4 = (s : Int) → s ≤ i → XC w w' s (cmT T L E a s))
def RR (T : Nat → Int) (L : Nat) (X : Wd → Wd → Nat → Nat → Tr → Prop) (w w' : Wd) (σ : PE Nat) (r : Nat → PE (Tr × Nat)) (x : Nat) : Prop := match σ with
  | .error e => CS T L w' (.error e)
  | .ok i => match r i with
    | .error e => CS T L w' (.error e)
    | .ok q => x = i ∧ CS T L w' (.ok q.2) ∧ X w w' i q.2 q.1
/-- a method that reads an exp, or a piece of one -/
def SpE (g : Mg) (J : Jm) (D : Nat) (args : List AV) (T : Nat → Int) (L : Nat) (E : List En) (b : Bool) (X : Wd → Wd → Nat → Nat → Tr → Prop) (r : Nat → PE (Tr × Nat)) : Prop :=
  ∀ (K : Ou → Wd → Prop) (w : Wd) (σ : PE Nat), PX T L E b w σ → (∀ (w' : Wd) (x : Nat), Fx FEl w w' → IC T L w' → x ≤ nTk T L → RR T L X w w' σ r x → K (.inl (some (vI (x : Int)))) w') → Cal g LC J D args w K
section ExpLeaves
variable {g : Mg} {D : Nat} {K : Ou → Wd → Prop} {w : Wd} {T : Nat → Int} {L : Nat} {E : List En} {b : Bool}
theorem RR.err {X : Wd → Wd → Nat → Nat → Tr → Prop} {w' : Wd} {i : Nat} {r : Nat → PE (Tr × Nat)} {x : Nat} {e : Nat × Nat} (hr : r i = .error e) (hC : CS T L w' (.error e)) : RR T L X w w' (.ok i) r x := by
  unfold RR; simp only [hr]; exact hC
theorem RR.ok {X : Wd → Wd → Nat → Nat → Tr → Prop} {w' : Wd} {i : Nat} {r : Nat → PE (Tr × Nat)} {x : Nat} {q : Tr × Nat} (hr : r i = .ok q) (hx : x = i) (hC : CS T L w' (.ok q.2)) (hX : X w w' i q.2 q.1) : RR T L X w w' (.ok i) r x := by
  unfold RR; simp only [hr]; exact ⟨hx, hC, hX⟩
theorem m25 {w w' : Wd} (h : Fx [25] w w') : Fx FEl w w' := h.mono (by decide)
theorem m19 {w w' : Wd} (h : Fx [19, 20, 21, 22, 23] w w') : Fx FEl w w' := h.mono (by decide)
theorem m21 {w w' : Wd} (h : Fx [21] w w') : Fx FEl w w' := h.mono (by decide)
theorem m27 {w w' : Wd} (h : Fx [27, 28, 29] w w') : Fx FEl w w' := h.mono (by decide)
theorem m29 {w w' : Wd} (h : Fx [29, 30] w w') : Fx FEl w w' := h.mono (by decide)
theorem leaf_end {w1 w2 : Wd} {i x : Nat} {τ : PE Nat} {r : Nat → PE (Tr × Nat)} {k : Int} (hP : PX T L E b w (.ok i)) (hF : Fx [25] w w1) (hC1 : CS T L w1 τ) (hF2 : Fx [19, 20, 21, 22, 23] w1 w2) (hc2 : CodB w2) (hx : x ≤ nTk T L) (hR : (∃ e, r i = .error e ∧ τ = .error e) ∨ ∃ q, r i = .ok q ∧ τ = .ok q.2 ∧ x = i ∧ XP T L E b w (knW w2 x k 7) i q.2 q.1) (h : ∀ (w' : Wd) (x : Nat), Fx FEl w w' → IC T L w' → x ≤ nTk T L → RR T L (XP T L E b) w w' (.ok i) r x → K (.inl (some (vI (x : Int)))) w') : K (.inl (some (vI (x : Int)))) (knW w2 x k 7) := by
  have hI1 : IC T L w1 := hP.1.f25 hF
  have hI2 : IC T L w2 := hI1.f19 hF2 hc2
  have hC2 : CS T L (knW w2 x k 7) τ := (hC1.fx hF2 (by decide)).fx (knW_fx w2 x k 7) (by decide)
  refine h _ x (((m25 hF).tr (m19 hF2)).tr (m27 (knW_fx w2 x k 7))) hI2.kn hx ?_
  rcases hR with ⟨e, h1, h2⟩ | ⟨q, h1, h2, h3, h4⟩
  · subst h2; exact RR.err h1 hC2
  · subst h2; exact RR.ok h1 h3 hC2 h4
theorem DX.tok {kd : Nat → Nat} {c t q : Nat} {l r : Tr} {i j : Nat} (v : Wd) (hc : c ≠ 7) (hd : ∃ n, j = i + n ∧ oS kd (nd c t q l r) 0 = (List.range n).map (i + ·)) (h0 : ∀ x, i ≤ x → x < j → v 30 x = 0) : DX kd v i j (nd c t q l r) := by
  obtain ⟨n, rfl, hn⟩ := hd
  simp only [DX, if_neg hc, hn]
  have key : ∀ n, (∀ x, i ≤ x → x < i + n → v 30 x = 0) → DL v i (i + n) ((List.range n).map (i + ·)) := by
    intro n
    induction n with
    | zero => intro _; exact DL.nil v i
    | succ n ih =>
      intro h
      rw [List.range_succ, List.map_append]
      exact (ih (fun x a b => h x a (by omega))).app (DL.one (h (i + n) (by omega) (by omega)))
  exact key n h0
theorem jk0 {t q : Nat} {l r : Tr} : jkT T L E b (nd 0 t q l r) = (if kdT T L t = 2 ∧ rdD (eSo (fnd T L E t)) < 0 then tAt T L t * 8 + 4 else 100000) := rfl
theorem kn0 {t q : Nat} {l r : Tr} : knT T L E b (nd 0 t q l r) = (if kdT T L t = 3 then 1 else if kdT T L t = 31 ∨ kdT T L t = 32 then 2 else if kdT T L t = 2 then nmK (fnd T L E t) else 1) := rfl
theorem cm0 {t q : Nat} {l r : Tr} {s : Nat} : cmT T L E (nd 0 t q l r) s = (if kdT T L t = 3 ∨ kdT T L t = 32 then [(0, tVl T L (tAt T L t), 0)] else if kdT T L t = 31 then [(0, 1, 0)] else if kdT T L t = 2 then [((if rdD (eSo (fnd T L E t)) < 0 then 0 else rdD (eSo (fnd T L E t))), eNu (fnd T L E t), 0)] else [(fcD (kdT T L t), 0, 0)]) := rfl
theorem sp_constant {i : Nat} {r : Nat → PE (Tr × Nat)} (hD : 2 ≤ D) (hP : PX T L E b w (.ok i)) (hk : kdT T L i = 3 ∨ kdT T L i = 31 ∨ kdT T L i = 32) (hr : r i = if 1000 ≤ i then .error (2, i) else .ok (nd 0 i 0 nl nl, i + 1)) (h : ∀ (w' : Wd) (x : Nat), Fx FEl w w' → IC T L w' → x ≤ nTk T L → RR T L (XP T L E b) w w' (.ok i) r x → K (.inl (some (vI (x : Int)))) w') : Cal g LC jEx_constant D [vA 26] w K := by
  obtain ⟨d, rfl⟩ : ∃ d, D = d + 1 := ⟨D - 1, by omega⟩
  obtain ⟨hI, hC, hE, hb⟩ := id hP
  have hn := nTk_le (T := T) (L := L)
  refine Cal.ofV (by decide) rfl (Nat.le_of_ble_eq_true rfl) (s_Ex_constant (sp_kind hI hC (sp_take (by omega) hI hC (fun _ z => by cases z; show kdT T L i ≠ 0; omega) (fun w1 x hC3 hx hxi hCS => ?_))))
  obtain rfl : x = i := hxi i rfl
  have hC1 : CS T L w1 (ex (kdT T L) (kdT T L x) x) := hCS
  have hI1 := hI.f25 hC3.1
  have hxn : x < nTk T L := kdT_lt hC.2.2.1 hC.2.2.2 (by omega)
  have hv := (hI1.1.sz hxn).2.2
  have e3 : (((kS T L (.ok x) : Nat) : Int) = 3) ↔ kdT T L x = 3 := by show ((kdT T L x : Nat) : Int) = 3 ↔ _; omega
  have e31 : (((kS T L (.ok x) : Nat) : Int) = 31) ↔ kdT T L x = 31 := by show ((kdT T L x : Nat) : Int) = 31 ↔ _; omega
  have hfin : ∀ (w2 : Wd) (v k : Int), Fx [19, 20, 21, 22, 23] w1 w2 → CodB w2 → (∀ s : Nat, w1 19 4 = (s : Int) → s < 1024 → w2 = addW w1 s 0 v 0) → k = knT T L E b (nd 0 x 0 nl nl) → (∀ s, cmT T L E (nd 0 x 0 nl nl) s = [(0, v, 0)]) → K (.inl (some (vI (x : Int)))) (knW w2 x k 7) := by
    intro w2 v k hF2 hc2 hA hk2 hcm
    refine leaf_end hP hC3.1 hC1 hF2 hc2 hx ?_ h
    unfold ex
    rw [if_pos rfl, hr]
    by_cases h1 : 1000 ≤ x
    · left; rw [if_pos h1, if_pos h1]; exact ⟨_, rfl, rfl⟩
    · right; rw [if_neg h1, if_neg h1]
      refine ⟨_, rfl, rfl, rfl, XP.leaf hC3.1 hF2 hA (by omega) hk2 (by simp [lnT]) (by simp [czT]) (fun q hq => ?_) (fun v hv => DX.tok v (by decide) ⟨1, rfl, by simp [oS]⟩ hv) hcm⟩
      have : jkT T L E b (nd 0 x 0 nl nl) = 100000 := by rw [jk0, if_neg (by omega)]
      rw [this, hq.big]
      exact hC3.ky hq
  refine ⟨fun c => ⟨by omega, ?_⟩, fun c => ?_⟩
  · rw [e31] at c
    rw [toN, hv]
    refine sp_codeAdd hI1 (fun w2 s hF hB hs1 hs2 hA => ⟨fun c3 => sp_know (by omega) ?_, fun c3 => sp_know (by omega) ?_⟩)
    · rw [e3] at c3
      refine hfin w2 (tVl T L (tAt T L x)) 2 hF hB (fun s' h1 h2 => ?_) ?_ (fun s' => ?_)
      · have : s' = s := by rw [hs2] at h1; omega
        subst this; exact hA h2
      · rw [kn0, if_neg c3, if_pos (by omega)]
      · rw [cm0, if_pos (by omega)]
    · rw [e3] at c3
      refine hfin w2 (tVl T L (tAt T L x)) 1 hF hB (fun s' h1 h2 => ?_) ?_ (fun s' => ?_)
      · have : s' = s := by rw [hs2] at h1; omega
        subst this; exact hA h2
      · rw [kn0, if_pos c3]
      · rw [cm0, if_pos (by omega)]
  · rw [e31] at c
    refine sp_codeAdd hI1 (fun w2 s hF hB hs1 hs2 hA => ⟨fun c3 => sp_know (by omega) ?_, fun c3 => absurd (e3.mp c3) (by omega)⟩)
    refine hfin w2 1 2 hF hB (fun s' h1 h2 => ?_) ?_ (fun s' => ?_)
    · have : s' = s := by rw [hs2] at h1; omega
      subst this; exact hA h2
    · rw [kn0, if_neg (by omega), if_pos (by omega)]
    · rw [cm0, if_neg (by omega), if_pos c]
/-- what stands at no place where an exp can begin, or is a word for a number -/
theorem sp_fact {σ : PE Nat} {r : Nat → PE (Tr × Nat)} (hD : 2 ≤ D) (hP : PX T L E b w σ) (hr : ∀ i, σ = .ok i → (54 ≤ kdT T L i ∧ kdT T L i ≤ 58 ∧ r i = if 1000 ≤ i then .error (2, i) else .ok (nd 0 i 0 nl nl, i + 1)) ∨ (¬ (54 ≤ kdT T L i ∧ kdT T L i ≤ 58) ∧ r i = .error (1, i))) (h : ∀ (w' : Wd) (x : Nat), Fx FEl w w' → IC T L w' → x ≤ nTk T L → RR T L (XP T L E b) w w' σ r x → K (.inl (some (vI (x : Int)))) w') : Cal g LC jEx_fact D [vA 26] w K := by
  obtain ⟨d, rfl⟩ : ∃ d, D = d + 1 := ⟨D - 1, by omega⟩
  obtain ⟨hI, hC, hE, hb⟩ := id hP
  have hn := nTk_le (T := T) (L := L)
  refine Cal.ofV (by decide) rfl (Nat.le_of_ble_eq_true rfl) (s_Ex_fact (sp_kind hI hC (sp_factDeed ⟨fun c => ?_, fun c => ?_⟩)))
  · have hc5 : 54 ≤ kS T L σ ∧ kS T L σ ≤ 58 := by
      unfold fcD at c
      split at c
      · assumption
      · omega
    cases σ with
    | error e => exact absurd hc5.1 (by show ¬ 54 ≤ 0; omega)
    | ok i =>
      have hk : 54 ≤ kdT T L i ∧ kdT T L i ≤ 58 := hc5
      refine sp_take (by omega) hI hC (fun _ z => by cases z; show kdT T L i ≠ 0; omega) (fun w1 x hC3 hx hxi hCS => ?_)
      obtain rfl : x = i := hxi i rfl
      have hC1 : CS T L w1 (ex (kdT T L) (kdT T L x) x) := hCS
      refine sp_max (sp_codeAdd (hI.f25 hC3.1) (fun w2 s hF hB hs1 hs2 hA => sp_know (by omega) ?_))
      have hf : fcD (kS T L (.ok x)) = (kdT T L x : Int) - 47 := by show fcD (kdT T L x) = _; unfold fcD; rw [if_pos hk]
      rw [hf, if_neg (by omega)] at hA
      refine leaf_end hP hC3.1 hC1 hF hB hx ?_ h
      have hr1 : r x = if 1000 ≤ x then .error (2, x) else .ok (nd 0 x 0 nl nl, x + 1) := by
        rcases hr x rfl with h1 | h1
        · exact h1.2.2
        · exact absurd hk h1.1
      unfold ex
      rw [if_pos rfl, hr1]
      by_cases h1 : 1000 ≤ x
      · left; rw [if_pos h1, if_pos h1]; exact ⟨_, rfl, rfl⟩
      · right; rw [if_neg h1, if_neg h1]
        refine ⟨_, rfl, rfl, rfl, XP.leaf (d := (kdT T L x : Int) - 47) (ar := 0) (m := 0) hC3.1 hF (fun s' h1 h2 => ?_) (by omega) ?_ (by simp [lnT]) (by simp [czT]) (fun q hq => ?_) (fun v hv => DX.tok v (by decide) ⟨1, rfl, by simp [oS]⟩ hv) (fun s => ?_)⟩
        · have : s' = s := by rw [hs2] at h1; omega
          subst this; exact hA h2
        · rw [kn0, if_neg (by omega), if_neg (by omega), if_neg (by omega)]
        · have : jkT T L E b (nd 0 x 0 nl nl) = 100000 := by rw [jk0, if_neg (by omega)]
          rw [this, hq.big]
          exact hC3.ky hq
        · rw [cm0, if_neg (by omega), if_neg (by omega), if_neg (by omega)]
          unfold fcD; rw [if_pos hk]
  · have hc5 : ¬ (54 ≤ kS T L σ ∧ kS T L σ ≤ 58) := by
      intro z
      unfold fcD at c
      rw [if_pos z] at c
      omega
    refine sp_stop (f := 1) (by decide) hI hC (fun w1 hC3 hC1 => ?_)
    have hI1 := hI.f25 hC3.1
    obtain ⟨e, he⟩ : ∃ e, stp 1 σ = .error e := by
      cases σ with
      | error e => exact ⟨e, rfl⟩
      | ok i => exact ⟨_, rfl⟩
    rw [he] at hC1
    refine sp_take (σ := .error e) (by omega) hI1 hC1 (fun _ z => by cases z) (fun w2 x hC32 hx hxi hCS => ?_)
    have hI2 := hI1.f25 hC32.1
    refine sp_max (sp_codeAdd hI2 (fun w3 s hF hB hs1 hs2 hA => sp_know (by omega) ?_))
    have hI3 := hI2.f19 hF hB
    have hCf : CS T L (knW w3 x 1 7) (.error e) := (CS.fx (σ := .error e) hCS hF (by decide)).fx (knW_fx w3 x 1 7) (by decide)
    refine h _ x ((((m25 hC3.1).tr (m25 hC32.1)).tr (m19 hF)).tr (m27 (knW_fx w3 x 1 7))) hI3.kn hx ?_
    cases σ with
    | error e2 =>
      have : e2 = e := by cases he; rfl
      subst this
      exact hCf
    | ok i =>
      have : e = (1, i) := by cases he; rfl
      subst this
      rcases hr i rfl with h1 | h1
      · exact absurd ⟨h1.1, h1.2.1⟩ hc5
      · exact RR.err h1.2 hCf
theorem sp_named {i : Nat} {r : Nat → PE (Tr × Nat)} (hD : 3 ≤ D) (hP : PX T L E b w (.ok i)) (hk : kdT T L i = 2) (hr : r i = if 1000 ≤ i then .error (2, i) else .ok (nd 0 i 0 nl nl, i + 1)) (h : ∀ (w' : Wd) (x : Nat), Fx FEl w w' → IC T L w' → x ≤ nTk T L → RR T L (XP T L E b) w w' (.ok i) r x → K (.inl (some (vI (x : Int)))) w') : Cal g LC jEx_named D [vA 26] w K := by
  obtain ⟨d, rfl⟩ : ∃ d, D = d + 1 := ⟨D - 1, by omega⟩
  obtain ⟨hI, hC, hE, hb⟩ := id hP
  have hE0 := hE i rfl
  have hn := nTk_le (T := T) (L := L)
  have hin : i < nTk T L := kdT_lt hC.2.2.1 hC.2.2.2 (by omega)
  refine Cal.ofV (by decide) rfl (Nat.le_of_ble_eq_true rfl) (s_Ex_named (sp_take (c := 2) (by omega) hI hC (fun _ _ => by decide) (fun w1 x hC3 hx hxi hCS => ?_)))
  obtain rfl : x = i := hxi i rfl
  have hC1 : CS T L w1 (ex (kdT T L) 2 x) := hCS
  have hI1 := hI.f25 hC3.1
  have hE1 : EC T L w1 E := hE0.fx hC3.1 (by decide) (by decide) (by decide) (by decide) (by decide)
  refine sp_find (by omega) hI1 hx (fun f hf1 hf2 hf3 => sp_sortOf hI1 hf1 hf2 (fun so hs1 hs2 hs3 => sp_readingDeed ?_))
  have hfx := hf3 E hE1 hin
  have hso : so = eSo (fnd T L E x) := by rw [hs3 E hE1, hfx, lk_fnd]
  have hcm : ∀ s, cmT T L E (nd 0 x 0 nl nl) s = [((if rdD (eSo (fnd T L E x)) < 0 then 0 else rdD (eSo (fnd T L E x))), eNu (fnd T L E x), 0)] := fun s => by
    rw [cm0, if_neg (by omega), if_neg (by omega), if_pos hk]
  have hkn : knT T L E b (nd 0 x 0 nl nl) = nmK (fnd T L E x) := by
    rw [kn0, if_neg (by omega), if_neg (by omega), if_pos hk]
  have hfin : ∀ (w3 w2 : Wd) (k : Int), Fx [25] w w3 → CS T L w3 (ex (kdT T L) 2 x) → (∀ q, KY w q → KY w3 (min q (jkT T L E b (nd 0 x 0 nl nl)))) → Fx [19, 20, 21, 22, 23] w3 w2 → CodB w2 → (∀ s : Nat, w3 19 4 = (s : Int) → s < 1024 → w2 = addW w3 s (if rdD (eSo (fnd T L E x)) < 0 then 0 else rdD (eSo (fnd T L E x))) (eNu (fnd T L E x)) 0) → k = nmK (fnd T L E x) → K (.inl (some (vI (x : Int)))) (knW w2 x k 7) := by
    intro w3 w2 k hF3 hC3' hky hF2 hc2 hA hk2
    refine leaf_end hP hF3 hC3' hF2 hc2 hx ?_ h
    unfold ex
    rw [if_pos hk, hr]
    by_cases h1 : 1000 ≤ x
    · left; rw [if_pos h1, if_pos h1]; exact ⟨_, rfl, rfl⟩
    · right; rw [if_neg h1, if_neg h1]
      exact ⟨_, rfl, rfl, rfl, XP.leaf hF3 hF2 hA (by omega) (hk2.trans hkn.symm) (by simp [lnT]) (by simp [czT]) hky (fun v hv => DX.tok v (by decide) ⟨1, rfl, by simp [oS]⟩ hv) hcm⟩
  subst hso
  refine ⟨fun c => sp_max (sp_numberOf hI1 hf1 hf2 (fun nu hnu => ?_)), fun c => sp_blame (f := 4) hI1 (by decide) hx (fun w3 hB3 hky => sp_max ?_)⟩
  · have hnu' : nu = eNu (fnd T L E x) := by rw [hnu E hE1, hfx, lk_fnd]
    refine sp_codeAdd hI1 (fun w2 s hF hB hs1 hs2 hA => ⟨fun _ => ?_, fun c2 => absurd c c2⟩)
    have hI2 := hI1.f19 hF hB
    have hE2 : EC T L w2 E := hE1.fx hF (by decide) (by decide) (by decide) (by decide) (by decide)
    have h136 : w2 13 6 = w1 13 6 := by rw [hF 13 (by decide)]
    refine sp_kindOf hI2 hf1 (by rw [h136]; exact hf2) (fun ki hki => sp_know (by omega) ?_)
    have hki' : ki = eKi (fnd T L E x) := by rw [hki E hE2, hfx, lk_fnd]
    refine hfin w1 w2 ki hC3.1 hC1 (fun q hq => ?_) hF hB (fun s' h1 h2 => ?_) ?_
    · have : jkT T L E b (nd 0 x 0 nl nl) = 100000 := by rw [jk0, if_neg (by omega)]
      rw [this, hq.big]
      exact hC3.ky hq
    · have : s' = s := by rw [hs2] at h1; omega
      subst this
      rw [hA h2, hnu']
    · rw [hki']; unfold nmK; rw [if_neg (by omega)]
  · have hI3 := hI1.f25 hB3.1
    have hE3 : EC T L w3 E := hE1.fx hB3.1 (by decide) (by decide) (by decide) (by decide) (by decide)
    have h136 : w3 13 6 = w1 13 6 := by rw [hB3.1 13 (by decide)]
    refine sp_numberOf hI3 hf1 (by rw [h136]; exact hf2) (fun nu hnu => ?_)
    have hnu' : nu = eNu (fnd T L E x) := by rw [hnu E hE3, hfx, lk_fnd]
    refine sp_codeAdd hI3 (fun w2 s hF hB hs1 hs2 hA => ⟨fun c2 => absurd c2 c, fun _ => sp_know (by omega) ?_⟩)
    refine hfin w3 w2 0 (hC3.1.tr hB3.1) (hB3.cs hC1) (fun q hq => ?_) hF hB (fun s' h1 h2 => ?_) ?_
    · have : jkT T L E b (nd 0 x 0 nl nl) = tAt T L x * 8 + 4 := by rw [jk0, if_pos ⟨hk, by omega⟩]
      rw [this]
      exact hky (by have := hC.2.2.2; omega) q (hC3.ky hq)
    · have : s' = s := by rw [hs2] at h1; omega
      subst this
      rw [hA h2, hnu']
    · unfold nmK; rw [if_pos (by omega)]
end ExpLeaves
