/-! ===== the class's exps: arc . NAME, has NAME ===== -/
section ExpLeaves2
variable {g : Mg} {D : Nat} {K : Ou → Wd → Prop} {w : Wd} {T : Nat → Int} {L : Nat} {E : List En} {b : Bool}
theorem C3.tr {a b c : Wd} (h1 : C3 a b) (h2 : C3 b c) : C3 a c := ⟨h1.1.tr h2.1, fun x q1 q2 q3 => (h2.2 x q1 q2 q3).trans (h1.2 x q1 q2 q3)⟩
theorem sp_has {i : Nat} {r : Nat → PE (Tr × Nat)} (hD : 3 ≤ D) (hP : PX T L E b w (.ok i)) (hr : r i = bnd (ex (kdT T L) 53 i) (fun i0 => bnd (ex (kdT T L) 2 i0) (fun j => .ok (nd 2 i0 0 nl nl, j)))) (h : ∀ (w' : Wd) (x : Nat), Fx FEl w w' → IC T L w' → x ≤ nTk T L → RR T L (XP T L E b) w w' (.ok i) r x → K (.inl (some (vI (x : Int)))) w') : Cal g LC jEx_has D [vA 26] w K := by
  obtain ⟨d, rfl⟩ : ∃ d, D = d + 1 := ⟨D - 1, by omega⟩
  obtain ⟨hI, hC, hE, hb⟩ := id hP
  have hE0 := hE i rfl
  have hn := nTk_le (T := T) (L := L)
  refine Cal.ofV (by decide) rfl (Nat.le_of_ble_eq_true rfl) (s_Ex_has (sp_take (c := 53) (by omega) hI hC (fun _ _ => by decide) (fun w1 x hC31 hx hxi hCS1 => ?_)))
  obtain rfl : x = i := hxi i rfl
  have hI1 := hI.f25 hC31.1
  refine sp_take (c := 2) (by omega) hI1 hCS1 (fun _ _ => by decide) (fun w3 y hC33 hy hyi hCS3 => ?_)
  have hC3 := hC31.tr hC33
  have hI3 := hI.f25 hC3.1
  have hE3 : EC T L w3 E := hE0.fx hC3.1 (by decide) (by decide) (by decide) (by decide) (by decide)
  have hok : ∀ j, bnd (bnd (.ok x) (ex (kdT T L) 53)) (ex (kdT T L) 2) = .ok j → y = x + 1 ∧ j = x + 2 ∧ x + 1 < nTk T L ∧ x + 1 < 1000 := by
    intro j hj
    obtain ⟨a, h1, h2⟩ := bnd_ok hj
    have h1' : ex (kdT T L) 53 x = .ok a := h1
    obtain ⟨a1, rfl, a3⟩ := ex_ok h1'
    obtain ⟨b1, rfl, b3⟩ := ex_ok h2
    have hy1 := hyi (x + 1) h1
    rw [h1] at hCS1
    have hle := hCS1.2.2.1
    exact ⟨hy1, rfl, kdT_lt hle (by omega) (by omega), by omega⟩
  refine sp_find (by omega) hI3 hy (fun f hf1 hf2 hf3 => sp_sortOf hI3 hf1 hf2 (fun so hs1 hs2 hs3 => ?_))
  have hfx : ∀ j, bnd (bnd (.ok x) (ex (kdT T L) 53)) (ex (kdT T L) 2) = .ok j → lkE E f = fnd T L E (x + 1) := by
    intro j hj
    obtain ⟨h1, -, h2, -⟩ := hok j hj
    subst h1
    rw [hf3 E hE3 h2, lk_fnd]
  have hso : so = eSo (lkE E f) := hs3 E hE3
  have hfin : ∀ (w4 w2 : Wd) (k nu : Int), Fx [25] w w4 → CS T L w4 (bnd (bnd (.ok x) (ex (kdT T L) 53)) (ex (kdT T L) 2)) → (y ≤ 1000 → ∀ q, KY w q → KY w4 (min q (if eSo (lkE E f) = 2 then 100000 else tAt T L y * 8 + 4))) → Fx [19, 20, 21, 22, 23] w4 w2 → CodB w2 → (∀ s : Nat, w4 19 4 = (s : Int) → s < 1024 → w2 = addW w4 s 6 nu 0) → nu = eNu (lkE E f) → (k = if eSo (lkE E f) = 2 then 2 else 0) → K (.inl (some (vI (x : Int)))) (knW w2 x k 7) := by
    intro w4 w2 k nu hF4 hC4 hky hF2 hc2 hA hnu hk2
    refine leaf_end hP hF4 hC4 hF2 hc2 hx ?_ h
    rw [hr]
    cases e1 : ex (kdT T L) 53 x with
    | error e => left; exact ⟨e, rfl, by show bnd (ex (kdT T L) 53 x) _ = _; rw [e1]; rfl⟩
    | ok i0 =>
      cases e2 : ex (kdT T L) 2 i0 with
      | error e => left; exact ⟨e, by show bnd (ex (kdT T L) 2 i0) _ = _; rw [e2]; rfl, by show bnd (ex (kdT T L) 53 x) _ = _; rw [e1]; exact e2⟩
      | ok j =>
        right
        have hj : bnd (bnd (.ok x) (ex (kdT T L) 53)) (ex (kdT T L) 2) = .ok j := by show bnd (ex (kdT T L) 53 x) _ = _; rw [e1]; exact e2
        obtain ⟨hyx, hj2, hn2, h10⟩ := hok j hj
        have hlk := hfx j hj
        obtain ⟨-, rfl, -⟩ := ex_ok e1
        refine ⟨(nd 2 (x + 1) 0 nl nl, j), by show bnd (ex (kdT T L) 2 (x + 1)) _ = _; rw [e2]; rfl, hj, rfl, ?_⟩
        subst hj2
        rw [hlk] at hnu hk2 hky
        subst hyx
        refine XP.leaf hF4 hF2 hA (by omega) (hk2.trans ?_) (by simp [lnT]) (by simp [czT]) (fun q hq => ?_) (fun v hv => DX.tok v (by decide) ⟨2, rfl, by simp [oS, List.range_succ]⟩ hv) (fun s => ?_)
        · simp [knT]
        · have := hky (by omega) q hq
          simpa [jkT] using this
        · simp [cmT, hnu]
  refine ⟨fun c => sp_blame (f := 4) hI3 (by decide) hy (fun w4 hB4 hky => ?_), fun c => ?_⟩
  · have hI4 := hI3.f25 hB4.1
    have hE4 : EC T L w4 E := hE3.fx hB4.1 (by decide) (by decide) (by decide) (by decide) (by decide)
    have h136 : w4 13 6 = w3 13 6 := by rw [hB4.1 13 (by decide)]
    refine sp_numberOf hI4 hf1 (by rw [h136]; exact hf2) (fun nu hnu => sp_codeAdd hI4 (fun w2 s hF hB hs1 hs2 hA => sp_know (by omega) ?_))
    refine hfin w4 w2 0 nu (hC3.1.tr hB4.1) (hB4.cs hCS3) (fun hy1 q hq => ?_) hF hB (fun s' h1 h2 => ?_) (hnu E hE4) ?_
    · rw [if_neg (by omega)]; exact hky hy1 q (hC3.ky hq)
    · have : s' = s := by rw [hs2] at h1; omega
      subst this; exact hA h2
    · rw [if_neg (by omega)]
  · refine sp_numberOf hI3 hf1 hf2 (fun nu hnu => sp_codeAdd hI3 (fun w2 s hF hB hs1 hs2 hA => sp_know (by omega) ?_))
    refine hfin w3 w2 2 nu hC3.1 hCS3 (fun hy1 q hq => ?_) hF hB (fun s' h1 h2 => ?_) (hnu E hE3) ?_
    · rw [if_pos (by omega), hq.big]; exact hC3.ky hq
    · have : s' = s := by rw [hs2] at h1; omega
      subst this; exact hA h2
    · rw [if_pos (by omega)]
theorem sp_column {i : Nat} {r : Nat → PE (Tr × Nat)} (hD : 3 ≤ D) (hP : PX T L E b w (.ok i)) (hr : r i = bnd (ex (kdT T L) 52 i) (fun i0 => bnd (ex (kdT T L) 10 i0) (fun i1 => bnd (ex (kdT T L) 2 i1) (fun j => .ok (nd 1 i1 0 nl nl, j))))) (h : ∀ (w' : Wd) (x : Nat), Fx FEl w w' → IC T L w' → x ≤ nTk T L → RR T L (XP T L E b) w w' (.ok i) r x → K (.inl (some (vI (x : Int)))) w') : Cal g LC jEx_column D [vA 26] w K := by
  obtain ⟨d, rfl⟩ : ∃ d, D = d + 1 := ⟨D - 1, by omega⟩
  obtain ⟨hI, hC, hE, hb⟩ := id hP
  have hE0 := hE i rfl
  have hn := nTk_le (T := T) (L := L)
  refine Cal.ofV (by decide) rfl (Nat.le_of_ble_eq_true rfl) (s_Ex_column (sp_take (c := 52) (by omega) hI hC (fun _ _ => by decide) (fun w1 x hC31 hx hxi hCS1 => ?_)))
  obtain rfl : x = i := hxi i rfl
  have hI1 := hI.f25 hC31.1
  refine sp_take (c := 10) (by omega) hI1 hCS1 (fun _ _ => by decide) (fun w2 y1 hC32 hy1 hyi1 hCS2 => ?_)
  have hI2 := hI1.f25 hC32.1
  refine sp_take (c := 2) (by omega) hI2 hCS2 (fun _ _ => by decide) (fun w3 y hC33 hy hyi hCS3 => ?_)
  have hC3 := (hC31.tr hC32).tr hC33
  have hI3 := hI.f25 hC3.1
  have hE3 : EC T L w3 E := hE0.fx hC3.1 (by decide) (by decide) (by decide) (by decide) (by decide)
  have hb3 : w3 26 4 = bI b := by rw [hC3.1 26 (by decide)]; exact hb
  have hok : ∀ j, bnd (bnd (bnd (.ok x) (ex (kdT T L) 52)) (ex (kdT T L) 10)) (ex (kdT T L) 2) = .ok j → y = x + 2 ∧ j = x + 3 ∧ x + 2 < nTk T L ∧ x + 2 < 1000 := by
    intro j hj
    obtain ⟨a, h1, h2⟩ := bnd_ok hj
    obtain ⟨a', h0, h1'⟩ := bnd_ok h1
    have h0' : ex (kdT T L) 52 x = .ok a' := h0
    obtain ⟨a1, rfl, a3⟩ := ex_ok h0'
    obtain ⟨c1, rfl, c3⟩ := ex_ok h1'
    obtain ⟨b1, rfl, b3⟩ := ex_ok h2
    have hy1 := hyi (x + 1 + 1) h1
    rw [h1] at hCS2
    have hle := hCS2.2.2.1
    exact ⟨hy1, rfl, kdT_lt hle (by omega) (by show kdT T L (x + 1 + 1) ≠ 0; omega), by omega⟩
  refine sp_find (by omega) hI3 hy (fun f hf1 hf2 hf3 => ?_)
  have hfx : ∀ j, bnd (bnd (bnd (.ok x) (ex (kdT T L) 52)) (ex (kdT T L) 10)) (ex (kdT T L) 2) = .ok j → lkE E f = fnd T L E (x + 2) := by
    intro j hj
    obtain ⟨h1, -, h2, -⟩ := hok j hj
    subst h1
    rw [hf3 E hE3 h2, lk_fnd]
  have hfin : ∀ (w4 w2 : Wd) (k nu : Int), Fx [25] w w4 → CS T L w4 (bnd (bnd (bnd (.ok x) (ex (kdT T L) 52)) (ex (kdT T L) 10)) (ex (kdT T L) 2)) → (y ≤ 1000 → ∀ q, KY w q → KY w4 (min q (if b = true ∧ eSo (lkE E f) = 0 then 100000 else tAt T L y * 8 + 4))) → Fx [19, 20, 21, 22, 23] w4 w2 → CodB w2 → (∀ s : Nat, w4 19 4 = (s : Int) → s < 1024 → w2 = addW w4 s 5 nu 0) → nu = eNu (lkE E f) → (k = if b = true ∧ eSo (lkE E f) = 0 then 1 else 0) → K (.inl (some (vI (x : Int)))) (knW w2 x k 7) := by
    intro w4 w2 k nu hF4 hC4 hky hF2 hc2 hA hnu hk2
    refine leaf_end hP hF4 hC4 hF2 hc2 hx ?_ h
    rw [hr]
    cases e1 : ex (kdT T L) 52 x with
    | error e => left; exact ⟨e, rfl, by show bnd (bnd (ex (kdT T L) 52 x) _) _ = _; rw [e1]; rfl⟩
    | ok i0 =>
      cases e2 : ex (kdT T L) 10 i0 with
      | error e => left; exact ⟨e, by show bnd (ex (kdT T L) 10 i0) _ = _; rw [e2]; rfl, by show bnd (bnd (ex (kdT T L) 52 x) _) _ = _; rw [e1]; show bnd (ex (kdT T L) 10 i0) _ = _; rw [e2]; rfl⟩
      | ok i1 =>
        cases e3 : ex (kdT T L) 2 i1 with
        | error e => left; exact ⟨e, by show bnd (ex (kdT T L) 10 i0) _ = _; rw [e2]; show bnd (ex (kdT T L) 2 i1) _ = _; rw [e3]; rfl, by show bnd (bnd (ex (kdT T L) 52 x) _) _ = _; rw [e1]; show bnd (ex (kdT T L) 10 i0) _ = _; rw [e2]; exact e3⟩
        | ok j =>
          right
          have hj : bnd (bnd (bnd (.ok x) (ex (kdT T L) 52)) (ex (kdT T L) 10)) (ex (kdT T L) 2) = .ok j := by show bnd (bnd (ex (kdT T L) 52 x) _) _ = _; rw [e1]; show bnd (ex (kdT T L) 10 i0) _ = _; rw [e2]; exact e3
          obtain ⟨hyx, hj2, hn2, h10⟩ := hok j hj
          have hlk := hfx j hj
          obtain ⟨-, rfl, -⟩ := ex_ok e1
          obtain ⟨-, rfl, -⟩ := ex_ok e2
          refine ⟨(nd 1 (x + 1 + 1) 0 nl nl, j), by show bnd (ex (kdT T L) 10 (x + 1)) _ = _; rw [e2]; show bnd (ex (kdT T L) 2 (x + 1 + 1)) _ = _; rw [e3]; rfl, hj, rfl, ?_⟩
          subst hj2
          rw [hlk] at hnu hk2 hky
          subst hyx
          refine XP.leaf hF4 hF2 hA (by omega) (hk2.trans ?_) (by simp [lnT]) (by simp [czT]) (fun q hq => ?_) (fun v hv => DX.tok v (by decide) ⟨3, rfl, by simp [oS, List.range_succ]⟩ hv) (fun s => ?_)
          · simp [knT]
          · have := hky (by omega) q hq
            simpa [jkT] using this
          · simp [cmT, hnu]
  have hbl : ∀ w', w' = w3 → ¬ (b = true ∧ eSo (lkE E f) = 0) → Cal g LC jCu_blame d [vA 25, vI 4, vI (y : Int)] w' (fun o w9 => rV o (Cal g LC jLo_numberOf d [vA 13, vI f] w9 (fun o w10 => rI o (fun x11 => Cal g LC jCo_add d [vA 19, vI 5, vI x11, vI 0] w10 (fun o w12 => rI o (fun x13 => Cal g LC jEx_know d [vA 26, vI (x : Int), vI 0, vI 7] w12 (fun o w14 => rV o (K (.inl (some (vI (x : Int)))) w14)))))))) := by
    intro w' hw' hno
    subst hw'
    refine sp_blame (f := 4) hI3 (by decide) hy (fun w4 hB4 hky => ?_)
    have hI4 := hI3.f25 hB4.1
    have hE4 : EC T L w4 E := hE3.fx hB4.1 (by decide) (by decide) (by decide) (by decide) (by decide)
    have h136 : w4 13 6 = w' 13 6 := by rw [hB4.1 13 (by decide)]
    refine sp_numberOf hI4 hf1 (by rw [h136]; exact hf2) (fun nu hnu => sp_codeAdd hI4 (fun w2 s hF hB hs1 hs2 hA => sp_know (by omega) ?_))
    refine hfin w4 w2 0 nu (hC3.1.tr hB4.1) (hB4.cs hCS3) (fun hy1 q hq => ?_) hF hB (fun s' h1 h2 => ?_) (hnu E hE4) ?_
    · rw [if_neg hno]; exact hky hy1 q (hC3.ky hq)
    · have : s' = s := by rw [hs2] at h1; omega
      subst this; exact hA h2
    · rw [if_neg hno]
  refine ⟨fun c => hbl _ rfl ?_, fun c => sp_sortOf hI3 hf1 hf2 (fun so hs1 hs2 hs3 => ⟨fun c2 => hbl _ rfl ?_, fun c2 => ?_⟩)⟩
  · rintro ⟨rfl, -⟩
    rw [hb3] at c
    exact absurd c (by decide)
  · rintro ⟨-, z⟩
    exact c2 ((hs3 E hE3).trans z)
  · have hbt : b = true := by
      cases b with
      | true => rfl
      | false => exact absurd hb3 c
    refine sp_numberOf hI3 hf1 hf2 (fun nu hnu => sp_codeAdd hI3 (fun w2 s hF hB hs1 hs2 hA => sp_know (by omega) ?_))
    have hyes : b = true ∧ eSo (lkE E f) = 0 := ⟨hbt, (hs3 E hE3).symm.trans c2⟩
    refine hfin w3 w2 1 nu hC3.1 hCS3 (fun hy1 q hq => ?_) hF hB (fun s' h1 h2 => ?_) (hnu E hE3) ?_
    · rw [if_pos hyes, hq.big]; exact hC3.ky hq
    · have : s' = s := by rw [hs2] at h1; omega
      subst this; exact hA h2
    · rw [if_pos hyes]
end ExpLeaves2
