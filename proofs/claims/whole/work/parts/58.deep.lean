/-! ===== the class's exps: brackets, draw, if, - and ! ===== -/
section ExpDeep
variable {g : Mg} {d : Nat} {K : Ou → Wd → Prop} {w : Wd} {T : Nat → Int} {L : Nat} {E : List En} {b : Bool}
theorem RR.cs {X : Wd → Wd → Nat → Nat → Tr → Prop} {w' : Wd} {σ : PE Nat} {r : Nat → PE (Tr × Nat)} {x : Nat} (h : RR T L X w w' σ r x) : CS T L w' (bnd σ (fun i => bnd (r i) (fun q => .ok q.2))) := by
  cases σ with
  | error e => exact h
  | ok i =>
    show CS T L w' (bnd (r i) (fun q => .ok q.2))
    unfold RR at h
    simp only [] at h
    cases hr : r i with
    | error e => rw [hr] at h; exact h
    | ok q => rw [hr] at h; exact h.2.1
theorem RR.get {X : Wd → Wd → Nat → Nat → Tr → Prop} {w' : Wd} {i : Nat} {r : Nat → PE (Tr × Nat)} {x : Nat} {q : Tr × Nat} (h : RR T L X w w' (.ok i) r x) (hr : r i = .ok q) : x = i ∧ CS T L w' (.ok q.2) ∧ X w w' i q.2 q.1 := by
  unfold RR at h
  simp only [hr] at h
  exact h
theorem IC.u29 {x z : Nat} (h : IC T L w) (hz : z ≤ 1001) : IC T L (up w 29 x (z : Int)) := by
  have hf : Fx [29] w (up w 29 x (z : Int)) := (Fx.rf _ w).up (by decide)
  refine h.fx hf (by decide) (by decide) (by decide) (by decide) (by decide) (by decide) (by decide) (by decide) (by decide) (h.2.2.1.fx hf (by decide)) ?_
  intro y hy
  by_cases hyx : y = x
  · rw [hyx, up_s]; omega
  · rw [up_k hyx]; exact h.2.2.2 y hy
theorem PX.c3 {w' : Wd} {σ τ : PE Nat} (h : PX T L E b w σ) (h3 : Fx [25] w w') (hC : CS T L w' τ) (ht : ∀ i, τ = .ok i → ∃ j, σ = .ok j) : PX T L E b w' τ := h.mk' (m25 h3) (h.1.f25 h3) hC ht
theorem bnd_dom {α β : Type} {r : PE α} {f : α → PE β} : ∀ x, bnd r f = .ok x → ∃ j, r = .ok j := fun x h => by obtain ⟨a, h1, -⟩ := bnd_ok h; exact ⟨a, h1⟩
theorem sp_group {i within n : Nat} {r : Nat → PE (Tr × Nat)} (hd : 3 ≤ d) (hw : within ≤ 100) (he : SpE g jEx_exp d [vA 26, vI ((within + 1 : Nat) : Int)] T L E b (XS T L E b 1) (pE (kdT T L) n)) (hP : PX T L E b w (.ok i)) (hr : r i = bnd (ex (kdT T L) 7 i) (fun i1 => bnd (pE (kdT T L) n i1) (fun q => bnd (ex (kdT T L) 8 q.2) (fun j => .ok (nd 7 i q.2 q.1 nl, j))))) (h : ∀ (w' : Wd) (x : Nat), Fx FEl w w' → IC T L w' → x ≤ nTk T L → RR T L (XP T L E b) w w' (.ok i) r x → K (.inl (some (vI (x : Int)))) w') : Cal g LC jEx_group (d + 1) [vA 26, vI (within : Int)] w K := by
  obtain ⟨hI, hC, hE, hb⟩ := id hP
  have hn := nTk_le (T := T) (L := L)
  refine Cal.ofV (by decide) rfl (Nat.le_of_ble_eq_true rfl) (s_Ex_group (sp_take (c := 7) (by omega) hI hC (fun _ _ => by decide) (fun w1 x hC31 hx hxi hCS1 => ?_)))
  obtain rfl : x = i := hxi i rfl
  have hC1 : CS T L w1 (ex (kdT T L) 7 x) := hCS1
  have hI1 := hI.f25 hC31.1
  have hP1 : PX T L E b w1 (ex (kdT T L) 7 x) := hP.c3 hC31.1 hC1 (fun _ _ => ⟨x, rfl⟩)
  rw [wr_n1 (by omega)]
  refine he _ w1 _ hP1 (fun w3 y hF3 hI3 hy hRR => ?_)
  have hC3 := hRR.cs
  refine sp_take (c := 8) (by omega) hI3 hC3 (fun _ _ => by decide) (fun w5 z hC35 hz hzi hCS5 => ⟨by omega, by omega, ?_⟩)
  have hI5 := hI3.f25 hC35.1
  refine sp_know (by omega) ⟨by omega, ?_⟩
  rw [toN, toN]
  generalize hk : w5 27 y = kk
  generalize hl : w5 28 y = ll
  have hfk : Fx [27, 28, 29] w5 (up (knW w5 x kk ll) 29 x (z : Int)) := (knW_fx w5 x kk ll).up (by decide)
  refine h _ x ((((m25 hC31.1).tr hF3).tr (m25 hC35.1)).tr (m27 hfk)) (hI5.kn.u29 (by omega)) hx ?_
  have hCf := hCS5.fx hfk (by decide)
  cases e1 : ex (kdT T L) 7 x with
  | error e => rw [e1] at hCf; exact RR.err (e := e) (by rw [hr, e1]; rfl) hCf
  | ok i1 =>
    rw [e1] at hCf hRR
    obtain ⟨-, rfl, hx10⟩ := ex_ok e1
    cases e2 : pE (kdT T L) n (x + 1) with
    | error e =>
      simp only [bnd, e2] at hCf
      exact RR.err (e := e) (by rw [hr, e1]; show bnd (pE (kdT T L) n (x + 1)) _ = _; rw [e2]; rfl) hCf
    | ok q =>
      simp only [bnd, e2] at hCf
      obtain ⟨rfl, -, s1, s2, s3, s4, s5, s6, s7⟩ := hRR.get e2
      obtain ⟨⟨g1, g2, g3, g4⟩, gwe, gz⟩ := cL_gw e2
      have hzq : z = q.2 := hzi q.2 (by rw [e1]; show bnd (pE (kdT T L) n (x + 1)) _ = _; rw [e2]; rfl)
      cases e3 : ex (kdT T L) 8 q.2 with
      | error e =>
        rw [e3] at hCf
        exact RR.err (e := e) (by rw [hr, e1]; show bnd (pE (kdT T L) n (x + 1)) _ = _; rw [e2]; show bnd (ex (kdT T L) 8 q.2) _ = _; rw [e3]; rfl) hCf
      | ok j =>
        rw [e3] at hCf
        obtain ⟨-, rfl, hq10⟩ := ex_ok e3
        refine RR.ok (q := (nd 7 x q.2 q.1 nl, q.2 + 1)) (by rw [hr, e1]; show bnd (pE (kdT T L) n (x + 1)) _ = _; rw [e2]; show bnd (ex (kdT T L) 8 q.2) _ = _; rw [e3]; rfl) rfl hCf ?_
        subst hzq
        have p27 := hC35.1 27 (by decide)
        have p28 := hC35.1 28 (by decide)
        have p29 := hC35.1 29 (by decide)
        have p30 := hC35.1 30 (by decide)
        have o27 := hC31.1 27 (by decide)
        have o28 := hC31.1 28 (by decide)
        have o29 := hC31.1 29 (by decide)
        have o30 := hC31.1 30 (by decide)
        have f30 : up (knW w5 x kk ll) 29 x ((q.2 : Nat) : Int) 30 = w3 30 := by rw [up_o (by decide), knW_30, p30]
        refine ⟨fun y hy => ?_, fun y hy => ?_, ?_, ?_, ?_, fun h0 => ?_, fun q' hq => ?_, fun s hs hsi => ?_⟩
        · obtain ⟨a1, a2, a3, a4⟩ := s1 y (by omega)
          rw [f30, up_o (by decide), up_o (by decide), up_k (by omega), knW_27, if_neg (by omega), knW_28, if_neg (by omega), knW_29, if_neg (by omega), p27, p28, p29, a1, a2, a3, a4, o27, o28, o29, o30]
          exact ⟨rfl, rfl, rfl, rfl⟩
        · rw [f30, s2 y (by show q.2 ≤ y; simp only at hy; omega), o30]
        · rw [up_o (by decide), knW_27, if_pos rfl, ← hk, p27, s3]; rfl
        · rw [up_o (by decide), knW_28, if_pos rfl, ← hl, p28, s4]; rfl
        · rw [up_s]; rfl
        · have hd0 := s5 (fun y hy => by rw [o30]; exact h0 y (by omega))
          show _ ∧ _
          refine ⟨rfl, rfl, ?_, ?_, hd0.congr (fun y _ _ => by rw [f30])⟩
          · rw [f30, (s1 x (by omega)).2.2.2, o30]; exact h0 x (by omega)
          · rw [f30, s2 q.2 (Nat.le_refl _), o30]; exact h0 q.2 (by omega)
        · exact (hC35.ky (s6 q' (hC31.ky hq))).same (hfk 25 (by decide))
        · exact (((s7 s (by rw [hC31.1 19 (by decide)]; exact hs) (by omega)).fx0 hC31.1 (by decide) (by decide) (by decide) (by decide) (by decide)).fx hC35.1 (by decide) (by decide) (by decide) (by decide) (by decide)).fx hfk (by decide) (by decide) (by decide) (by decide) (by decide)
theorem sp_draw {i within n : Nat} {r : Nat → PE (Tr × Nat)} (hd : 3 ≤ d) (hw : within ≤ 100) (he : SpE g jEx_exp d [vA 26, vI ((within + 1 : Nat) : Int)] T L E b (XS T L E b 1) (pE (kdT T L) n)) (hP : PX T L E b w (.ok i)) (hr : r i = bnd (ex (kdT T L) 59 i) (fun i0 => bnd (ex (kdT T L) 7 i0) (fun i1 => bnd (pE (kdT T L) n i1) (fun q => bnd (ex (kdT T L) 8 q.2) (fun j => .ok (nd 3 i q.2 q.1 nl, j)))))) (h : ∀ (w' : Wd) (x : Nat), Fx FEl w w' → IC T L w' → x ≤ nTk T L → RR T L (XP T L E b) w w' (.ok i) r x → K (.inl (some (vI (x : Int)))) w') : Cal g LC jEx_draw (d + 1) [vA 26, vI (within : Int)] w K := by
  obtain ⟨hI, hC, hE, hb⟩ := id hP
  have hn := nTk_le (T := T) (L := L)
  refine Cal.ofV (by decide) rfl (Nat.le_of_ble_eq_true rfl) (s_Ex_draw (sp_take (c := 59) (by omega) hI hC (fun _ _ => by decide) (fun w0 x hC30 hx hxi hCS0 => ?_)))
  obtain rfl : x = i := hxi i rfl
  have hC0 : CS T L w0 (ex (kdT T L) 59 x) := hCS0
  have hI0 := hI.f25 hC30.1
  refine sp_take (c := 7) (by omega) hI0 hC0 (fun _ _ => by decide) (fun w1 x1 hC31' hx1 hxi1 hC1 => ?_)
  have hC31 := hC30.tr hC31'
  have hI1 := hI.f25 hC31.1
  have hP1 : PX T L E b w1 (bnd (ex (kdT T L) 59 x) (ex (kdT T L) 7)) := hP.c3 hC31.1 hC1 (fun _ _ => ⟨x, rfl⟩)
  rw [wr_n1 (by omega)]
  refine he _ w1 _ hP1 (fun w3 y hF3 hI3 hy hRR => ?_)
  have hC3 := hRR.cs
  refine sp_take (c := 8) (by omega) hI3 hC3 (fun _ _ => by decide) (fun w5 z hC35 hz hzi hCS5 => ?_)
  have hI5 := hI3.f25 hC35.1
  refine sp_demand (by omega) hI5 hy (fun w6 hB6 hky6 => ⟨by omega, ?_⟩)
  have hI6 := hI5.f25 hB6.1
  refine sp_codeAdd hI6 (fun w7 sx hF7 hc7 hsx hs2 hA7 => sp_know (by omega) ?_)
  have hI7 := hI6.f19 hF7 hc7
  refine h _ x ((((((m25 hC31.1).tr hF3).tr (m25 hC35.1)).tr (m25 hB6.1)).tr (m19 hF7)).tr (m27 (knW_fx w7 x 1 7))) hI7.kn hx ?_
  have hCf := ((hB6.cs hCS5).fx hF7 (by decide)).fx (knW_fx w7 x 1 7) (by decide)
  cases e0 : ex (kdT T L) 59 x with
  | error e => rw [e0] at hCf; exact RR.err (e := e) (by rw [hr, e0]; rfl) hCf
  | ok i0 =>
    rw [e0] at hCf hRR hzi
    obtain ⟨-, rfl, hx10⟩ := ex_ok e0
    cases e1 : ex (kdT T L) 7 (x + 1) with
    | error e =>
      simp only [bnd, e1] at hCf
      exact RR.err (e := e) (by rw [hr, e0]; show bnd (ex (kdT T L) 7 (x + 1)) _ = _; rw [e1]; rfl) hCf
    | ok i1 =>
      simp only [bnd, e1] at hCf hRR hzi
      obtain ⟨-, rfl, hx11⟩ := ex_ok e1
      cases e2 : pE (kdT T L) n (x + 1 + 1) with
      | error e =>
        simp only [bnd, e2] at hCf
        exact RR.err (e := e) (by rw [hr, e0]; show bnd (ex (kdT T L) 7 (x + 1)) _ = _; rw [e1]; show bnd (pE (kdT T L) n (x + 1 + 1)) _ = _; rw [e2]; rfl) hCf
      | ok q =>
        simp only [bnd, e2] at hCf
        obtain ⟨rfl, -, s1, s2, s3, s4, s5, s6, s7⟩ := hRR.get e2
        obtain ⟨⟨g1, g2, g3, g4⟩, gwe, gz⟩ := cL_gw e2
        have hzq : z = q.2 := hzi q.2 (by rw [e2])
        cases e3 : ex (kdT T L) 8 q.2 with
        | error e =>
          rw [e3] at hCf
          exact RR.err (e := e) (by rw [hr, e0]; show bnd (ex (kdT T L) 7 (x + 1)) _ = _; rw [e1]; show bnd (pE (kdT T L) n (x + 1 + 1)) _ = _; rw [e2]; show bnd (ex (kdT T L) 8 q.2) _ = _; rw [e3]; rfl) hCf
        | ok j =>
          rw [e3] at hCf
          obtain ⟨-, rfl, hq10⟩ := ex_ok e3
          refine RR.ok (q := (nd 3 x q.2 q.1 nl, q.2 + 1)) (by rw [hr, e0]; show bnd (ex (kdT T L) 7 (x + 1)) _ = _; rw [e1]; show bnd (pE (kdT T L) n (x + 1 + 1)) _ = _; rw [e2]; show bnd (ex (kdT T L) 8 q.2) _ = _; rw [e3]; rfl) rfl hCf ?_
          subst hzq
          have p : ∀ o, o = 27 ∨ o = 28 ∨ o = 29 ∨ o = 30 → w7 o = w3 o := fun o ho => by rw [hF7 o (by simp; omega), hB6.1 o (by simp; omega), hC35.1 o (by simp; omega)]
          have p27 := p 27 (by decide)
          have p28 := p 28 (by decide)
          have p29 := p 29 (by decide)
          have p30 := p 30 (by decide)
          have o27 := hC31.1 27 (by decide)
          have o28 := hC31.1 28 (by decide)
          have o29 := hC31.1 29 (by decide)
          have o30 := hC31.1 30 (by decide)
          refine ⟨fun y hy => ?_, fun y hy => ?_, ?_, ?_, ?_, fun h0 => ?_, fun q' hq => ?_, fun s hs hsi => ?_⟩
          · obtain ⟨a1, a2, a3, a4⟩ := s1 y (by omega)
            rw [knW_30, knW_27, if_neg (by omega), knW_28, if_neg (by omega), knW_29, if_neg (by omega), p27, p28, p29, p30, a1, a2, a3, a4, o27, o28, o29, o30]
            exact ⟨rfl, rfl, rfl, rfl⟩
          · rw [knW_30, p30, s2 y (by show q.2 ≤ y; simp only at hy; omega), o30]
          · rw [knW_27, if_pos rfl]; rfl
          · rw [knW_28, if_pos rfl]; rfl
          · rw [knW_29, if_pos rfl]; rfl
          · have hd0 := s5 (fun y hy => by rw [o30]; exact h0 y (by omega))
            have hd1 : DL (knW w7 x 1 7) (x + 1 + 1) q.2 (oS (kdT T L) q.1 1) := hd0.congr (fun y _ _ => by rw [knW_30, p30])
            have z0 : knW w7 x 1 7 30 x = 0 := by rw [knW_30, p30, (s1 x (by omega)).2.2.2, o30]; exact h0 x (by omega)
            have z1 : knW w7 x 1 7 30 (x + 1) = 0 := by rw [knW_30, p30, (s1 (x + 1) (by omega)).2.2.2, o30]; exact h0 (x + 1) (by omega)
            have z2 : knW w7 x 1 7 30 q.2 = 0 := by rw [knW_30, p30, s2 q.2 (Nat.le_refl _), o30]; exact h0 q.2 (by omega)
            have := (((DL.one z0).app (DL.one z1)).app hd1).app (DL.one z2)
            show DL _ _ _ _
            have e : oS (kdT T L) (nd 3 x q.2 q.1 nl) 0 = [x] ++ [x + 1] ++ oS (kdT T L) q.1 1 ++ [q.2] := by simp [oS]
            simp only [e]
            exact this
          · have k1 := hky6 (by omega) _ (hC35.ky (s6 q' (hC31.ky hq)))
            have k2 : KY (knW w7 x 1 7) (min (min q' (jkT T L E b q.1)) (dm T L (w5 27 (x + 1 + 1)) 1 (x + 1 + 1))) := k1.same (by rw [knW_fx w7 x 1 7 25 (by decide), hF7 25 (by decide)])
            have e : jkT T L E b (nd 3 x q.2 q.1 nl) = min (jkT T L E b q.1) (dm T L (knT T L E b q.1) 1 (fst_ q.1)) := rfl
            have e5 : w5 27 (x + 1 + 1) = knT T L E b q.1 := by rw [hC35.1 27 (by decide)]; exact s3
            rw [e5] at k2
            rw [e, g1, ← Nat.min_assoc]
            exact k2
          · have x1 := ((s7 s (by rw [hC31.1 19 (by decide)]; exact hs) (by omega)).fx0 hC31.1 (by decide) (by decide) (by decide) (by decide) (by decide)).fx (hC35.1.tr hB6.1) (by decide) (by decide) (by decide) (by decide) (by decide)
            have la : (cmT T L E q.1 s).length = nD q.1 := cm_len q.1 s gwe
            have hsx2 : sx = s + nD q.1 := by have := x1.1; rw [la, hs2] at this; omega
            have hA := hA7 (by omega)
            have hw5 : w6 5 x = ((tAt T L x : Nat) : Int) := hI6.1.pl (by omega) (by omega)
            rw [toN, hw5] at hA
            have x2 : XC w6 w7 (s + nD q.1) [(14, 0, ((tAt T L x : Nat) : Int))] := by rw [hA, hsx2]; exact XC.one _ _ _
            have x3 := x1.app (by rw [la]; exact x2)
            have e : cmT T L E (nd 3 x q.2 q.1 nl) s = cmT T L E q.1 s ++ [(14, 0, ((tAt T L x : Nat) : Int))] := rfl
            rw [e]
            exact x3.fx (knW_fx w7 x 1 7) (by decide) (by decide) (by decide) (by decide) (by decide)
/-- - and ! -/
theorem sp_unary {i within n sg : Nat} {r : Nat → PE (Tr × Nat)} (hd : 3 ≤ d) (hw : within ≤ 100) (he : SpE g jEx_one d [vA 26, vI ((within + 1 : Nat) : Int)] T L E b (XP T L E b) (pOne (kdT T L) n)) (hP : PX T L E b w (.ok i)) (hk : kdT T L i = sg) (hsg : sg = 16 ∨ sg = 20) (hr : r i = bnd (ex (kdT T L) sg i) (fun i1 => bnd (pOne (kdT T L) n i1) (fun q => .ok (nd 5 i 0 q.1 nl, q.2)))) (h : ∀ (w' : Wd) (x : Nat), Fx FEl w w' → IC T L w' → x ≤ nTk T L → RR T L (XP T L E b) w w' (.ok i) r x → K (.inl (some (vI (x : Int)))) w') : V g LC jEx_one (d + 1) K 53 [(0, vA 26), (1, vI (within : Int)), (2, vI (sg : Int))] [] w := by
  obtain ⟨hI, hC, hE, hb⟩ := id hP
  have hn := nTk_le (T := T) (L := L)
  refine s_Ex_one_53 (sp_take (by omega) hI hC (fun _ _ => by omega) (fun w1 x hC31 hx hxi hCS1 => ?_))
  obtain rfl : x = i := hxi i rfl
  have hC1 : CS T L w1 (ex (kdT T L) sg x) := hCS1
  have hI1 := hI.f25 hC31.1
  have hP1 : PX T L E b w1 (ex (kdT T L) sg x) := hP.c3 hC31.1 hC1 (fun _ _ => ⟨x, rfl⟩)
  have hgo : ∀ kk dd : Int, (sg = 16 → kk = 1 ∧ dd = 12) → (sg = 20 → kk = 2 ∧ dd = 13) → V g LC jEx_one (d + 1) K 73 [(0, vA 26), (1, vI (within : Int)), (2, vI (sg : Int)), (3, vI (x : Int))] [vI kk] w1 := by
    intro kk dd hk16 hk20
    refine s_Ex_one_73 ?_
    rw [wr_n1 (by omega)]
    refine he _ w1 _ hP1 (fun w3 y hF3 hI3 hy hRR => sp_demand (by omega) hI3 hy (fun w4 hB4 hky4 => sp_settle (by omega) (hI3.f25 hB4.1) ?_))
    have hI4 := hI3.f25 hB4.1
    have hend : V g LC jEx_one (d + 1) K 117 [(0, vA 26), (3, vI (x : Int)), (4, vI kk)] [vI dd, vA 19] (seW w4 y 6) := by
      refine s_Ex_one_117 (sp_codeAdd hI4.se (fun w7 sx hF7 hc7 hsx hs2 hA7 => sp_know (by omega) ?_))
      have hI7 := hI4.se.f19 hF7 hc7
      refine h _ x ((((((m25 hC31.1).tr hF3).tr (m25 hB4.1)).tr (m29 (seW_fx w4 y 6))).tr (m19 hF7)).tr (m27 (knW_fx w7 x kk 6))) hI7.kn hx ?_
      have hCf := (((hB4.cs hRR.cs).fx (seW_fx w4 y 6) (by decide)).fx hF7 (by decide)).fx (knW_fx w7 x kk 6) (by decide)
      cases e1 : ex (kdT T L) sg x with
      | error e => rw [e1] at hCf; exact RR.err (e := e) (by rw [hr, e1]; rfl) hCf
      | ok i1 =>
        rw [e1] at hCf hRR
        obtain ⟨-, rfl, hx10⟩ := ex_ok e1
        cases e2 : pOne (kdT T L) n (x + 1) with
        | error e =>
          simp only [bnd, e2] at hCf
          exact RR.err (e := e) (by rw [hr, e1]; show bnd (pOne (kdT T L) n (x + 1)) _ = _; rw [e2]; rfl) hCf
        | ok q =>
          simp only [bnd, e2] at hCf
          obtain ⟨rfl, -, hXP⟩ := hRR.get e2
          have hGq := pOne_gw e2
          obtain ⟨⟨g1, g2, g3, g4⟩, gwe, gz⟩ := id hGq
          refine RR.ok (q := (nd 5 x 0 q.1 nl, q.2)) (by rw [hr, e1]; show bnd (pOne (kdT T L) n (x + 1)) _ = _; rw [e2]; rfl) rfl hCf ?_
          obtain ⟨s1, s2, s3, s4, s5, s6, s7, s8⟩ := id hXP
          have p : ∀ o, o = 27 ∨ o = 28 ∨ o = 29 ∨ o = 30 → w4 o = w3 o := fun o ho => hB4.1 o (by simp; omega)
          have p27 := p 27 (by decide)
          have p28 := p 28 (by decide)
          have p29 := p 29 (by decide)
          have p30 := p 30 (by decide)
          have o27 := hC31.1 27 (by decide)
          have o28 := hC31.1 28 (by decide)
          have o29 := hC31.1 29 (by decide)
          have o30 := hC31.1 30 (by decide)
          simp only [CZ] at gz
          have w429 : w4 29 (x + 1) = ((czT q.1 : Nat) : Int) := by rw [p29]; exact s5
          have w428 : w4 28 (x + 1) = ((lnT (kdT T L) q.1 : Nat) : Int) := by rw [p28]; exact s4
          have q30 : ∀ y, y ≠ x + 1 → (czT q.1 = 0 ∨ y ≠ czT q.1) → knW w7 x kk 6 30 y = w3 30 y := fun y h1 h2 => by rw [knW_30, hF7 30 (by decide), seW_30 w429 h1 h2, p30]
          refine ⟨fun y hy => ?_, fun y hy => ?_, ?_, ?_, ?_, fun h0 => ?_, fun q' hq => ?_, fun s hs hsi => ?_⟩
          · obtain ⟨a1, a2, a3, a4⟩ := s1 y (by omega)
            rw [q30 y (by omega) (by omega), knW_27, if_neg (by omega), knW_28, if_neg (by omega), knW_29, if_neg (by omega), hF7 27 (by decide), hF7 28 (by decide), hF7 29 (by decide), seW_27, seW_28, seW_29, if_neg (by omega), p27, p28, p29, a1, a2, a3, a4, o27, o28, o29, o30]
            exact ⟨rfl, rfl, rfl, rfl⟩
          · simp only at hy
            rw [q30 y (by omega) (by omega), s2 y (by omega), o30]
          · rw [knW_27, if_pos rfl]
            have e : knT T L E b (nd 5 x 0 q.1 nl) = (if kdT T L x = 16 then 1 else 2) := rfl
            rw [e, hk]
            rcases hsg with z | z
            · rw [(hk16 z).1, if_pos z]
            · rw [(hk20 z).1, if_neg (by omega)]
          · rw [knW_28, if_pos rfl]; rfl
          · rw [knW_29, if_pos rfl]; rfl
          · have hDX : DX (kdT T L) w4 (x + 1) q.2 q.1 := (s6 (fun y hy => by rw [o30]; exact h0 y (by omega))).congr (fun y _ _ => by rw [p30])
            have hst := hDX.settle (r := 6) w429 w428
            have z0 : knW w7 x kk 6 30 x = 0 := by rw [q30 x (by omega) (by omega), (s1 x (by omega)).2.2.2, o30]; exact h0 x (by omega)
            have hd1 : DL (knW w7 x kk 6) (x + 1) q.2 (oS (kdT T L) q.1 6) := hst.1.congr (fun y _ _ => by rw [knW_30, hF7 30 (by decide)]; rfl)
            exact (DL.one z0).app hd1
          · have k1 := hky4 (by omega) _ (s7 q' (hC31.ky hq))
            have k2 : KY (knW w7 x kk 6) (min (min q' (jkT T L E b q.1)) (dm T L (w3 27 (x + 1)) kk (x + 1))) := k1.same (by rw [knW_fx w7 x kk 6 25 (by decide), hF7 25 (by decide), seW_fx _ _ _ 25 (by decide)])
            have e : jkT T L E b (nd 5 x 0 q.1 nl) = min (jkT T L E b q.1) (dm T L (knT T L E b q.1) (if kdT T L x = 16 then 1 else 2) (fst_ q.1)) := rfl
            have ek : (if kdT T L x = 16 then 1 else 2 : Int) = kk := by
              rw [hk]
              rcases hsg with z | z
              · rw [(hk16 z).1, if_pos z]
              · rw [(hk20 z).1, if_neg (by omega)]
            rw [s3] at k2
            rw [e, g1, ek, ← Nat.min_assoc]
            exact k2
          · have x1 := (((s8 s (by rw [hC31.1 19 (by decide)]; exact hs) (by omega)).fx0 hC31.1 (by decide) (by decide) (by decide) (by decide) (by decide)).fx hB4.1 (by decide) (by decide) (by decide) (by decide) (by decide)).fx (seW_fx w4 (x + 1) 6) (by decide) (by decide) (by decide) (by decide) (by decide)
            have la : (cmT T L E q.1 s).length = nD q.1 := cm_len q.1 s gwe
            have hsx2 : sx = s + nD q.1 := by have := x1.1; rw [la, hs2] at this; omega
            have hA := hA7 (by omega)
            have x2 : XC (seW w4 (x + 1) 6) w7 (s + nD q.1) [(dd, 0, 0)] := by rw [hA, hsx2]; exact XC.one _ _ _
            have x3 := x1.app (by rw [la]; exact x2)
            have e : cmT T L E (nd 5 x 0 q.1 nl) s = cmT T L E q.1 s ++ [((if kdT T L x = 16 then 12 else 13), 0, 0)] := rfl
            have ed : (if kdT T L x = 16 then 12 else 13 : Int) = dd := by
              rw [hk]
              rcases hsg with z | z
              · rw [(hk16 z).2, if_pos z]
              · rw [(hk20 z).2, if_neg (by omega)]
            rw [e, ed]
            exact x3.fx (knW_fx w7 x kk 6) (by decide) (by decide) (by decide) (by decide) (by decide)
    refine ⟨fun c => ?_, fun c => ?_⟩
    · rw [(hk20 (by omega)).2] at hend; exact hend
    · rw [(hk16 (by omega)).2] at hend; exact hend
  exact ⟨fun c => hgo 2 13 (fun z => by omega) (fun _ => ⟨rfl, rfl⟩), fun c => hgo 1 12 (fun _ => ⟨rfl, rfl⟩) (fun z => by omega)⟩
end ExpDeep
