/-! ===== the class's exps: if ( , , ); one and base; all of them ===== -/
section ExpAll
variable {g : Mg} {d : Nat} {K : Ou → Wd → Prop} {w : Wd} {T : Nat → Int} {L : Nat} {E : List En} {b : Bool}
abbrev pS (P : Nat → PE (Tr × Nat)) (i : Nat) : PE Nat := bnd (P i) (fun q => .ok q.2)
theorem choice_cases {kd : Nat → Nat} {P : Nat → PE (Tr × Nat)} {x : Nat} {R : PE (Tr × Nat)} {S : PE Nat} (hR : R = bnd (ex kd 48 x) (fun i0 => bnd (ex kd 7 i0) (fun i1 => bnd (P i1) (fun a => bnd (ex kd 9 a.2) (fun i2 => bnd (P i2) (fun b => bnd (ex kd 9 b.2) (fun i3 => bnd (P i3) (fun c => bnd (ex kd 8 c.2) (fun j => .ok (nd 4 x c.2 a.1 (nd 9 a.2 b.2 b.1 c.1), j)))))))))) (hS : S = bnd (bnd (bnd (bnd (bnd (bnd (bnd (ex kd 48 x) (ex kd 7)) (pS P)) (ex kd 9)) (pS P)) (ex kd 9)) (pS P)) (ex kd 8)) :
    (∃ e, R = .error e ∧ S = .error e) ∨ ∃ (a b c : Tr × Nat), ex kd 48 x = .ok (x + 1) ∧ ex kd 7 (x + 1) = .ok (x + 1 + 1) ∧ P (x + 1 + 1) = .ok a ∧ ex kd 9 a.2 = .ok (a.2 + 1) ∧ P (a.2 + 1) = .ok b ∧ ex kd 9 b.2 = .ok (b.2 + 1) ∧ P (b.2 + 1) = .ok c ∧ ex kd 8 c.2 = .ok (c.2 + 1) ∧ R = .ok (nd 4 x c.2 a.1 (nd 9 a.2 b.2 b.1 c.1), c.2 + 1) ∧ S = .ok (c.2 + 1) ∧ x < 1000 ∧ x + 1 < 1000 ∧ a.2 < 1000 ∧ b.2 < 1000 ∧ c.2 < 1000 := by
  subst hR; subst hS
  cases e0 : ex kd 48 x with
  | error e => left; exact ⟨e, rfl, rfl⟩
  | ok i0 =>
    obtain ⟨-, rfl, h0⟩ := ex_ok e0
    cases e1 : ex kd 7 (x + 1) with
    | error e => left; refine ⟨e, ?_, ?_⟩ <;> simp only [bnd, e1]
    | ok i1 =>
      obtain ⟨-, rfl, h1⟩ := ex_ok e1
      cases e2 : P (x + 1 + 1) with
      | error e => left; refine ⟨e, ?_, ?_⟩ <;> simp only [bnd, pS, e1, e2]
      | ok a =>
        cases e3 : ex kd 9 a.2 with
        | error e => left; refine ⟨e, ?_, ?_⟩ <;> simp only [bnd, pS, e1, e2, e3]
        | ok i2 =>
          obtain ⟨-, rfl, h3⟩ := ex_ok e3
          cases e4 : P (a.2 + 1) with
          | error e => left; refine ⟨e, ?_, ?_⟩ <;> simp only [bnd, pS, e1, e2, e3, e4]
          | ok b =>
            cases e5 : ex kd 9 b.2 with
            | error e => left; refine ⟨e, ?_, ?_⟩ <;> simp only [bnd, pS, e1, e2, e3, e4, e5]
            | ok i3 =>
              obtain ⟨-, rfl, h5⟩ := ex_ok e5
              cases e6 : P (b.2 + 1) with
              | error e => left; refine ⟨e, ?_, ?_⟩ <;> simp only [bnd, pS, e1, e2, e3, e4, e5, e6]
              | ok c =>
                cases e7 : ex kd 8 c.2 with
                | error e => left; refine ⟨e, ?_, ?_⟩ <;> simp only [bnd, pS, e1, e2, e3, e4, e5, e6, e7]
                | ok j =>
                  obtain ⟨-, rfl, h7⟩ := ex_ok e7
                  right
                  refine ⟨a, b, c, rfl, rfl, rfl, e3, e4, e5, e6, e7, ?_, ?_, by omega, by omega, by omega, by omega, by omega⟩
                  · simp only [bnd, e1, e2, e3, e4, e5, e6, e7]
                  · simp only [bnd, pS, e1, e2, e3, e4, e5, e6, e7]
theorem bnd_ok' {α β : Type} (a : α) (f : α → PE β) : bnd (.ok a) f = f a := rfl
theorem sp_choice {i within n : Nat} {r : Nat → PE (Tr × Nat)} (hd : 3 ≤ d) (hw : within ≤ 100) (he : SpE g jEx_exp d [vA 26, vI ((within + 1 : Nat) : Int)] T L E b (XS T L E b 1) (pE (kdT T L) n)) (hP : PX T L E b w (.ok i)) (hr : r i = bnd (ex (kdT T L) 48 i) (fun i0 => bnd (ex (kdT T L) 7 i0) (fun i1 => bnd (pE (kdT T L) n i1) (fun a => bnd (ex (kdT T L) 9 a.2) (fun i2 => bnd (pE (kdT T L) n i2) (fun b => bnd (ex (kdT T L) 9 b.2) (fun i3 => bnd (pE (kdT T L) n i3) (fun c => bnd (ex (kdT T L) 8 c.2) (fun j => .ok (nd 4 i c.2 a.1 (nd 9 a.2 b.2 b.1 c.1), j)))))))))) (h : ∀ (w' : Wd) (x : Nat), Fx FEl w w' → IC T L w' → x ≤ nTk T L → RR T L (XP T L E b) w w' (.ok i) r x → K (.inl (some (vI (x : Int)))) w') : Cal g LC jEx_choice (d + 1) [vA 26, vI (within : Int)] w K := by
  obtain ⟨hI, hC, hE, hb⟩ := id hP
  have hn := nTk_le (T := T) (L := L)
  refine Cal.ofV (by decide) rfl (Nat.le_of_ble_eq_true rfl) (s_Ex_choice (sp_take (c := 48) (by omega) hI hC (fun _ _ => by decide) (fun w0 x hC30 hx hxi hCS0 => ?_)))
  obtain rfl : x = i := hxi i rfl
  have hC0 : CS T L w0 (ex (kdT T L) 48 x) := hCS0
  refine sp_take (c := 7) (by omega) (hI.f25 hC30.1) hC0 (fun _ _ => by decide) (fun w1 x1 hC31' hx1 hxi1 hC1 => ?_)
  have hC31 := hC30.tr hC31'
  have hI1 := hI.f25 hC31.1
  have hP1 : PX T L E b w1 (bnd (ex (kdT T L) 48 x) (ex (kdT T L) 7)) := hP.c3 hC31.1 hC1 (fun _ _ => ⟨x, rfl⟩)
  rw [wr_n1 (by omega)]
  refine he _ w1 _ hP1 (fun w3 y1 hF3 hI3 hy1 hRR1 => ?_)
  have hC3 := hRR1.cs
  refine sp_demand (by omega) hI3 hy1 (fun w4 hB4 hky4 => sp_codeAdd (hI3.f25 hB4.1) (fun w5 p1 hF5 hc5 hp1 hp1s hA5 => ?_))
  have hI5 := (hI3.f25 hB4.1).f19 hF5 hc5
  have hC5 := (hB4.cs hC3).fx hF5 (by decide)
  refine sp_take (c := 9) (by omega) hI5 hC5 (fun _ _ => by decide) (fun w6 x6 hC36 hx6 hxi6 hC6 => ?_)
  have hI6 := hI5.f25 hC36.1
  have hP6 := (hP1.mk' (((hF3.tr (m25 hB4.1)).tr (m19 hF5)).tr (m25 hC36.1)) hI6 hC6 (fun i hi => by obtain ⟨j, hj⟩ := bnd_dom _ hi; exact bnd_dom _ hj))
  refine he _ w6 _ hP6 (fun w7 y2 hF7 hI7 hy2 hRR2 => ?_)
  have hC7 := hRR2.cs
  refine sp_codeAdd hI7 (fun w8 p2 hF8 hc8 hp2 hp2s hA8 => ?_)
  have hI8 := hI7.f19 hF8 hc8
  have hC8 := hC7.fx hF8 (by decide)
  refine sp_take (c := 9) (by omega) hI8 hC8 (fun _ _ => by decide) (fun w9 x9 hC39 hx9 hxi9 hC9 => ?_)
  have hI9 := hI8.f25 hC39.1
  refine sp_aimHere hp1 (fun w10 hF10 hA10 => ?_)
  have hI10 := hI9.f21 hF10
  have hC10 := hC9.fx hF10 (by decide)
  have hP10 := (hP6.mk' (((hF7.tr (m19 hF8)).tr (m25 hC39.1)).tr (m21 hF10)) hI10 hC10 (fun i hi => by obtain ⟨j, hj⟩ := bnd_dom _ hi; exact bnd_dom _ hj))
  refine he _ w10 _ hP10 (fun w11 y3 hF11 hI11 hy3 hRR3 => ?_)
  have hC11 := hRR3.cs
  refine sp_take (c := 8) (by omega) hI11 hC11 (fun _ _ => by decide) (fun w12 x12 hC312 hx12 hxi12 hC12 => ?_)
  have hI12 := hI11.f25 hC312.1
  refine sp_aimHere hp2 (fun w13 hF13 hA13 => ⟨by omega, ?_⟩)
  have hI13 := hI12.f21 hF13
  have hC13 := hC12.fx hF13 (by decide)
  rw [toN]
  refine sp_demand (by omega) hI13 hy3 (fun w14 hB14 hky14 => ⟨by omega, ?_⟩)
  have hI14 := hI13.f25 hB14.1
  have hC14 := hB14.cs hC13
  rw [toN]
  have hfin : ∀ kk : Int, (kk = if w14 27 y2 = 0 then w14 27 y3 else w14 27 y2) → K (.inl (some (vI (x : Int)))) (knW w14 x kk 7) := by
    intro kk hkk
    have hCf := hC14.fx (knW_fx w14 x kk 7) (by decide)
    have hFall : Fx FEl w1 w14 := (((((((((hF3.tr (m25 hB4.1)).tr (m19 hF5)).tr (m25 hC36.1)).tr hF7).tr (m19 hF8)).tr (m25 hC39.1)).tr (m21 hF10)).tr hF11).tr (m25 hC312.1)).tr ((m21 hF13).tr (m25 hB14.1))
    refine h _ x (((m25 hC31.1).tr hFall).tr (m27 (knW_fx w14 x kk 7))) hI14.kn hx ?_
    rcases choice_cases (P := pE (kdT T L) n) hr rfl with ⟨e, h1, h2⟩ | ⟨a, c2, c3, e0, e1, e2, e3, e4, e5, e6, e7, hR, hS, k0, k1, k2, k3, k4⟩
    · have hCf' : CS T L (knW w14 x kk 7) (bnd (bnd (bnd (bnd (bnd (bnd (bnd (ex (kdT T L) 48 x) (ex (kdT T L) 7)) (pS (pE (kdT T L) n))) (ex (kdT T L) 9)) (pS (pE (kdT T L) n))) (ex (kdT T L) 9)) (pS (pE (kdT T L) n))) (ex (kdT T L) 8)) := hCf
      rw [h2] at hCf'
      exact RR.err h1 hCf'
    · have t1 : bnd (ex (kdT T L) 48 x) (ex (kdT T L) 7) = .ok (x + 1 + 1) := by simp only [bnd, e0, e1]
      have t2 : bnd (.ok (x + 1 + 1)) (fun i => bnd (pE (kdT T L) n i) (fun q => .ok q.2)) = .ok a.2 := by rw [bnd_ok', e2]; rfl
      have t3 : bnd (.ok a.2) (ex (kdT T L) 9) = .ok (a.2 + 1) := by rw [bnd_ok', e3]
      have t4 : bnd (.ok (a.2 + 1)) (fun i => bnd (pE (kdT T L) n i) (fun q => .ok q.2)) = .ok c2.2 := by rw [bnd_ok', e4]; rfl
      have t5 : bnd (.ok c2.2) (ex (kdT T L) 9) = .ok (c2.2 + 1) := by rw [bnd_ok', e5]
      have t6 : bnd (.ok (c2.2 + 1)) (fun i => bnd (pE (kdT T L) n i) (fun q => .ok q.2)) = .ok c3.2 := by rw [bnd_ok', e6]; rfl
      have t7 : bnd (.ok c3.2) (ex (kdT T L) 8) = .ok (c3.2 + 1) := by rw [bnd_ok', e7]
      rw [t1, t2, t3, t4, t5, t6, t7] at hCf
      rw [t1, t2, t3, t4, t5] at hRR3
      rw [t1, t2, t3] at hRR2
      rw [t1] at hRR1
      refine RR.ok hR rfl hCf ?_
      obtain ⟨rfl, -, s1, s2, s3, s4, s5, s6, s7⟩ := hRR1.get e2
      obtain ⟨rfl, -, u1, u2, u3, u4, u5, u6, u7⟩ := hRR2.get e4
      obtain ⟨rfl, -, v1, v2, v3, v4, v5, v6, v7⟩ := hRR3.get e6
      obtain ⟨⟨g1, g2, g3, g4⟩, gwe, gz⟩ := cL_gw e2
      obtain ⟨⟨m1, m2, m3, m4⟩, mwe, mz⟩ := cL_gw e4
      obtain ⟨⟨n1, n2, n3, n4⟩, nwe, nz⟩ := cL_gw e6
      have o : ∀ q, q = 27 ∨ q = 28 ∨ q = 29 ∨ q = 30 → w1 q = w q := fun q hq => hC31.1 q (by simp; omega)
      have p6 : ∀ q, q = 27 ∨ q = 28 ∨ q = 29 ∨ q = 30 → w6 q = w3 q := fun q hq => by rw [hC36.1 q (by simp; omega), hF5 q (by simp; omega), hB4.1 q (by simp; omega)]
      have p10 : ∀ q, q = 27 ∨ q = 28 ∨ q = 29 ∨ q = 30 → w10 q = w7 q := fun q hq => by rw [hF10 q (by simp; omega), hC39.1 q (by simp; omega), hF8 q (by simp; omega)]
      have p14 : ∀ q, q = 27 ∨ q = 28 ∨ q = 29 ∨ q = 30 → w14 q = w11 q := fun q hq => by rw [hB14.1 q (by simp; omega), hF13 q (by simp; omega), hC312.1 q (by simp; omega)]
      have lo3 : ∀ y, y < x + 1 + 1 → w3 27 y = w 27 y ∧ w3 28 y = w 28 y ∧ w3 29 y = w 29 y ∧ w3 30 y = w 30 y := fun y hy => by
        obtain ⟨q1, q2, q3, q4⟩ := s1 y hy
        rw [q1, q2, q3, q4, o 27 (by decide), o 28 (by decide), o 29 (by decide), o 30 (by decide)]
        exact ⟨rfl, rfl, rfl, rfl⟩
      have lo7 : ∀ y, y < a.2 + 1 → w7 27 y = w3 27 y ∧ w7 28 y = w3 28 y ∧ w7 29 y = w3 29 y ∧ w7 30 y = w3 30 y := fun y hy => by
        obtain ⟨q1, q2, q3, q4⟩ := u1 y hy
        rw [q1, q2, q3, q4, p6 27 (by decide), p6 28 (by decide), p6 29 (by decide), p6 30 (by decide)]
        exact ⟨rfl, rfl, rfl, rfl⟩
      have lo11 : ∀ y, y < c2.2 + 1 → w11 27 y = w7 27 y ∧ w11 28 y = w7 28 y ∧ w11 29 y = w7 29 y ∧ w11 30 y = w7 30 y := fun y hy => by
        obtain ⟨q1, q2, q3, q4⟩ := v1 y hy
        rw [q1, q2, q3, q4, p10 27 (by decide), p10 28 (by decide), p10 29 (by decide), p10 30 (by decide)]
        exact ⟨rfl, rfl, rfl, rfl⟩
      have hi3 : ∀ y, a.2 ≤ y → w3 30 y = w 30 y := fun y hy => by rw [s2 y hy, o 30 (by decide)]
      have hi7 : ∀ y, c2.2 ≤ y → w7 30 y = w 30 y := fun y hy => by rw [u2 y hy, p6 30 (by decide), hi3 y (by omega)]
      have hi11 : ∀ y, c3.2 ≤ y → w11 30 y = w 30 y := fun y hy => by rw [v2 y hy, p10 30 (by decide), hi7 y (by omega)]
      have e1427 : w14 27 (a.2 + 1) = knT T L E b c2.1 := by rw [p14 27 (by decide), (lo11 _ (by omega)).1]; exact u3
      have e1427' : w14 27 (c2.2 + 1) = knT T L E b c3.1 := by rw [p14 27 (by decide)]; exact v3
      have f30 : ∀ y, knW w14 x kk 7 30 y = w11 30 y := fun y => by rw [knW_30, p14 30 (by decide)]
      refine ⟨fun y hy => ?_, fun y hy => ?_, ?_, ?_, ?_, fun h0 => ?_, fun q' hq => ?_, fun s hs hsi => ?_⟩
      · obtain ⟨a1, a2, a3, a4⟩ := lo3 y (by omega)
        obtain ⟨b1, b2, b3, b4⟩ := lo7 y (by omega)
        obtain ⟨d1, d2, d3, d4⟩ := lo11 y (by omega)
        rw [f30, knW_27, if_neg (by omega), knW_28, if_neg (by omega), knW_29, if_neg (by omega), p14 27 (by decide), p14 28 (by decide), p14 29 (by decide), d1, d2, d3, d4, b1, b2, b3, b4]
        exact ⟨a1, a2, a3, a4⟩
      · rw [f30, hi11 y (by show c3.2 ≤ y; simp only at hy; omega)]
      · rw [knW_27, if_pos rfl, hkk, e1427, e1427']; rfl
      · rw [knW_28, if_pos rfl]; rfl
      · rw [knW_29, if_pos rfl]; rfl
      · have d1 : DL w3 (x + 1 + 1) a.2 (oS (kdT T L) a.1 1) := s5 (fun y hy => by rw [o 30 (by decide)]; exact h0 y (by omega))
        have d2 : DL w7 (a.2 + 1) c2.2 (oS (kdT T L) c2.1 1) := u5 (fun y hy => by rw [p6 30 (by decide), hi3 y (by omega)]; exact h0 y (by omega))
        have d3 : DL w11 (c2.2 + 1) c3.2 (oS (kdT T L) c3.1 1) := v5 (fun y hy => by rw [p10 30 (by decide), hi7 y (by omega)]; exact h0 y (by omega))
        have l3 := g2; have l7 := m2; have l11 := n2
        have d1' : DL (knW w14 x kk 7) (x + 1 + 1) a.2 (oS (kdT T L) a.1 1) := d1.congr (fun y h1 h2 => by rw [f30, (lo11 y (by omega)).2.2.2, (lo7 y (by omega)).2.2.2])
        have d2' : DL (knW w14 x kk 7) (a.2 + 1) c2.2 (oS (kdT T L) c2.1 1) := d2.congr (fun y h1 h2 => by rw [f30, (lo11 y (by omega)).2.2.2])
        have d3' : DL (knW w14 x kk 7) (c2.2 + 1) c3.2 (oS (kdT T L) c3.1 1) := d3.congr (fun y h1 h2 => by rw [f30])
        have z0 : knW w14 x kk 7 30 x = 0 := by rw [f30, (lo11 x (by omega)).2.2.2, (lo7 x (by omega)).2.2.2, (lo3 x (by omega)).2.2.2]; exact h0 x (by omega)
        have z1 : knW w14 x kk 7 30 (x + 1) = 0 := by rw [f30, (lo11 (x + 1) (by omega)).2.2.2, (lo7 (x + 1) (by omega)).2.2.2, (lo3 (x + 1) (by omega)).2.2.2]; exact h0 (x + 1) (by omega)
        have z2 : knW w14 x kk 7 30 a.2 = 0 := by rw [f30, (lo11 a.2 (by omega)).2.2.2, (lo7 a.2 (by omega)).2.2.2, hi3 a.2 (Nat.le_refl _)]; exact h0 a.2 (by omega)
        have z3 : knW w14 x kk 7 30 c2.2 = 0 := by rw [f30, (lo11 c2.2 (by omega)).2.2.2, hi7 c2.2 (Nat.le_refl _)]; exact h0 c2.2 (by omega)
        have z4 : knW w14 x kk 7 30 c3.2 = 0 := by rw [f30, hi11 c3.2 (Nat.le_refl _)]; exact h0 c3.2 (by omega)
        have := (((((((DL.one z0).app (DL.one z1)).app d1').app (DL.one z2)).app d2').app (DL.one z3)).app d3').app (DL.one z4)
        have eo : oS (kdT T L) (nd 4 x c3.2 a.1 (nd 9 a.2 c2.2 c2.1 c3.1)) 0 = [x] ++ [x + 1] ++ oS (kdT T L) a.1 1 ++ [a.2] ++ oS (kdT T L) c2.1 1 ++ [c2.2] ++ oS (kdT T L) c3.1 1 ++ [c3.2] := by simp [oS]
        show DL _ _ _ _
        simp only [eo]
        exact this
      · have q1 := hky4 (by omega) _ (s6 q' (hC31.ky hq))
        have q2 : KY w6 _ := hC36.ky (q1.same (hF5 25 (by decide)))
        have q3 : KY w9 _ := hC39.ky ((u6 _ q2).same (hF8 25 (by decide)))
        have q4 : KY w13 _ := (hC312.ky (v6 _ (q3.same (hF10 25 (by decide))))).same (hF13 25 (by decide))
        have q5 := hky14 (by omega) _ q4
        have q6 := q5.same (w' := knW w14 x kk 7) (knW_fx w14 x kk 7 25 (by decide))
        have e13 : w13 27 (c2.2 + 1) = knT T L E b c3.1 := by rw [← e1427', hB14.1 27 (by decide)]
        have e13' : w13 27 (a.2 + 1) = knT T L E b c2.1 := by rw [← e1427, hB14.1 27 (by decide)]
        rw [e13, e13', s3] at q6
        have ej : jkT T L E b (nd 4 x c3.2 a.1 (nd 9 a.2 c2.2 c2.1 c3.1)) = min (min (jkT T L E b a.1) (dm T L (knT T L E b a.1) 2 (fst_ a.1))) (min (min (jkT T L E b c2.1) (jkT T L E b c3.1)) (dm T L (knT T L E b c3.1) (knT T L E b c2.1) (fst_ c3.1))) := rfl
        rw [ej, g1, n1]
        have em : ∀ a1 a2 a3 a4 a5 a6 : Nat, min a1 (min (min a2 a3) (min (min a4 a5) a6)) = min (min (min (min (min a1 a2) a3) a4) a5) a6 := by intros; omega
        rw [em]
        exact q6
      · have x1 := ((s7 s (by rw [hC31.1 19 (by decide)]; exact hs) (by omega)).fx0 hC31.1 (by decide) (by decide) (by decide) (by decide) (by decide)).fx hB4.1 (by decide) (by decide) (by decide) (by decide) (by decide)
        have la : (cmT T L E a.1 s).length = nD a.1 := cm_len a.1 s gwe
        have hp1e : p1 = s + nD a.1 := by have := x1.1; rw [la, hp1s] at this; omega
        have x2 : XC w4 w5 (s + nD a.1) [(18, 0, 0)] := by rw [hA5 (by omega), hp1e]; exact XC.one _ _ _
        have x3 := (x1.app (by rw [la]; exact x2)).fx hC36.1 (by decide) (by decide) (by decide) (by decide) (by decide)
        have x4 := u7 (s + nD a.1 + 1) (by rw [x3.1, List.length_append, la]; rfl) (by omega)
        have lb : (cmT T L E c2.1 (s + nD a.1 + 1)).length = nD c2.1 := cm_len c2.1 _ mwe
        have x5 := x3.app (by rw [List.length_append, la]; exact x4)
        have hp2e : p2 = s + nD a.1 + 1 + nD c2.1 := by have := x4.1; rw [lb, hp2s] at this; omega
        have x6 : XC w7 w8 (s + nD a.1 + 1 + nD c2.1) [(21, 0, 0)] := by rw [hA8 (by omega), hp2e]; exact XC.one _ _ _
        have x7 := (x5.app (m := [(21, 0, 0)]) (by rw [show s + (cmT T L E a.1 s ++ ([(18, 0, 0)] : List Dd) ++ cmT T L E c2.1 (s + nD a.1 + 1)).length = s + nD a.1 + 1 + nD c2.1 from by simp only [List.length_append, List.length_cons, List.length_nil, la, lb]; omega]; exact x6)).fx hC39.1 (by decide) (by decide) (by decide) (by decide) (by decide)
        have h919 : w9 19 4 = ((s + nD a.1 + 1 + nD c2.1 + 1 : Nat) : Int) := by rw [hC39.1 19 (by decide), x6.1]; rfl
        have x8 : XC w w9 s (cmT T L E a.1 s ++ (18, 0, 0) :: (cmT T L E c2.1 (s + nD a.1 + 1) ++ [(21, 0, 0)])) := by
          have := x7
          simp only [List.append_assoc, List.singleton_append] at this
          exact this
        have x9 := XC.aim (v := w9 19 4) x8
        have hw10 : w10 = up w9 21 (s + nD a.1) (w9 19 4) := by rw [hA10 (by omega), hp1e]
        rw [la, ← hw10, h919] at x9
        have x10 := v7 (s + nD a.1 + 1 + nD c2.1 + 1) (by rw [hF10 19 (by decide)]; exact h919) (by omega)
        have lc : (cmT T L E c3.1 (s + nD a.1 + 1 + nD c2.1 + 1)).length = nD c3.1 := cm_len c3.1 _ nwe
        have x11 := (x9.app (by simp only [List.length_append, List.length_cons, List.length_nil, la, lb]; rw [show s + (nD a.1 + (nD c2.1 + (0 + 1) + 1)) = s + nD a.1 + 1 + nD c2.1 + 1 by omega]; exact x10)).fx hC312.1 (by decide) (by decide) (by decide) (by decide) (by decide)
        have x12 : XC w w12 s ((cmT T L E a.1 s ++ (18, ((s + nD a.1 + 1 + nD c2.1 + 1 : Nat) : Int), 0) :: cmT T L E c2.1 (s + nD a.1 + 1)) ++ (21, 0, 0) :: cmT T L E c3.1 (s + nD a.1 + 1 + nD c2.1 + 1)) := by
          have := x11
          simp only [List.append_assoc, List.cons_append, List.nil_append] at this ⊢
          exact this
        have x13 := XC.aim (v := w12 19 4) x12
        have h1219 : w12 19 4 = ((s + nD a.1 + 1 + nD c2.1 + 1 + nD c3.1 : Nat) : Int) := by rw [hC312.1 19 (by decide), x10.1, lc]
        have el : s + (cmT T L E a.1 s ++ (18, ((s + nD a.1 + 1 + nD c2.1 + 1 : Nat) : Int), 0) :: cmT T L E c2.1 (s + nD a.1 + 1)).length = p2 := by
          simp only [List.length_append, List.length_cons, la, lb]; omega
        rw [el, ← hA13 (by omega), h1219] at x13
        have x14 := (x13.fx hB14.1 (by decide) (by decide) (by decide) (by decide) (by decide)).fx (knW_fx w14 x kk 7) (by decide) (by decide) (by decide) (by decide) (by decide)
        have ec : cmT T L E (nd 4 x c3.2 a.1 (nd 9 a.2 c2.2 c2.1 c3.1)) s = cmT T L E a.1 s ++ ((18, ((s + nD a.1 + 1 + nD c2.1 + 1 : Nat) : Int), 0) :: (cmT T L E c2.1 (s + nD a.1 + 1) ++ ((21, ((s + nD a.1 + 1 + nD c2.1 + 1 + nD c3.1 : Nat) : Int), 0) :: cmT T L E c3.1 (s + nD a.1 + 1 + nD c2.1 + 1)))) := rfl
        rw [ec]
        simp only [List.append_assoc, List.cons_append] at x14
        exact x14
  refine ⟨fun c => ⟨by omega, sp_know (by omega) (hfin _ (by rw [if_neg c]))⟩, fun c => ⟨by omega, sp_know (by omega) (hfin _ (by rw [if_pos c]))⟩⟩
end ExpAll
