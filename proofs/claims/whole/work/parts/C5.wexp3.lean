/-! ===== the class's worker does any exp, 2 ===== -/
section WExp3
variable {g : Mg} {d : Nat} {K : Ou → Wd → Prop} {T : Nat → Int} {L : Nat} {X : Xv} {E : List En} {own lets : Nat → Int} {mb ma v h_ j arc : Nat} {bb : Bool}
/-- what the worker holds while an exp is done -/
def WXs (T : Nat → Int) (L : Nat) (X : Xv) (E : List En) (own lets : Nat → Int) (mb ma v arc : Nat) (bb : Bool) (w : Wd) : Prop := XCl X w mb v ∧ OwC w ma v own lets ∧ (bb = true → w 101 12 = (arc : Int) ∧ arc < 120)
theorem WXs.fr {w w' : Wd} (h : WXs T L X E own lets mb ma v arc bb w) (hf : FrX w w') : WXs T L X E own lets mb ma v arc bb w' := ⟨h.1.fr hf, h.2.1.fr hf, fun z => by rw [hf.2 12 (by decide) (by decide) (by decide) (by decide) (by decide) (by decide)]; exact h.2.2 z⟩
theorem hX_map {a : List Dd} {b : List Dd} {h : Int} : (a ++ b).map (fun e => (e.1, e.2.1, e.2.2, h)) = a.map (fun e => (e.1, e.2.1, e.2.2, h)) ++ b.map (fun e => (e.1, e.2.1, e.2.2, h)) := List.map_append
theorem hXl {a : Tr} {s : Nat} {h : Int} (hW : WE a) : (hX T L E a s h).length = nD a := by rw [List.length_map, cm_len a s hW]
theorem ar_k {n s n1 s1 : Nat} (h : n1 + 3 * (1001 - s1) + 1 ≤ n + 3 * (1001 - s)) (hn : n + 3 * (1001 - s) ≤ 100000) : n1 < 999999 ∧ n1 + 3 * (1001 - s1) ≤ 100000 := by omega
theorem ar_s {n s n1 s1 : Nat} (h : n1 + 3 * (1001 - s1) + 1 ≤ n + 3 * (1001 - s)) (h1 : s1 < 1000) : n1 + 1 + 3 * (1001 - (s1 + 1)) + 1 ≤ n + 3 * (1001 - s) := by omega
theorem wx_all (hL : L ≤ 4000) (hd : 6 ≤ d) (hE : ENb E) : ∀ (N : Nat) (a : Tr) (pc : Nat) (st : List Int) (s dr n : Nat) (w : Wd), szT a ≤ N → WE a → M9 a → tkB (kdT T L) j a → K0 (kdT T L) a → 100000 ≤ jkT T L E bb a → WXs T L X E own lets mb ma v arc bb w → CdA w pc (hX T L E a pc (h_ : Int)) → ((pc + nD a : Nat) : Int) < w 19 4 → pc + nD a < 1024 → At w pc st s dr → st.length + skN (kdT T L) a ≤ 60 → n + 3 * (1001 - s) ≤ 100000 → s ≤ 1000 → dr ≤ s → (∀ q n', evx T L X h_ E own lets arc true a s dr = .ok q → n' + 3 * (1001 - q.2.1) + 1 ≤ n + 3 * (1001 - s) → q.2.1 ≤ 1000 → q.2.2 ≤ q.2.1 → KO g d K n' w (pc + nD a) st q.1 q.2.1 q.2.2) → (∀ e, evx T L X h_ E own lets arc true a s dr = .error e → KF K w e) → WH g d K n w := by
  intro N
  induction N with
  | zero =>
    intro a pc st s dr n w hN hW
    cases a with
    | leaf => exact hW.elim
    | inner c t q l r => simp only [szT] at hN; omega
  | succ N ih =>
    intro a pc st s dr n w hN hW h9 hk hK0 hj hWX hcd hsz hpc hA hst hn hs hdr hok her
    cases a with
    | leaf => exact hW.elim
    | inner c t q l r =>
      have hn9 : n < 999999 := by omega
      have hsl : szT l ≤ N ∧ szT r ≤ N := by simp only [szT] at hN; omega
      have hl9 : M9 l := ⟨h9.1.1, h9.1.2.2.1⟩
      obtain ⟨hkl, hkr, -, hk6, -⟩ := hk
      obtain ⟨h0l, h0r, h00⟩ := hK0
      simp only [WE] at hW
      rcases hW with ⟨rfl, rfl, rfl⟩ | ⟨rfl, rfl, rfl⟩ | ⟨rfl, rfl, rfl⟩ | ⟨rfl, hl, rfl⟩ | ⟨rfl, hl, t9, q9, x, y, rfl, hxy⟩ | ⟨rfl, -⟩ | ⟨rfl, hl, rfl⟩ | ⟨rfl, hl, hr⟩ | ⟨rfl, hl, rfl⟩
      · rw [show hX T L E (.inner 0 t q .leaf .leaf) pc (h_ : Int) = [((deO T L E 0 t).1, (deO T L E 0 t).2, 0, (h_ : Int))] from by unfold hX; rw [deO_cm (Or.inl rfl)]; rfl] at hcd
        have hnD : nD (.inner 0 t q .leaf .leaf) = 1 := rfl
        rw [hnD] at hsz hpc hok
        refine w_opd hL (by omega) hn9 (Or.inl rfl) h00 hE hj hWX.1 hWX.2.1 hWX.2.2 hcd (by omega) (by omega) hA (by omega) (fun s1 e1 => ?_) (fun e e1 => her e (by rw [evx0 (Or.inl rfl), e1]; rfl))
        obtain ⟨rfl, e3⟩ := stq_ok e1
        exact hok _ (n + 1) (by rw [evx0 (Or.inl rfl), e1]; rfl) (by show n + 1 + 3 * (1001 - (s + 1)) + 1 ≤ _; omega) (by show s + 1 ≤ 1000; omega) (by show dr ≤ s + 1; omega)
      · rw [show hX T L E (.inner 1 t q .leaf .leaf) pc (h_ : Int) = [((deO T L E 1 t).1, (deO T L E 1 t).2, 0, (h_ : Int))] from by unfold hX; rw [deO_cm (Or.inr (Or.inl rfl))]; rfl] at hcd
        have hnD : nD (.inner 1 t q .leaf .leaf) = 1 := rfl
        rw [hnD] at hsz hpc hok
        refine w_opd hL (by omega) hn9 (Or.inr (Or.inl rfl)) (fun z => absurd z (by decide)) hE hj hWX.1 hWX.2.1 hWX.2.2 hcd (by omega) (by omega) hA (by omega) (fun s1 e1 => ?_) (fun e e1 => her e (by rw [evx0 (Or.inr (Or.inl rfl)), e1]; rfl))
        obtain ⟨rfl, e3⟩ := stq_ok e1
        exact hok _ (n + 1) (by rw [evx0 (Or.inr (Or.inl rfl)), e1]; rfl) (by show n + 1 + 3 * (1001 - (s + 1)) + 1 ≤ _; omega) (by show s + 1 ≤ 1000; omega) (by show dr ≤ s + 1; omega)
      · rw [show hX T L E (.inner 2 t q .leaf .leaf) pc (h_ : Int) = [((deO T L E 2 t).1, (deO T L E 2 t).2, 0, (h_ : Int))] from by unfold hX; rw [deO_cm (Or.inr (Or.inr rfl))]; rfl] at hcd
        have hnD : nD (.inner 2 t q .leaf .leaf) = 1 := rfl
        rw [hnD] at hsz hpc hok
        refine w_opd hL (by omega) hn9 (Or.inr (Or.inr rfl)) (fun z => absurd z (by decide)) hE hj hWX.1 hWX.2.1 hWX.2.2 hcd (by omega) (by omega) hA (by omega) (fun s1 e1 => ?_) (fun e e1 => her e (by rw [evx0 (Or.inr (Or.inr rfl)), e1]; rfl))
        obtain ⟨rfl, e3⟩ := stq_ok e1
        exact hok _ (n + 1) (by rw [evx0 (Or.inr (Or.inr rfl)), e1]; rfl) (by show n + 1 + 3 * (1001 - (s + 1)) + 1 ≤ _; omega) (by show s + 1 ≤ 1000; omega) (by show dr ≤ s + 1; omega)
      · -- draw
        have hnD : nD (.inner 3 t q l .leaf) = nD l + 1 := rfl
        have hsk : skN (kdT T L) (.inner 3 t q l .leaf) = max (skN (kdT T L) l) 0 := rfl
        have hjj : jkT T L E bb (.inner 3 t q l .leaf) = min (jkT T L E bb l) (dm T L (knT T L E bb l) 1 (fst_ l)) := rfl
        have hev : evx T L X h_ E own lets arc true (.inner 3 t q l .leaf) s dr = _ := evx3
        rw [hnD] at hsz hpc hok
        rw [hsk] at hst
        rw [hjj] at hj
        rw [hev] at hok her
        have hcd' : CdA w pc (hX T L E l pc (h_ : Int) ++ [(14, 0, ((tAt T L t : Nat) : Int), (h_ : Int))]) := by
          have e : hX T L E (.inner 3 t q l .leaf) pc (h_ : Int) = hX T L E l pc (h_ : Int) ++ [(14, 0, ((tAt T L t : Nat) : Int), (h_ : Int))] := hX_map
          rw [← e]; exact hcd
        obtain ⟨cd1, cd2⟩ := hcd'.app
        rw [hXl hl] at cd2
        refine ih l pc st s dr n w hsl.1 hl hl9 hkl h0l (by omega) hWX cd1 (by omega) (by omega) hA (by omega) hn hs hdr (fun p n1 hp hb1 hs1 hd1 w1 f1 A1 => ?_) (fun e he => her e (by rw [he]; rfl))
        obtain ⟨b1, b2⟩ := ar_k hb1 hn
        rw [hp, bnd_ok'] at hok her
        refine w_draw hd b1 (by omega) (hWX.1.fr f1) (cd2.fr f1) (by rw [f1.cd 19 (by decide)]; omega) (by omega) A1 (by omega) (fun s1 e1 ha => ?_) (fun e e1 => KF.fr (her e (by rw [e1]; rfl)) f1) (fun s1 e1 ha => KF.fr (her _ (by rw [e1, bnd_ok', if_pos ha])) f1)
        obtain ⟨rfl, e3⟩ := stq_ok e1
        intro w2 f2 A2
        have hok' := hok (drw X p.2.2 p.1, p.2.1 + 1, p.2.2 + 1) (n1 + 1) (by rw [e1, bnd_ok', if_neg ha]) (ar_s hb1 e3) (by show p.2.1 + 1 ≤ 1000; omega) (by show p.2.2 + 1 ≤ p.2.1 + 1; omega)
        rw [show pc + (nD l + 1) = pc + nD l + 1 by omega] at hok'
        exact hok' w2 (f1.tr f2) A2
      · -- if
        have hx' : WE x ∧ WE y := by
          simp only [WE] at hxy
          rcases hxy with ⟨z, -⟩ | ⟨z, -⟩ | ⟨z, -⟩ | ⟨z, -⟩ | ⟨z, -⟩ | ⟨-, a1, a2⟩ | ⟨z, -⟩ | ⟨z, -⟩ | ⟨z, -⟩
          iterate 5 exact absurd z (by decide)
          · exact ⟨a1, a2⟩
          all_goals exact absurd z (by decide)
        have m9 := h9.1.2.1
        have hx9 : M9 x := ⟨m9.1, m9.2.2.1⟩
        have hy9 : M9 y := ⟨m9.2.1, m9.2.2.2 (by decide)⟩
        have hsx : szT x ≤ N ∧ szT y ≤ N := by
          have := hsl.2
          simp only [szT] at this
          omega
        have hnD : nD (.inner 4 t q l (nd 9 t9 q9 x y)) = nD l + (nD x + nD y + 1) + 1 := rfl
        have hsk : skN (kdT T L) (.inner 4 t q l (nd 9 t9 q9 x y)) = max (skN (kdT T L) l) (max (skN (kdT T L) x) (skN (kdT T L) y)) := rfl
        have hjj : jkT T L E bb (.inner 4 t q l (nd 9 t9 q9 x y)) = min (min (jkT T L E bb l) (dm T L (knT T L E bb l) 2 (fst_ l))) (min (min (jkT T L E bb x) (jkT T L E bb y)) (dm T L (knT T L E bb y) (knT T L E bb x) (fst_ y))) := rfl
        have hev : evx T L X h_ E own lets arc true (.inner 4 t q l (nd 9 t9 q9 x y)) s dr = _ := evx4
        rw [hnD] at hsz hpc hok
        rw [hsk] at hst
        rw [hjj] at hj
        rw [hev] at hok her
        have hcd' : CdA w pc (hX T L E l pc (h_ : Int) ++ ((18, ((pc + nD l + 1 + nD x + 1 : Nat) : Int), 0, (h_ : Int)) :: (hX T L E x (pc + nD l + 1) (h_ : Int) ++ ((21, ((pc + nD l + 1 + nD x + 1 + nD y : Nat) : Int), 0, (h_ : Int)) :: hX T L E y (pc + nD l + 1 + nD x + 1) (h_ : Int))))) := by
          have e : hX T L E (.inner 4 t q l (nd 9 t9 q9 x y)) pc (h_ : Int) = hX T L E l pc (h_ : Int) ++ ((18, ((pc + nD l + 1 + nD x + 1 : Nat) : Int), 0, (h_ : Int)) :: (hX T L E x (pc + nD l + 1) (h_ : Int) ++ ((21, ((pc + nD l + 1 + nD x + 1 + nD y : Nat) : Int), 0, (h_ : Int)) :: hX T L E y (pc + nD l + 1 + nD x + 1) (h_ : Int)))) := by
            unfold hX
            show List.map _ (cmT T L E l pc ++ ((18, ((pc + nD l + 1 + nD x + 1 : Nat) : Int), 0) :: (cmT T L E x (pc + nD l + 1) ++ ((21, ((pc + nD l + 1 + nD x + 1 + nD y : Nat) : Int), 0) :: cmT T L E y (pc + nD l + 1 + nD x + 1))))) = _
            rw [hX_map, List.map_cons, hX_map, List.map_cons]
          rw [← e]; exact hcd
        obtain ⟨cd1, cd2⟩ := hcd'.app
        rw [hXl hl] at cd2
        obtain ⟨cd3, cd4⟩ := (show CdA w (pc + nD l) ([(18, ((pc + nD l + 1 + nD x + 1 : Nat) : Int), 0, (h_ : Int))] ++ _) from cd2).app
        obtain ⟨cd5, cd6⟩ := cd4.app
        rw [show pc + nD l + [((18 : Int), ((pc + nD l + 1 + nD x + 1 : Nat) : Int), (0 : Int), (h_ : Int))].length = pc + nD l + 1 from rfl] at cd5 cd6
        rw [hXl hx'.1] at cd6
        obtain ⟨cd7, cd8⟩ := (show CdA w (pc + nD l + 1 + nD x) ([(21, ((pc + nD l + 1 + nD x + 1 + nD y : Nat) : Int), 0, (h_ : Int))] ++ _) from cd6).app
        rw [show pc + nD l + 1 + nD x + [((21 : Int), ((pc + nD l + 1 + nD x + 1 + nD y : Nat) : Int), (0 : Int), (h_ : Int))].length = pc + nD l + 1 + nD x + 1 from rfl] at cd8
        have hend : pc + (nD l + (nD x + nD y + 1) + 1) = pc + nD l + 1 + nD x + 1 + nD y := by omega
        rw [hend] at hok hsz hpc
        refine ih l pc st s dr n w hsl.1 hl hl9 hkl h0l (by omega) hWX cd1 (by omega) (by omega) hA (by omega) hn hs hdr (fun p n1 hp hb1 hs1 hd1 w1 f1 A1 => ?_) (fun e he => her e (by rw [he]; rfl))
        obtain ⟨b1, b2⟩ := ar_k hb1 hn
        rw [hp, bnd_ok'] at hok her
        refine w_choose hd b1 (cd3.fr f1) (by rw [f1.cd 19 (by decide)]; omega) (by omega) A1 (by omega) (fun s1 e1 w2 f2 A2 => ?_) (fun e e1 => KF.fr (her e (by rw [e1]; rfl)) f1)
        have f12 := f1.tr f2
        rw [e1, bnd_ok'] at hok her
        obtain ⟨rfl, e3⟩ := stq_ok e1
        by_cases ha : p.1 = 0
        · rw [if_pos ha] at A2
          have hd0 : decide (p.1 ≠ 0) = false := by simp [ha]
          rw [hd0, evx9, if_neg (by decide)] at hok her
          refine ih y (pc + nD l + 1 + nD x + 1) st (p.2.1 + 1) p.2.2 (n1 + 1) w2 hsx.2 hx'.2 hy9 hkr.2.1 h0r.2.1 (by omega) (hWX.fr f12) (cd8.fr f12) (by rw [f12.cd 19 (by decide)]; omega) (by omega) A2 (by omega) (by omega) (by omega) (by omega) (fun q2 n2 hq2 hb2 hs2 hd2 w3 f3 A3 => hok q2 n2 hq2 (by omega) hs2 hd2 w3 (f12.tr f3) A3) (fun e he => KF.fr (her e he) f12)
        · rw [if_neg ha] at A2
          have hd0 : decide (p.1 ≠ 0) = true := by simp [ha]
          rw [hd0, evx9, if_pos rfl] at hok her
          refine ih x (pc + nD l + 1) st (p.2.1 + 1) p.2.2 (n1 + 1) w2 hsx.1 hx'.1 hx9 hkr.1 h0r.1 (by omega) (hWX.fr f12) (cd5.fr f12) (by rw [f12.cd 19 (by decide)]; omega) (by omega) A2 (by omega) (by omega) (by omega) (by omega) (fun q2 n2 hq2 hb2 hs2 hd2 w3 f3 A3 => ?_) (fun e he => KF.fr (her e he) f12)
          have f13 := f12.tr f3
          refine w_jump hd (by omega) (cd7.fr f13) (by rw [f13.cd 19 (by decide)]; omega) (by omega) A3 (fun w4 f4 A4 => hok q2 (n2 + 1) hq2 (by omega) hs2 hd2 w4 (f13.tr f4) A4)
      · exact absurd rfl h9.2
      · -- - !
        have hnD : nD (.inner 5 t q l .leaf) = nD l + 1 := rfl
        have hsk : skN (kdT T L) (.inner 5 t q l .leaf) = max (skN (kdT T L) l) 0 := rfl
        have hjj : jkT T L E bb (.inner 5 t q l .leaf) = min (jkT T L E bb l) (dm T L (knT T L E bb l) (if kdT T L t = 16 then 1 else 2) (fst_ l)) := rfl
        have hev : evx T L X h_ E own lets arc true (.inner 5 t q l .leaf) s dr = _ := evx5
        rw [hnD] at hsz hpc hok
        rw [hsk] at hst
        rw [hjj] at hj
        rw [hev] at hok her
        have hcd' : CdA w pc (hX T L E l pc (h_ : Int) ++ [((if kdT T L t = 16 then 12 else 13), 0, 0, (h_ : Int))]) := by
          have e : hX T L E (.inner 5 t q l .leaf) pc (h_ : Int) = hX T L E l pc (h_ : Int) ++ [((if kdT T L t = 16 then 12 else 13), 0, 0, (h_ : Int))] := hX_map
          rw [← e]; exact hcd
        obtain ⟨cd1, cd2⟩ := hcd'.app
        rw [hXl hl] at cd2
        refine ih l pc st s dr n w hsl.1 hl hl9 hkl h0l (by omega) hWX cd1 (by omega) (by omega) hA (by omega) hn hs hdr (fun p n1 hp hb1 hs1 hd1 w1 f1 A1 => ?_) (fun e he => her e (by rw [he]; rfl))
        obtain ⟨b1, b2⟩ := ar_k hb1 hn
        rw [hp, bnd_ok'] at hok her
        refine w_un (dd := if kdT T L t = 16 then 12 else 13) (by split <;> simp) (by omega) b1 (cd2.fr f1) (by rw [f1.cd 19 (by decide)]; omega) (by omega) A1 (by omega) (fun s1 e1 => ?_) (fun e e1 => KF.fr (her e (by rw [e1]; rfl)) f1)
        obtain ⟨rfl, e3⟩ := stq_ok e1
        intro w2 f2 A2
        have hok' := hok ((if kdT T L t = 16 then wr (-p.1) else wr (1 - p.1)), p.2.1 + 1, p.2.2) (n1 + 1) (by rw [e1, bnd_ok']) (ar_s hb1 e3) (by show p.2.1 + 1 ≤ 1000; omega) (by show p.2.2 ≤ p.2.1 + 1; omega)
        rw [show pc + (nD l + 1) = pc + nD l + 1 by omega] at hok'
        refine hok' w2 (f1.tr f2) ?_
        by_cases k16 : kdT T L t = 16
        · rw [if_pos k16] at A2 ⊢; exact A2
        · rw [if_neg k16] at A2 ⊢; exact A2
      · -- an operator between two
        have hnD : nD (.inner 6 t q l r) = nD l + nD r + 1 := rfl
        have hsk : skN (kdT T L) (.inner 6 t q l r) = max (skN (kdT T L) l) (skN (kdT T L) r + (if lnO (kdT T L t) ≤ 2 then 0 else 1)) := rfl
        have hjl : 100000 ≤ jkT T L E bb l ∧ 100000 ≤ jkT T L E bb r := by
          have hjj : jkT T L E bb (.inner 6 t q l r) = (if kdT T L t = 21 ∨ kdT T L t = 22 then min (min (jkT T L E bb l) (jkT T L E bb r)) (dm T L (knT T L E bb r) (knT T L E bb l) (fst_ r)) else min (min (jkT T L E bb l) (jkT T L E bb r)) (min (dm T L (knT T L E bb l) (if lnO (kdT T L t) ≤ 2 then 2 else 1) (fst_ l)) (dm T L (knT T L E bb r) (if lnO (kdT T L t) ≤ 2 then 2 else 1) (fst_ r)))) := rfl
          rw [hjj] at hj
          split at hj <;> omega
        have hr9 : M9 r := ⟨h9.1.2.1, h9.1.2.2.2 (by decide)⟩
        have hev : evx T L X h_ E own lets arc true (.inner 6 t q l r) s dr = _ := evx6
        rw [hnD] at hsz hpc hok
        rw [hsk] at hst
        rw [hev] at hok her
        have hk0 := hk6 rfl
        by_cases hln : lnO (kdT T L t) ≤ 2
        · rw [if_pos hln] at hok her hst
          have hcd' : CdA w pc (hX T L E l pc (h_ : Int) ++ (((if lnO (kdT T L t) = 2 then 16 else 17), ((pc + nD l + 1 + nD r : Nat) : Int), 0, (h_ : Int)) :: hX T L E r (pc + nD l + 1) (h_ : Int))) := by
            have e : hX T L E (.inner 6 t q l r) pc (h_ : Int) = hX T L E l pc (h_ : Int) ++ (((if lnO (kdT T L t) = 2 then 16 else 17), ((pc + nD l + 1 + nD r : Nat) : Int), 0, (h_ : Int)) :: hX T L E r (pc + nD l + 1) (h_ : Int)) := by
              unfold hX
              have e2 : cmT T L E (.inner 6 t q l r) pc = cmT T L E l pc ++ (((if lnO (kdT T L t) = 2 then 16 else 17), ((pc + nD l + 1 + nD r : Nat) : Int), 0) :: cmT T L E r (pc + nD l + 1)) := by
                show (if lnO (kdT T L t) ≤ 2 then _ else _) = _
                rw [if_pos hln]
              rw [e2, hX_map, List.map_cons]
            rw [← e]; exact hcd
          obtain ⟨cd1, cd2⟩ := hcd'.app
          rw [hXl hl] at cd2
          obtain ⟨cd3, cd4⟩ := (show CdA w (pc + nD l) ([((if lnO (kdT T L t) = 2 then 16 else 17), ((pc + nD l + 1 + nD r : Nat) : Int), 0, (h_ : Int))] ++ _) from cd2).app
          have hend : pc + (nD l + nD r + 1) = pc + nD l + 1 + nD r := by omega
          rw [hend] at hok hsz hpc
          refine ih l pc st s dr n w hsl.1 hl hl9 hkl h0l hjl.1 hWX cd1 (by omega) (by omega) hA (by omega) hn hs hdr (fun p n1 hp hb1 hs1 hd1 w1 f1 A1 => ?_) (fun e he => her e (by rw [he]; rfl))
          obtain ⟨b1, b2⟩ := ar_k hb1 hn
          rw [hp, bnd_ok'] at hok her
          refine w_and (se := if lnO (kdT T L t) = 2 then 0 else 1) (by split <;> simp) hd b1 (cd3.fr f1) (by rw [f1.cd 19 (by decide)]; omega) (by omega) A1 (by omega) (fun s1 e1 ha => ?_) (fun s1 e1 ha w2 f2 A2 => ?_) (fun e e1 => KF.fr (her e (by rw [e1]; rfl)) f1)
          · rw [e1, bnd_ok', if_pos ha] at hok
            obtain ⟨rfl, e3⟩ := stq_ok e1
            intro w2 f2 A2
            exact hok (p.1, p.2.1 + 1, p.2.2) (n1 + 1) rfl (ar_s hb1 e3) (by show p.2.1 + 1 ≤ 1000; omega) (by show p.2.2 ≤ p.2.1 + 1; omega) w2 (f1.tr f2) A2
          · rw [e1, bnd_ok', if_neg ha] at hok her
            obtain ⟨rfl, e3⟩ := stq_ok e1
            have f12 := f1.tr f2
            exact ih r (pc + nD l + 1) st (p.2.1 + 1) p.2.2 (n1 + 1) w2 hsl.2 hr hr9 hkr h0r hjl.2 (hWX.fr f12) (cd4.fr f12) (by rw [f12.cd 19 (by decide)]; omega) (by omega) A2 (by omega) (by omega) (by omega) (by omega) (fun q2 n2 hq2 hb2 hs2 hd2 w3 f3 A3 => hok q2 n2 hq2 (by omega) hs2 hd2 w3 (f12.tr f3) A3) (fun e he => KF.fr (her e he) f12)
        · rw [if_neg hln] at hok her hst
          have hcd' : CdA w pc (hX T L E l pc (h_ : Int) ++ (hX T L E r (pc + nD l) (h_ : Int) ++ [(15, ((kdT T L t : Nat) : Int), ((tAt T L t : Nat) : Int), (h_ : Int))])) := by
            have e : hX T L E (.inner 6 t q l r) pc (h_ : Int) = hX T L E l pc (h_ : Int) ++ (hX T L E r (pc + nD l) (h_ : Int) ++ [(15, ((kdT T L t : Nat) : Int), ((tAt T L t : Nat) : Int), (h_ : Int))]) := by
              unfold hX
              have e2 : cmT T L E (.inner 6 t q l r) pc = cmT T L E l pc ++ (cmT T L E r (pc + nD l) ++ [(15, ((kdT T L t : Nat) : Int), ((tAt T L t : Nat) : Int))]) := by
                show (if lnO (kdT T L t) ≤ 2 then _ else _) = _
                rw [if_neg hln]
              rw [e2, hX_map, hX_map]
              rfl
            rw [← e]; exact hcd
          obtain ⟨cd1, cd2⟩ := hcd'.app
          rw [hXl hl] at cd2
          obtain ⟨cd3, cd4⟩ := cd2.app
          rw [hXl hr] at cd4
          have hend : pc + (nD l + nD r + 1) = pc + nD l + nD r + 1 := by omega
          rw [hend] at hok hsz hpc
          refine ih l pc st s dr n w hsl.1 hl hl9 hkl h0l hjl.1 hWX cd1 (by omega) (by omega) hA (by omega) hn hs hdr (fun p n1 hp hb1 hs1 hd1 w1 f1 A1 => ?_) (fun e he => her e (by rw [he]; rfl))
          obtain ⟨b1, b2⟩ := ar_k hb1 hn
          rw [hp, bnd_ok'] at hok her
          refine ih r (pc + nD l) (p.1 :: st) p.2.1 p.2.2 n1 w1 hsl.2 hr hr9 hkr h0r hjl.2 (hWX.fr f1) (cd3.fr f1) (by rw [f1.cd 19 (by decide)]; omega) (by omega) A1 (by rw [List.length_cons]; omega) b2 hs1 hd1 (fun q2 n2 hq2 hb2 hs2 hd2 w2 f2 A2 => ?_) (fun e he => KF.fr (her e (by rw [he]; rfl)) f1)
          obtain ⟨b3, b4⟩ := ar_k hb2 b2
          rw [hq2, bnd_ok'] at hok her
          have f12 := f1.tr f2
          refine w_bin hd b3 (ln_3 hk0 hln) (cd4.fr f12) (by rw [f12.cd 19 (by decide)]; omega) (by omega) A2 (by omega) (fun s1 e1 ha => ?_) (fun e e1 => KF.fr (her e (by rw [e1]; rfl)) f12) (fun s1 e1 ha => KF.fr (her _ (by rw [e1, bnd_ok', if_pos ha])) f12)
          obtain ⟨rfl, e3⟩ := stq_ok e1
          intro w3 f3 A3
          have hb3 : n2 + 1 + 3 * (1001 - (q2.2.1 + 1)) + 1 ≤ n + 3 * (1001 - s) := by omega
          exact hok (bnv (kdT T L t) p.1 q2.1, q2.2.1 + 1, q2.2.2) (n2 + 1) (by rw [e1, bnd_ok', if_neg ha]) hb3 (by show q2.2.1 + 1 ≤ 1000; omega) (by show q2.2.2 ≤ q2.2.1 + 1; omega) w3 (f12.tr f3) A3
      · -- ( )
        have hnD : nD (.inner 7 t q l .leaf) = nD l + 0 + 0 := rfl
        have hsk : skN (kdT T L) (.inner 7 t q l .leaf) = max (skN (kdT T L) l) 0 := rfl
        rw [hnD, Nat.add_zero] at hsz hpc hok
        rw [hsk] at hst
        exact ih l pc st s dr n w hsl.1 hl hl9 hkl h0l hj hWX hcd hsz hpc hA (by omega) hn hs hdr hok her
end WExp3
