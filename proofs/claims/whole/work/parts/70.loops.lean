/-! ===== the class reads statements: loop; a statement ===== -/
section StLoop
variable {g : Mg} {d D : Nat} {K : Ou → Wd → Prop} {w : Wd} {T : Nat → Int} {L : Nat} {ρ : PE ST}
/-- from a loop's number on -/
def fLt (T : Nat → Int) (L n : Nat) (s : ST) : PE ST := bnd (ex (kdT T L) 3 (sI s)) (fun i2 => bnd (pBk (kdT T L) (vlT T L) n (sc s) (cntE 4 (sE s)) i2) (fun b1 => .ok (b1.2.1, sE s, b1.2.2, sl s, sb s, min (sK s) (jS T L b1.1 (sE s)), sC s ++ ((22, vlT T L (sI s), (sl s : Int), sh s) :: (23, (((sC s).length + 2 + nK b1.1 + 1 : Nat) : Int), (sl s : Int), sh s) :: (cmS T L b1.1 (sE s) ((sC s).length + 2) (sl s + 1) (sh s) ++ [(21, (((sC s).length + 1 : Nat) : Int), 0, sh s)])), sO s ++ ([sI s] ++ oP (kdT T L) b1.1), sh s)))
theorem loop_tail {n within : Nat} (hd : 150 ≤ d) (hB : SpBk g d T L n within) (hR : RdS T L w ρ) (hp : ∀ s, ρ = .ok s → sb s = false ∧ (sC s).length ≤ sI s ∧ sl s + n + 1 ≤ 13 ∧ sc s ≤ 120) (h : ∀ w', FxS w w' → RdS T L w' (bnd ρ (fLt T L n)) → K (.inl none) w') :
    Cal g LC jCu_take d [vA 25, vI 3] w (fun o w5 => rI o (fun x6 => (0 ≤ x6 ∧ x6 < 1002) ∧ (Cal g LC jCo_add d [vA 19, vI 22, vI (w5 7 x6.toNat), vI (w5 24 6)] w5 (fun o w7 => rI o (fun x8 => Cal g LC jCo_add d [vA 19, vI 23, vI 0, vI (w7 24 6)] w7 (fun o w9 => rI o (fun x10 => Cal g LC jRe_readBlock d [vA 24, vI (within : Int)] (up w9 24 6 (wr ((w9 24 6) + 1))) (fun o w11 => rV o (Cal g LC jCo_add d [vA 19, vI 21, vI x10, vI 0] (up w11 24 6 (wr ((w11 24 6) - 1))) (fun o w12 => rI o (fun x13 => Cal g LC jCo_aimHere d [vA 19, vI x10] w12 (fun o w14 => rV o (K (.inl none) w14))))))))))))) := by
  have hnT := nTk_le (T := T) (L := L)
  refine st_take (c := 3) (by omega) hR (by decide) (fun w1 x1 hF1 hx1 hxi1 hR1 _ => ⟨by omega, ?_⟩)
  rw [toN]
  refine st_add hR1 ?_ (fun w2 x2 hF2 hx2 hxi2 hR2 _ => st_add hR2 ?_ (fun w3 p hF3 hp4 hpi hR3 _ => ?_))
  · intro s1 h1
    cases ρ with
    | error e => cases h1
    | ok s =>
      obtain ⟨a3, rfl⟩ := fTk_ok h1
      have := (hp s rfl).2.1
      have := (ex_ok a3).2.2
      show (sC s).length < 1024
      omega
  · intro s2 h2
    cases ρ with
    | error e => cases h2
    | ok s =>
      obtain ⟨s1, a1, a2⟩ := bnd_ok h2
      obtain ⟨a3, rfl⟩ := fTk_ok a1
      cases a2
      have := (hp s rfl).2.1
      have := (ex_ok a3).2.2
      show (sC s ++ [(22, w1 7 x1, w1 24 6, sh s)]).length < 1024
      rw [List.length_append]; simp; omega
  · have hR4 := hR3.lp (f := fun l => l + 1) (v := wr (w3 24 6 + 1)) (fun s3 h3 => by
      have hR3' := hR3
      rw [h3] at hR3'
      rw [hR3'.2.2.2.2.2.2.1]
      have : sl s3 ≤ 13 := by
        cases ρ with
        | error e => cases h3
        | ok s =>
          obtain ⟨s2, a1, a2⟩ := bnd_ok h3
          obtain ⟨s1, a3, a4⟩ := bnd_ok a1
          obtain ⟨-, rfl⟩ := fTk_ok a3
          cases a4; cases a2
          have := (hp s rfl).2.2.1
          show sl s ≤ 13
          omega
      exact wr_n1 (by omega))
    have hF4 : FxS w3 (up w3 24 6 (wr (w3 24 6 + 1))) := FxS.of (M := [24]) ((Fx.rf _ w3).up (by decide)) (by decide) (by decide)
    refine hB _ _ _ hR4 ?_ (fun w5 hF5 hR5 => ?_)
    · intro s4 h4
      cases ρ with
      | error e => cases h4
      | ok s =>
        obtain ⟨s3, a5, a6⟩ := bnd_ok h4
        obtain ⟨s2, a1, a2⟩ := bnd_ok a5
        obtain ⟨s1, a3, a4⟩ := bnd_ok a1
        obtain ⟨-, rfl⟩ := fTk_ok a3
        cases a4; cases a2; cases a6
        obtain ⟨p1, p2, p3, p4⟩ := hp s rfl
        refine ⟨p1, ?_, ?_, p4⟩
        · show (sC s ++ [(22, w1 7 x1, w1 24 6, sh s)] ++ [(23, 0, w2 24 6, sh s)]).length ≤ sI s + 1 + 1
          rw [List.length_append, List.length_append]; simp; omega
        · show sl s + 1 + n ≤ 13
          omega
    · -- the whole way
      have hpath : ∀ s5, bnd (bnd (bnd (bnd (bnd ρ (fTk (kdT T L) 3)) (fAd 22 (w1 7 x1) (w1 24 6))) (fAd 23 0 (w2 24 6))) (fLp fun l => l + 1)) (fB T L (pBk (kdT T L) (vlT T L) n)) = .ok s5 → ∃ (s : ST) (b1 : Tr × Nat × Nat), ρ = .ok s ∧ ex (kdT T L) 3 (sI s) = .ok (sI s + 1) ∧ pBk (kdT T L) (vlT T L) n (sc s) (cntE 4 (sE s)) (sI s + 1) = .ok b1 ∧ GB (sc s) (sI s + 1) b1 ∧ LenOK T L b1.1 ∧ p = (sC s).length + 1 ∧ s5 = (b1.2.1, sE s, b1.2.2, sl s + 1, sb s, min (sK s) (jS T L b1.1 (sE s)), sC s ++ ((22, vlT T L (sI s), (sl s : Int), sh s) :: (23, 0, (sl s : Int), sh s) :: cmS T L b1.1 (sE s) ((sC s).length + 2) (sl s + 1) (sh s)), sO s ++ ([sI s] ++ oP (kdT T L) b1.1), sh s) := by
        intro s5 h5
        cases ρ with
        | error e => cases h5
        | ok s =>
          obtain ⟨s4, a7, a8⟩ := bnd_ok h5
          obtain ⟨s3, a5, a6⟩ := bnd_ok a7
          obtain ⟨s2, a1, a2⟩ := bnd_ok a5
          have hpe := hpi s2 a1
          have hR1' := hR1
          have hR2' := hR2
          obtain ⟨s1, a3, a4⟩ := bnd_ok a1
          rw [a3] at hR1'
          rw [a1] at hR2'
          have l1 : w1 24 6 = (sl s1 : Int) := hR1'.2.2.2.2.2.2.1
          have l2 : w2 24 6 = (sl s2 : Int) := hR2'.2.2.2.2.2.2.1
          have hxe := hxi1 s rfl
          obtain ⟨e3, rfl⟩ := fTk_ok a3
          have hk3 := (ex_ok e3).1
          have hv : w1 7 x1 = vlT T L (sI s) := by
            have hc := hR.2.2.1
            rw [hxe]
            exact (hR1'.1.1.sz (kdT_lt hc.2.2.1 hc.2.2.2 (by omega))).2.2
          cases a4; cases a2; cases a6
          obtain ⟨p1, p2, p3, p4⟩ := hp s rfl
          obtain ⟨b1, hb1, hgb, hlb, rfl⟩ := fB_ok a8 p4
          have l1' : w1 24 6 = (sl s : Int) := l1
          have l2' : w2 24 6 = (sl s : Int) := l2
          refine ⟨s, b1, rfl, e3, hb1, hgb, hlb, ?_, ?_⟩
          · rw [hpe]
            show (sC s ++ [(22, w1 7 x1, w1 24 6, sh s)]).length = _
            rw [List.length_append]; rfl
          · rw [hv, l1', l2']
            have el : (sC s ++ [((22 : Int), vlT T L (sI s), (sl s : Int), sh s)] ++ [((23 : Int), (0 : Int), (sl s : Int), sh s)]).length = (sC s).length + 2 := by rw [List.length_append, List.length_append]; rfl
            show (b1.2.1, sE s, b1.2.2, sl s + 1, sb s, min (sK s) (jS T L b1.1 (sE s)), (sC s ++ [(22, vlT T L (sI s), (sl s : Int), sh s)] ++ [(23, 0, (sl s : Int), sh s)]) ++ cmS T L b1.1 (sE s) (sC s ++ [((22 : Int), vlT T L (sI s), (sl s : Int), sh s)] ++ [((23 : Int), (0 : Int), (sl s : Int), sh s)]).length (sl s + 1) (sh s), sO s ++ [sI s] ++ oP (kdT T L) b1.1, sh s) = _
            rw [el]
            simp
      have hR6 := hR5.lp (f := fun l => l - 1) (v := wr (w5 24 6 - 1)) (fun s5 h5 => by
        have hR5' := hR5
        rw [h5] at hR5'
        rw [hR5'.2.2.2.2.2.2.1]
        obtain ⟨s, b1, hs, -, -, -, -, -, rfl⟩ := hpath s5 h5
        have := (hp s hs).2.2.1
        exact wrN (by show ((sl s + 1 : Nat) : Int) - 1 = ((sl s + 1 - 1 : Nat) : Int); omega) (by show sl s + 1 - 1 < _; omega))
      have hF6 : FxS w5 (up w5 24 6 (wr (w5 24 6 - 1))) := FxS.of (M := [24]) ((Fx.rf _ w5).up (by decide)) (by decide) (by decide)
      have hlen5 : ∀ s5, bnd (bnd (bnd (bnd (bnd ρ (fTk (kdT T L) 3)) (fAd 22 (w1 7 x1) (w1 24 6))) (fAd 23 0 (w2 24 6))) (fLp fun l => l + 1)) (fB T L (pBk (kdT T L) (vlT T L) n)) = .ok s5 → p < (sC s5).length ∧ (sC s5).length < 1010 := by
        intro s5 h5
        obtain ⟨s, b1, hs, -, -, ⟨-, gb1, gb2, gb3, gb4, gb5⟩, hlb, hpp, rfl⟩ := hpath s5 h5
        have := (hp s hs).2.1
        show p < (sC s ++ ((22, vlT T L (sI s), (sl s : Int), sh s) :: (23, 0, (sl s : Int), sh s) :: cmS T L b1.1 (sE s) ((sC s).length + 2) (sl s + 1) (sh s))).length ∧ (sC s ++ ((22, vlT T L (sI s), (sl s : Int), sh s) :: (23, 0, (sl s : Int), sh s) :: cmS T L b1.1 (sE s) ((sC s).length + 2) (sl s + 1) (sh s))).length < 1010
        rw [List.length_append, List.length_cons, List.length_cons, hlb]
        omega
      refine st_add hR6 ?_ (fun w7 x7 hF7 hx7 hxi7 hR7 _ => st_aim hp4 hR7 ?_ (fun w8 hF8 hR8 _ => h w8 ((FxS.e ((hF1.tr hF2).tr hF3)).tr ((hF4.tr hF5).tr (hF6.tr (FxS.e (hF7.tr hF8))))) ?_))
      · intro s6 h6
        obtain ⟨s5, a1, a2⟩ := bnd_ok h6
        cases a2
        have := hlen5 s5 a1
        show (sC s5).length < 1024
        omega
      · intro s7 h7
        obtain ⟨s6, a3, a4⟩ := bnd_ok h7
        obtain ⟨s5, a1, a2⟩ := bnd_ok a3
        cases a2; cases a4
        have := hlen5 s5 a1
        show p < (sC s5 ++ [(21, (p : Int), 0, sh s5)]).length ∧ (sC s5 ++ [(21, (p : Int), 0, sh s5)]).length ≤ 1024
        rw [List.length_append]; simp; omega
      · cases h5 : bnd (bnd (bnd (bnd (bnd ρ (fTk (kdT T L) 3)) (fAd 22 (w1 7 x1) (w1 24 6))) (fAd 23 0 (w2 24 6))) (fLp fun l => l + 1)) (fB T L (pBk (kdT T L) (vlT T L) n)) with
        | error e =>
          rw [h5] at hR8
          have : bnd ρ (fLt T L n) = .error e := by
            cases ρ with
            | error e' => cases h5; rfl
            | ok s =>
              obtain ⟨i, E, c, lp, b, k, C, O, hm⟩ := s
              show fLt T L n _ = _
              unfold fLt
              cases e1 : ex (kdT T L) 3 i with
              | error e' => simp only [bnd, fTk, fEx, fBl, fAd, fMk, fAm, fLp, fSc, fHm, sI, sE, sc, sl, sb, sK, sC, sO, sh, e1] at h5 ⊢; cases h5; rfl
              | ok i1 =>
                cases e3 : pBk (kdT T L) (vlT T L) n c (cntE 4 E) i1 with
                | error e' => simp only [bnd, fTk, fEx, fBl, fAd, fMk, fAm, fLp, fSc, fHm, sI, sE, sc, sl, sb, sK, sC, sO, sh, fB, e1, e3] at h5 ⊢; cases h5; rfl
                | ok b1 => simp only [bnd, fTk, fEx, fBl, fAd, fMk, fAm, fLp, fSc, fHm, sI, sE, sc, sl, sb, sK, sC, sO, sh, fB, e1, e3] at h5; cases h5
          rw [this]; exact hR8
        | ok s5 =>
          rw [h5] at hR8
          obtain ⟨s, b1, hs, e1, hb1, hgb, hlb, hpp, rfl⟩ := hpath s5 h5
          subst hs
          have e2 : fLt T L n s = .ok (b1.2.1, sE s, b1.2.2, sl s, sb s, min (sK s) (jS T L b1.1 (sE s)), sC s ++ ((22, vlT T L (sI s), (sl s : Int), sh s) :: (23, (((sC s).length + 2 + nK b1.1 + 1 : Nat) : Int), (sl s : Int), sh s) :: (cmS T L b1.1 (sE s) ((sC s).length + 2) (sl s + 1) (sh s) ++ [(21, (((sC s).length + 1 : Nat) : Int), 0, sh s)])), sO s ++ ([sI s] ++ oP (kdT T L) b1.1), sh s) := by
            unfold fLt; rw [e1, bnd_ok', hb1]; rfl
          show RdS T L w8 (fLt T L n s)
          rw [e2]
          have e3 : sC s ++ ((22, vlT T L (sI s), (sl s : Int), sh s) :: (23, 0, (sl s : Int), sh s) :: cmS T L b1.1 (sE s) ((sC s).length + 2) (sl s + 1) (sh s)) ++ [(21, (p : Int), 0, sh s)] = (sC s ++ [(22, vlT T L (sI s), (sl s : Int), sh s)]) ++ (23, 0, (sl s : Int), sh s) :: (cmS T L b1.1 (sE s) ((sC s).length + 2) (sl s + 1) (sh s) ++ [(21, (p : Int), 0, sh s)]) := by simp
          have e4 : (sC s ++ [((22 : Int), vlT T L (sI s), (sl s : Int), sh s)]).length = p := by rw [List.length_append]; exact hpp.symm
          have e5 : (sC s ++ ((22, vlT T L (sI s), (sl s : Int), sh s) :: (23, 0, (sl s : Int), sh s) :: cmS T L b1.1 (sE s) ((sC s).length + 2) (sl s + 1) (sh s)) ++ [((21 : Int), (p : Int), (0 : Int), sh s)]).length = (sC s).length + 2 + nK b1.1 + 1 := by
            rw [List.length_append, List.length_append, List.length_cons, List.length_cons, hlb]; simp; omega
          have e6 : agL (sC s ++ ((22, vlT T L (sI s), (sl s : Int), sh s) :: (23, 0, (sl s : Int), sh s) :: cmS T L b1.1 (sE s) ((sC s).length + 2) (sl s + 1) (sh s)) ++ [(21, (p : Int), 0, sh s)]) p (((sC s ++ ((22, vlT T L (sI s), (sl s : Int), sh s) :: (23, 0, (sl s : Int), sh s) :: cmS T L b1.1 (sE s) ((sC s).length + 2) (sl s + 1) (sh s)) ++ [((21 : Int), (p : Int), (0 : Int), sh s)]).length : Nat) : Int) = sC s ++ ((22, vlT T L (sI s), (sl s : Int), sh s) :: (23, (((sC s).length + 2 + nK b1.1 + 1 : Nat) : Int), (sl s : Int), sh s) :: (cmS T L b1.1 (sE s) ((sC s).length + 2) (sl s + 1) (sh s) ++ [(21, (((sC s).length + 1 : Nat) : Int), 0, sh s)])) := by
            rw [e5, e3]
            conv => lhs; arg 2; rw [← e4]
            rw [agL_at, hpp]
            simp
          rw [← e6]
          exact hR8
theorem st_loop {n within : Nat} (hd : 150 ≤ d) (hB : SpBk g d T L n within) (hR : RdS T L w ρ) (hp : ∀ s, ρ = .ok s → sb s = false ∧ (sC s).length ≤ sI s + 1 ∧ sl s + n + 1 ≤ 13 ∧ sc s ≤ 120) (h : ∀ w', FxS w w' → RdS T L w' (bnd ρ (fP T L (pLoop (kdT T L) (vlT T L) (pBk (kdT T L) (vlT T L) n)))) → K (.inl none) w') : Cal g LC jRe_readLoop (d + 1) [vA 24, vI (within : Int)] w K := by
  have hnT := nTk_le (T := T) (L := L)
  refine Cal.ofV (by decide) rfl (Nat.le_of_ble_eq_true rfl) (s_Re_readLoop (st_take (c := 50) (by omega) hR (by decide) (fun w1 x1 hF1 hx1 hxi1 hR1 _ => ?_)))
  have hp1 : ∀ s1, bnd ρ (fTk (kdT T L) 50) = .ok s1 → sb s1 = false ∧ (sC s1).length ≤ sI s1 ∧ sl s1 + n + 1 ≤ 13 ∧ sc s1 ≤ 120 := by
    intro s1 h1
    cases ρ with
    | error e => cases h1
    | ok s =>
      obtain ⟨-, rfl⟩ := fTk_ok h1
      obtain ⟨p1, p2, p3, p4⟩ := hp s rfl
      exact ⟨p1, p2, p3, p4⟩
  have hgo : (∀ s1, bnd ρ (fTk (kdT T L) 50) = .ok s1 → ¬ (kdT T L (sI s1) = 3 ∧ 100 < vlT T L (sI s1))) → ∀ w2, w2 = w1 → Cal g LC jCu_take d [vA 25, vI 3] w2 (fun o w5 => rI o (fun x6 => (0 ≤ x6 ∧ x6 < 1002) ∧ (Cal g LC jCo_add d [vA 19, vI 22, vI (w5 7 x6.toNat), vI (w5 24 6)] w5 (fun o w7 => rI o (fun x8 => Cal g LC jCo_add d [vA 19, vI 23, vI 0, vI (w7 24 6)] w7 (fun o w9 => rI o (fun x10 => Cal g LC jRe_readBlock d [vA 24, vI (within : Int)] (up w9 24 6 (wr ((w9 24 6) + 1))) (fun o w11 => rV o (Cal g LC jCo_add d [vA 19, vI 21, vI x10, vI 0] (up w11 24 6 (wr ((w11 24 6) - 1))) (fun o w12 => rI o (fun x13 => Cal g LC jCo_aimHere d [vA 19, vI x10] w12 (fun o w14 => rV o (K (.inl none) w14))))))))))))) := by
    intro hno w2 hw2
    subst hw2
    refine loop_tail hd hB hR1 hp1 (fun w' hF hR' => h w' ((FxS.e hF1).tr hF) ?_)
    cases ρ with
    | error e => exact hR'
    | ok s =>
      obtain ⟨i, E, c, lp, b, k, C, O, hm⟩ := s
      show RdS T L w' (bnd (pLoop (kdT T L) (vlT T L) (pBk (kdT T L) (vlT T L) n) c (cntE 4 E) i) (fun q => .ok (mkS T L (i, E, c, lp, b, k, C, O, hm) q.1 q.2.1 q.2.2.1)))
      unfold pLoop
      cases e1 : ex (kdT T L) 50 i with
      | error e => simp only [bnd, fTk, fEx, fBl, fAd, fMk, fAm, fLp, fSc, fHm, sI, sE, sc, sl, sb, sK, sC, sO, sh, e1] at hR' ⊢; exact hR'
      | ok i1 =>
        obtain ⟨-, rfl, -⟩ := ex_ok e1
        have hno' := hno (i + 1, E, c, lp, b, k, C, O ++ [i], hm) (by simp only [bnd, fTk, fEx, fBl, fAd, fMk, fAm, fLp, fSc, fHm, sI, sE, sc, sl, sb, sK, sC, sO, sh, e1])
        rw [bnd_ok', if_neg hno']
        simp only [bnd, fTk, fEx, fBl, fAd, fMk, fAm, fLp, fSc, fHm, sI, sE, sc, sl, sb, sK, sC, sO, sh, e1] at hR'
        cases e2 : ex (kdT T L) 3 (i + 1) with
        | error e =>
          have : fLt T L n (i + 1, E, c, lp, b, k, C, O ++ [i], hm) = .error e := by unfold fLt; simp only [bnd, fTk, fEx, fBl, fAd, fMk, fAm, fLp, fSc, fHm, sI, sE, sc, sl, sb, sK, sC, sO, sh, e2]
          rw [this] at hR'; exact hR'
        | ok i2 =>
          obtain ⟨-, rfl, -⟩ := ex_ok e2
          cases e3 : pBk (kdT T L) (vlT T L) n c (cntE 4 E) (i + 1 + 1) with
          | error e =>
            have : fLt T L n (i + 1, E, c, lp, b, k, C, O ++ [i], hm) = .error e := by unfold fLt; simp only [bnd, fTk, fEx, fBl, fAd, fMk, fAm, fLp, fSc, fHm, sI, sE, sc, sl, sb, sK, sC, sO, sh, e2, e3]
            rw [this] at hR'
            simp only [bnd, e3]; exact hR'
          | ok b1 =>
            have : fLt T L n (i + 1, E, c, lp, b, k, C, O ++ [i], hm) = .ok (mkS T L (i, E, c, lp, b, k, C, O, hm) (nd 16 (i + 1) 0 b1.1 nl) b1.2.1 b1.2.2) := by
              unfold fLt mkS
              simp only [bnd, fTk, fEx, fBl, fAd, fMk, fAm, fLp, fSc, fHm, sI, sE, sc, sl, sb, sK, sC, sO, sh, e2, e3]
              have ec : cmS T L (nd 16 (i + 1) 0 b1.1 nl) E C.length lp hm = (22, tVl T L (tAt T L (i + 1)), (lp : Int), hm) :: (23, ((C.length + 2 + nK b1.1 + 1 : Nat) : Int), (lp : Int), hm) :: (cmS T L b1.1 E (C.length + 2) (lp + 1) hm ++ [(21, ((C.length + 1 : Nat) : Int), 0, hm)]) := rfl
              have ej : jS T L (nd 16 (i + 1) 0 b1.1 nl) E = jS T L b1.1 E := rfl
              have eo : oP (kdT T L) (nd 16 (i + 1) 0 b1.1 nl) = (i + 1 - 1) :: (i + 1) :: oP (kdT T L) b1.1 := rfl
              rw [ec, ej, eo, eSt_n (by decide)]
              simp
            rw [this] at hR'
            simp only [bnd, e3]; exact hR'
  refine st_sees (c := 3) hR1 ⟨fun c => hgo (fun s1 h1 z => ?_) w1 rfl, fun c => Cal.ofV (by decide) rfl (Nat.le_of_ble_eq_true rfl) (s_Cu_here ?_)⟩
  · rw [h1] at c
    have z' : kS T L (iS (.ok s1)) = 3 := z.1
    rw [if_pos z'] at c
    exact absurd c (by decide)
  · obtain ⟨i, hi, hi2, -⟩ := hR1.cs.kd hR1.1.1
    rw [hi]
    refine ⟨by omega, ?_⟩
    rw [toN]
    have hval : ∀ s1, bnd ρ (fTk (kdT T L) 50) = .ok s1 → kdT T L (sI s1) = 3 ∧ i = sI s1 ∧ w1 7 i = vlT T L (sI s1) := by
      intro s1 h1
      have hk : kdT T L (sI s1) = 3 := by
        rw [h1] at c
        by_cases z : kS T L (iS (.ok s1)) = 3
        · exact z
        · rw [if_neg z] at c; exact absurd rfl c
      have hR1' := hR1
      rw [h1] at hR1'
      have hc := hR1'.2.2.1
      have hii : i = sI s1 := by have := hc.1; rw [hi] at this; omega
      refine ⟨hk, hii, ?_⟩
      rw [hii]
      exact (hR1'.1.1.sz (kdT_lt hc.2.2.1 hc.2.2.2 (by omega))).2.2
    refine ⟨fun c2 => hgo (fun s1 h1 z => ?_) w1 rfl, fun c2 => st_stop (f := 2) (by decide) hR1 (fun w2 hF2 hR2 _ => ?_)⟩
    · obtain ⟨-, -, hv⟩ := hval s1 h1
      rw [hv] at c2
      omega
    · refine loop_tail hd hB hR2 (fun s2 h2 => ?_) (fun w' hF hR' => h w' ((FxS.e (hF1.tr hF2)).tr hF) ?_)
      · cases h3 : bnd ρ (fTk (kdT T L) 50) with
        | error e => rw [h3] at h2; cases h2
        | ok s1 => rw [h3] at h2; cases h2
      · cases ρ with
        | error e => exact hR'
        | ok s =>
          obtain ⟨i', E, c', lp, b, k, C, O, hm⟩ := s
          show RdS T L w' (bnd (pLoop (kdT T L) (vlT T L) (pBk (kdT T L) (vlT T L) n) c' (cntE 4 E) i') (fun q => .ok (mkS T L (i', E, c', lp, b, k, C, O, hm) q.1 q.2.1 q.2.2.1)))
          unfold pLoop
          cases e1 : ex (kdT T L) 50 i' with
          | error e => simp only [bnd, fTk, fEx, fBl, fAd, fMk, fAm, fLp, fSc, fHm, sI, sE, sc, sl, sb, sK, sC, sO, sh, fSp, e1] at hR' ⊢; exact hR'
          | ok i1 =>
            obtain ⟨-, rfl, -⟩ := ex_ok e1
            obtain ⟨hk, hii, hv⟩ := hval (i' + 1, E, c', lp, b, k, C, O ++ [i'], hm) (by simp only [bnd, fTk, fEx, fBl, fAd, fMk, fAm, fLp, fSc, fHm, sI, sE, sc, sl, sb, sK, sC, sO, sh, e1])
            have hbig : kdT T L (i' + 1) = 3 ∧ 100 < vlT T L (i' + 1) := by
              refine ⟨hk, ?_⟩
              rw [hv] at c2
              have c2' : ¬ vlT T L (i' + 1) ≤ 100 := c2
              omega
            rw [bnd_ok', if_pos hbig]
            simp only [bnd, fTk, fEx, fBl, fAd, fMk, fAm, fLp, fSc, fHm, sI, sE, sc, sl, sb, sK, sC, sO, sh, fSp, e1] at hR' ⊢
            exact hR'
end StLoop
