/-! ===== the class reads statements: set, let, send, halt ===== -/
section StSimple2
variable {g : Mg} {d D : Nat} {K : Ou → Wd → Prop} {w : Wd} {T : Nat → Int} {L : Nat} {ρ : PE ST}
theorem eKi_0 (e : Option En) : 0 ≤ eKi e := by cases e <;> simp [eKi]
theorem nmK_0 (e : Option En) : 0 ≤ nmK e := by unfold nmK; split <;> simp [eKi_0]
theorem knT_0 {E : List En} {b : Bool} : ∀ a : Tr, 0 ≤ knT T L E b a
  | .leaf => by simp [knT]
  | .inner c t q l r => by
    have hl := knT_0 (E := E) (b := b) l
    have hr := knT_0 (E := E) (b := b) r
    have hn := nmK_0 (fnd T L E t)
    simp only [knT]
    repeat' split
    all_goals omega
/-- in a send or not -/
def fSn (b : Bool) (s : ST) : PE ST := .ok (sI s, sE s, sc s, sl s, b, sK s, sC s, sO s, sh s)
theorem RdS.sn {b : Bool} (hR : RdS T L w ρ) : RdS T L (up w 26 4 (bI b)) (bnd ρ (fSn b)) := by
  have hf : Fx [26] w (up w 26 4 (bI b)) := (Fx.rf _ w).up (by decide)
  refine ⟨hR.1.fx hf (by decide) (by decide) (by decide) (by decide) (by decide) (by decide) (by decide) (by decide) (by decide) (hR.1.2.2.1.fx hf (by decide)) (hR.1.2.2.2.fx hf (by decide)), by rw [up_s]; cases b <;> simp [bI], ?_⟩
  cases ρ with
  | error e => exact CS.fx (σ := .error e) hR.2.2 hf (by decide)
  | ok s =>
    obtain ⟨o1, o2, o3, o4, o5, o6, o7, o8, o9, o10⟩ := hR.2.2
    exact ⟨CS.fx (σ := .ok (sI s)) o1 hf (by decide), o2.fx hf (by decide) (by decide) (by decide) (by decide) (by decide), o3.fx hf (by decide), by rw [hf 8 (by decide)]; exact o4, by rw [hf 24 (by decide)]; exact o5, up_s _ _ _ _, o7.same (hf 25 (by decide)), o8.fx hf (by decide) (by decide) (by decide) (by decide) (by decide), o9.congr (fun x _ _ => by rw [hf 30 (by decide)]), fun x hx => by rw [hf 30 (by decide)]; exact o10 x hx⟩
theorem st_halt (hd : 150 ≤ d) (hR : RdS T L w ρ) (hp : ∀ s, ρ = .ok s → (sC s).length ≤ sI s + 1) (h : ∀ w', Fx FEl w w' → RdS T L w' (bnd ρ (fP T L (pHalt (kdT T L)))) → K (.inl none) w') : Cal g LC jRe_readHalt (d + 1) [vA 24] w K := by
  refine Cal.ofV (by decide) rfl (Nat.le_of_ble_eq_true rfl) (s_Re_readHalt (st_take (c := 51) (by omega) hR (by decide) (fun w1 x1 hF1 hx1 hxi1 hR1 _ => st_take (c := 4) (by omega) hR1 (by decide) (fun w2 x2 hF2 hx2 hxi2 hR2 _ => st_add hR2 ?_ (fun w3 x3 hF3 hx3 hxi3 hR3 _ => h w3 ((hF1.tr hF2).tr hF3) ?_)))))
  · intro s2 h2
    cases ρ with
    | error e => cases h2
    | ok s =>
      obtain ⟨s1, a1, a2⟩ := bnd_ok h2
      obtain ⟨-, rfl⟩ := fTk_ok a1
      obtain ⟨a3, rfl⟩ := fTk_ok a2
      have := hp s rfl
      have := (ex_ok a3).2.2
      show (sC s).length < 1024
      simp only [sI] at *
      omega
  · cases ρ with
    | error e => exact hR3
    | ok s =>
      obtain ⟨i, E, c, lp, b, k, C, O, hm⟩ := s
      show RdS T L w3 (bnd (pHalt (kdT T L) c (cntE 4 E) i) (fun q => .ok (mkS T L (i, E, c, lp, b, k, C, O, hm) q.1 q.2.1 q.2.2.1)))
      unfold pHalt
      cases e1 : ex (kdT T L) 51 i with
      | error e => simp only [bnd, fTk, fNE, fNN, fEx, fBl, fAd, fLa, fSn, fMk, fAm, sI, sE, sc, sl, sb, sK, sC, sO, sh, e1] at hR3 ⊢; exact hR3
      | ok i1 =>
        obtain ⟨-, rfl, -⟩ := ex_ok e1
        cases e2 : ex (kdT T L) 4 (i + 1) with
        | error e => simp only [bnd, fTk, fNE, fNN, fEx, fBl, fAd, fLa, fSn, fMk, fAm, sI, sE, sc, sl, sb, sK, sC, sO, sh, e1, e2] at hR3 ⊢; exact hR3
        | ok i2 =>
          obtain ⟨-, rfl, -⟩ := ex_ok e2
          simp only [bnd, fTk, fNE, fNN, fEx, fBl, fAd, fLa, fSn, fMk, fAm, sI, sE, sc, sl, sb, sK, sC, sO, sh, e1, e2] at hR3 ⊢
          have hk := hR3.2.2.2.2.2.2.2.2.1.big
          have e : mkS T L (i, E, c, lp, b, k, C, O, hm) (nd 17 i 0 nl nl) (i + 1 + 1) c = (i + 1 + 1, E, c, lp, b, k, C ++ [(30, 0, 0, hm)], O ++ [i] ++ [i + 1], hm) := by
            unfold mkS
            simp only [sI, sE, sc, sl, sb, sK, sC, sO, sh] at hk ⊢
            simp [eSt, jS, cmS, oP, hk]
          rw [e]
          exact hR3
theorem st_let {n within : Nat} (hd : 150 ≤ d) (hw : within + n = 13) (hR : RdS T L w ρ) (hp : ∀ s, ρ = .ok s → sb s = false ∧ (sC s).length ≤ sI s + 1) (h : ∀ w', FxS w w' → RdS T L w' (bnd ρ (fP T L (pLet (kdT T L) n))) → K (.inl none) w') : Cal g LC jRe_readLet (d + 1) [vA 24, vI (within : Int)] w K := by
  have hnT := nTk_le (T := T) (L := L)
  refine Cal.ofV (by decide) rfl (Nat.le_of_ble_eq_true rfl) (s_Re_readLet (st_take (c := 43) (by omega) hR (by decide) (fun w1 x1 hF1 hx1 hxi1 hR1 _ => st_newName (so := 4) (by omega) hR1 (by decide) (fun w2 x2 hF2 hx2 hxi2 hR2 _ => st_take (c := 12) (by omega) hR2 (by decide) (fun w3 x3 hF3 hx3 hxi3 hR3 _ => st_exp (by omega) hw hR3 ?_ (fun w4 x hF4 hx hxe hR4 => st_take (c := 4) (by omega) hR4 (by decide) (fun w5 x5 hF5 hx5 hxi5 hR5 h275 => Cal.ofV (by decide) rfl (Nat.le_of_ble_eq_true rfl) (s_Ex_kindOf ⟨by omega, ?_⟩))))))))
  · intro s3 h3
    cases ρ with
    | error e => cases h3
    | ok s =>
      obtain ⟨s2, a1, a2⟩ := bnd_ok h3
      obtain ⟨s1, a3, a4⟩ := bnd_ok a1
      obtain ⟨-, rfl⟩ := fTk_ok a3
      unfold fNN at a4
      obtain ⟨j, hj, a4⟩ := bnd_ok a4
      obtain ⟨-, rfl, -⟩ := pNm_ok hj
      cases a4
      obtain ⟨-, rfl⟩ := fTk_ok a2
      have := (hp s rfl).2
      show (sC s).length ≤ sI s + 1 + 1 + 1
      omega
  · rw [toN, h275]
    have hpath : ∀ s5, bnd (bnd (bnd (bnd (bnd ρ (fTk (kdT T L) 43)) (fNN T L 4)) (fTk (kdT T L) 12)) (fEx T L n)) (fTk (kdT T L) 4) = .ok s5 → ∃ s q, ρ = .ok s ∧ pE (kdT T L) n (sI s + 1 + 1 + 1) = .ok q ∧ x2 = sI s + 1 ∧ w4 27 x = knT T L (sE s) (sb s) q.1 ∧ sE s5 = sE s ∧ sC s5 = sC s ++ hX T L (sE s) q.1 (sC s).length (sh s) ∧ kdT T L (sI s + 1) = 2 ∧ sI s + 1 < 1000 ∧ cntE 4 (sE s) < 8 ∧ sI s + 1 < nTk T L := by
      intro s5 h5
      cases ρ with
      | error e => cases h5
      | ok s =>
        obtain ⟨s4, a1, a2⟩ := bnd_ok h5
        obtain ⟨s3, a3, a4⟩ := bnd_ok a1
        obtain ⟨s2, a5, a6⟩ := bnd_ok a3
        obtain ⟨s1, a7, a8⟩ := bnd_ok a5
        have hC1 := hR1.cs
        rw [a7] at hC1
        obtain ⟨-, rfl⟩ := fTk_ok a7
        have hx2e := hxi2 _ a7 _ a8
        unfold fNN at a8
        obtain ⟨j, hj, a8⟩ := bnd_ok a8
        obtain ⟨k1, rfl, k2, k3⟩ := pNm_ok hj
        cases a8
        obtain ⟨-, rfl⟩ := fTk_ok a6
        obtain ⟨q, hq, hg, rfl⟩ := fEx_ok a4
        obtain ⟨-, hkn⟩ := hxe _ a3 q hq
        obtain ⟨-, rfl⟩ := fTk_ok a2
        have k3' : ¬ (8 : Int) ≤ ((cntE 4 (sE s) : Nat) : Int) := k3
        refine ⟨s, q, rfl, hq, hx2e, hkn, rfl, rfl, k1, ?_, by omega, kdT_lt hC1.2.2.1 hC1.2.2.2 ?_⟩
        · have k2' : ¬ 1000 ≤ sI s + 1 := k2
          omega
        · have k1' : kdT T L (sI s + 1) = 2 := k1
          show kdT T L (sI s + 1) ≠ 0
          omega
    refine st_lotAdd (so := 4) (by omega) hR5 (by decide) hx2 (fun s5 h5 => ?_) (fun w6 y hF6 hy hR6 _ => st_add hR6 ?_ (fun w7 x7 hF7 hx7 hxi7 hR7 _ => h w7 ((FxS.e ((((hF1.tr hF2).tr hF3).tr hF4).tr hF5)).tr (hF6.tr (FxS.e hF7))) ?_))
    · obtain ⟨s, q, -, hq, hxs, hkn, hEs, hCs, k1, k2, k3, k4⟩ := hpath s5 h5
      rw [hEs, hkn, hxs]
      refine ⟨?_, k4, k2, knT_0 _⟩
      simp [mostL]; omega
    · intro s6 h6
      obtain ⟨s5, a1, a2⟩ := bnd_ok h6
      obtain ⟨s, q, hs, hq, hxs, hkn, hEs, hCs, k1, k2, k3, k4⟩ := hpath s5 a1
      cases a2
      have hg := pE_gw hq
      have hl := hX_len (T := T) (L := L) (E := sE s) (a := q.1) (s := (sC s).length) (h := sh s) hg.2.1
      have g1 : sI s + 1 + 1 + 1 < q.2 := hg.1.2.1
      have g2 : q.2 ≤ 1000 := hg.1.2.2.1
      have g3 : nD q.1 ≤ q.2 - (sI s + 1 + 1 + 1) := hg.1.2.2.2
      have := (hp s hs).2
      show (sC s5).length < 1024
      rw [hCs, List.length_append, hl]
      omega
    · cases ρ with
      | error e => exact hR7
      | ok s =>
        obtain ⟨i, E, c, lp, b, k, C, O, hm⟩ := s
        have hb : b = false := (hp _ rfl).1
        subst hb
        show RdS T L w7 (bnd (pLet (kdT T L) n c (cntE 4 E) i) (fun q => .ok (mkS T L (i, E, c, lp, false, k, C, O, hm) q.1 q.2.1 q.2.2.1)))
        have hfull : (mostL.getD 4 0 ≤ ((cntE 4 E : Nat) : Int)) ↔ 8 ≤ cntE 4 E := by simp [mostL]; omega
        have hnm : ∀ i1, pNm (kdT T L) (mostL.getD 4 0 ≤ ((cntE 4 E : Nat) : Int)) i1 = pNm (kdT T L) (8 ≤ cntE 4 E) i1 := by
          intro i1
          unfold pNm
          by_cases z : 8 ≤ cntE 4 E
          · by_cases z2 : kdT T L i1 = 2
            · rw [if_pos ⟨z2, hfull.mpr z⟩, if_pos ⟨z2, z⟩]
            · rw [if_neg (fun q => z2 q.1), if_neg (fun q => z2 q.1)]
          · rw [if_neg (fun q => z (hfull.mp q.2)), if_neg (fun q => z q.2)]
        unfold pLet
        cases e1 : ex (kdT T L) 43 i with
        | error e => simp only [bnd, fTk, fNE, fNN, fEx, fBl, fAd, fLa, fSn, fMk, fAm, sI, sE, sc, sl, sb, sK, sC, sO, sh, e1] at hR7 ⊢; exact hR7
        | ok i1 =>
          obtain ⟨-, rfl, -⟩ := ex_ok e1
          cases e2 : pNm (kdT T L) (8 ≤ cntE 4 E) (i + 1) with
          | error e => simp only [bnd, fTk, fNE, fNN, fEx, fBl, fAd, fLa, fSn, fMk, fAm, sI, sE, sc, sl, sb, sK, sC, sO, sh, e1, hnm, e2] at hR7 ⊢; exact hR7
          | ok i2 =>
            obtain ⟨-, rfl, -, -⟩ := pNm_ok e2
            cases e3 : ex (kdT T L) 12 (i + 1 + 1) with
            | error e => simp only [bnd, fTk, fNE, fNN, fEx, fBl, fAd, fLa, fSn, fMk, fAm, sI, sE, sc, sl, sb, sK, sC, sO, sh, e1, hnm, e2, e3] at hR7 ⊢; exact hR7
            | ok i3 =>
              obtain ⟨-, rfl, -⟩ := ex_ok e3
              cases e4 : pE (kdT T L) n (i + 1 + 1 + 1) with
              | error e => simp only [bnd, fTk, fNE, fNN, fEx, fBl, fAd, fLa, fSn, fMk, fAm, sI, sE, sc, sl, sb, sK, sC, sO, sh, e1, hnm, e2, e3, e4] at hR7 ⊢; exact hR7
              | ok q =>
                cases e5 : ex (kdT T L) 4 q.2 with
                | error e => simp only [bnd, fTk, fNE, fNN, fEx, fBl, fAd, fLa, fSn, fMk, fAm, sI, sE, sc, sl, sb, sK, sC, sO, sh, e1, hnm, e2, e3, e4, e5] at hR7 ⊢; exact hR7
                | ok j =>
                  obtain ⟨-, rfl, -⟩ := ex_ok e5
                  have t5 : bnd (bnd (bnd (bnd (bnd (.ok ((i, E, c, lp, false, k, C, O, hm) : ST)) (fTk (kdT T L) 43)) (fNN T L 4)) (fTk (kdT T L) 12)) (fEx T L n)) (fTk (kdT T L) 4) = .ok (q.2 + 1, E, c, lp, false, min (min k (if fnd T L E (i + 1) = none then 100000 else tAt T L (i + 1) * 8 + 3)) (jkT T L E false q.1), C ++ hX T L E q.1 C.length hm, O ++ [i] ++ [i + 1] ++ [i + 1 + 1] ++ oS (kdT T L) q.1 1 ++ [q.2], hm) := by
                    simp only [bnd, fTk, fNE, fNN, fEx, fBl, fAd, fLa, fSn, fMk, fAm, sI, sE, sc, sl, sb, sK, sC, sO, sh, e1, hnm, e2, e3, e4, e5]
                  obtain ⟨s', q', hs', hq', hxs, hkn, hEs, hCs, k1, k2, k3, k4⟩ := hpath _ t5
                  cases hs'
                  have hqq : q' = q := by have z : pE (kdT T L) n (i + 1 + 1 + 1) = .ok q' := hq'; rw [e4] at z; cases z; rfl
                  subst hqq
                  have hy' : y = ((cntE 4 E : Nat) : Int) := hy _ t5
                  have hxs' : x2 = i + 1 := hxs
                  have hkn' : w4 27 x = knT T L E false q'.1 := hkn
                  rw [t5, hy', hxs', hkn'] at hR7
                  simp only [bnd, fTk, fNE, fNN, fEx, fBl, fAd, fLa, fSn, fMk, fAm, sI, sE, sc, sl, sb, sK, sC, sO, sh, e1, e2, e3, e4, e5] at hR7 ⊢
                  have e : mkS T L (i, E, c, lp, false, k, C, O, hm) (nd 12 (i + 1) q'.2 q'.1 nl) (q'.2 + 1) c = (q'.2 + 1, E ++ [(i + 1, 4, cntE 4 E, (knT T L E false q'.1).toNat)], c, lp, false, min (min k (if fnd T L E (i + 1) = none then 100000 else tAt T L (i + 1) * 8 + 3)) (jkT T L E false q'.1), C ++ hX T L E q'.1 C.length hm ++ [(27, ((cntE 4 E : Nat) : Int), 0, hm)], O ++ [i] ++ [i + 1] ++ [i + 1 + 1] ++ oS (kdT T L) q'.1 1 ++ [q'.2], hm) := by
                    unfold mkS
                    simp only [sI, sE, sc, sl, sb, sK, sC, sO, sh]
                    rw [cS12, jS12, oP12]
                    simp [eSt, Nat.min_assoc]
                  rw [e]
                  exact hR7
end StSimple2
