/-! ===== the class reads statements: set, send ===== -/
section StSimple3
variable {g : Mg} {d D : Nat} {K : Ou → Wd → Prop} {w : Wd} {T : Nat → Int} {L : Nat} {ρ : PE ST}
theorem st_set {n within : Nat} (hd : 150 ≤ d) (hw : within + n = 13) (hR : RdS T L w ρ) (hp : ∀ s, ρ = .ok s → sb s = false ∧ (sC s).length ≤ sI s + 1) (h : ∀ w', Fx FEl w w' → RdS T L w' (bnd ρ (fP T L (pSet (kdT T L) n))) → K (.inl none) w') : Cal g LC jRe_readSetting (d + 1) [vA 24, vI (within : Int)] w K := by
  have hnT := nTk_le (T := T) (L := L)
  refine Cal.ofV (by decide) rfl (Nat.le_of_ble_eq_true rfl) (s_Re_readSetting (st_take (c := 2) (by omega) hR (by decide) (fun w1 x1 hF1 hx1 hxi1 hR1 _ => sp_find (by omega) hR1.1 hx1 (fun f hf1 hf2 hf3 => sp_sortOf hR1.1 hf1 hf2 (fun so hs1 hs2 hs3 => ?_)))))
  have hlk : ∀ s, ρ = .ok s → ∀ s1, fTk (kdT T L) 2 s = .ok s1 → lkE (sE s) f = fnd T L (sE s) (sI s) ∧ so = eSo (fnd T L (sE s) (sI s)) ∧ sI s < 1000 ∧ x1 = sI s ∧ EC T L w1 (sE s) := by
    intro s hs s1 hs1
    subst hs
    have hR1' := hR1
    have t1 : bnd (.ok s) (fTk (kdT T L) 2) = .ok s1 := hs1
    rw [t1] at hR1'
    obtain ⟨a1, rfl⟩ := fTk_ok hs1
    obtain ⟨k1, -, k2⟩ := ex_ok a1
    have hE1 : EC T L w1 (sE s) := hR1'.2.2.2.1
    have hc := hR.2.2.1
    have hxs := hxi1 s rfl
    subst hxs
    have hl := hf3 _ hE1 (kdT_lt hc.2.2.1 hc.2.2.2 (by omega))
    have hl2 : lkE (sE s) f = fnd T L (sE s) (sI s) := by rw [hl, lk_fnd]
    exact ⟨hl2, by rw [hs3 _ hE1, hl2], by omega, rfl, hE1⟩
  -- from the demand on
  have hend : ∀ (v : Nat) (w3 w0 : Wd) (x : Nat) (kk : Int), Fx FEl w1 w3 → x ≤ nTk T L → RdS T L w3 (bnd (bnd (bnd (bnd ρ (fTk (kdT T L) 2)) (fBl v)) (fTk (kdT T L) 12)) (fEx T L n)) → (∀ s2, bnd (bnd (bnd ρ (fTk (kdT T L) 2)) (fBl v)) (fTk (kdT T L) 12) = .ok s2 → ∀ q, pE (kdT T L) n (sI s2) = .ok q → x = sI s2 ∧ w3 27 x = knT T L (sE s2) (sb s2) q.1) → (v = if so = 1 ∨ so = 4 then 100000 else tAt T L x1 * 8 + 4) → (∀ E, EC T L w3 E → kk = if so = 1 ∨ so = 4 then eKi (lkE E f) else 0) → Cal g LC jEx_demand d [vA 26, vI (x : Int), vI kk] w3 (fun o w13 => rV o (Cal g LC jCu_take d [vA 25, vI 4] w13 (fun o w14 => rI o (fun x15 => (¬ so = 4 → (Cal g LC jLo_numberOf d [vA 13, vI f] w14 (fun o w16 => rI o (fun x17 => Cal g LC jCo_add d [vA 19, vI 26, vI x17, vI 0] w16 (fun o w18 => rI o (fun x19 => K (.inl none) w18)))))) ∧ (so = 4 → (Cal g LC jLo_numberOf d [vA 13, vI f] w14 (fun o w20 => rI o (fun x21 => Cal g LC jCo_add d [vA 19, vI 27, vI x21, vI 0] w20 (fun o w22 => rI o (fun x23 => K (.inl none) w22)))))))))) := by
    intro v w3 w0 x kk hF3 hx hR3 hxe hv hkk
    refine st_demand (by omega) hR3 hx (fun s3 h3 => ?_) (fun w4 hF4 hR4 _ => st_take (c := 4) (by omega) hR4 (by decide) (fun w5 x5 hF5 hx5 hxi5 hR5 _ => ?_))
    · obtain ⟨s2, a1, a2⟩ := bnd_ok h3
      obtain ⟨q, hq, hg, -⟩ := fEx_ok a2
      obtain ⟨hxs, -⟩ := hxe s2 a1 q hq
      have := hg.1.2.1
      have := hg.1.2.2.1
      omega
    · have h13' : w5 13 = w1 13 := by rw [hF5 13 (by decide), hF4 13 (by decide), hF3 13 (by decide)]
      have hadd : ∀ dd : Int, (dd = if so = 4 then 27 else 26) → Cal g LC jLo_numberOf d [vA 13, vI f] w5 (fun o w16 => rI o (fun x17 => Cal g LC jCo_add d [vA 19, vI dd, vI x17, vI 0] w16 (fun o w18 => rI o (fun x19 => K (.inl none) w18)))) := by
        intro dd hdd
        refine sp_numberOf hR5.1 hf1 (by rw [h13']; exact hf2) (fun nu hnu => st_add hR5 ?_ (fun w6 x6 hF6 hx6 hxi6 hR6 _ => h w6 ((((hF1.tr hF3).tr hF4).tr hF5).tr hF6) ?_))
        · intro s5 h5
          cases ρ with
          | error e => cases h5
          | ok s =>
            obtain ⟨s4, a1, a2⟩ := bnd_ok h5
            obtain ⟨s3, a3, a4⟩ := bnd_ok a1
            obtain ⟨s2, a5, a6⟩ := bnd_ok a3
            obtain ⟨s1', a7, a8⟩ := bnd_ok a5
            obtain ⟨s1, a9, a10⟩ := bnd_ok a7
            obtain ⟨-, rfl⟩ := fTk_ok a9
            cases a10
            obtain ⟨-, rfl⟩ := fTk_ok a8
            obtain ⟨q, hq, hg, rfl⟩ := fEx_ok a6
            cases a4
            obtain ⟨-, rfl⟩ := fTk_ok a2
            have := (hp s rfl).2
            have hl := hX_len (T := T) (L := L) (E := sE s) (a := q.1) (s := (sC s).length) (h := sh s) hg.2.1
            have g1 : sI s + 1 + 1 < q.2 := hg.1.2.1
            have g2 : q.2 ≤ 1000 := hg.1.2.2.1
            have g3 : nD q.1 ≤ q.2 - (sI s + 1 + 1) := hg.1.2.2.2
            show (sC s ++ hX T L (sE s) q.1 (sC s).length (sh s)).length < 1024
            rw [List.length_append, hl]
            omega
        · cases ρ with
          | error e => exact hR6
          | ok s =>
            obtain ⟨i, E, c, lp, b, k, C, O, hm⟩ := s
            have hb : b = false := (hp _ rfl).1
            subst hb
            show RdS T L w6 (bnd (pSet (kdT T L) n c (cntE 4 E) i) (fun q => .ok (mkS T L (i, E, c, lp, false, k, C, O, hm) q.1 q.2.1 q.2.2.1)))
            unfold pSet
            cases e1 : ex (kdT T L) 2 i with
            | error e => simp only [bnd, fTk, fNE, fNN, fEx, fBl, fAd, fLa, fSn, fMk, fAm, sI, sE, sc, sl, sb, sK, sC, sO, sh, e1] at hR6 ⊢; exact hR6
            | ok i1 =>
              obtain ⟨-, rfl, -⟩ := ex_ok e1
              obtain ⟨l1, l2, l3, l4, l5⟩ := hlk _ rfl (i + 1, E, c, lp, false, k, C, O ++ [i], hm) (by simp only [bnd, fTk, fNE, fNN, fEx, fBl, fAd, fLa, fSn, fMk, fAm, sI, sE, sc, sl, sb, sK, sC, sO, sh, e1])
              simp only [sE, sI] at l1 l2 l3 l4 l5
              cases e2 : ex (kdT T L) 12 (i + 1) with
              | error e => simp only [bnd, fTk, fNE, fNN, fEx, fBl, fAd, fLa, fSn, fMk, fAm, sI, sE, sc, sl, sb, sK, sC, sO, sh, e1, e2] at hR6 ⊢; exact hR6
              | ok i2 =>
                obtain ⟨-, rfl, -⟩ := ex_ok e2
                cases e3 : pE (kdT T L) n (i + 1 + 1) with
                | error e => simp only [bnd, fTk, fNE, fNN, fEx, fBl, fAd, fLa, fSn, fMk, fAm, sI, sE, sc, sl, sb, sK, sC, sO, sh, e1, e2, e3] at hR6 ⊢; exact hR6
                | ok q =>
                  simp only [bnd, fTk, fNE, fNN, fEx, fBl, fAd, fLa, fSn, fMk, fAm, sI, sE, sc, sl, sb, sK, sC, sO, sh, e1, e2, e3] at hR6 hR3 hR5 hxe
                  obtain ⟨rfl, hk27⟩ := hxe _ rfl q e3
                  have hEa : EC T L w3 E := l5.fx hF3 (by decide) (by decide) (by decide) (by decide) (by decide)
                  have hEb : EC T L w5 E := hEa.fx (hF4.tr hF5) (by decide) (by decide) (by decide) (by decide) (by decide)
                  have hkk' := hkk _ hEa
                  have hnu' := hnu _ hEb
                  rw [l1] at hkk' hnu'
                  rw [l2] at hkk' hdd hv
                  rw [l4] at hv
                  have hg := pE_gw e3
                  rw [hk27, hkk', hnu', hv, hdd] at hR6
                  cases e4 : ex (kdT T L) 4 q.2 with
                  | error e => simp only [bnd, fTk, fNE, fNN, fEx, fBl, fAd, fLa, fSn, fMk, fAm, sI, sE, sc, sl, sb, sK, sC, sO, sh, e1, e2, e3, e4] at hR6 ⊢; exact hR6
                  | ok j =>
                    simp only [bnd, fTk, fNE, fNN, fEx, fBl, fAd, fLa, fSn, fMk, fAm, sI, sE, sc, sl, sb, sK, sC, sO, sh, e1, e2, e3, e4] at hR6 ⊢
                    have e : mkS T L (i, E, c, lp, false, k, C, O, hm) (nd 11 i q.2 q.1 nl) j c = (j, E, c, lp, false, min (min (min k (if eSo (fnd T L E i) = 1 ∨ eSo (fnd T L E i) = 4 then 100000 else tAt T L i * 8 + 4)) (jkT T L E false q.1)) (dm T L (knT T L E false q.1) (if eSo (fnd T L E i) = 1 ∨ eSo (fnd T L E i) = 4 then eKi (fnd T L E i) else 0) (i + 1 + 1)), C ++ hX T L E q.1 C.length hm ++ [((if eSo (fnd T L E i) = 4 then 27 else 26), eNu (fnd T L E i), 0, hm)], O ++ [i] ++ [i + 1] ++ oS (kdT T L) q.1 1 ++ [q.2], hm) := by
                      unfold mkS
                      simp only [sI, sE, sc, sl, sb, sK, sC, sO, sh]
                      rw [cS11, jS11, oP11, hg.1.1]
                      simp [eSt, Nat.min_assoc]
                    rw [e]
                    exact hR6
      exact ⟨fun z => hadd 26 (by rw [if_neg z]), fun z => hadd 27 (by rw [if_pos z])⟩
  have hlen : ∀ v, ∀ s2, bnd (bnd (bnd ρ (fTk (kdT T L) 2)) (fBl v)) (fTk (kdT T L) 12) = .ok s2 → (sC s2).length ≤ sI s2 := by
    intro v s2 h2
    cases ρ with
    | error e => cases h2
    | ok s =>
      obtain ⟨s1', a7, a8⟩ := bnd_ok h2
      obtain ⟨s1, a9, a10⟩ := bnd_ok a7
      obtain ⟨-, rfl⟩ := fTk_ok a9
      cases a10
      obtain ⟨-, rfl⟩ := fTk_ok a8
      have := (hp s rfl).2
      show (sC s).length ≤ sI s + 1 + 1
      omega
  have hA : (so = 1 ∨ so = 4) → Cal g LC jCu_take d [vA 25, vI 12] w1 (fun o w7 => rI o (fun x8 => Cal g LC jEx_exp d [vA 26, vI (within : Int)] w7 (fun o w9 => rI o (fun x10 => Cal g LC jLo_kindOf d [vA 13, vI f] w9 (fun o w11 => rI o (fun x12 => Cal g LC jEx_demand d [vA 26, vI x10, vI x12] w11 (fun o w13 => rV o (Cal g LC jCu_take d [vA 25, vI 4] w13 (fun o w14 => rI o (fun x15 => (¬ so = 4 → (Cal g LC jLo_numberOf d [vA 13, vI f] w14 (fun o w16 => rI o (fun x17 => Cal g LC jCo_add d [vA 19, vI 26, vI x17, vI 0] w16 (fun o w18 => rI o (fun x19 => K (.inl none) w18)))))) ∧ (so = 4 → (Cal g LC jLo_numberOf d [vA 13, vI f] w14 (fun o w20 => rI o (fun x21 => Cal g LC jCo_add d [vA 19, vI 27, vI x21, vI 0] w20 (fun o w22 => rI o (fun x23 => K (.inl none) w22)))))))))))))))) := by
    intro hso
    refine st_take (c := 12) (by omega) hR1.b0 (by decide) (fun w2 x2 hF2 hx2 hxi2 hR2 _ => st_exp (by omega) hw hR2 (hlen _) (fun w3 x hF3 hx hxe hR3 => sp_kindOf hR3.1 hf1 (by rw [hF3 13 (by decide), hF2 13 (by decide)]; exact hf2) (fun kk hkk => hend 100000 w3 w3 x kk (hF2.tr hF3) hx hR3 hxe (by rw [if_pos hso]) (fun E hE => by rw [if_pos hso]; exact hkk E hE))))
  refine ⟨fun c => hA (Or.inl c), fun c => ⟨fun c2 => st_blame (f := 4) hR1 (by decide) hx1 (fun s1 hs1 => ?_) (fun w1' hF1' hR1' _ => st_take (c := 12) (by omega) hR1' (by decide) (fun w2 x2 hF2 hx2 hxi2 hR2 _ => st_exp (by omega) hw hR2 (hlen _) (fun w3 x hF3 hx hxe hR3 => hend (tAt T L x1 * 8 + 4) w3 w3 x 0 ((hF1'.tr hF2).tr hF3) hx hR3 hxe (by rw [if_neg (by omega)]) (fun E hE => by rw [if_neg (by omega)])))), fun c2 => hA (Or.inr c2)⟩⟩
  cases ρ with
  | error e => cases hs1
  | ok s =>
    have hs1' : fTk (kdT T L) 2 s = .ok s1 := hs1
    obtain ⟨-, -, l3, l4, -⟩ := hlk s rfl s1 hs1'
    omega
/-- the last four steps of a send -/
theorem send_end {y : Int} {p nu0 : Nat} {m : Int} (hd : 150 ≤ d) (hp4 : p ≤ 1024) (hy1 : -1 ≤ y) (hy2 : y < w 13 6) (hR : RdS T L w ρ) (hl : ∀ s, ρ = .ok s → p < (sC s).length ∧ (sC s).length + 2 < 1024) (h : ∀ w' nu, Fx FEl w w' → (∀ s, ρ = .ok s → nu = eNu (lkE (sE s) y)) → RdS T L w' (bnd (bnd (bnd (bnd ρ (fMk p m)) (fAd 28 nu 0)) (fAd 25 ((p + 1 : Nat) : Int) 0)) (fAm p)) → K (.inl none) w') : Cal g LC jCo_mark d [vA 19, vI (p : Int), vI m] w (fun o w18 => rV o (Cal g LC jLo_numberOf d [vA 13, vI y] w18 (fun o w19 => rI o (fun x20 => Cal g LC jCo_add d [vA 19, vI 28, vI x20, vI 0] w19 (fun o w21 => rI o (fun x22 => Cal g LC jCo_add d [vA 19, vI 25, vI (wr ((p : Int) + 1)), vI 0] w21 (fun o w23 => rI o (fun x24 => Cal g LC jCo_aimHere d [vA 19, vI (p : Int)] w23 (fun o w25 => rV o (K (.inl none) w25)))))))))) := by
  rw [wr_n1 (by omega)]
  refine st_mark hp4 hR (fun s hs => ⟨(hl s hs).1, by have := (hl s hs).2; omega⟩) (fun w1 hF1 hR1 _ => sp_numberOf hR1.1 hy1 (by rw [hF1 13 (by decide)]; exact hy2) (fun nu hnu => st_add hR1 ?_ (fun w2 x2 hF2 hx2 hxi2 hR2 _ => st_add hR2 ?_ (fun w3 x3 hF3 hx3 hxi3 hR3 _ => st_aim hp4 hR3 ?_ (fun w4 hF4 hR4 _ => h w4 nu (((hF1.tr hF2).tr hF3).tr hF4) (fun s hs => ?_) hR4)))))
  · intro s1 h1
    obtain ⟨s, a1, a2⟩ := bnd_ok h1
    cases a2
    have := (hl s a1).2
    show (mkL (sC s) p m).length < 1024
    rw [mkL_len]; omega
  · intro s1 h1
    obtain ⟨s2, a1, a2⟩ := bnd_ok h1
    obtain ⟨s, a3, a4⟩ := bnd_ok a1
    cases a4; cases a2
    have := (hl s a3).2
    show (mkL (sC s) p m ++ [(28, nu, 0, sh s)]).length < 1024
    rw [List.length_append, mkL_len]; simp; omega
  · intro s1 h1
    obtain ⟨s3, a0, a00⟩ := bnd_ok h1
    obtain ⟨s2, a1, a2⟩ := bnd_ok a0
    obtain ⟨s, a3, a4⟩ := bnd_ok a1
    cases a4; cases a2; cases a00
    have h1 := hl s a3
    show p < (mkL (sC s) p m ++ [(28, nu, 0, sh s)] ++ [(25, ((p + 1 : Nat) : Int), 0, sh s)]).length ∧ (mkL (sC s) p m ++ [(28, nu, 0, sh s)] ++ [(25, ((p + 1 : Nat) : Int), 0, sh s)]).length ≤ 1024
    rw [List.length_append, List.length_append, mkL_len]; simp; omega
  · subst hs
    exact hnu _ (hR.2.2.2.1.fx hF1 (by decide) (by decide) (by decide) (by decide) (by decide))
theorem st_send {n within : Nat} (hd : 150 ≤ d) (hw : within + n = 13) (hR : RdS T L w ρ) (hp : ∀ s, ρ = .ok s → sb s = false ∧ (sC s).length ≤ sI s + 1) (h : ∀ w', FxS w w' → RdS T L w' (bnd ρ (fP T L (pSend (kdT T L) n))) → K (.inl none) w') : Cal g LC jRe_readSend (d + 1) [vA 24, vI (within : Int)] w K := by
  refine Cal.ofV (by decide) rfl (Nat.le_of_ble_eq_true rfl) (s_Re_readSend (st_take (c := 44) (by omega) hR (by decide) (fun w1 x1 hF1 hx1 hxi1 hR1 _ => st_namedEntry (so := 2) (by omega) hR1 (fun w2 y hF2 hy1 hy2 hyl hR2 _ => st_add hR2 ?_ (fun w3 p hF3 hp4 hpi hR3 _ => st_exp (by omega) hw (hR3.sn (b := true)) ?_ (fun w4 x hF4 hx hxe hR4 => ?_))))))
  · intro s2 h2
    cases ρ with
    | error e => cases h2
    | ok s =>
      obtain ⟨s1, a1, a2⟩ := bnd_ok h2
      obtain ⟨-, rfl⟩ := fTk_ok a1
      obtain ⟨a3, rfl⟩ := fNE_ok a2
      have := (hp s rfl).2
      have := (ex_ok a3).2.2
      show (sC s).length < 1024
      simp only [sI] at *
      omega
  · intro s2 h2
    cases ρ with
    | error e => cases h2
    | ok s =>
      obtain ⟨s4, a5, a6⟩ := bnd_ok h2
      obtain ⟨s3, a3, a4⟩ := bnd_ok a5
      obtain ⟨s1, a1, a2⟩ := bnd_ok a3
      obtain ⟨-, rfl⟩ := fTk_ok a1
      obtain ⟨-, rfl⟩ := fNE_ok a2
      cases a4; cases a6
      have := (hp s rfl).2
      show (sC s ++ [(24, 0, 0, sh s)]).length ≤ sI s + 1 + 1
      rw [List.length_append]; simp; omega
  · have hR5 := hR4.sn (b := false)
    have e0 : up w4 26 4 (bI false) = up w4 26 4 0 := rfl
    rw [e0] at hR5
    have hF5 : FxS w4 (up w4 26 4 0) := FxS.of (M := [26]) ((Fx.rf _ w4).up (by decide)) (by decide) (by decide)
    have hF3' : FxS w3 (up w3 26 4 1) := FxS.of (M := [26]) ((Fx.rf _ w3).up (by decide)) (by decide) (by decide)
    have h1345 : up w4 26 4 0 13 = w2 13 := by rw [up_o (by decide), hF4 13 (by decide), up_o (by decide), hF3 13 (by decide)]
    have h2745 : up w4 26 4 0 27 = w4 27 := up_o (by decide)
    refine sp_kindOf hR5.1 hy1 (by rw [h1345]; exact hy2) (fun kk hkk => st_demand (by omega) hR5 hx ?_ (fun w6 hF6 hR6 _ => ?_))
    · intro s5 h5
      obtain ⟨s4, a1, a2⟩ := bnd_ok h5
      obtain ⟨s3, a3, a4⟩ := bnd_ok a1
      obtain ⟨q, hq, hg, -⟩ := fEx_ok a4
      obtain ⟨hxs, -⟩ := hxe s3 a3 q hq
      have := hg.1.2.1
      have := hg.1.2.2.1
      omega
    · have hFa : FxS w w6 := (FxS.e ((hF1.tr hF2).tr hF3)).tr (hF3'.tr ((FxS.e hF4).tr (hF5.tr (FxS.e hF6))))
      -- behind along or against
      have hgo : ∀ (ag : Nat) (m : Int), (∀ s6, bnd (bnd (bnd (bnd (bnd (bnd (bnd ρ (fTk (kdT T L) 44)) (fNE T L 2)) (fAd 24 0 0)) (fSn true)) (fEx T L n)) (fSn false)) (fBl (dm T L (w4 27 x) kk x)) = .ok s6 → ag = (if kdT T L (sI s6) = 46 then 46 else 45) ∧ m = (if kdT T L (sI s6) = 46 then 1 else 0)) → ag ≠ 0 → Cal g LC jCu_take d [vA 25, vI (ag : Int)] w6 (fun o w14 => rI o (fun x15 => Cal g LC jCu_take d [vA 25, vI 4] w14 (fun o w16 => rI o (fun x17 => Cal g LC jCo_mark d [vA 19, vI (p : Int), vI m] w16 (fun o w18 => rV o (Cal g LC jLo_numberOf d [vA 13, vI y] w18 (fun o w19 => rI o (fun x20 => Cal g LC jCo_add d [vA 19, vI 28, vI x20, vI 0] w19 (fun o w21 => rI o (fun x22 => Cal g LC jCo_add d [vA 19, vI 25, vI (wr ((p : Int) + 1)), vI 0] w21 (fun o w23 => rI o (fun x24 => Cal g LC jCo_aimHere d [vA 19, vI (p : Int)] w23 (fun o w25 => rV o (K (.inl none) w25)))))))))))))) := by
        intro ag m hag hag0
        rw [h2745] at hR6
        refine st_take (by omega) hR6 hag0 (fun w7 x7 hF7 hx7 hxi7 hR7 _ => st_take (c := 4) (by omega) hR7 (by decide) (fun w8 x8 hF8 hx8 hxi8 hR8 _ => ?_))
        refine send_end hd hp4 hy1 (by rw [hF8 13 (by decide), hF7 13 (by decide), hF6 13 (by decide), h1345]; exact hy2) (nu0 := 0) hR8 ?_ (fun w9 nu hF9 hnu hR9 => h w9 (hFa.tr (FxS.e ((hF7.tr hF8).tr hF9))) ?_)
        · intro s8 h8
          cases ρ with
          | error e => cases h8
          | ok s =>
            obtain ⟨i, E, c, lp, b, k, C, O, hm⟩ := s
            obtain ⟨s7, b1, b2⟩ := bnd_ok h8
            obtain ⟨s6, b3, b4⟩ := bnd_ok b1
            obtain ⟨s5, b5, b6⟩ := bnd_ok b3
            obtain ⟨s4, b7, b8⟩ := bnd_ok b5
            obtain ⟨s3, b9, b10⟩ := bnd_ok b7
            obtain ⟨s2, b11, b12⟩ := bnd_ok b9
            obtain ⟨s1, b13, b14⟩ := bnd_ok b11
            have hpe := hpi s1 b13
            obtain ⟨s0, b15, b16⟩ := bnd_ok b13
            obtain ⟨-, rfl⟩ := fTk_ok b15
            obtain ⟨-, rfl⟩ := fNE_ok b16
            cases b14; cases b12
            obtain ⟨q, hq, hg, rfl⟩ := fEx_ok b10
            cases b8; cases b6
            obtain ⟨-, rfl⟩ := fTk_ok b4
            obtain ⟨-, rfl⟩ := fTk_ok b2
            have h1 : C.length ≤ i + 1 := (hp _ rfl).2
            have g1 : i + 1 + 1 < q.2 := hg.1.2.1
            have g2 : q.2 ≤ 1000 := hg.1.2.2.1
            have g3 : nD q.1 ≤ q.2 - (i + 1 + 1) := hg.1.2.2.2
            have hpe' : p = C.length := hpe
            have hl := hX_len (T := T) (L := L) (E := E) (a := q.1) (s := (C ++ [((24 : Int), (0 : Int), (0 : Int), hm)]).length) (h := hm) hg.2.1
            show p < (C ++ [(24, 0, 0, hm)] ++ hX T L E q.1 (C ++ [((24 : Int), (0 : Int), (0 : Int), hm)]).length hm).length ∧ (C ++ [(24, 0, 0, hm)] ++ hX T L E q.1 (C ++ [((24 : Int), (0 : Int), (0 : Int), hm)]).length hm).length + 2 < 1024
            rw [List.length_append, hl, List.length_append]
            simp
            omega
        · cases ρ with
          | error e => exact hR9
          | ok s =>
            obtain ⟨i, E, c, lp, b, k, C, O, hm⟩ := s
            have hb : b = false := (hp _ rfl).1
            subst hb
            show RdS T L w9 (bnd (pSend (kdT T L) n c (cntE 4 E) i) (fun q => .ok (mkS T L (i, E, c, lp, false, k, C, O, hm) q.1 q.2.1 q.2.2.1)))
            unfold pSend
            cases e1 : ex (kdT T L) 44 i with
            | error e => simp only [bnd, fTk, fNE, fNN, fEx, fBl, fAd, fLa, fSn, fMk, fAm, sI, sE, sc, sl, sb, sK, sC, sO, sh, e1] at hR9 ⊢; exact hR9
            | ok i1 =>
              obtain ⟨-, rfl, -⟩ := ex_ok e1
              cases e2 : ex (kdT T L) 2 (i + 1) with
              | error e => simp only [bnd, fTk, fNE, fNN, fEx, fBl, fAd, fLa, fSn, fMk, fAm, sI, sE, sc, sl, sb, sK, sC, sO, sh, e1, e2] at hR9 ⊢; exact hR9
              | ok i2 =>
                obtain ⟨-, rfl, -⟩ := ex_ok e2
                have hy := hyl (i + 1, E, c, lp, false, k, C, O ++ [i], hm) (by simp only [bnd, fTk, fNE, fNN, fEx, fBl, fAd, fLa, fSn, fMk, fAm, sI, sE, sc, sl, sb, sK, sC, sO, sh, e1]) _ (by simp only [bnd, fTk, fNE, fNN, fEx, fBl, fAd, fLa, fSn, fMk, fAm, sI, sE, sc, sl, sb, sK, sC, sO, sh, e2]; rfl)
                have hpe := hpi _ (by simp only [bnd, fTk, fNE, fNN, fEx, fBl, fAd, fLa, fSn, fMk, fAm, sI, sE, sc, sl, sb, sK, sC, sO, sh, e1, e2]; rfl)
                simp only [sE, sI, sC] at hy hpe
                subst hpe
                cases e3 : pE (kdT T L) n (i + 1 + 1) with
                | error e => simp only [bnd, fTk, fNE, fNN, fEx, fBl, fAd, fLa, fSn, fMk, fAm, sI, sE, sc, sl, sb, sK, sC, sO, sh, e1, e2, e3] at hR9 ⊢; exact hR9
                | ok q =>
                  simp only [bnd, fTk, fNE, fNN, fEx, fBl, fAd, fLa, fSn, fMk, fAm, sI, sE, sc, sl, sb, sK, sC, sO, sh, e1, e2, e3] at hR9 hR5 hxe hag hnu
                  obtain ⟨rfl, hk27⟩ := hxe _ rfl q e3
                  obtain ⟨ha1, ha2⟩ := hag _ rfl
                  have hEa : EC T L (up w4 26 4 0) E := hR5.2.2.2.1
                  have hkk' := hkk _ hEa
                  rw [hy] at hkk'
                  have hg := pE_gw e3
                  rw [hk27, hkk', ha1, ha2] at hR9
                  cases e4 : ex (kdT T L) (if kdT T L q.2 = 46 then 46 else 45) q.2 with
                  | error e => simp only [bnd, fTk, fNE, fNN, fEx, fBl, fAd, fLa, fSn, fMk, fAm, sI, sE, sc, sl, sb, sK, sC, sO, sh, e1, e2, e3, e4] at hR9 ⊢; exact hR9
                  | ok i3 =>
                    obtain ⟨-, rfl, -⟩ := ex_ok e4
                    cases e5 : ex (kdT T L) 4 (q.2 + 1) with
                    | error e => simp only [bnd, fTk, fNE, fNN, fEx, fBl, fAd, fLa, fSn, fMk, fAm, sI, sE, sc, sl, sb, sK, sC, sO, sh, e1, e2, e3, e4, e5] at hR9 ⊢; exact hR9
                    | ok j =>
                      have hnu' := hnu _ (by rw [ha1]; simp only [e4, e5]; rfl)
                      simp only [sE] at hnu'
                      rw [hy] at hnu'
                      simp only [bnd, fTk, fNE, fNN, fEx, fBl, fAd, fLa, fSn, fMk, fAm, sI, sE, sc, sl, sb, sK, sC, sO, sh, e1, e2, e3, e4, e5, hnu'] at hR9 ⊢
                      have el : (C ++ [((24 : Int), (0 : Int), (0 : Int), hm)]).length = C.length + 1 := by simp
                      have e : mkS T L (i, E, c, lp, false, k, C, O, hm) (nd 13 (i + 1) (q.2 + 1) q.1 nl) j c = (j, E, c, lp, false, min (min (min k (if eSo (fnd T L E (i + 1)) = ((2 : Nat) : Int) then 100000 else tAt T L (i + 1) * 8 + 4)) (jkT T L E true q.1)) (dm T L (knT T L E true q.1) (eKi (nmE T L E 2 (i + 1))) (i + 1 + 1)), agL (mkL (C ++ [(24, 0, 0, hm)] ++ hX T L E q.1 (C ++ [((24 : Int), (0 : Int), (0 : Int), hm)]).length hm) C.length (if kdT T L q.2 = 46 then 1 else 0) ++ [(28, eNu (nmE T L E 2 (i + 1)), 0, hm)] ++ [(25, ((C.length + 1 : Nat) : Int), 0, hm)]) C.length (((mkL (C ++ [(24, 0, 0, hm)] ++ hX T L E q.1 (C ++ [((24 : Int), (0 : Int), (0 : Int), hm)]).length hm) C.length (if kdT T L q.2 = 46 then 1 else 0) ++ [(28, eNu (nmE T L E 2 (i + 1)), 0, hm)] ++ [(25, ((C.length + 1 : Nat) : Int), 0, hm)]).length : Nat) : Int), O ++ [i] ++ [i + 1] ++ oS (kdT T L) q.1 1 ++ [q.2] ++ [q.2 + 1], hm) := by
                        have eA : C ++ [((24 : Int), (0 : Int), (0 : Int), hm)] ++ hX T L E q.1 (C.length + 1) hm = C ++ (24, 0, 0, hm) :: hX T L E q.1 (C.length + 1) hm := by simp
                        rw [el, eA, mkL_at]
                        have eB : ∀ (v : Int) (X : List Hd) (a1 a2 : Hd), C ++ (24, 0, v, hm) :: X ++ [a1] ++ [a2] = C ++ (24, 0, v, hm) :: (X ++ [a1, a2]) := fun v X a1 a2 => by simp
                        rw [eB, agL_at]
                        unfold mkS
                        simp only [sI, sE, sc, sl, sb, sK, sC, sO, sh]
                        rw [cS13, jS13, oP13, hg.1.1]
                        have hl := hX_len (T := T) (L := L) (E := E) (a := q.1) (s := C.length + 1) (h := hm) hg.2.1
                        have e6 : ((C ++ (24, 0, (if kdT T L q.2 = 46 then 1 else 0), hm) :: (hX T L E q.1 (C.length + 1) hm ++ [(28, eNu (nmE T L E 2 (i + 1)), 0, hm), (25, ((C.length + 1 : Nat) : Int), 0, hm)])).length) = C.length + 1 + nD q.1 + 2 := by
                          simp only [List.length_append, List.length_cons, List.length_nil, hl]; omega
                        rw [e6]
                        simp [eSt, Nat.min_assoc]
                      rw [e]
                      exact hR9
      refine st_sees (c := 46) hR6 ⟨fun c => ?_, fun c => ?_⟩
      · have hne : ¬ kS T L (iS (bnd (bnd (bnd (bnd (bnd (bnd (bnd ρ (fTk (kdT T L) 44)) (fNE T L 2)) (fAd 24 0 0)) (fSn true)) (fEx T L n)) (fSn false)) (fBl (dm T L (up w4 26 4 0 27 x) kk x)))) = 46 := by
          intro z; rw [if_pos z] at c; exact absurd c (by decide)
        have := hgo 45 0 (fun s6 hs6 => ?_) (by decide)
        · rw [if_neg hne]
          refine Cal.weak this (fun o w14 z => ?_)
          obtain ⟨v, rfl, z⟩ := rI_of z
          refine Cal.weak z (fun o w16 z => ?_)
          obtain ⟨v2, rfl, z⟩ := rI_of z
          exact ⟨fun _ => z, fun q => absurd rfl q⟩
        · rw [h2745, hs6] at hne
          have hne' : ¬ kdT T L (sI s6) = 46 := hne
          rw [if_neg hne', if_neg hne']; exact ⟨rfl, rfl⟩
      · have hne : kS T L (iS (bnd (bnd (bnd (bnd (bnd (bnd (bnd ρ (fTk (kdT T L) 44)) (fNE T L 2)) (fAd 24 0 0)) (fSn true)) (fEx T L n)) (fSn false)) (fBl (dm T L (up w4 26 4 0 27 x) kk x)))) = 46 := by
          by_cases z : kS T L (iS (bnd (bnd (bnd (bnd (bnd (bnd (bnd ρ (fTk (kdT T L) 44)) (fNE T L 2)) (fAd 24 0 0)) (fSn true)) (fEx T L n)) (fSn false)) (fBl (dm T L (up w4 26 4 0 27 x) kk x)))) = 46
          · exact z
          · rw [if_neg z] at c; exact absurd rfl c
        have := hgo 46 1 (fun s6 hs6 => ?_) (by decide)
        · rw [if_pos hne]
          refine Cal.weak this (fun o w14 z => ?_)
          obtain ⟨v, rfl, z⟩ := rI_of z
          refine Cal.weak z (fun o w16 z => ?_)
          obtain ⟨v2, rfl, z⟩ := rI_of z
          exact ⟨fun q => absurd q (by decide), fun _ => z⟩
        · rw [h2745, hs6] at hne
          have hne' : kdT T L (sI s6) = 46 := hne
          rw [if_pos hne', if_pos hne']; exact ⟨rfl, rfl⟩
end StSimple3
