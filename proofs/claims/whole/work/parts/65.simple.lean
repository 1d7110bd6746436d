/-! ===== the class reads statements: give, set, let, send, halt ===== -/
section StSimple
variable {g : Mg} {d D : Nat} {K : Ou → Wd → Prop} {w : Wd} {T : Nat → Int} {L : Nat} {ρ : PE ST}
/-- behind a statement's (or block's) tree a -/
def mkS (T : Nat → Int) (L : Nat) (s : ST) (a : Tr) (j c : Nat) : ST := (j, eSt T L (sE s) a, c, sl s, sb s, min (sK s) (jS T L a (sE s)), sC s ++ cmS T L a (sE s) (sC s).length (sl s) (sh s), sO s ++ oP (kdT T L) a, sh s)
def fP (T : Nat → Int) (L : Nat) (P : Nat → Nat → Nat → PE Q4) (s : ST) : PE ST := bnd (P (sc s) (cntE 4 (sE s)) (sI s)) (fun q => .ok (mkS T L s q.1 q.2.1 q.2.2.1))
theorem cS14 {E : List En} {t q s lp : Nat} {l : Tr} {h : Int} : cmS T L (nd 14 t q l nl) E s lp h = hX T L E l s h ++ [(29, eNu (nmE T L E 3 t), 0, h)] := rfl
theorem jS14 {E : List En} {t q : Nat} {l : Tr} : jS T L (nd 14 t q l nl) E = min (min (if eSo (fnd T L E t) = 3 then 100000 else tAt T L t * 8 + 4) (jkT T L E false l)) (dm T L (knT T L E false l) (eKi (nmE T L E 3 t)) (fst_ l)) := rfl
theorem oP14 {kd : Nat → Nat} {t q : Nat} {l : Tr} : oP kd (nd 14 t q l nl) = (t - 1) :: t :: (oS kd l 1 ++ [q]) := rfl
theorem cS11 {E : List En} {t q s lp : Nat} {l : Tr} {h : Int} : cmS T L (nd 11 t q l nl) E s lp h = hX T L E l s h ++ [((if eSo (fnd T L E t) = 4 then 27 else 26), eNu (fnd T L E t), 0, h)] := rfl
theorem jS11 {E : List En} {t q : Nat} {l : Tr} : jS T L (nd 11 t q l nl) E = min (min (if eSo (fnd T L E t) = 1 ∨ eSo (fnd T L E t) = 4 then 100000 else tAt T L t * 8 + 4) (jkT T L E false l)) (dm T L (knT T L E false l) (if eSo (fnd T L E t) = 1 ∨ eSo (fnd T L E t) = 4 then eKi (fnd T L E t) else 0) (fst_ l)) := rfl
theorem oP11 {kd : Nat → Nat} {t q : Nat} {l : Tr} : oP kd (nd 11 t q l nl) = t :: (t + 1) :: (oS kd l 1 ++ [q]) := rfl
theorem cS12 {E : List En} {t q s lp : Nat} {l : Tr} {h : Int} : cmS T L (nd 12 t q l nl) E s lp h = hX T L E l s h ++ [(27, ((cntE 4 E : Nat) : Int), 0, h)] := rfl
theorem jS12 {E : List En} {t q : Nat} {l : Tr} : jS T L (nd 12 t q l nl) E = min (if fnd T L E t = none then 100000 else tAt T L t * 8 + 3) (jkT T L E false l) := rfl
theorem oP12 {kd : Nat → Nat} {t q : Nat} {l : Tr} : oP kd (nd 12 t q l nl) = (t - 1) :: t :: (t + 1) :: (oS kd l 1 ++ [q]) := rfl
theorem cS13 {E : List En} {t q s lp : Nat} {l : Tr} {h : Int} : cmS T L (nd 13 t q l nl) E s lp h = (24, ((s + 1 + nD l + 2 : Nat) : Int), (if kdT T L (q - 1) = 46 then 1 else 0), h) :: (hX T L E l (s + 1) h ++ [(28, eNu (nmE T L E 2 t), 0, h), (25, ((s + 1 : Nat) : Int), 0, h)]) := rfl
theorem jS13 {E : List En} {t q : Nat} {l : Tr} : jS T L (nd 13 t q l nl) E = min (min (if eSo (fnd T L E t) = 2 then 100000 else tAt T L t * 8 + 4) (jkT T L E true l)) (dm T L (knT T L E true l) (eKi (nmE T L E 2 t)) (fst_ l)) := rfl
theorem oP13 {kd : Nat → Nat} {t q : Nat} {l : Tr} : oP kd (nd 13 t q l nl) = (t - 1) :: t :: (oS kd l 1 ++ [q - 1, q]) := rfl
theorem hX_len {E : List En} {a : Tr} {s : Nat} {h : Int} (ha : WE a) : (hX T L E a s h).length = nD a := by rw [List.length_map, cm_len a s ha]
theorem fTk_ok {c : Nat} {s s' : ST} (h : fTk (kdT T L) c s = .ok s') : ex (kdT T L) c (sI s) = .ok (sI s + 1) ∧ s' = (sI s + 1, sE s, sc s, sl s, sb s, sK s, sC s, sO s ++ [sI s], sh s) := by
  unfold fTk at h
  obtain ⟨j, hj, h⟩ := bnd_ok h
  obtain ⟨-, rfl, -⟩ := ex_ok hj
  cases h
  exact ⟨hj, rfl⟩
theorem fNE_ok {so : Nat} {s s' : ST} (h : fNE T L so s = .ok s') : ex (kdT T L) 2 (sI s) = .ok (sI s + 1) ∧ s' = (sI s + 1, sE s, sc s, sl s, sb s, min (sK s) (if eSo (fnd T L (sE s) (sI s)) = (so : Int) then 100000 else tAt T L (sI s) * 8 + 4), sC s, sO s ++ [sI s], sh s) := by
  unfold fNE at h
  obtain ⟨j, hj, h⟩ := bnd_ok h
  obtain ⟨-, rfl, -⟩ := ex_ok hj
  cases h
  exact ⟨hj, rfl⟩
theorem fEx_ok {n : Nat} {s s' : ST} (h : fEx T L n s = .ok s') : ∃ q, pE (kdT T L) n (sI s) = .ok q ∧ GW (sI s) q ∧ s' = (q.2, sE s, sc s, sl s, sb s, min (sK s) (jkT T L (sE s) (sb s) q.1), sC s ++ hX T L (sE s) q.1 (sC s).length (sh s), sO s ++ oS (kdT T L) q.1 1, sh s) := by
  unfold fEx at h
  obtain ⟨q, hq, h⟩ := bnd_ok h
  cases h
  exact ⟨q, hq, pE_gw hq, rfl⟩
theorem bnd_err {α β : Type} {r : PE α} {f : α → PE β} {e : Nat × Nat} (h : r = .error e) : bnd r f = .error e := by rw [h]; rfl
theorem st_give {n within : Nat} (hd : 150 ≤ d) (hw : within + n = 13) (hR : RdS T L w ρ) (hp : ∀ s, ρ = .ok s → sb s = false ∧ (sC s).length ≤ sI s + 1) (h : ∀ w', Fx FEl w w' → RdS T L w' (bnd ρ (fP T L (pGive (kdT T L) n))) → K (.inl none) w') : Cal g LC jRe_readGive (d + 1) [vA 24, vI (within : Int)] w K := by
  refine Cal.ofV (by decide) rfl (Nat.le_of_ble_eq_true rfl) (s_Re_readGive (st_take (c := 47) (by omega) hR (by decide) (fun w1 x1 hF1 hx1 hxi1 hR1 _ => st_namedEntry (so := 3) (by omega) hR1 (fun w2 y hF2 hy1 hy2 hyl hR2 _ => st_exp (by omega) hw hR2 ?_ (fun w3 x hF3 hx hxe hR3 => ?_)))))
  · intro s2 h2
    cases ρ with
    | error e => cases h2
    | ok s =>
      obtain ⟨s1, a1, a2⟩ := bnd_ok h2
      obtain ⟨-, rfl⟩ := fTk_ok a1
      obtain ⟨-, rfl⟩ := fNE_ok a2
      have := (hp s rfl).2
      show (sC s).length ≤ sI s + 1 + 1
      omega
  · have h13 : w3 13 = w2 13 := hF3 13 (by decide)
    refine sp_kindOf hR3.1 hy1 (by rw [h13]; exact hy2) (fun kk hkk => st_demand (by omega) hR3 hx ?_ (fun w4 hF4 hR4 _ => st_take (c := 4) (by omega) hR4 (by decide) (fun w5 x5 hF5 hx5 hxi5 hR5 _ => ?_)))
    · intro s3 h3
      cases ρ with
      | error e => cases h3
      | ok s =>
        obtain ⟨s2, a1, a2⟩ := bnd_ok h3
        obtain ⟨q, hq, hg, -⟩ := fEx_ok a2
        obtain ⟨hxs, -⟩ := hxe s2 a1 q hq
        have := hg.1.2.1
        have := hg.1.2.2.1
        omega
    · have h13' : w5 13 = w2 13 := by rw [hF5 13 (by decide), hF4 13 (by decide), h13]
      refine sp_numberOf hR5.1 hy1 (by rw [h13']; exact hy2) (fun nu hnu => st_add hR5 ?_ (fun w6 x6 hF6 hx6 hxi6 hR6 _ => h w6 (((((hF1.tr hF2).tr hF3).tr hF4).tr hF5).tr hF6) ?_))
      · intro s5 h5
        cases ρ with
        | error e => cases h5
        | ok s =>
          obtain ⟨s4, a1, a2⟩ := bnd_ok h5
          obtain ⟨s3, a3, a4⟩ := bnd_ok a1
          obtain ⟨s2, a5, a6⟩ := bnd_ok a3
          obtain ⟨s1, a7, a8⟩ := bnd_ok a5
          obtain ⟨-, rfl⟩ := fTk_ok a7
          obtain ⟨-, rfl⟩ := fNE_ok a8
          obtain ⟨q, hq, hg, rfl⟩ := fEx_ok a6
          cases a4
          obtain ⟨-, rfl⟩ := fTk_ok a2
          have := (hp s rfl).2
          have hl := hX_len (T := T) (L := L) (E := sE s) (a := q.1) (s := (sC s).length) (h := sh s) hg.2.1
          have g1 : sI s + 1 + 1 < q.2 := hg.1.2.1
          have g2 : q.2 ≤ 1000 := hg.1.2.2.1
          have g3 : nD q.1 ≤ q.2 - (sI s + 1 + 1) := hg.1.2.2.2
          show (sC s ++ hX T L (sE s) q.1 (sC s).length (sh s)).length < 1024
          rw [List.length_append, hl]
          omega
      · cases ρ with
        | error e => exact hR6
        | ok s =>
          obtain ⟨i, E, c, lp, b, k, C, O, hm⟩ := s
          have hb : b = false := (hp _ rfl).1
          subst hb
          show RdS T L w6 (bnd (pGive (kdT T L) n c (cntE 4 E) i) (fun q => .ok (mkS T L (i, E, c, lp, false, k, C, O, hm) q.1 q.2.1 q.2.2.1)))
          unfold pGive
          cases e1 : ex (kdT T L) 47 i with
          | error e => simp only [bnd, fTk, fNE, fEx, fBl, fAd, sI, sE, sc, sl, sb, sK, sC, sO, sh, e1] at hR6 ⊢; exact hR6
          | ok i1 =>
            obtain ⟨-, rfl, -⟩ := ex_ok e1
            cases e2 : ex (kdT T L) 2 (i + 1) with
            | error e => simp only [bnd, fTk, fNE, fEx, fBl, fAd, sI, sE, sc, sl, sb, sK, sC, sO, sh, e1, e2] at hR6 ⊢; exact hR6
            | ok i2 =>
              obtain ⟨-, rfl, -⟩ := ex_ok e2
              cases e3 : pE (kdT T L) n (i + 1 + 1) with
              | error e => simp only [bnd, fTk, fNE, fEx, fBl, fAd, sI, sE, sc, sl, sb, sK, sC, sO, sh, e1, e2, e3] at hR6 ⊢; exact hR6
              | ok q =>
                simp only [bnd, fTk, fNE, fEx, fBl, fAd, sI, sE, sc, sl, sb, sK, sC, sO, sh, e1, e2, e3] at hR6 hR3 hR5 hxe hyl
                have hy := hyl (i + 1, E, c, lp, false, k, C, O ++ [i], hm) rfl _ (by simp only [e2]; rfl)
                obtain ⟨rfl, hk27⟩ := hxe _ rfl q e3
                have hEa : EC T L w3 E := hR3.2.2.2.1
                have hEb : EC T L w5 E := hEa.fx (hF4.tr hF5) (by decide) (by decide) (by decide) (by decide) (by decide)
                have hkk' := hkk _ hEa
                have hnu' := hnu _ hEb
                rw [hy] at hkk' hnu'
                have hg := pE_gw e3
                rw [hk27, hkk', hnu'] at hR6
                cases e4 : ex (kdT T L) 4 q.2 with
                | error e => simp only [bnd, fTk, fNE, fEx, fBl, fAd, sI, sE, sc, sl, sb, sK, sC, sO, sh, e1, e2, e3, e4] at hR6 ⊢; exact hR6
                | ok j =>
                  simp only [bnd, fTk, fNE, fEx, fBl, fAd, sI, sE, sc, sl, sb, sK, sC, sO, sh, e1, e2, e3, e4] at hR6 ⊢
                  have e : mkS T L (i, E, c, lp, false, k, C, O, hm) (nd 14 (i + 1) q.2 q.1 nl) j c = (j, E, c, lp, false, min (min (min k (if eSo (fnd T L E (i + 1)) = ((3 : Nat) : Int) then 100000 else tAt T L (i + 1) * 8 + 4)) (jkT T L E false q.1)) (dm T L (knT T L E false q.1) (eKi (nmE T L E 3 (i + 1))) (i + 1 + 1)), C ++ hX T L E q.1 C.length hm ++ [(29, eNu (nmE T L E 3 (i + 1)), 0, hm)], O ++ [i] ++ [i + 1] ++ oS (kdT T L) q.1 1 ++ [q.2], hm) := by
                    unfold mkS
                    simp only [sI, sE, sc, sl, sb, sK, sC, sO, sh]
                    rw [cS14, jS14, oP14, hg.1.1]
                    simp [eSt, Nat.min_assoc]
                  rw [e]
                  exact hR6
end StSimple
