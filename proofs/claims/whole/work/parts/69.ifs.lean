/-! ===== the class reads statements: if, loop ===== -/
abbrev vlT (T : Nat → Int) (L : Nat) : Nat → Int := fun i => tVl T L (tAt T L i)
def fB (T : Nat → Int) (L : Nat) (P : Nat → Nat → Nat → PE (Tr × Nat × Nat)) (s : ST) : PE ST := bnd (P (sc s) (cntE 4 (sE s)) (sI s)) (fun q => .ok (mkS T L s q.1 q.2.1 q.2.2))
def SpBk (g : Mg) (D : Nat) (T : Nat → Int) (L n within : Nat) : Prop := ∀ (K : Ou → Wd → Prop) (w : Wd) (ρ : PE ST), RdS T L w ρ → (∀ s, ρ = .ok s → sb s = false ∧ (sC s).length ≤ sI s + 1 ∧ sl s + n ≤ 13 ∧ sc s ≤ 120) → (∀ w', FxS w w' → RdS T L w' (bnd ρ (fB T L (pBk (kdT T L) (vlT T L) n))) → K (.inl none) w') → Cal g LC jRe_readBlock D [vA 24, vI (within : Int)] w K
section StDeep
variable {g : Mg} {d D : Nat} {K : Ou → Wd → Prop} {w : Wd} {T : Nat → Int} {L : Nat} {ρ : PE ST}
theorem fB_ok {n : Nat} {s s' : ST} (h : fB T L (pBk (kdT T L) (vlT T L) n) s = .ok s') (hc : sc s ≤ 120) : ∃ b, pBk (kdT T L) (vlT T L) n (sc s) (cntE 4 (sE s)) (sI s) = .ok b ∧ GB (sc s) (sI s) b ∧ LenOK T L b.1 ∧ s' = (b.2.1, sE s, b.2.2, sl s, sb s, min (sK s) (jS T L b.1 (sE s)), sC s ++ cmS T L b.1 (sE s) (sC s).length (sl s) (sh s), sO s ++ oP (kdT T L) b.1, sh s) := by
  unfold fB at h
  obtain ⟨b, hb, h⟩ := bnd_ok h
  cases h
  have hg := pBk_gb _ _ _ _ _ hc hb
  refine ⟨b, hb, hg, pBk_len _ _ _ _ _ hb, ?_⟩
  obtain ⟨⟨z, a, e1, -⟩, -⟩ := hg
  unfold mkS
  rw [e1, eSt_n (by decide)]
theorem fB_eq {n : Nat} {s : ST} {b : Tr × Nat × Nat} (hc : sc s ≤ 120) (hb : pBk (kdT T L) (vlT T L) n (sc s) (cntE 4 (sE s)) (sI s) = .ok b) : fB T L (pBk (kdT T L) (vlT T L) n) s = .ok (b.2.1, sE s, b.2.2, sl s, sb s, min (sK s) (jS T L b.1 (sE s)), sC s ++ cmS T L b.1 (sE s) (sC s).length (sl s) (sh s), sO s ++ oP (kdT T L) b.1, sh s) := by
  have e : fB T L (pBk (kdT T L) (vlT T L) n) s = .ok (mkS T L s b.1 b.2.1 b.2.2) := by unfold fB; rw [hb]; rfl
  obtain ⟨b', hb', -, -, e2⟩ := fB_ok e hc
  rw [hb] at hb'
  cases hb'
  rw [e, e2]
theorem fB_er {n : Nat} {s : ST} {e : Nat × Nat} (hb : pBk (kdT T L) (vlT T L) n (sc s) (cntE 4 (sE s)) (sI s) = .error e) : fB T L (pBk (kdT T L) (vlT T L) n) s = .error e := by
  unfold fB; rw [hb]; rfl
theorem st_if {n within : Nat} (hd : 150 ≤ d) (hw : within + n = 13) (hB : SpBk g d T L n within) (hR : RdS T L w ρ) (hp : ∀ s, ρ = .ok s → sb s = false ∧ (sC s).length ≤ sI s + 1 ∧ sl s + n ≤ 13 ∧ sc s ≤ 120) (h : ∀ w', FxS w w' → RdS T L w' (bnd ρ (fP T L (pIf (kdT T L) (pBk (kdT T L) (vlT T L) n) n))) → K (.inl none) w') : Cal g LC jRe_readIf (d + 1) [vA 24, vI (within : Int)] w K := by
  refine Cal.ofV (by decide) rfl (Nat.le_of_ble_eq_true rfl) (s_Re_readIf (st_take (c := 48) (by omega) hR (by decide) (fun w1 x1 hF1 hx1 hxi1 hR1 _ => st_exp (by omega) hw hR1 ?_ (fun w2 x hF2 hx hxe hR2 => st_demand (by omega) hR2 hx ?_ (fun w3 hF3 hR3 _ => st_add hR3 ?_ (fun w4 p hF4 hp4 hpi hR4 _ => hB _ w4 _ hR4 ?_ (fun w5 hF5 hR5 => ?_)))))))
  · intro s1 h1
    cases ρ with
    | error e => cases h1
    | ok s =>
      obtain ⟨-, rfl⟩ := fTk_ok h1
      exact (hp s rfl).2.1
  · intro s2 h2
    obtain ⟨s1, a1, a2⟩ := bnd_ok h2
    obtain ⟨q, hq, hg, -⟩ := fEx_ok a2
    obtain ⟨hxs, -⟩ := hxe s1 a1 q hq
    have := hg.1.2.1
    have := hg.1.2.2.1
    omega
  · intro s3 h3
    cases ρ with
    | error e => cases h3
    | ok s =>
      obtain ⟨s2, a1, a2⟩ := bnd_ok h3
      obtain ⟨s1, a3, a4⟩ := bnd_ok a1
      obtain ⟨-, rfl⟩ := fTk_ok a3
      obtain ⟨q, hq, hg, rfl⟩ := fEx_ok a4
      cases a2
      have := (hp s rfl).2.1
      have hl := hX_len (T := T) (L := L) (E := sE s) (a := q.1) (s := (sC s).length) (h := sh s) hg.2.1
      have g1 : sI s + 1 < q.2 := hg.1.2.1
      have g2 : q.2 ≤ 1000 := hg.1.2.2.1
      have g3 : nD q.1 ≤ q.2 - (sI s + 1) := hg.1.2.2.2
      show (sC s ++ hX T L (sE s) q.1 (sC s).length (sh s)).length < 1024
      rw [List.length_append, hl]
      omega
  · intro s4 h4
    cases ρ with
    | error e => cases h4
    | ok s =>
      obtain ⟨s3, a5, a6⟩ := bnd_ok h4
      obtain ⟨s2, a1, a2⟩ := bnd_ok a5
      obtain ⟨s1, a3, a4⟩ := bnd_ok a1
      obtain ⟨-, rfl⟩ := fTk_ok a3
      obtain ⟨q, hq, hg, rfl⟩ := fEx_ok a4
      cases a2; cases a6
      obtain ⟨p1, p2, p3, p4⟩ := hp s rfl
      have hl := hX_len (T := T) (L := L) (E := sE s) (a := q.1) (s := (sC s).length) (h := sh s) hg.2.1
      have g1 : sI s + 1 < q.2 := hg.1.2.1
      have g2 : q.2 ≤ 1000 := hg.1.2.2.1
      have g3 : nD q.1 ≤ q.2 - (sI s + 1) := hg.1.2.2.2
      refine ⟨p1, ?_, p3, p4⟩
      show (sC s ++ hX T L (sE s) q.1 (sC s).length (sh s) ++ [(20, 0, 0, sh s)]).length ≤ q.2 + 1
      rw [List.length_append, List.length_append, hl]
      simp; omega
  · have hF05 : FxS w w5 := (FxS.e (((hF1.tr hF2).tr hF3).tr hF4)).tr hF5
    -- what stands behind the first block
    have hpath : ∀ s5, bnd (bnd (bnd (bnd (bnd ρ (fTk (kdT T L) 48)) (fEx T L n)) (fBl (dm T L (w2 27 x) 2 x))) (fAd 20 0 0)) (fB T L (pBk (kdT T L) (vlT T L) n)) = .ok s5 → ∃ (s : ST) (q : Tr × Nat) (b1 : Tr × Nat × Nat), ρ = .ok s ∧ ex (kdT T L) 48 (sI s) = .ok (sI s + 1) ∧ pE (kdT T L) n (sI s + 1) = .ok q ∧ GW (sI s + 1) q ∧ pBk (kdT T L) (vlT T L) n (sc s) (cntE 4 (sE s)) q.2 = .ok b1 ∧ GB (sc s) q.2 b1 ∧ LenOK T L b1.1 ∧ p = (sC s).length + nD q.1 ∧ s5 = (b1.2.1, sE s, b1.2.2, sl s, false, min (min (min (sK s) (jkT T L (sE s) false q.1)) (dm T L (knT T L (sE s) false q.1) 2 (fst_ q.1))) (jS T L b1.1 (sE s)), sC s ++ (hX T L (sE s) q.1 (sC s).length (sh s) ++ (20, 0, 0, sh s) :: cmS T L b1.1 (sE s) ((sC s).length + nD q.1 + 1) (sl s) (sh s)), sO s ++ ([sI s] ++ (oS (kdT T L) q.1 1 ++ oP (kdT T L) b1.1)), sh s) := by
      intro s5 h5
      cases ρ with
      | error e => cases h5
      | ok s =>
        obtain ⟨i, E, c, lp, b, k, C, O, hm⟩ := s
        obtain ⟨p1, p2, p3, p4⟩ := hp _ rfl
        have p1' : b = false := p1
        subst p1'
        obtain ⟨s4, a7, a8⟩ := bnd_ok h5
        obtain ⟨s3, a5, a6⟩ := bnd_ok a7
        have hpe := hpi s3 a5
        obtain ⟨s2, a1, a2⟩ := bnd_ok a5
        obtain ⟨s1, a3, a4⟩ := bnd_ok a1
        obtain ⟨e48, rfl⟩ := fTk_ok a3
        obtain ⟨q, hq, hg, rfl⟩ := fEx_ok a4
        obtain ⟨hxs, hkn⟩ := hxe _ a3 q hq
        cases a2; cases a6
        obtain ⟨b1, hb1, hgb, hlb, rfl⟩ := fB_ok a8 p4
        have hl := hX_len (T := T) (L := L) (E := E) (a := q.1) (s := C.length) (h := hm) hg.2.1
        have el : (C ++ hX T L E q.1 C.length hm ++ [((20 : Int), (0 : Int), (0 : Int), hm)]).length = C.length + nD q.1 + 1 := by
          rw [List.length_append, List.length_append, hl]; rfl
        refine ⟨_, q, b1, rfl, e48, hq, hg, hb1, hgb, hlb, ?_, ?_⟩
        · rw [hpe]
          show (C ++ hX T L E q.1 C.length hm).length = _
          rw [List.length_append, hl]
        · have hx' : x = i + 1 := hxs
          have hk' : w2 27 x = knT T L E false q.1 := hkn
          have g1 : fst_ q.1 = i + 1 := hg.1.1
          rw [hk', hx', ← g1]
          simp only [sI, sE, sc, sl, sb, sK, sC, sO, sh]
          have el' : (C ++ List.map (fun e => (e.1, e.2.1, e.2.2, hm)) (cmT T L E q.1 C.length) ++ [((20 : Int), (0 : Int), (0 : Int), hm)]).length = C.length + nD q.1 + 1 := el
          rw [el']
          simp
    have hpe4 : ∀ s5, bnd (bnd (bnd (bnd (bnd ρ (fTk (kdT T L) 48)) (fEx T L n)) (fBl (dm T L (w2 27 x) 2 x))) (fAd 20 0 0)) (fB T L (pBk (kdT T L) (vlT T L) n)) = .ok s5 → p < (sC s5).length ∧ (sC s5).length ≤ sI s5 ∧ sI s5 ≤ 1000 ∧ sb s5 = false ∧ sl s5 + n ≤ 13 ∧ sc s5 ≤ 120 := by
      intro s5 h5
      obtain ⟨s, q, b1, hs, -, hq, hg, hb1, ⟨-, gb1, gb2, gb3, gb4, gb5⟩, hlb, hpp, rfl⟩ := hpath s5 h5
      obtain ⟨p1, p2, p3, p4⟩ := hp s hs
      have hl := hX_len (T := T) (L := L) (E := sE s) (a := q.1) (s := (sC s).length) (h := sh s) hg.2.1
      have g3 : nD q.1 ≤ q.2 - (sI s + 1) := hg.1.2.2.2
      have g1 : sI s + 1 < q.2 := hg.1.2.1
      have el : (sC s ++ (hX T L (sE s) q.1 (sC s).length (sh s) ++ (20, 0, 0, sh s) :: cmS T L b1.1 (sE s) ((sC s).length + nD q.1 + 1) (sl s) (sh s))).length = (sC s).length + nD q.1 + 1 + nK b1.1 := by
        rw [List.length_append, List.length_append, List.length_cons, hl, hlb]; omega
      refine ⟨?_, ?_, gb2, rfl, p3, gb5⟩
      · show p < (sC s ++ (hX T L (sE s) q.1 (sC s).length (sh s) ++ (20, 0, 0, sh s) :: cmS T L b1.1 (sE s) ((sC s).length + nD q.1 + 1) (sl s) (sh s))).length
        rw [el]; omega
      · show (sC s ++ (hX T L (sE s) q.1 (sC s).length (sh s) ++ (20, 0, 0, sh s) :: cmS T L b1.1 (sE s) ((sC s).length + nD q.1 + 1) (sl s) (sh s))).length ≤ b1.2.1
        rw [el]; omega
    -- what fails before fails there
    have hbad : ∀ e, bnd (bnd (bnd (bnd (bnd ρ (fTk (kdT T L) 48)) (fEx T L n)) (fBl (dm T L (w2 27 x) 2 x))) (fAd 20 0 0)) (fB T L (pBk (kdT T L) (vlT T L) n)) = .error e → bnd ρ (fP T L (pIf (kdT T L) (pBk (kdT T L) (vlT T L) n) n)) = .error e := by
      intro e he
      cases ρ with
      | error e' => cases he; rfl
      | ok s =>
        obtain ⟨i, E, c, lp, b, k, C, O, hm⟩ := s
        show bnd (pIf (kdT T L) (pBk (kdT T L) (vlT T L) n) n c (cntE 4 E) i) _ = _
        unfold pIf
        cases e1 : ex (kdT T L) 48 i with
        | error e' => simp only [bnd, fTk, fEx, fBl, fAd, fMk, fAm, fLp, sI, sE, sc, sl, sb, sK, sC, sO, sh, e1] at he ⊢; cases he; rfl
        | ok i1 =>
          cases e2 : pE (kdT T L) n i1 with
          | error e' => simp only [bnd, fTk, fEx, fBl, fAd, fMk, fAm, fLp, sI, sE, sc, sl, sb, sK, sC, sO, sh, e1, e2] at he ⊢; cases he; rfl
          | ok q =>
            cases e3 : pBk (kdT T L) (vlT T L) n c (cntE 4 E) q.2 with
            | error e' => simp only [bnd, fTk, fEx, fBl, fAd, fMk, fAm, fLp, sI, sE, sc, sl, sb, sK, sC, sO, sh, fB, e1, e2, e3] at he ⊢; cases he; rfl
            | ok b1 => simp only [bnd, fTk, fEx, fBl, fAd, fMk, fAm, fLp, sI, sE, sc, sl, sb, sK, sC, sO, sh, fB, e1, e2, e3] at he; cases he
    refine st_sees (c := 49) hR5 ⟨fun c => ?_, fun c => ?_⟩
    · have hk49 : ∀ s5, bnd (bnd (bnd (bnd (bnd ρ (fTk (kdT T L) 48)) (fEx T L n)) (fBl (dm T L (w2 27 x) 2 x))) (fAd 20 0 0)) (fB T L (pBk (kdT T L) (vlT T L) n)) = .ok s5 → kdT T L (sI s5) = 49 := by
        intro s5 h5
        rw [h5] at c
        by_cases z : kS T L (iS (.ok s5)) = 49
        · exact z
        · rw [if_neg z] at c; exact absurd rfl c
      refine st_take (c := 49) (by omega) hR5 (by decide) (fun w6 x6 hF6 hx6 hxi6 hR6 _ => st_add hR6 ?_ (fun w7 p2 hF7 hp7 hpi7 hR7 _ => st_aim hp4 hR7 ?_ (fun w8 hF8 hR8 _ => hB _ w8 _ hR8 ?_ (fun w9 hF9 hR9 => st_aim hp7 hR9 ?_ (fun w10 hF10 hR10 _ => h w10 ((hF05.tr (FxS.e ((hF6.tr hF7).tr hF8))).tr (hF9.tr (FxS.e hF10))) ?_)))))
      · intro s6 h6
        obtain ⟨s5, a1, a2⟩ := bnd_ok h6
        obtain ⟨-, rfl⟩ := fTk_ok a2
        have := hpe4 s5 a1
        show (sC s5).length < 1024
        omega
      · intro s7 h7
        obtain ⟨s6, a3, a4⟩ := bnd_ok h7
        obtain ⟨s5, a1, a2⟩ := bnd_ok a3
        obtain ⟨-, rfl⟩ := fTk_ok a2
        cases a4
        have := hpe4 s5 a1
        show p < (sC s5 ++ [(21, 0, 0, sh s5)]).length ∧ (sC s5 ++ [(21, 0, 0, sh s5)]).length ≤ 1024
        rw [List.length_append]; simp; omega
      · intro s8 h8
        obtain ⟨s7, a5, a6⟩ := bnd_ok h8
        obtain ⟨s6, a3, a4⟩ := bnd_ok a5
        obtain ⟨s5, a1, a2⟩ := bnd_ok a3
        obtain ⟨-, rfl⟩ := fTk_ok a2
        cases a4; cases a6
        have := hpe4 s5 a1
        refine ⟨this.2.2.2.1, ?_, this.2.2.2.2.1, this.2.2.2.2.2⟩
        show (agL (sC s5 ++ [(21, 0, 0, sh s5)]) p _).length ≤ sI s5 + 1 + 1
        rw [agL_len, List.length_append]; simp; omega
      · intro s9 h9
        obtain ⟨s8, a7, a8⟩ := bnd_ok h9
        obtain ⟨s7, a5, a6⟩ := bnd_ok a7
        obtain ⟨s6, a3, a4⟩ := bnd_ok a5
        have hp2 := hpi7 s6 a3
        obtain ⟨s5, a1, a2⟩ := bnd_ok a3
        obtain ⟨-, rfl⟩ := fTk_ok a2
        cases a4; cases a6
        have h5 := hpe4 s5 a1
        obtain ⟨b2, hb2, ⟨-, gb1, gb2, gb3, gb4, gb5⟩, hlb2, rfl⟩ := fB_ok a8 h5.2.2.2.2.2
        have gb1' : sI s5 + 1 < b2.2.1 := gb1
        have gb3' : nK b2.1 + 2 ≤ b2.2.1 - (sI s5 + 1) := gb3
        have hp2' : p2 = (sC s5).length := hp2
        simp only [sC] at *
        rw [List.length_append, agL_len, List.length_append, hlb2]
        simp
        omega
      · cases h5 : bnd (bnd (bnd (bnd (bnd ρ (fTk (kdT T L) 48)) (fEx T L n)) (fBl (dm T L (w2 27 x) 2 x))) (fAd 20 0 0)) (fB T L (pBk (kdT T L) (vlT T L) n)) with
        | error e => rw [h5] at hR10; rw [hbad e h5]; exact hR10
        | ok s5 =>
          have hk9 := hk49 s5 h5
          have hq5 := hpe4 s5 h5
          have hpi7' := hpi7
          rw [h5] at hR10 hpi7'
          obtain ⟨s, q, b1, hs, e1, hq, hg, hb1, hgb, hlb, hpp, rfl⟩ := hpath s5 h5
          subst hs
          obtain ⟨i, E, c0, lp, b, k, C, O, hm⟩ := s
          obtain ⟨p1, p2', p3, p4⟩ := hp _ rfl
          have p1' : b = false := p1
          subst p1'
          simp only [bnd, fTk, fEx, fBl, fAd, fMk, fAm, fLp, sI, sE, sc, sl, sb, sK, sC, sO, sh] at hR10 hpi7' hk9 hq5 e1 hq hb1 hpp hgb
          show RdS T L w10 (bnd (pIf (kdT T L) (pBk (kdT T L) (vlT T L) n) n c0 (cntE 4 E) i) (fun q => .ok (mkS T L (i, E, c0, lp, false, k, C, O, hm) q.1 q.2.1 q.2.2.1)))
          unfold pIf
          rw [e1, bnd_ok', hq, bnd_ok', hb1, bnd_ok', if_pos hk9]
          cases e4 : ex (kdT T L) 49 b1.2.1 with
          | error e => simp only [bnd, fTk, fEx, fBl, fAd, fMk, fAm, fLp, sI, sE, sc, sl, sb, sK, sC, sO, sh, e4] at hR10 ⊢; exact hR10
          | ok j1 =>
            obtain ⟨-, rfl, hb10⟩ := ex_ok e4
            have hp2e := hpi7' _ (by simp only [e4]; rfl)
            simp only [sC] at hp2e
            have hl := hX_len (T := T) (L := L) (E := E) (a := q.1) (s := C.length) (h := hm) hg.2.1
            have el5 : (C ++ (hX T L E q.1 C.length hm ++ (20, 0, 0, hm) :: cmS T L b1.1 E (C.length + nD q.1 + 1) lp hm)).length = C.length + nD q.1 + 1 + nK b1.1 := by
              rw [List.length_append, List.length_append, List.length_cons, hl, hlb]; omega
            have hp2e' : p2 = C.length + nD q.1 + 1 + nK b1.1 := hp2e.trans el5
            have hc5 : b1.2.2 ≤ 120 := hgb.2.2.2.2.2
            -- the code behind else's jump, the first jump aimed
            have hag1 : agL (C ++ (hX T L E q.1 C.length hm ++ (20, 0, 0, hm) :: cmS T L b1.1 E (C.length + nD q.1 + 1) lp hm) ++ [(21, 0, 0, hm)]) p (((C ++ (hX T L E q.1 C.length hm ++ (20, 0, 0, hm) :: cmS T L b1.1 E (C.length + nD q.1 + 1) lp hm) ++ [(21, 0, 0, hm)]).length : Nat) : Int) = C ++ (hX T L E q.1 C.length hm ++ (20, ((C.length + nD q.1 + 1 + nK b1.1 + 1 : Nat) : Int), 0, hm) :: cmS T L b1.1 E (C.length + nD q.1 + 1) lp hm) ++ [(21, 0, 0, hm)] := by
              have e6 : C ++ (hX T L E q.1 C.length hm ++ (20, 0, 0, hm) :: cmS T L b1.1 E (C.length + nD q.1 + 1) lp hm) ++ [(21, 0, 0, hm)] = (C ++ hX T L E q.1 C.length hm) ++ (20, 0, 0, hm) :: (cmS T L b1.1 E (C.length + nD q.1 + 1) lp hm ++ [(21, 0, 0, hm)]) := by simp
              have e7 : p = (C ++ hX T L E q.1 C.length hm).length := by rw [List.length_append, hl]; exact hpp
              have e8 : (C ++ (hX T L E q.1 C.length hm ++ (20, 0, 0, hm) :: cmS T L b1.1 E (C.length + nD q.1 + 1) lp hm) ++ [((21 : Int), (0 : Int), (0 : Int), hm)]).length = C.length + nD q.1 + 1 + nK b1.1 + 1 := by rw [List.length_append, el5]; rfl
              rw [e8, e6, e7, agL_at]
              simp
            have el8 : (C ++ (hX T L E q.1 C.length hm ++ (20, ((C.length + nD q.1 + 1 + nK b1.1 + 1 : Nat) : Int), 0, hm) :: cmS T L b1.1 E (C.length + nD q.1 + 1) lp hm) ++ [((21 : Int), (0 : Int), (0 : Int), hm)]).length = C.length + nD q.1 + 1 + nK b1.1 + 1 := by
              rw [List.length_append, List.length_append, List.length_append, List.length_cons, hl, hlb]; simp; omega
            simp only [bnd, fTk, fEx, fBl, fAd, fMk, fAm, fLp, sI, sE, sc, sl, sb, sK, sC, sO, sh, e4] at hR10
            have hag1' := hag1
            simp only [hX] at hag1'
            rw [hag1'] at hR10
            cases e5 : pBk (kdT T L) (vlT T L) n b1.2.2 (cntE 4 E) (b1.2.1 + 1) with
            | error e =>
              have : fB T L (pBk (kdT T L) (vlT T L) n) (b1.2.1 + 1, E, b1.2.2, lp, false, min (min (min k (jkT T L E false q.1)) (dm T L (knT T L E false q.1) 2 (fst_ q.1))) (jS T L b1.1 E), C ++ (hX T L E q.1 C.length hm ++ (20, ((C.length + nD q.1 + 1 + nK b1.1 + 1 : Nat) : Int), 0, hm) :: cmS T L b1.1 E (C.length + nD q.1 + 1) lp hm) ++ [(21, 0, 0, hm)], O ++ ([i] ++ (oS (kdT T L) q.1 1 ++ oP (kdT T L) b1.1)) ++ [b1.2.1], hm) = .error e := fB_er e5
              simp only [hX] at this
              rw [this] at hR10
              simp only [bnd, e5]
              exact hR10
            | ok b2 =>
              have hgb2 := pBk_gb _ _ _ _ _ hc5 e5
              have hlb2 := pBk_len _ _ _ _ _ e5
              have : fB T L (pBk (kdT T L) (vlT T L) n) (b1.2.1 + 1, E, b1.2.2, lp, false, min (min (min k (jkT T L E false q.1)) (dm T L (knT T L E false q.1) 2 (fst_ q.1))) (jS T L b1.1 E), C ++ (hX T L E q.1 C.length hm ++ (20, ((C.length + nD q.1 + 1 + nK b1.1 + 1 : Nat) : Int), 0, hm) :: cmS T L b1.1 E (C.length + nD q.1 + 1) lp hm) ++ [(21, 0, 0, hm)], O ++ ([i] ++ (oS (kdT T L) q.1 1 ++ oP (kdT T L) b1.1)) ++ [b1.2.1], hm) = _ := fB_eq (b := b2) hc5 e5
              simp only [hX] at this
              rw [this] at hR10
              simp only [bnd, e5]
              simp only [bnd, fTk, fEx, fBl, fAd, fMk, fAm, fLp, sI, sE, sc, sl, sb, sK, sC, sO, sh] at hR10
              have hne : ¬ b1.2.1 = 0 := by have := hgb.2.1; omega
              have e : mkS T L (i, E, c0, lp, false, k, C, O, hm) (nd 15 i 0 q.1 (nd 9 0 b1.2.1 b1.1 b2.1)) b2.2.1 b2.2.2 = (b2.2.1, E, b2.2.2, lp, false, min (min (min (min k (jkT T L E false q.1)) (dm T L (knT T L E false q.1) 2 (fst_ q.1))) (jS T L b1.1 E)) (jS T L b2.1 E), agL (C ++ (hX T L E q.1 C.length hm ++ (20, ((C.length + nD q.1 + 1 + nK b1.1 + 1 : Nat) : Int), 0, hm) :: cmS T L b1.1 E (C.length + nD q.1 + 1) lp hm) ++ [(21, 0, 0, hm)] ++ cmS T L b2.1 E (C ++ (hX T L E q.1 C.length hm ++ (20, ((C.length + nD q.1 + 1 + nK b1.1 + 1 : Nat) : Int), 0, hm) :: cmS T L b1.1 E (C.length + nD q.1 + 1) lp hm) ++ [((21 : Int), (0 : Int), (0 : Int), hm)]).length lp hm) p2 (((C ++ (hX T L E q.1 C.length hm ++ (20, ((C.length + nD q.1 + 1 + nK b1.1 + 1 : Nat) : Int), 0, hm) :: cmS T L b1.1 E (C.length + nD q.1 + 1) lp hm) ++ [(21, 0, 0, hm)] ++ cmS T L b2.1 E (C ++ (hX T L E q.1 C.length hm ++ (20, ((C.length + nD q.1 + 1 + nK b1.1 + 1 : Nat) : Int), 0, hm) :: cmS T L b1.1 E (C.length + nD q.1 + 1) lp hm) ++ [((21 : Int), (0 : Int), (0 : Int), hm)]).length lp hm).length : Nat) : Int), O ++ ([i] ++ (oS (kdT T L) q.1 1 ++ oP (kdT T L) b1.1)) ++ [b1.2.1] ++ oP (kdT T L) b2.1, hm) := by
                rw [el8]
                have e9 : ∀ X : List Hd, C ++ (hX T L E q.1 C.length hm ++ (20, ((C.length + nD q.1 + 1 + nK b1.1 + 1 : Nat) : Int), 0, hm) :: cmS T L b1.1 E (C.length + nD q.1 + 1) lp hm) ++ [(21, 0, 0, hm)] ++ X = (C ++ (hX T L E q.1 C.length hm ++ (20, ((C.length + nD q.1 + 1 + nK b1.1 + 1 : Nat) : Int), 0, hm) :: cmS T L b1.1 E (C.length + nD q.1 + 1) lp hm)) ++ (21, 0, 0, hm) :: X := fun X => by simp
                have el9 : (C ++ (hX T L E q.1 C.length hm ++ (20, ((C.length + nD q.1 + 1 + nK b1.1 + 1 : Nat) : Int), 0, hm) :: cmS T L b1.1 E (C.length + nD q.1 + 1) lp hm)).length = p2 := by
                  rw [List.length_append, List.length_append, List.length_cons, hl, hlb]; omega
                rw [e9]
                conv => rhs; rw [← el9, agL_at]
                have el10 : ((C ++ (hX T L E q.1 C.length hm ++ (20, ((C.length + nD q.1 + 1 + nK b1.1 + 1 : Nat) : Int), 0, hm) :: cmS T L b1.1 E (C.length + nD q.1 + 1) lp hm)) ++ (21, 0, 0, hm) :: cmS T L b2.1 E (C.length + nD q.1 + 1 + nK b1.1 + 1) lp hm).length = C.length + nD q.1 + 1 + nK b1.1 + 1 + nK b2.1 := by
                  rw [List.length_append, el9, List.length_cons, hlb2]; omega
                rw [el10]
                unfold mkS
                simp only [sI, sE, sc, sl, sb, sK, sC, sO, sh]
                have ec : cmS T L (nd 15 i 0 q.1 (nd 9 0 b1.2.1 b1.1 b2.1)) E C.length lp hm = hX T L E q.1 C.length hm ++ ((20, ((C.length + nD q.1 + 1 + (nK b1.1 + (if b1.2.1 = 0 then 0 else 1)) : Nat) : Int), 0, hm) :: (cmS T L b1.1 E (C.length + nD q.1 + 1) lp hm ++ (if b1.2.1 = 0 then [] else (21, ((C.length + nD q.1 + 1 + nK b1.1 + 1 + nK b2.1 : Nat) : Int), 0, hm) :: cmS T L b2.1 E (C.length + nD q.1 + 1 + nK b1.1 + 1) lp hm))) := rfl
                have ej : jS T L (nd 15 i 0 q.1 (nd 9 0 b1.2.1 b1.1 b2.1)) E = min (min (jkT T L E false q.1) (dm T L (knT T L E false q.1) 2 (fst_ q.1))) (min (jS T L b1.1 E) (jS T L b2.1 E)) := rfl
                have eo : oP (kdT T L) (nd 15 i 0 q.1 (nd 9 0 b1.2.1 b1.1 b2.1)) = i :: (oS (kdT T L) q.1 1 ++ (oP (kdT T L) b1.1 ++ (if b1.2.1 = 0 then [] else b1.2.1 :: oP (kdT T L) b2.1))) := rfl
                rw [ec, ej, eo, eSt_n (by decide), if_neg hne, if_neg hne, if_neg hne]
                simp [Nat.min_assoc, Nat.add_assoc]
              rw [e]
              exact hR10
    · have hk49 : ∀ s5, bnd (bnd (bnd (bnd (bnd ρ (fTk (kdT T L) 48)) (fEx T L n)) (fBl (dm T L (w2 27 x) 2 x))) (fAd 20 0 0)) (fB T L (pBk (kdT T L) (vlT T L) n)) = .ok s5 → ¬ kdT T L (sI s5) = 49 := by
        intro s5 h5 z
        rw [h5] at c
        have z' : kS T L (iS (.ok s5)) = 49 := z
        rw [if_pos z'] at c
        exact absurd c (by decide)
      refine st_aim hp4 hR5 (fun s5 h5 => ⟨(hpe4 s5 h5).1, by have := hpe4 s5 h5; omega⟩) (fun w6 hF6 hR6 _ => h w6 (hF05.tr (FxS.e hF6)) ?_)
      cases h5 : bnd (bnd (bnd (bnd (bnd ρ (fTk (kdT T L) 48)) (fEx T L n)) (fBl (dm T L (w2 27 x) 2 x))) (fAd 20 0 0)) (fB T L (pBk (kdT T L) (vlT T L) n)) with
      | error e => rw [h5] at hR6; rw [hbad e h5]; exact hR6
      | ok s5 =>
        have hk9 := hk49 s5 h5
        rw [h5] at hR6
        obtain ⟨s, q, b1, hs, e1, hq, hg, hb1, hgb, hlb, hpp, rfl⟩ := hpath s5 h5
        subst hs
        obtain ⟨i, E, c0, lp, b, k, C, O, hm⟩ := s
        obtain ⟨p1, p2', p3, p4⟩ := hp _ rfl
        have p1' : b = false := p1
        subst p1'
        have hkb : KY w6 (min (min (min k (jkT T L E false q.1)) (dm T L (knT T L E false q.1) 2 (fst_ q.1))) (jS T L b1.1 E)) := hR6.2.2.2.2.2.2.2.2.1
        simp only [bnd, fTk, fEx, fBl, fAd, fMk, fAm, fLp, sI, sE, sc, sl, sb, sK, sC, sO, sh] at hR6 hk9 e1 hq hb1 hpp hgb
        show RdS T L w6 (bnd (pIf (kdT T L) (pBk (kdT T L) (vlT T L) n) n c0 (cntE 4 E) i) (fun q => .ok (mkS T L (i, E, c0, lp, false, k, C, O, hm) q.1 q.2.1 q.2.2.1)))
        unfold pIf
        rw [e1, bnd_ok', hq, bnd_ok', hb1, bnd_ok', if_neg hk9, bnd_ok']
        have hl := hX_len (T := T) (L := L) (E := E) (a := q.1) (s := C.length) (h := hm) hg.2.1
        have el5 : (C ++ (hX T L E q.1 C.length hm ++ (20, 0, 0, hm) :: cmS T L b1.1 E (C.length + nD q.1 + 1) lp hm)).length = C.length + nD q.1 + 1 + nK b1.1 := by
          rw [List.length_append, List.length_append, List.length_cons, hl, hlb]; omega
        have e : mkS T L (i, E, c0, lp, false, k, C, O, hm) (nd 15 i 0 q.1 (nd 9 0 0 b1.1 nl)) b1.2.1 b1.2.2 = (b1.2.1, E, b1.2.2, lp, false, min (min (min k (jkT T L E false q.1)) (dm T L (knT T L E false q.1) 2 (fst_ q.1))) (jS T L b1.1 E), agL (C ++ (hX T L E q.1 C.length hm ++ (20, 0, 0, hm) :: cmS T L b1.1 E (C.length + nD q.1 + 1) lp hm)) p (((C ++ (hX T L E q.1 C.length hm ++ (20, 0, 0, hm) :: cmS T L b1.1 E (C.length + nD q.1 + 1) lp hm)).length : Nat) : Int), O ++ ([i] ++ (oS (kdT T L) q.1 1 ++ oP (kdT T L) b1.1)), hm) := by
          rw [el5]
          have e6 : C ++ (hX T L E q.1 C.length hm ++ (20, 0, 0, hm) :: cmS T L b1.1 E (C.length + nD q.1 + 1) lp hm) = (C ++ hX T L E q.1 C.length hm) ++ (20, 0, 0, hm) :: cmS T L b1.1 E (C.length + nD q.1 + 1) lp hm := by simp
          have e7 : (C ++ hX T L E q.1 C.length hm).length = p := by rw [List.length_append, hl]; exact hpp.symm
          rw [e6]
          conv => rhs; rw [← e7, agL_at]
          unfold mkS
          simp only [sI, sE, sc, sl, sb, sK, sC, sO, sh]
          have ec : cmS T L (nd 15 i 0 q.1 (nd 9 0 0 b1.1 nl)) E C.length lp hm = hX T L E q.1 C.length hm ++ ((20, ((C.length + nD q.1 + 1 + (nK b1.1 + 0) : Nat) : Int), 0, hm) :: (cmS T L b1.1 E (C.length + nD q.1 + 1) lp hm ++ [])) := rfl
          have ej : jS T L (nd 15 i 0 q.1 (nd 9 0 0 b1.1 nl)) E = min (min (jkT T L E false q.1) (dm T L (knT T L E false q.1) 2 (fst_ q.1))) (min (jS T L b1.1 E) 100000) := rfl
          have eo : oP (kdT T L) (nd 15 i 0 q.1 (nd 9 0 0 b1.1 nl)) = i :: (oS (kdT T L) q.1 1 ++ (oP (kdT T L) b1.1 ++ [])) := rfl
          have ek : min k (min (min (jkT T L E false q.1) (dm T L (knT T L E false q.1) 2 (fst_ q.1))) (min (jS T L b1.1 E) 100000)) = min (min (min k (jkT T L E false q.1)) (dm T L (knT T L E false q.1) 2 (fst_ q.1))) (jS T L b1.1 E) := by have := hkb.big; omega
          rw [ec, ej, eo, eSt_n (by decide), ek]
          simp [Nat.add_assoc]
        rw [e]
        exact hR6
end StDeep
