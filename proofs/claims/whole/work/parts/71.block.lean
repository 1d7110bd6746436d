/-! ===== the class reads a statement, a block ===== -/
/-- behind a whole statement -/
def stS (T : Nat → Int) (L : Nat) (s : ST) (a : Tr) (j c : Nat) : ST := (j, eSt T L (sE s) a, c, sl s, sb s, min (sK s) (jS T L a (sE s)), sC s ++ (19, 0, 0, ((tAt T L (fsS a) : Nat) : Int)) :: cmS T L a (sE s) ((sC s).length + 1) (sl s) ((tAt T L (fsS a) : Nat) : Int), sO s ++ oP (kdT T L) a, sh s)
def fSt (T : Nat → Int) (L n : Nat) (s : ST) : PE ST := bnd (pSt (kdT T L) (vlT T L) (pBk (kdT T L) (vlT T L) n) n (sc s) (cntE 4 (sE s)) (sI s)) (fun q => .ok (stS T L s q.1 q.2.1 q.2.2.1))
section StBlock
variable {g : Mg} {d D : Nat} {K : Ou → Wd → Prop} {w : Wd} {T : Nat → Int} {L : Nat} {ρ : PE ST}
theorem stmt_eq {n : Nat} {s : ST} {P : Nat → Nat → Nat → PE Q4} {v : Int} (hc : ¬ 120 ≤ sc s) (hP : pSt (kdT T L) (vlT T L) (pBk (kdT T L) (vlT T L) n) n (sc s) (cntE 4 (sE s)) (sI s) = P (sc s + 1) (cntE 4 (sE s)) (sI s)) (hv : v = sh s) : bnd (bnd (bnd (bnd (bnd (.ok s) fSc) (fHm (fun s => ((tAt T L (sI s) : Nat) : Int)))) (fAd 19 0 0)) (fP T L P)) (fHm (fun _ => v)) = bnd (.ok s) (fSt T L n) := by
  obtain ⟨i, E, c, lp, b, k, C, O, hm⟩ := s
  show bnd (fP T L P (i, E, c + 1, lp, b, k, C ++ [(19, 0, 0, ((tAt T L i : Nat) : Int))], O, ((tAt T L i : Nat) : Int))) _ = fSt T L n _
  unfold fP fSt
  simp only [bnd, fTk, fEx, fBl, fAd, fMk, fAm, fLp, fSc, fHm, fSh, sI, sE, sc, sl, sb, sK, sC, sO, sh] at hP ⊢
  rw [hP]
  cases hq : P (c + 1) (cntE 4 E) i with
  | error e => rfl
  | ok q =>
    have hg := (pSt_gs (fun c l i q => pBk_gb n c l i q) (hP.trans hq)).1.1
    show Except.ok _ = Except.ok _
    unfold mkS stS
    simp only [bnd, fTk, fEx, fBl, fAd, fMk, fAm, fLp, fSc, fHm, fSh, sI, sE, sc, sl, sb, sK, sC, sO, sh]
    rw [hg, hv]
    simp
theorem st_stmt {n within : Nat} (hd : 150 ≤ d) (hw : within + n = 13) (hB : SpBk g d T L n within) (hR : RdS T L w ρ) (hbg : bgS (kS T L (iS ρ)) ∨ ∃ e, ρ = .error e) (hp : ∀ s, ρ = .ok s → sb s = false ∧ (sC s).length ≤ sI s ∧ sl s + n + 1 ≤ 13 ∧ sc s ≤ 120) (h : ∀ w', FxS w w' → RdS T L w' (bnd ρ (fSt T L n)) → K (.inl none) w') : Cal g LC jRe_readStatement (d + 2) [vA 24, vI (within : Int)] w K := by
  have hnT := nTk_le (T := T) (L := L)
  refine Cal.ofV (by decide) rfl (Nat.le_of_ble_eq_true rfl) (s_Re_readStatement ⟨fun c0 => ?_, fun c0 => st_stop (f := 2) (by decide) hR (fun w1 hF1 hR1 _ => h w1 (FxS.e hF1) ?_)⟩)
  · have hR1 := hR.sc (v := wr (w 8 3 + 1)) (fun s hs => by
      subst hs
      rw [hR.2.2.2.2.2.1]
      have := (hp s rfl).2.2.2
      exact wr_n1 (by omega))
    have hF1 : FxS w (up w 8 3 (wr (w 8 3 + 1))) := ⟨((Fx.rf _ w).up (by decide)), fun b hb => up_k hb⟩
    generalize hw1 : up w 8 3 (wr (w 8 3 + 1)) = w1 at hR1 hF1
    refine Cal.ofV (by decide) rfl (Nat.le_of_ble_eq_true rfl) (s_Cu_here ?_)
    obtain ⟨i, hi, hi2, -⟩ := hR1.cs.kd hR1.1.1
    rw [hi]
    refine ⟨by omega, ?_⟩
    rw [toN]
    have hR2 := hR1.hm (f := fun s => ((tAt T L (sI s) : Nat) : Int)) (v := w1 5 i) (fun s1 h1 => by
      have hR1' := hR1
      rw [h1] at hR1'
      have hc := hR1'.2.2.1
      have hii : i = sI s1 := by have := hc.1; rw [hi] at this; omega
      rw [hii]
      exact hR1'.1.1.pl hc.2.2.1 hc.2.2.2)
    have hF2 : FxS w1 (up w1 19 5 (w1 5 i)) := FxS.of (M := [19]) ((Fx.rf _ w1).up (by decide)) (by decide) (by decide)
    refine st_add hR2 ?_ (fun w3 x3 hF3 hx3 hxi3 hR3 _ => st_kind hR3 ?_)
    · intro s2 h2
      cases ρ with
      | error e => cases h2
      | ok s =>
        cases h2
        have := (hp s rfl).2.1
        have := hR.2.2.1.2.2.2
        show (sC s).length < 1024
        omega
    · have hks : kS T L (iS (bnd (bnd (bnd ρ fSc) (fHm fun s => ((tAt T L (sI s) : Nat) : Int))) (fAd 19 0 0))) = kS T L (iS ρ) := by
        cases ρ <;> rfl
      rw [hks]
      have hp3 : ∀ s3, bnd (bnd (bnd ρ fSc) (fHm fun s => ((tAt T L (sI s) : Nat) : Int))) (fAd 19 0 0) = .ok s3 → sb s3 = false ∧ (sC s3).length ≤ sI s3 + 1 ∧ sl s3 + n + 1 ≤ 13 ∧ sc s3 ≤ 120 := by
        intro s3 h3
        cases ρ with
        | error e => cases h3
        | ok s =>
          cases h3
          obtain ⟨p1, p2, p3, p4⟩ := hp s rfl
          have c0' : sc s < 120 := by have := hR.2.2.2.2.2.1; rw [this] at c0; omega
          refine ⟨p1, ?_, p3, ?_⟩
          · show (sC s ++ [(19, 0, 0, ((tAt T L (sI s) : Nat) : Int))]).length ≤ sI s + 1
            rw [List.length_append]; simp; omega
          · show sc s + 1 ≤ 120
            omega
      -- behind the body
      have hend : ∀ (P : Nat → Nat → Nat → PE Q4) (w4 : Wd), (∀ s, ρ = .ok s → pSt (kdT T L) (vlT T L) (pBk (kdT T L) (vlT T L) n) n (sc s) (cntE 4 (sE s)) (sI s) = P (sc s + 1) (cntE 4 (sE s)) (sI s)) → FxS w3 w4 → RdS T L w4 (bnd (bnd (bnd (bnd ρ fSc) (fHm fun s => ((tAt T L (sI s) : Nat) : Int))) (fAd 19 0 0)) (fP T L P)) → K (.inl none) (up w4 19 5 (w 19 5)) := by
        intro P w4 hP hF4 hR4
        have hR5 := hR4.hm (f := fun _ => w 19 5) (v := w 19 5) (fun _ _ => rfl)
        have hF5 : FxS w4 (up w4 19 5 (w 19 5)) := FxS.of (M := [19]) ((Fx.rf _ w4).up (by decide)) (by decide) (by decide)
        refine h _ ((hF1.tr hF2).tr ((FxS.e hF3).tr (hF4.tr hF5))) ?_
        cases ρ with
        | error e => exact hR5
        | ok s =>
          have c0' : ¬ 120 ≤ sc s := by have := hR.2.2.2.2.2.1; rw [this] at c0; omega
          have hv : w 19 5 = sh s := hR.2.2.2.2.2.2.2.2.2.1.2.1
          rw [stmt_eq (P := P) c0' (hP s rfl) hv] at hR5
          exact hR5
      have hkd : ∀ s, ρ = .ok s → kS T L (iS ρ) = kdT T L (sI s) ∧ ¬ 120 ≤ sc s := by
        intro s hs
        subst hs
        have := hR.2.2.2.2.2.1
        rw [this] at c0
        exact ⟨rfl, by omega⟩
      refine ⟨fun z => ?_, fun z2 => ⟨fun z => ?_, fun z43 => ⟨fun z => ?_, fun z44 => ⟨fun z => ?_, fun z47 => ⟨fun z => ?_, fun z48 => ⟨fun z => ?_, fun z50 => ?_⟩⟩⟩⟩⟩⟩
      · refine st_set hd hw hR3 (fun s3 h3 => ⟨(hp3 s3 h3).1, (hp3 s3 h3).2.1⟩) (fun w4 hF4 hR4 => hend _ w4 (fun s hs => ?_) (FxS.e hF4) hR4)
        obtain ⟨k1, k2⟩ := hkd s hs
        unfold pSt
        rw [if_neg k2, if_pos (by omega)]
      · refine st_let hd hw hR3 (fun s3 h3 => ⟨(hp3 s3 h3).1, (hp3 s3 h3).2.1⟩) (fun w4 hF4 hR4 => hend _ w4 (fun s hs => ?_) hF4 hR4)
        obtain ⟨k1, k2⟩ := hkd s hs
        unfold pSt
        rw [if_neg k2, if_neg (by omega), if_pos (by omega)]
      · refine st_send hd hw hR3 (fun s3 h3 => ⟨(hp3 s3 h3).1, (hp3 s3 h3).2.1⟩) (fun w4 hF4 hR4 => hend _ w4 (fun s hs => ?_) hF4 hR4)
        obtain ⟨k1, k2⟩ := hkd s hs
        unfold pSt
        rw [if_neg k2, if_neg (by omega), if_neg (by omega), if_pos (by omega)]
      · refine st_give hd hw hR3 (fun s3 h3 => ⟨(hp3 s3 h3).1, (hp3 s3 h3).2.1⟩) (fun w4 hF4 hR4 => hend _ w4 (fun s hs => ?_) (FxS.e hF4) hR4)
        obtain ⟨k1, k2⟩ := hkd s hs
        unfold pSt
        rw [if_neg k2, if_neg (by omega), if_neg (by omega), if_neg (by omega), if_pos (by omega)]
      · refine st_if hd hw hB hR3 (fun s3 h3 => ⟨(hp3 s3 h3).1, (hp3 s3 h3).2.1, by have := (hp3 s3 h3).2.2.1; omega, (hp3 s3 h3).2.2.2⟩) (fun w4 hF4 hR4 => hend _ w4 (fun s hs => ?_) hF4 hR4)
        obtain ⟨k1, k2⟩ := hkd s hs
        unfold pSt
        rw [if_neg k2, if_neg (by omega), if_neg (by omega), if_neg (by omega), if_neg (by omega), if_pos (by omega)]
      · refine st_loop hd hB hR3 (fun s3 h3 => hp3 s3 h3) (fun w4 hF4 hR4 => hend _ w4 (fun s hs => ?_) hF4 hR4)
        obtain ⟨k1, k2⟩ := hkd s hs
        unfold pSt
        rw [if_neg k2, if_neg (by omega), if_neg (by omega), if_neg (by omega), if_neg (by omega), if_neg (by omega), if_pos (by omega)]
      · refine st_halt hd hR3 (fun s3 h3 => (hp3 s3 h3).2.1) (fun w4 hF4 hR4 => hend _ w4 (fun s hs => ?_) (FxS.e hF4) hR4)
        obtain ⟨k1, k2⟩ := hkd s hs
        unfold pSt
        rw [if_neg k2, if_neg (by omega), if_neg (by omega), if_neg (by omega), if_neg (by omega), if_neg (by omega), if_neg (by omega)]
  · cases ρ with
    | error e => exact hR1
    | ok s =>
      have hc : 120 ≤ sc s := by have := hR.2.2.2.2.2.1; rw [this] at c0; omega
      have e : bnd (.ok s) (fSt T L n) = bnd (.ok s) (fSp 2) := by
        show fSt T L n s = fSp 2 s
        unfold fSt pSt
        rw [if_pos hc]; rfl
      rw [e]
      exact hR1
/-- the NAMES behind a row of statements -/
def eCh (T : Nat → Int) (L : Nat) : Tr → List En → List En
  | .leaf, E => E
  | .inner _ _ _ l r, E => eCh T L r (eSt T L E l)
def chS (T : Nat → Int) (L : Nat) (s : ST) (a : Tr) (j c : Nat) : ST := (j, eCh T L a (sE s), c, sl s, sb s, min (sK s) (jS T L a (sE s)), sC s ++ cmS T L a (sE s) (sC s).length (sl s) (sh s), sO s ++ oP (kdT T L) a, sh s)
def fSL (T : Nat → Int) (L n f : Nat) (s : ST) : PE ST := bnd (pSL (kdT T L) (pSt (kdT T L) (vlT T L) (pBk (kdT T L) (vlT T L) n) n) f (sc s) (cntE 4 (sE s)) (sI s)) (fun z => .ok (chS T L s z.1 z.2.1 z.2.2))
theorem fSL_s {n f : Nat} {s : ST} (hb : bgS (kdT T L (sI s))) : bnd (fSt T L n s) (fSL T L n f) = fSL T L n (f + 1) s := by
  obtain ⟨i, E, c, lp, b, k, C, O, hm⟩ := s
  unfold fSt fSL
  simp only [bnd, fTk, fEx, fBl, fAd, fMk, fAm, fLp, fSc, fHm, fSh, sI, sE, sc, sl, sb, sK, sC, sO, sh] at hb ⊢
  rw [pSL, if_pos hb]
  cases hq : pSt (kdT T L) (vlT T L) (pBk (kdT T L) (vlT T L) n) n c (cntE 4 E) i with
  | error e => rfl
  | ok q =>
    obtain ⟨s1, s2, -⟩ := pSt_so (fun c l i q => pBk_len n c l i q) hq
    simp only [stS, bnd, fTk, fEx, fBl, fAd, fMk, fAm, fLp, fSc, fHm, fSh, sI, sE, sc, sl, sb, sK, sC, sO, sh]
    rw [← s2]
    cases hz : pSL (kdT T L) (pSt (kdT T L) (vlT T L) (pBk (kdT T L) (vlT T L) n) n) f q.2.2.1 q.2.2.2 q.2.1 with
    | error e => rfl
    | ok z =>
      simp only [chS, bnd, fTk, fEx, fBl, fAd, fMk, fAm, fLp, fSc, fHm, fSh, sI, sE, sc, sl, sb, sK, sC, sO, sh]
      have ec : cmS T L (nd 20 0 0 q.1 z.1) E C.length lp hm = (19, 0, 0, ((tAt T L (fsS q.1) : Nat) : Int)) :: (cmS T L q.1 E (C.length + 1) lp ((tAt T L (fsS q.1) : Nat) : Int) ++ cmS T L z.1 (eSt T L E q.1) (C.length + 1 + nK q.1) lp hm) := rfl
      have ej : jS T L (nd 20 0 0 q.1 z.1) E = min (jS T L q.1 E) (jS T L z.1 (eSt T L E q.1)) := rfl
      have eo : oP (kdT T L) (nd 20 0 0 q.1 z.1) = oP (kdT T L) q.1 ++ oP (kdT T L) z.1 := rfl
      have el : (C ++ (19, 0, 0, ((tAt T L (fsS q.1) : Nat) : Int)) :: cmS T L q.1 E (C.length + 1) lp ((tAt T L (fsS q.1) : Nat) : Int)).length = C.length + 1 + nK q.1 := by
        rw [List.length_append, List.length_cons, s1]; omega
      rw [ec, ej, eo, el]
      simp [Nat.min_assoc, eCh]
theorem fSL_n {n f : Nat} {s : ST} (hb : ¬ bgS (kdT T L (sI s))) (hk : min (sK s) 100000 = sK s) : fSL T L n f s = .ok s := by
  obtain ⟨i, E, c, lp, b, k, C, O, hm⟩ := s
  unfold fSL
  simp only [bnd, fTk, fEx, fBl, fAd, fMk, fAm, fLp, fSc, fHm, fSh, sI, sE, sc, sl, sb, sK, sC, sO, sh] at hb hk ⊢
  have : pSL (kdT T L) (pSt (kdT T L) (vlT T L) (pBk (kdT T L) (vlT T L) n) n) f c (cntE 4 E) i = .ok (nl, i, c) := by
    cases f with
    | zero => rfl
    | succ f => rw [pSL, if_neg hb]
  rw [this]
  simp [chS, eCh, jS, cmS, oP, hk]
theorem eCh_app : ∀ (a : Tr) (E : List En), (∃ X, eCh T L a E = E ++ X)
  | .leaf, E => ⟨[], by simp [eCh]⟩
  | .inner c t q l r, E => by
    obtain ⟨X, hX⟩ := eCh_app r (eSt T L E l)
    have : ∃ Y, eSt T L E l = E ++ Y := by
      cases l with
      | leaf => exact ⟨[], by simp [eSt]⟩
      | inner c t q l r =>
        simp only [eSt]
        split
        · exact ⟨_, rfl⟩
        · exact ⟨[], by simp⟩
    obtain ⟨Y, hY⟩ := this
    refine ⟨Y ++ X, ?_⟩
    show eCh T L r (eSt T L E l) = _
    rw [hX, hY, List.append_assoc]
theorem sp_beginsS {c : Nat} (h : K (.inl (some (vI (if bgS c then 1 else 0)))) w) : Cal g LC jRe_beginsStatement D [vI (c : Int)] w K := by
  have hy : bgS c → K (.inl (some (vI 1))) w := fun z => by rw [if_pos z] at h; exact h
  have hn : ¬ bgS c → K (.inl (some (vI 0))) w := fun z => by rw [if_neg z] at h; exact h
  clear h
  exact Cal.ofV (by decide) rfl (Nat.le_of_ble_eq_true rfl) (s_Re_beginsStatement ⟨fun q => hy (by omega), fun q1 => ⟨fun q => hy (by omega), fun q2 => ⟨fun q => hy (by omega), fun q3 => ⟨fun q => hy (by omega), fun q4 => ⟨fun q => hy (by omega), fun q5 => ⟨fun q => hy (by omega), fun q6 => ⟨fun q => hn (by omega), fun q => hy (by omega)⟩⟩⟩⟩⟩⟩⟩)
theorem block_loop {n within seen : Nat} {w0 : Wd} {ρ0 : PE ST} (hd : 150 ≤ d) (hw : within + n + 1 = 13) (hB : SpBk g d T L n (within + 1)) (hseen : ∀ s, ρ0 = .ok s → seen = (sE s).length) (h : ∀ w', FxS w0 w' → RdS T L w' (bnd (bnd (bnd ρ0 (fSL T L n 121)) (fTk (kdT T L) 6)) (fSh seen)) → K (.inl none) w') :
    ∀ (f m : Nat) (w : Wd) (ρ : PE ST), m + f = 121 → FxS w0 w → RdS T L w ρ → bnd ρ (fSL T L n f) = bnd ρ0 (fSL T L n 121) → (∀ s, ρ = .ok s → sb s = false ∧ (sC s).length ≤ sI s ∧ sl s + n + 1 ≤ 13 ∧ sc s ≤ 120 ∧ m ≤ sc s ∧ seen ≤ (sE s).length) → V g LC jRe_readBlock (d + 3) K 44 [(0, vA 24), (1, vI (within : Int)), (2, vI (seen : Int)), (3, vI (m : Int))] [] w := by
  have hout : ∀ (f : Nat) (w : Wd) (ρ : PE ST), FxS w0 w → RdS T L w ρ → bnd ρ (fSL T L n f) = bnd ρ0 (fSL T L n 121) → (∀ s, ρ = .ok s → seen ≤ (sE s).length ∧ (f = 0 ∨ ¬ bgS (kdT T L (sI s)))) → Cal g LC jCu_take (d + 2) [vA 25, vI 6] w (fun o w1 => rI o (fun x2 => Cal g LC jLo_shrinkTo (d + 2) [vA 13, vI (seen : Int)] w1 (fun o w3 => rV o (K (.inl none) w3)))) := by
    intro f w ρ hF hR he hs
    have he' : bnd ρ0 (fSL T L n 121) = ρ := by
      rw [← he]
      cases ρ with
      | error e => rfl
      | ok s =>
        obtain ⟨-, hb⟩ := hs s rfl
        show fSL T L n f s = .ok s
        have hk := hR.2.2.2.2.2.2.2.2.1.big
        rcases hb with rfl | hb
        · obtain ⟨i, E, c, lp, b, k, C, O, hm⟩ := s
          unfold fSL
          have hk' : min k 100000 = k := hk
          simp [pSL, bnd, chS, eCh, jS, cmS, oP, hk']
        · exact fSL_n hb hk
    refine st_take (c := 6) (by omega) hR (by decide) (fun w1 x1 hF1 hx1 hxi1 hR1 _ => st_shrink hR1 ?_ (fun w2 hF2 hR2 _ => h w2 (hF.tr ((FxS.e hF1).tr hF2)) ?_))
    · intro s1 h1
      obtain ⟨s, a1, a2⟩ := bnd_ok h1
      obtain ⟨-, rfl⟩ := fTk_ok a2
      exact (hs s a1).1
    · rw [he']; exact hR2
  intro f
  induction f with
  | zero =>
    intro m w ρ hm hF hR he hp
    refine s_Re_readBlock_44 ⟨fun _ => hout 0 w ρ hF hR he (fun s hs => ⟨(hp s hs).2.2.2.2.2, Or.inl rfl⟩), fun c => absurd (by omega) c⟩
  | succ f ih =>
    intro m w ρ hm hF hR he hp
    refine s_Re_readBlock_44 ⟨fun c => absurd c (by omega), fun c => st_kind hR (sp_beginsS ⟨fun c2 => hout (f + 1) w ρ hF hR he (fun s hs => ⟨(hp s hs).2.2.2.2.2, Or.inr (fun z => ?_)⟩), fun c2 => ?_⟩)⟩
    · subst hs
      have z' : bgS (kS T L (iS (.ok s))) := z
      rw [if_pos z'] at c2
      exact absurd c2 (by decide)
    · have hbg : bgS (kS T L (iS ρ)) := by
        by_cases z : bgS (kS T L (iS ρ))
        · exact z
        · rw [if_neg z] at c2; exact absurd rfl c2
      rw [wr_n1 (by omega), wr_n1 (by omega)]
      refine st_stmt (n := n) (within := within + 1) hd (by omega) hB hR (Or.inl hbg) (fun s hs => ⟨(hp s hs).1, (hp s hs).2.1, (hp s hs).2.2.1, (hp s hs).2.2.2.1⟩) (fun w1 hF1 hR1 => ih (m + 1) w1 _ (by omega) (hF.tr hF1) hR1 ?_ ?_)
      · rw [← he]
        cases ρ with
        | error e => rfl
        | ok s => exact fSL_s hbg
      · intro s1 h1
        cases ρ with
        | error e => cases h1
        | ok s =>
          have h1' : fSt T L n s = .ok s1 := h1
          unfold fSt at h1'
          obtain ⟨q, hq, h2⟩ := bnd_ok h1'
          obtain ⟨s1', s2, X, s3⟩ := pSt_so (fun c l i q => pBk_len n c l i q) hq
          obtain ⟨⟨g1, g2, g3, g4⟩, g5, g6, g7⟩ := pSt_gs (fun c l i q => pBk_gb n c l i q) hq
          cases h2
          obtain ⟨p1, p2, p3, p4, p5, p6⟩ := hp s rfl
          refine ⟨p1, ?_, p3, g6, ?_, ?_⟩
          · show (sC s ++ (19, 0, 0, ((tAt T L (fsS q.1) : Nat) : Int)) :: cmS T L q.1 (sE s) ((sC s).length + 1) (sl s) ((tAt T L (fsS q.1) : Nat) : Int)).length ≤ q.2.1
            rw [List.length_append, List.length_cons, s1']; omega
          · show m + 1 ≤ q.2.2.1; omega
          · show seen ≤ (eSt T L (sE s) q.1).length
            rw [s3, List.length_append]; omega
theorem block_eq {n seen : Nat} (hs : ∀ s, ρ = .ok s → seen = (sE s).length) : bnd (bnd (bnd (bnd ρ (fTk (kdT T L) 5)) (fSL T L n 121)) (fTk (kdT T L) 6)) (fSh seen) = bnd ρ (fB T L (pBk (kdT T L) (vlT T L) (n + 1))) := by
  cases ρ with
  | error e => rfl
  | ok s =>
    have hseen := hs s rfl
    obtain ⟨i, E, c, lp, b, k, C, O, hm⟩ := s
    have hseen' : seen = E.length := hseen
    show bnd (bnd (bnd (fTk (kdT T L) 5 (i, E, c, lp, b, k, C, O, hm)) _) _) _ = fB T L (pBk (kdT T L) (vlT T L) (n + 1)) (i, E, c, lp, b, k, C, O, hm)
    unfold fB
    rw [pBk]
    cases e1 : ex (kdT T L) 5 i with
    | error e => simp only [bnd, fTk, fEx, fBl, fAd, fMk, fAm, fLp, fSc, fHm, fSh, sI, sE, sc, sl, sb, sK, sC, sO, sh, e1]
    | ok i1 =>
      cases e2 : pSL (kdT T L) (pSt (kdT T L) (vlT T L) (pBk (kdT T L) (vlT T L) n) n) 121 c (cntE 4 E) i1 with
      | error e => simp only [fSL, bnd, fTk, fEx, fBl, fAd, fMk, fAm, fLp, fSc, fHm, fSh, sI, sE, sc, sl, sb, sK, sC, sO, sh, e1, e2]
      | ok z =>
        cases e3 : ex (kdT T L) 6 z.2.1 with
        | error e => simp only [fSL, chS, bnd, fTk, fEx, fBl, fAd, fMk, fAm, fLp, fSc, fHm, fSh, sI, sE, sc, sl, sb, sK, sC, sO, sh, e1, e2, e3]
        | ok j =>
          obtain ⟨X, hX⟩ := eCh_app (T := T) (L := L) z.1 E
          simp only [fSL, chS, mkS, bnd, fTk, fEx, fBl, fAd, fMk, fAm, fLp, fSc, fHm, fSh, sI, sE, sc, sl, sb, sK, sC, sO, sh, e1, e2, e3]
          have ec : cmS T L (nd 21 i z.2.1 z.1 nl) E C.length lp hm = cmS T L z.1 E C.length lp hm := rfl
          have ej : jS T L (nd 21 i z.2.1 z.1 nl) E = jS T L z.1 E := rfl
          have eo : oP (kdT T L) (nd 21 i z.2.1 z.1 nl) = i :: (oP (kdT T L) z.1 ++ [z.2.1]) := rfl
          rw [ec, ej, eo, eSt_n (by decide), hX, hseen']
          simp
/-- readBlock(within) -/
theorem sp_block : ∀ (n within : Nat), within + n = 13 → SpBk g (3 * n + 160) T L n within := by
  intro n
  induction n with
  | zero =>
    intro within hw K w ρ hR hp h
    have hw13 : within = 13 := by omega
    subst hw13
    -- nothing of a block can be read here
    have hgo : ∀ (w1 : Wd) (e : Nat × Nat), FxS w w1 → RdS T L w1 (.error e) → bnd ρ (fB T L (pBk (kdT T L) (vlT T L) 0)) = .error e → Cal g LC jLo_size 159 [vA 13] w1 (fun o w5 => rI o (fun x6 => V g LC jRe_readBlock (159 + 1) K 44 [(0, vA 24), (1, vI ((13 : Nat) : Int)), (2, vI x6), (3, vI 0)] [] w5)) := by
      intro w1 e hF1 hR1 he
      refine Cal.ofV (by decide) rfl (Nat.le_of_ble_eq_true rfl) (s_Lo_size ?_)
      obtain ⟨sz, hsz, -, -⟩ := id hR1.1.2.1
      rw [hsz]
      refine s_Re_readBlock_44 ⟨fun c => absurd c (by decide), fun c => st_kind hR1 (sp_beginsS ⟨fun _ => st_take (c := 6) (by omega) hR1 (by decide) (fun w2 x2 hF2 hx2 hxi2 hR2 _ => st_shrink (ρ := .error e) hR2 (fun s z => by cases z) (fun w3 hF3 hR3 _ => h w3 (hF1.tr ((FxS.e hF2).tr hF3)) (by rw [he]; exact hR3))), fun c2 => absurd (show (if bgS 0 then 1 else 0 : Int) = 0 from by decide) c2⟩)⟩
    refine Cal.ofV (by decide) rfl (Nat.le_of_ble_eq_true rfl) (s_Re_readBlock (st_sees (c := 5) hR ⟨fun c => st_take (c := 5) (by omega) hR (by decide) (fun w1 x1 hF1 hx1 hxi1 hR1 _ => ?_), fun c => ⟨fun c2 => absurd c2 (by omega), fun c2 => st_stop (f := 2) (by decide) hR (fun w1 hF1 hR1 _ => st_take (c := 5) (by omega) hR1 (by decide) (fun w2 x2 hF2 hx2 hxi2 hR2 _ => ?_))⟩⟩))
    · have he : ∃ e, bnd ρ (fTk (kdT T L) 5) = .error e ∧ bnd ρ (fB T L (pBk (kdT T L) (vlT T L) 0)) = .error e := by
        cases ρ with
        | error e => exact ⟨e, rfl, rfl⟩
        | ok s =>
          have hne : ¬ kdT T L (sI s) = 5 := by
            intro z
            have z' : kS T L (iS (.ok s)) = 5 := z
            rw [if_pos z'] at c
            exact absurd c (by decide)
          refine ⟨(1, sI s), ?_, ?_⟩
          · show fTk (kdT T L) 5 s = _
            unfold fTk ex; rw [if_neg hne]; rfl
          · show fB T L (pBk (kdT T L) (vlT T L) 0) s = _
            unfold fB; rw [pBk, if_neg hne]; rfl
      obtain ⟨e, he1, he2⟩ := he
      rw [he1] at hR1
      exact hgo w1 e (FxS.e hF1) hR1 he2
    · have he : ∃ e, bnd (bnd ρ (fSp 2)) (fTk (kdT T L) 5) = .error e ∧ bnd ρ (fB T L (pBk (kdT T L) (vlT T L) 0)) = .error e := by
        cases ρ with
        | error e => exact ⟨e, rfl, rfl⟩
        | ok s =>
          have hk : kdT T L (sI s) = 5 := by
            by_cases z : kS T L (iS (.ok s)) = 5
            · exact z
            · rw [if_neg z] at c; exact absurd rfl c
          refine ⟨(2, sI s), rfl, ?_⟩
          show fB T L (pBk (kdT T L) (vlT T L) 0) s = _
          unfold fB; rw [pBk, if_pos hk]; rfl
      obtain ⟨e, he1, he2⟩ := he
      rw [he1] at hR2
      exact hgo w2 e (FxS.e (hF1.tr hF2)) hR2 he2
  | succ n ih =>
    intro within hw K w ρ hR hp h
    have hB := ih (within + 1) (by omega)
    have hgo : Cal g LC jCu_take (3 * n + 160 + 2) [vA 25, vI 5] w (fun o w3 => rI o (fun x4 => Cal g LC jLo_size (3 * n + 160 + 2) [vA 13] w3 (fun o w5 => rI o (fun x6 => V g LC jRe_readBlock (3 * n + 160 + 2 + 1) K 44 [(0, vA 24), (1, vI (within : Int)), (2, vI x6), (3, vI 0)] [] w5)))) := by
      refine st_take (c := 5) (by omega) hR (by decide) (fun w1 x1 hF1 hx1 hxi1 hR1 _ => Cal.ofV (by decide) rfl (Nat.le_of_ble_eq_true rfl) (s_Lo_size ?_))
      obtain ⟨sz, hsz, -, -⟩ := id hR1.1.2.1
      rw [hsz]
      have hsE : ∀ s, ρ = .ok s → ∀ s1, fTk (kdT T L) 5 s = .ok s1 → sz = (sE s).length := by
        intro s hs s1 h1
        subst hs
        have h2 := hR.2.2.2.1.1
        have h3 : w1 13 = w 13 := hF1 13 (by decide)
        rw [h3] at hsz
        rw [hsz] at h2
        omega
      refine block_loop (ρ0 := bnd ρ (fTk (kdT T L) 5)) (w0 := w1) (by omega) (by omega) hB (fun s1 h1 => ?_) (fun w' hF' hR' => h w' ((FxS.e hF1).tr hF') ?_) 121 0 w1 _ (by decide) (FxS.rf w1) hR1 rfl (fun s1 h1 => ?_)
      · obtain ⟨s, a1, a2⟩ := bnd_ok h1
        have := hsE s a1 s1 a2
        obtain ⟨-, rfl⟩ := fTk_ok a2
        exact this
      · cases hq : bnd ρ (fTk (kdT T L) 5) with
        | error e =>
          have : bnd ρ (fB T L (pBk (kdT T L) (vlT T L) (n + 1))) = .error e := by
            cases ρ with
            | error e' => cases hq; rfl
            | ok s =>
              have hq' : fTk (kdT T L) 5 s = .error e := hq
              show fB T L (pBk (kdT T L) (vlT T L) (n + 1)) s = _
              unfold fB; rw [pBk]
              unfold fTk at hq'
              cases e1 : ex (kdT T L) 5 (sI s) with
              | error e2 => rw [e1] at hq'; cases hq'; rfl
              | ok j => rw [e1] at hq'; cases hq'
          rw [hq] at hR'
          rw [this]
          exact hR'
        | ok s1 =>
          obtain ⟨s, a1, a2⟩ := bnd_ok hq
          rw [← block_eq (seen := sz) (fun s' hs' => by rw [a1] at hs'; cases hs'; exact hsE s a1 s1 a2)]
          exact hR'
      · obtain ⟨s, a1, a2⟩ := bnd_ok h1
        have hse := hsE s a1 s1 a2
        obtain ⟨-, rfl⟩ := fTk_ok a2
        obtain ⟨p1, p2, p3, p4⟩ := hp s a1
        refine ⟨p1, p2, ?_, p4, Nat.zero_le _, ?_⟩
        · show sl s + n + 1 ≤ 13; omega
        · show sz ≤ (sE s).length; omega
    refine Cal.ofV (by decide) rfl (Nat.le_of_ble_eq_true rfl) (s_Re_readBlock (d := 3 * n + 160 + 2) (st_sees (c := 5) hR ⟨fun c => hgo, fun c => ⟨fun c2 => hgo, fun c2 => absurd (by omega) c2⟩⟩))
end StBlock
