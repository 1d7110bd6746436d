/-! ===== the class's lot shrinks; NAMES that are new, NAMES that must be there ===== -/
section LotS2
variable {g : Mg} {D : Nat} {K : Ou → Wd → Prop} {w : Wd} {T : Nat → Int} {L : Nat} {ρ : PE ST}
def fSh (left : Nat) (s : ST) : PE ST := .ok (sI s, (sE s).take left, sc s, sl s, sb s, sK s, sC s, sO s, sh s)
theorem sh_loop {w0 : Wd} {ρ0 : PE ST} {left : Nat} (hl : ∀ s, ρ0 = .ok s → left ≤ (sE s).length) (h : ∀ (w' : Wd), FxS w0 w' → RdS T L w' (bnd ρ0 (fSh left)) → w' 27 = w0 27 → K (.inl none) w') :
    ∀ (n : Nat) (w : Wd), w 13 6 = (n : Int) → n ≤ 28 → (∀ s, ρ0 = .ok s → left ≤ n ∧ n ≤ (sE s).length) → FxS w0 w → RdS T L w (bnd ρ0 (fSh n)) → w 27 = w0 27 → V g LC jLo_shrinkTo D K 0 [(0, vA 13), (1, vI (left : Int))] [] w := by
  have hdone : ∀ (n : Nat) (w : Wd), n ≤ left → (∀ s, ρ0 = .ok s → left ≤ n ∧ n ≤ (sE s).length) → FxS w0 w → RdS T L w (bnd ρ0 (fSh n)) → w 27 = w0 27 → K (.inl none) w := by
    intro n w hc hs hF hR h27
    refine h w hF ?_ h27
    cases ρ0 with
    | error e => exact hR
    | ok s => have := (hs s rfl).1; rw [show left = n by omega]; exact hR
  intro n
  induction n with
  | zero =>
    intro w hn hn28 hs hF hR h27
    refine s_Lo_shrinkTo_0 ⟨fun c => hdone 0 w (by omega) hs hF hR h27, fun c => absurd (by rw [hn]; omega) c⟩
  | succ n ih =>
    intro w hn hn28 hs hF hR h27
    obtain ⟨m, hm, hm28, hml⟩ := id hR.1.2.1
    have hmn : m = n + 1 := by rw [hm] at hn; omega
    subst hmn
    obtain ⟨⟨t, ht, ht2⟩, hso1, hso2⟩ := hml n (by omega)
    have e1 : wr (((n + 1 : Nat) : Int) - 1) = (n : Int) := wrN (by omega) (by omega)
    obtain ⟨so, hso⟩ : ∃ so : Nat, w 15 n = (so : Int) := ⟨(w 15 n).toNat, by omega⟩
    refine s_Lo_shrinkTo_0 ⟨fun c => hdone (n + 1) w (by omega) hs hF hR h27, fun c => ⟨fun c2 => absurd c2 (by omega), fun c2 => ?_⟩⟩
    rw [hn, e1, toN, hso, toN]
    rw [hn] at c
    refine ⟨by omega, by omega, by omega, ?_⟩
    have hF1 : Fx [13, 18] w (up (up w 13 6 (n : Int)) 18 so (wr (w 18 so - 1))) := ((Fx.rf _ w).up (by decide)).up (by decide)
    refine ih _ (by rw [up_o (by decide), up_s]) (by omega) (fun s z => ⟨by omega, by have := (hs s z).2; omega⟩) (hF.tr (FxS.of hF1 (by decide) (by decide))) ⟨?_, by rw [hF1 26 (by decide)]; exact hR.2.1, ?_⟩ (by rw [hF1 27 (by decide)]; exact h27)
    · refine ⟨?_, ⟨n, by rw [up_o (by decide), up_s], by omega, fun e he => ?_⟩, hR.1.2.2.1.fx hF1 (by decide), hR.1.2.2.2.fx hF1 (by decide)⟩
      · have := hR.1.1
        unfold TxC Toks TokE at *
        rw [hF1 2 (by decide), hF1 3 (by decide), hF1 4 (by decide), hF1 5 (by decide), hF1 6 (by decide), hF1 7 (by decide)]
        exact this
      · rw [hF1 14 (by decide), hF1 15 (by decide)]
        exact hml e (by omega)
    · cases ρ0 with
      | error e => exact CS.fx (σ := .error e) hR.2.2 hF1 (by decide)
      | ok s =>
        obtain ⟨o1, o2, o3, o4, o5, o6, o7, o8, o9, o10⟩ := hR.2.2
        have hlen := (hs s rfl).2
        have hget : (sE s)[n]? = some (sE s)[n] := List.getElem?_eq_getElem (by omega)
        have htk : (sE s).take (n + 1) = (sE s).take n ++ [(sE s)[n]] := by rw [List.take_succ, hget]; rfl
        have o2' : EC T L w ((sE s).take (n + 1)) := o2
        have o3' : SZ w ((sE s).take (n + 1)) := o3
        have hen := o2'.2 n (sE s)[n] (by rw [List.getElem?_take, if_pos (by omega)]; exact hget)
        have hsoe : so = (sE s)[n].2.1 := by have := hen.2.1; rw [hso] at this; omega
        refine ⟨CS.fx (σ := .ok (sI s)) o1 hF1 (by decide), ⟨?_, fun q e he => ?_⟩, ⟨fun t ht => ?_, fun e he => o3'.2 e (by rw [htk]; exact List.mem_append_left _ he)⟩, by rw [hF1 8 (by decide)]; exact o4, by rw [hF1 24 (by decide)]; exact o5, by rw [hF1 26 (by decide)]; exact o6, o7.same (hF1 25 (by decide)), o8.fx hF1 (by decide) (by decide) (by decide) (by decide) (by decide), o9.congr (fun x _ _ => by rw [hF1 30 (by decide)]), fun x hx => by rw [hF1 30 (by decide)]; exact o10 x hx⟩
        · rw [up_o (by decide), up_s]
          show (n : Int) = ((List.take n (sE s)).length : Int)
          rw [List.length_take]; omega
        · have he' : (List.take n (sE s))[q]? = some e := he
          rw [hF1 14 (by decide), hF1 15 (by decide), hF1 16 (by decide), hF1 17 (by decide)]
          refine o2'.2 q e ?_
          rw [List.getElem?_take] at he' ⊢
          split at he'
          · rw [if_pos (by omega)]; exact he'
          · cases he'
        · have h1 := o3'.1 t ht
          rw [htk, cnt_app] at h1
          show up (up w 13 6 (n : Int)) 18 so (wr (w 18 so - 1)) 18 t = ((cntE t (List.take n (sE s)) : Nat) : Int) ∧ ((cntE t (List.take n (sE s)) : Nat) : Int) ≤ mostL.getD t 0
          by_cases hts : t = so
          · rw [if_pos (by rw [← hsoe]; exact hts.symm)] at h1
            rw [hts, up_s]
            rw [hts] at h1
            have hle : (((cntE so (List.take n (sE s)) + 1 : Nat)) : Int) ≤ 8 := by
              refine Int.le_trans h1.2 ?_
              rcases (by omega : so = 0 ∨ so = 1 ∨ so = 2 ∨ so = 3 ∨ so = 4) with rfl | rfl | rfl | rfl | rfl <;> decide
            rw [h1.1]
            have h2 := h1.2
            exact ⟨wrN (by omega) (by omega), by omega⟩
          · rw [if_neg (by rw [← hsoe]; exact fun z => hts z.symm)] at h1
            rw [up_k hts, up_o (by decide)]
            exact h1
theorem st_shrink {left : Nat} (hR : RdS T L w ρ) (hl : ∀ s, ρ = .ok s → left ≤ (sE s).length) (h : ∀ (w' : Wd), FxS w w' → RdS T L w' (bnd ρ (fSh left)) → w' 27 = w 27 → K (.inl none) w') : Cal g LC jLo_shrinkTo D [vA 13, vI (left : Int)] w K := by
  obtain ⟨n, hn, hn28, hnl⟩ := id hR.1.2.1
  refine Cal.ofV (by decide) rfl (Nat.le_of_ble_eq_true rfl) (sh_loop (w0 := w) hl h n w hn hn28 (fun s hs => ?_) (FxS.rf w) ?_ rfl)
  · subst hs
    have := hR.2.2.2.1.1
    rw [hn] at this
    exact ⟨by have := hl s rfl; omega, by omega⟩
  · cases ρ with
    | error e => exact hR
    | ok s =>
      have := hR.2.2.2.1.1
      rw [hn] at this
      have e : bnd (.ok s) (fSh n) = .ok s := by
        show fSh n s = .ok s
        unfold fSh
        rw [List.take_of_length_le (by omega)]
      rw [e]
      exact hR
theorem RdS.b0 (hR : RdS T L w ρ) : RdS T L w (bnd ρ (fBl 100000)) := hR.b2 (B2.rf w) (fun s _ hk => by rw [hk.big]; exact hk)
def fB3 (T : Nat → Int) (L x : Nat) (s : ST) : PE ST := fBl (if fnd T L (sE s) x = none then 100000 else tAt T L x * 8 + 3) s
theorem fIx_none {E : List En} {t : Nat} : fIx T L E t 0 < 0 ↔ fnd T L E t = none := by
  rcases fIx_fnd (T := T) (L := L) (t := t) E 0 with ⟨h1, h2⟩ | ⟨q, e, h1, h2, h3⟩
  · rw [h1, h2]; simp
  · rw [h1, h3]; simp
/-- a new NAME: told already? -/
theorem nn_tail {x : Nat} (hD : 1 ≤ D) (hR : RdS T L w ρ) (hx : x ≤ nTk T L) (hx2 : ∀ s, ρ = .ok s → x < nTk T L ∧ x ≤ 1000) (h : ∀ w', Fx FEl w w' → RdS T L w' (bnd ρ (fB3 T L x)) → w' 27 = w 27 → K (.inl (some (vI (x : Int)))) w') : Cal g LC jLo_find D [vA 13, vI (x : Int)] w (fun o w5 => rI o (fun x6 => (x6 < 0 → (K (.inl (some (vI (x : Int)))) w5)) ∧ (¬ x6 < 0 → (Cal g LC jCu_blame D [vA 25, vI 3, vI (x : Int)] w5 (fun o w7 => rV o (K (.inl (some (vI (x : Int)))) w7)))))) := by
  refine sp_find hD hR.1 hx (fun f hf1 hf2 hf3 => ⟨fun c => h w (Fx.rf _ w) ?_ rfl, fun c => st_blame (f := 3) hR (by decide) hx (fun s hs => (hx2 s hs).2) (fun w' hF hR' h27 => h w' hF ?_ h27)⟩)
  · cases ρ with
    | error e => exact hR
    | ok s =>
      have := hf3 _ hR.2.2.2.1 (hx2 s rfl).1
      rw [this, fIx_none] at c
      have e : bnd (.ok s) (fB3 T L x) = bnd (.ok s) (fBl 100000) := by show fB3 T L x s = fBl 100000 s; unfold fB3; rw [if_pos c]
      rw [e]
      exact hR.b0
  · cases ρ with
    | error e => exact hR'
    | ok s =>
      have := hf3 _ hR.2.2.2.1 (hx2 s rfl).1
      rw [this, fIx_none] at c
      have e : bnd (.ok s) (fB3 T L x) = bnd (.ok s) (fBl (tAt T L x * 8 + 3)) := by show fB3 T L x s = fBl _ s; unfold fB3; rw [if_neg c]
      rw [e]
      exact hR'
def fNN (T : Nat → Int) (L so : Nat) (s : ST) : PE ST := bnd (pNm (kdT T L) (mostL.getD so 0 ≤ ((cntE so (sE s) : Nat) : Int)) (sI s)) (fun j => .ok (j, sE s, sc s, sl s, sb s, min (sK s) (if fnd T L (sE s) (sI s) = none then 100000 else tAt T L (sI s) * 8 + 3), sC s, sO s ++ [sI s], sh s))
theorem st_newName {so : Nat} (hD : 2 ≤ D) (hR : RdS T L w ρ) (hso : so < 5) (h : ∀ (w' : Wd) (x : Nat), Fx FEl w w' → x ≤ nTk T L → (∀ s, ρ = .ok s → ∀ s', fNN T L so s = .ok s' → x = sI s) → RdS T L w' (bnd ρ (fNN T L so)) → w' 27 = w 27 → K (.inl (some (vI (x : Int)))) w') : Cal g LC jRe_newName D [vA 24, vI (so : Int)] w K := by
  obtain ⟨d, rfl⟩ : ∃ d, D = d + 1 := ⟨D - 1, by omega⟩
  -- the NAME, where there is room
  have hroom : (∀ s, ρ = .ok s → ¬ (kdT T L (sI s) = 2 ∧ mostL.getD so 0 ≤ ((cntE so (sE s) : Nat) : Int))) → Cal g LC jCu_take d [vA 25, vI 2] w (fun o w3 => rI o (fun x4 => Cal g LC jLo_find d [vA 13, vI x4] w3 (fun o w5 => rI o (fun x6 => (x6 < 0 → (K (.inl (some (vI x4))) w5)) ∧ (¬ x6 < 0 → (Cal g LC jCu_blame d [vA 25, vI 3, vI x4] w5 (fun o w7 => rV o (K (.inl (some (vI x4))) w7)))))))) := by
    intro hno
    refine st_take (c := 2) (by omega) hR (by decide) (fun w1 x hF1 hx hxi hR1 h271 => nn_tail (by omega) hR1 hx (fun s1 hs1 => ?_) (fun w2 hF2 hR2 h272 => h w2 x (hF1.tr hF2) hx (fun s hs _ _ => hxi s hs) ?_ (h272.trans h271)))
    · cases ρ with
      | error e => cases hs1
      | ok s =>
        have hs1' : fTk (kdT T L) 2 s = .ok s1 := hs1
        unfold fTk at hs1'
        obtain ⟨j, hj, -⟩ := bnd_ok hs1'
        obtain ⟨k1, -, k3⟩ := ex_ok hj
        have hxs := hxi s rfl
        subst hxs
        have hc := hR.2.2.1
        exact ⟨kdT_lt hc.2.2.1 hc.2.2.2 (by omega), by omega⟩
    · have e : bnd (bnd ρ (fTk (kdT T L) 2)) (fB3 T L x) = bnd ρ (fNN T L so) := by
        cases ρ with
        | error e => rfl
        | ok s =>
          have hxs := hxi s rfl
          subst hxs
          show bnd (fTk (kdT T L) 2 s) (fB3 T L (sI s)) = fNN T L so s
          unfold fTk fNN pNm
          rw [if_neg (hno s rfl)]
          cases ex (kdT T L) 2 (sI s) <;> rfl
      rw [← e]
      exact hR2
  refine Cal.ofV (by decide) rfl (Nat.le_of_ble_eq_true rfl) (s_Re_newName (st_sees (c := 2) hR ⟨fun c => hroom (fun s hs z => ?_), fun c => Cal.ofV (by decide) rfl (Nat.le_of_ble_eq_true rfl) (s_Lo_isFull ⟨by omega, by omega, fun c2 => ⟨fun _ => hroom (fun s hs z => ?_), fun z => absurd rfl z⟩, fun c2 => ⟨fun z => absurd z (by decide), fun _ => ?_⟩⟩)⟩))
  · subst hs
    have hk : kS T L (iS (.ok s)) = 2 := z.1
    rw [if_pos hk] at c
    exact absurd c (by decide)
  · subst hs
    rw [toN, (hR.2.2.2.2.1.1 so hso).1] at c2
    exact absurd z.2 (by omega)
  · refine st_stop (f := 2) (by decide) hR (fun w1 hF1 hR1 h271 => st_take (c := 2) (by omega) hR1 (by decide) (fun w2 x hF2 hx hxi hR2 h272 => ?_))
    obtain ⟨e, he⟩ : ∃ e, bnd (bnd ρ (fSp 2)) (fTk (kdT T L) 2) = .error e := by
      cases ρ with
      | error e => exact ⟨e, rfl⟩
      | ok s => exact ⟨_, rfl⟩
    have e2 : bnd (bnd (bnd ρ (fSp 2)) (fTk (kdT T L) 2)) (fB3 T L x) = bnd ρ (fNN T L so) ∧ ∀ s, ρ = .ok s → ∀ s', fNN T L so s ≠ .ok s' := by
      cases ρ with
      | error e => exact ⟨rfl, fun s z => by cases z⟩
      | ok s =>
        have hk : kdT T L (sI s) = 2 := by
          by_cases hk : kS T L (iS (.ok s)) = 2
          · exact hk
          · rw [if_neg hk] at c; exact absurd rfl c
        have hfull : mostL.getD so 0 ≤ ((cntE so (sE s) : Nat) : Int) := by
          rw [toN, (hR.2.2.2.2.1.1 so hso).1] at c2; omega
        have e3 : fNN T L so s = .error (2, sI s) := by unfold fNN pNm; rw [if_pos ⟨hk, hfull⟩]; rfl
        refine ⟨?_, fun s1 z s' z2 => ?_⟩
        · show _ = fNN T L so s
          rw [e3]; rfl
        · cases z; rw [e3] at z2; cases z2
    refine nn_tail (by omega) hR2 hx (fun s z => by rw [he] at z; cases z) (fun w3 hF3 hR3 h273 => h w3 x ((hF1.tr hF2).tr hF3) hx (fun s hs s' z => absurd z (e2.2 s hs s')) (by rw [← e2.1]; exact hR3) (h273.trans (h272.trans h271)))
/-- a NAME that must be of a sort -/
def fNE (T : Nat → Int) (L so : Nat) (s : ST) : PE ST := bnd (ex (kdT T L) 2 (sI s)) (fun j => .ok (j, sE s, sc s, sl s, sb s, min (sK s) (if eSo (fnd T L (sE s) (sI s)) = (so : Int) then 100000 else tAt T L (sI s) * 8 + 4), sC s, sO s ++ [sI s], sh s))
theorem st_namedEntry {so : Nat} (hD : 2 ≤ D) (hR : RdS T L w ρ) (h : ∀ (w' : Wd) (y : Int), Fx FEl w w' → -1 ≤ y → y < w' 13 6 → (∀ s, ρ = .ok s → ∀ s', fNE T L so s = .ok s' → lkE (sE s) y = nmE T L (sE s) so (sI s)) → RdS T L w' (bnd ρ (fNE T L so)) → w' 27 = w 27 → K (.inl (some (vI y))) w') : Cal g LC jRe_namedEntry D [vA 24, vI (so : Int)] w K := by
  obtain ⟨d, rfl⟩ : ∃ d, D = d + 1 := ⟨D - 1, by omega⟩
  refine Cal.ofV (by decide) rfl (Nat.le_of_ble_eq_true rfl) (s_Re_namedEntry (st_take (c := 2) (by omega) hR (by decide) (fun w1 x hF1 hx hxi hR1 h271 => ?_)))
  have hx2 : ∀ s1, bnd ρ (fTk (kdT T L) 2) = .ok s1 → x < nTk T L ∧ x ≤ 1000 := by
    intro s1 hs1
    cases ρ with
    | error e => cases hs1
    | ok s =>
      have hs1' : fTk (kdT T L) 2 s = .ok s1 := hs1
      unfold fTk at hs1'
      obtain ⟨j, hj, -⟩ := bnd_ok hs1'
      obtain ⟨k1, -, k3⟩ := ex_ok hj
      have hxs := hxi s rfl
      subst hxs
      have hc := hR.2.2.1
      exact ⟨kdT_lt hc.2.2.1 hc.2.2.2 (by omega), by omega⟩
  obtain ⟨n1, hn1, -, -⟩ := id hR1.1.2.1
  refine sp_find (by omega) hR1.1 hx (fun f hf1 hf2 hf3 => sp_sortOf hR1.1 hf1 hf2 (fun so' hs1 hs2 hs3 => ⟨fun c => h w1 f hF1 hf1 hf2 (fun s hs s' hs' => ?_) ?_ h271, fun c => st_blame (f := 4) hR1 (by decide) hx (fun s hs => (hx2 s hs).2) (fun w2 hF2 hR2 h272 => h w2 (-1) (hF1.tr hF2) (by decide) ?_ (fun s hs s' hs' => ?_) ?_ (h272.trans h271))⟩))
  · subst hs
    have hs1' : ∃ s1, bnd (.ok s) (fTk (kdT T L) 2) = .ok s1 := by
      unfold fNE at hs'
      obtain ⟨j, hj, -⟩ := bnd_ok hs'
      exact ⟨_, by show fTk (kdT T L) 2 s = _; unfold fTk; rw [hj]; rfl⟩
    obtain ⟨s1, hs1'⟩ := hs1'
    have hR1' := hR1
    rw [hs1'] at hR1'
    have hEs : sE s1 = sE s := by
      have : fTk (kdT T L) 2 s = .ok s1 := hs1'
      unfold fTk at this
      obtain ⟨j, -, hj2⟩ := bnd_ok this
      cases hj2; rfl
    have hE1 := hR1'.2.2.2.1
    rw [hEs] at hE1
    have hxs := hxi s rfl
    subst hxs
    have hlk : lkE (sE s) f = fnd T L (sE s) (sI s) := by rw [hf3 _ hE1 (hx2 s1 hs1').1, lk_fnd]
    unfold nmE
    rw [if_pos (by rw [← hlk, ← hs3 _ hE1]; exact c)]
    exact hlk
  · cases ρ with
    | error e => exact hR1
    | ok s =>
      have hxs := hxi s rfl
      subst hxs
      cases hj : ex (kdT T L) 2 (sI s) with
      | error e =>
        have e1 : bnd (.ok s) (fTk (kdT T L) 2) = .error e := by show fTk (kdT T L) 2 s = _; unfold fTk; rw [hj]; rfl
        have e2 : bnd (.ok s) (fNE T L so) = .error e := by show fNE T L so s = _; unfold fNE; rw [hj]; rfl
        rw [e2]; rw [e1] at hR1; exact hR1
      | ok j =>
        have e1 : bnd (.ok s) (fTk (kdT T L) 2) = .ok (j, sE s, sc s, sl s, sb s, sK s, sC s, sO s ++ [sI s], sh s) := by show fTk (kdT T L) 2 s = _; unfold fTk; rw [hj]; rfl
        rw [e1] at hR1
        have hE1 : EC T L w1 (sE s) := hR1.2.2.2.1
        have hlk : lkE (sE s) f = fnd T L (sE s) (sI s) := by rw [hf3 _ hE1 (hx2 _ e1).1, lk_fnd]
        have hc : eSo (fnd T L (sE s) (sI s)) = (so : Int) := by rw [← hlk, ← hs3 _ hE1]; exact c
        have e2 : bnd (.ok s) (fNE T L so) = bnd (.ok (j, sE s, sc s, sl s, sb s, sK s, sC s, sO s ++ [sI s], sh s)) (fBl 100000) := by
          show fNE T L so s = fBl 100000 _
          unfold fNE
          rw [hj, if_pos hc]; rfl
        rw [e2]
        exact hR1.b0
  · obtain ⟨n2, hn2, -, -⟩ := id hR2.1.2.1
    rw [hn2]; omega
  · subst hs
    have hs1' : ∃ s1, bnd (.ok s) (fTk (kdT T L) 2) = .ok s1 := by
      unfold fNE at hs'
      obtain ⟨j, hj, -⟩ := bnd_ok hs'
      exact ⟨_, by show fTk (kdT T L) 2 s = _; unfold fTk; rw [hj]; rfl⟩
    obtain ⟨s1, hs1'⟩ := hs1'
    have hR1' := hR1
    rw [hs1'] at hR1'
    have hEs : sE s1 = sE s := by
      have : fTk (kdT T L) 2 s = .ok s1 := hs1'
      unfold fTk at this
      obtain ⟨j, -, hj2⟩ := bnd_ok this
      cases hj2; rfl
    have hE1 := hR1'.2.2.2.1
    rw [hEs] at hE1
    have hxs := hxi s rfl
    subst hxs
    have hlk : lkE (sE s) f = fnd T L (sE s) (sI s) := by rw [hf3 _ hE1 (hx2 s1 hs1').1, lk_fnd]
    unfold nmE
    rw [if_neg (by rw [← hlk, ← hs3 _ hE1]; exact c)]
    rfl
  · cases ρ with
    | error e => exact hR2
    | ok s =>
      have hxs := hxi s rfl
      subst hxs
      cases hj : ex (kdT T L) 2 (sI s) with
      | error e =>
        have e1 : bnd (bnd (.ok s) (fTk (kdT T L) 2)) (fBl (tAt T L (sI s) * 8 + 4)) = .error e := by show bnd (fTk (kdT T L) 2 s) _ = _; unfold fTk; rw [hj]; rfl
        have e2 : bnd (.ok s) (fNE T L so) = .error e := by show fNE T L so s = _; unfold fNE; rw [hj]; rfl
        rw [e2]; rw [e1] at hR2; exact hR2
      | ok j =>
        have e1 : bnd (.ok s) (fTk (kdT T L) 2) = .ok (j, sE s, sc s, sl s, sb s, sK s, sC s, sO s ++ [sI s], sh s) := by show fTk (kdT T L) 2 s = _; unfold fTk; rw [hj]; rfl
        rw [e1] at hR1 hR2
        have hE1 : EC T L w1 (sE s) := hR1.2.2.2.1
        have hlk : lkE (sE s) f = fnd T L (sE s) (sI s) := by rw [hf3 _ hE1 (hx2 _ e1).1, lk_fnd]
        have hc : ¬ eSo (fnd T L (sE s) (sI s)) = (so : Int) := by rw [← hlk, ← hs3 _ hE1]; exact c
        have e2 : bnd (.ok s) (fNE T L so) = bnd (.ok (j, sE s, sc s, sl s, sb s, sK s, sC s, sO s ++ [sI s], sh s)) (fBl (tAt T L (sI s) * 8 + 4)) := by
          show fNE T L so s = fBl _ _
          unfold fNE
          rw [hj, if_neg hc]; rfl
        rw [e2]
        exact hR2
end LotS2
