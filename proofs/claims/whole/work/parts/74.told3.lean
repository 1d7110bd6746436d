/-! ===== the class reads told folds and globals; all that is told ===== -/
section ToldF
variable {g : Mg} {d D : Nat} {K : Ou → Wd → Prop} {w : Wd} {T : Nat → Int} {L : Nat} {ρ : PE ST}
theorem st_takeC {c : Nat} (hD : 1 ≤ D) (hR : RdS T L w ρ) (hc : ∀ s, ρ = .ok s → c ≠ 0) (h : ∀ (w' : Wd) (x : Nat), Fx FEl w w' → x ≤ nTk T L → (∀ s, ρ = .ok s → x = sI s) → RdS T L w' (bnd ρ (fTk (kdT T L) c)) → w' 27 = w 27 → K (.inl (some (vI (x : Int)))) w') : Cal g LC jCu_take D [vA 25, vI (c : Int)] w K := by
  cases ρ with
  | ok s => exact st_take hD hR (hc s rfl) h
  | error e =>
    refine sp_take hD hR.1 hR.cs (fun i z => by cases z) (fun w' x hC3 hx hxi hC => h w' x (hC3.1.mono (by decide)) hx (fun s hs => by cases hs) ⟨hR.1.f25 hC3.1, by rw [hC3.1 26 (by decide)]; exact hR.2.1, hC⟩ (hC3.1 27 (by decide)))
theorem sp_kindOfWay {c : Nat} (h : K (.inl (some (vI (((if c = 39 ∨ c = 40 then 2 else 1 : Nat)) : Int)))) w) : Cal g LC jPr_kindOfWay D [vI (c : Int)] w K := by
  refine Cal.ofV (by decide) rfl (Nat.le_of_ble_eq_true rfl) (s_Pr_kindOfWay ⟨fun q => ?_, fun q => ⟨fun q2 => ?_, fun q2 => ?_⟩⟩)
  · rw [if_pos (by omega)] at h; exact h
  · rw [if_neg (by omega)] at h; exact h
  · rw [if_pos (by omega)] at h; exact h
theorem st_folded {so c0 : Nat} (hd : 5 ≤ d) (hso : so = 2 ∨ so = 3) (hR : RdS T L w ρ) (ho : ∀ s, ρ = .ok s → sO s = List.range (sI s)) (hk0 : ∀ s, ρ = .ok s → kdT T L (sI s) = c0) (hc0 : c0 ≠ 0) (h : ∀ w', FxT w w' → RdS T L w' (bnd ρ (fT1 T L c0 so)) → (∀ s, ρ = .ok s → ∀ q, pTv (kdT T L) (vlT T L) so (sI s + 2) = .ok q → ∀ s', fT1 T L c0 so s = .ok s' → VU w w' so (cntE so (sE s)) q.1.2) → K (.inl none) w') : Cal g LC jRe_readFolded (d + 1) [vA 24, vI (so : Int), vA (vcl so)] w K := by
  have hnT := nTk_le (T := T) (L := L)
  have hl : vcl so < LC.nn ∧ LC.ly (vcl so) = (100, 4) := by rcases hso with rfl | rfl <;> decide
  have hr : ∀ k, LC.rf (vcl so) k = none := by
    rcases hso with rfl | rfl
    · exact aC_10
    · exact aC_11
  refine Cal.ofV (by decide) rfl (Nat.le_of_ble_eq_true rfl) (s_Re_readFolded hl hr (st_kind hR ?_))
  have hks : ∀ s, ρ = .ok s → kS T L (iS ρ) = c0 := fun s hs => by subst hs; exact hk0 s rfl
  refine st_takeC (by omega) hR (fun s hs => by rw [hks s hs]; exact hc0) (fun w1 x1 hF1 hx1 hxi1 hR1 _ => ?_)
  have hR1' : RdS T L w1 (bnd ρ (fTk (kdT T L) c0)) := by
    cases ρ with
    | error e => exact hR1
    | ok s => rw [hks s rfl] at hR1; exact hR1
  refine st_newName (so := so) (by omega) hR1' (by omega) (fun w2 x2 hF2 hx2 hxi2 hR2 _ => st_take (c := 11) (by omega) hR2 (by decide) (fun w3 x3 hF3 hx3 hxi3 hR3 _ => st_kind hR3 ?_))
  have hF03 := (hF1.tr hF2).tr hF3
  -- what is known once ':' is read
  have hp3 : ∀ s3, bnd (bnd (bnd ρ (fTk (kdT T L) c0)) (fNN T L so)) (fTk (kdT T L) 11) = .ok s3 → ∃ s, ρ = .ok s ∧ x2 = sI s + 1 ∧ s3 = fJ (nmS T L s) (sI s + 3) ∧ ex (kdT T L) 11 (sI s + 2) = .ok (sI s + 3) ∧ ((cntE so (sE s) : Nat) : Int) < mostL.getD so 0 ∧ sI s + 1 < 1000 ∧ sI s + 1 < nTk T L ∧ ex (kdT T L) c0 (sI s) = .ok (sI s + 1) ∧ pNm (kdT T L) (mostL.getD so 0 ≤ ((cntE so (sE s) : Nat) : Int)) (sI s + 1) = .ok (sI s + 2) := by
    intro s3 a3
    obtain ⟨s2, a5, a6⟩ := bnd_ok a3
    obtain ⟨s1, a7, a8⟩ := bnd_ok a5
    have hx2e := hxi2 s1 a7 s2 a8
    have hR2' := hR2
    rw [a5] at hR2'
    cases ρ with
    | error e => cases a7
    | ok s =>
      obtain ⟨e1, e2, rfl, e3, e4, e5⟩ := pre_ok (c := c0) (so := so) (s2 := s2) (ho s rfl) a5
      obtain ⟨b1, rfl⟩ := fTk_ok (s := s) (c := c0) a7
      rw [fTk_j rfl] at a6
      obtain ⟨j3, c1, c2⟩ := bnd_ok a6
      obtain ⟨-, rfl, -⟩ := ex_ok c1
      cases c2
      have hc' : sI s + 2 ≤ nTk T L := hR2'.2.2.1.2.2.1
      exact ⟨s, rfl, hx2e, rfl, c1, e3, e4, by omega, e1, e2⟩
  -- the whole, from its pieces
  have heq : ∀ (s : ST), ρ = .ok s → ∀ F : ST → PE ST, (ex (kdT T L) c0 (sI s) = .ok (sI s + 1) → pNm (kdT T L) (mostL.getD so 0 ≤ ((cntE so (sE s) : Nat) : Int)) (sI s + 1) = .ok (sI s + 2) → ex (kdT T L) 11 (sI s + 2) = .ok (sI s + 3) → x2 = sI s + 1 → F (fJ (nmS T L s) (sI s + 3)) = bnd (if 35 ≤ kdT T L (sI s + 3) ∧ kdT T L (sI s + 3) ≤ 40 then bnd (ex (kdT T L) (kdT T L (sI s + 3)) (sI s + 3)) (fun i4 => .ok (((if kdT T L (sI s + 3) = 39 ∨ kdT T L (sI s + 3) = 40 then 2 else 1), ((kdT T L (sI s + 3) : Nat) : Int)), i4)) else .error (1, sI s + 3)) (fun q => .ok (tdS T L s so q.1.1 q.2))) → bnd (bnd (bnd (bnd ρ (fTk (kdT T L) c0)) (fNN T L so)) (fTk (kdT T L) 11)) F = bnd ρ (fT1 T L c0 so) := by
    intro s hs F hF
    subst hs
    show bnd (bnd (bnd (fTk (kdT T L) c0 s) (fNN T L so)) (fTk (kdT T L) 11)) F = fT1 T L c0 so s
    rw [bnd_as]
    refine pre_eq (ho s rfl) _ (fun p1 p2 => ?_)
    obtain ⟨s1, z1, z2, z3⟩ := pre_mk (ho s rfl) p1 p2
    have hx2e : x2 = sI s + 1 := by rw [← z2]; exact hxi2 s1 z1 _ z3
    unfold pTv
    rw [if_neg (by omega), fTk_j rfl]
    show bnd (bnd (ex (kdT T L) 11 (sI s + 2)) _) _ = _
    cases e11 : ex (kdT T L) 11 (sI s + 2) with
    | error e => rfl
    | ok i3 =>
      obtain ⟨-, rfl, -⟩ := ex_ok e11
      rw [bnd_ok', bnd_ok', bnd_ok', if_neg (by omega)]
      exact hF p1 p2 e11 hx2e
  -- from the way on
  have hgo : ∀ (w4 : Wd) (ρ4 : PE ST), (ρ4 = bnd (bnd (bnd ρ (fTk (kdT T L) c0)) (fNN T L so)) (fTk (kdT T L) 11) ∧ (∀ s3, ρ4 = .ok s3 → 35 ≤ kdT T L (sI s3) ∧ kdT T L (sI s3) ≤ 40) ∨ ρ4 = bnd (bnd (bnd (bnd ρ (fTk (kdT T L) c0)) (fNN T L so)) (fTk (kdT T L) 11)) (fSp 1) ∧ (∀ s3, bnd (bnd (bnd ρ (fTk (kdT T L) c0)) (fNN T L so)) (fTk (kdT T L) 11) = .ok s3 → ¬ (35 ≤ kdT T L (sI s3) ∧ kdT T L (sI s3) ≤ 40))) → Fx FEl w3 w4 → RdS T L w4 ρ4 → Cal g LC jCu_take d [vA 25, vI ((kS T L (iS (bnd (bnd (bnd ρ (fTk (kdT T L) c0)) (fNN T L so)) (fTk (kdT T L) 11))) : Nat) : Int)] w4 (fun o w12 => rI o (fun x13 => Cal g LC jPr_kindOfWay d [vI ((kS T L (iS (bnd (bnd (bnd ρ (fTk (kdT T L) c0)) (fNN T L so)) (fTk (kdT T L) 11))) : Nat) : Int)] w12 (fun o w14 => rI o (fun x15 => Cal g LC jLo_add d [vA 13, vI (x2 : Int), vI (so : Int), vI x15] w14 (fun o w16 => rI o (fun x17 => (x17 < 0 → (K (.inl none) w16)) ∧ (¬ x17 < 0 → ((4 ≤ x17 → (K (.inl none) w16)) ∧ (¬ 4 ≤ x17 → ((0 ≤ x17 ∧ x17 < 4) ∧ (K (.inl none) (up w16 (vcl so) (x17.toNat) ((kS T L (iS (bnd (bnd (bnd ρ (fTk (kdT T L) c0)) (fNN T L so)) (fTk (kdT T L) 11))) : Nat) : Int))))))))))))) := by
    intro w4 ρ4 hρ4 hF4 hR4
    generalize hway : kS T L (iS (bnd (bnd (bnd ρ (fTk (kdT T L) c0)) (fNN T L so)) (fTk (kdT T L) 11))) = way
    have hwk : ∀ s3, bnd (bnd (bnd ρ (fTk (kdT T L) c0)) (fNN T L so)) (fTk (kdT T L) 11) = .ok s3 → kdT T L (sI s3) = way := fun s3 h3 => by rw [h3] at hway; exact hway
    refine st_takeC (by omega) hR4 (fun s4 h4 => ?_) (fun w5 x5 hF5 hx5 hxi5 hR5 _ => sp_kindOfWay ?_)
    · rcases hρ4 with ⟨e4, hr4⟩ | ⟨e4, hr4⟩
      · have := hr4 s4 h4
        rw [e4] at h4
        have := hwk s4 h4
        omega
      · rw [e4] at h4
        obtain ⟨s3, -, z⟩ := bnd_ok h4
        cases z
    · have hFx : FxT w w5 := FxT.e ((hF03.tr hF4).tr hF5)
      have h5 : ∀ s5, bnd ρ4 (fTk (kdT T L) way) = .ok s5 → ∃ s, ρ = .ok s ∧ x2 = sI s + 1 ∧ s5 = fJ (nmS T L s) (sI s + 4) ∧ ((cntE so (sE s) : Nat) : Int) < mostL.getD so 0 ∧ sI s + 1 < 1000 ∧ sI s + 1 < nTk T L ∧ way = kdT T L (sI s + 3) := by
        intro s5 h5
        obtain ⟨s4, a1, a2⟩ := bnd_ok h5
        rcases hρ4 with ⟨e4, hr4⟩ | ⟨e4, hr4⟩
        · rw [e4] at a1
          have hw3 := hwk s4 a1
          obtain ⟨s, hs, hxs, rfl, e11, e3, e4, e5, -⟩ := hp3 s4 a1
          rw [fTk_j rfl] at a2
          obtain ⟨j, b1, b2⟩ := bnd_ok a2
          obtain ⟨-, rfl, -⟩ := ex_ok b1
          cases b2
          exact ⟨s, hs, hxs, rfl, e3, e4, e5, hw3.symm⟩
        · rw [e4] at a1
          obtain ⟨s3, -, z⟩ := bnd_ok a1
          cases z
      have hn4 : ((4 : Nat) : Int) = 4 := rfl
      have := add_val (g := g) (K := K) (so := so) (x := x2) (ki := (((if way = 39 ∨ way = 40 then 2 else 1 : Nat)) : Int)) (v := (way : Int)) (o2 := vcl so) (n2 := 4) (s0 := ρ) (w0 := w) (D := d) (by omega) (by omega) (by omega) rfl (by rw [if_neg (by omega)]) (by omega) hR5 hx2 (fun o ho9 => ((hF03.tr hF4).tr hF5) o (by rcases ho9 with rfl | rfl | rfl <;> decide)) (fun s5 hs5 => ?_) (fun w7 hF7 hR7 hVU => h w7 (hFx.tr hF7) ?_ (fun s hs q hq s' hs' => ?_))
      · exact this
      · obtain ⟨s, hs, hxs, rfl, e3, e4, e5, -⟩ := h5 s5 hs5
        exact ⟨e3, by omega, by omega, by omega⟩
      · cases ρ with
        | error e =>
          rcases hρ4 with ⟨rfl, hr4⟩ | ⟨rfl, hr4⟩
          · exact hR7
          · exact hR7
        | ok s =>
          rcases hρ4 with ⟨rfl, hr4⟩ | ⟨rfl, hr4⟩
          · rw [bnd_as, heq s rfl _ (fun p1 p2 e11 hx2e => ?_)] at hR7
            · exact hR7
            · obtain ⟨s1, z1, z2, z3⟩ := pre_mk (ho s rfl) p1 p2
              have z1' : bnd (.ok s) (fTk (kdT T L) c0) = .ok s1 := z1
              have hs3 : bnd (bnd (bnd (.ok s) (fTk (kdT T L) c0)) (fNN T L so)) (fTk (kdT T L) 11) = .ok (fJ (nmS T L s) (sI s + 3)) := by rw [z1', bnd_ok', z3, bnd_ok', fTk_j rfl]; show bnd (ex (kdT T L) 11 (sI s + 2)) _ = _; rw [e11]; rfl
              have hw3 : kdT T L (sI s + 3) = way := hwk _ hs3
              have hr := hr4 _ hs3
              have hr' : 35 ≤ kdT T L (sI s + 3) ∧ kdT T L (sI s + 3) ≤ 40 := hr
              rw [if_pos hr', hw3, fTk_j rfl]
              show bnd (bnd (ex (kdT T L) way (sI s + 3)) _) _ = _
              cases ex (kdT T L) way (sI s + 3) with
              | error e => rfl
              | ok i4 =>
                show Except.ok _ = Except.ok _
                rw [hx2e]
                unfold tdS fJ nmS
                simp only [Int.toNat_natCast]
          · rw [bnd_as, bnd_as, heq s rfl _ (fun p1 p2 e11 hx2e => ?_)] at hR7
            · exact hR7
            · obtain ⟨s1, z1, z2, z3⟩ := pre_mk (ho s rfl) p1 p2
              have z1' : bnd (.ok s) (fTk (kdT T L) c0) = .ok s1 := z1
              have hs3 : bnd (bnd (bnd (.ok s) (fTk (kdT T L) c0)) (fNN T L so)) (fTk (kdT T L) 11) = .ok (fJ (nmS T L s) (sI s + 3)) := by rw [z1', bnd_ok', z3, bnd_ok', fTk_j rfl]; show bnd (ex (kdT T L) 11 (sI s + 2)) _ = _; rw [e11]; rfl
              have hr := hr4 _ hs3
              have hr' : ¬ (35 ≤ kdT T L (sI s + 3) ∧ kdT T L (sI s + 3) ≤ 40) := hr
              rw [if_neg hr']
              rfl
      · subst hs
        have hs'' := hs'
        unfold fT1 at hs''
        obtain ⟨i1, p1, hs''⟩ := bnd_ok hs''
        obtain ⟨-, rfl, -⟩ := ex_ok p1
        obtain ⟨i2, p2, hs''⟩ := bnd_ok hs''
        obtain ⟨-, rfl, -, -⟩ := pNm_ok p2
        obtain ⟨s1, z1, z2, z3⟩ := pre_mk (ho s rfl) p1 p2
        have z1' : bnd (.ok s) (fTk (kdT T L) c0) = .ok s1 := z1
        have hq2 := hq
        unfold pTv at hq2
        rw [if_neg (by omega)] at hq2
        obtain ⟨i3, e11, hq2⟩ := bnd_ok hq2
        obtain ⟨-, rfl, -⟩ := ex_ok e11
        rw [if_neg (by omega)] at hq2
        have hs3 : bnd (bnd (bnd (.ok s) (fTk (kdT T L) c0)) (fNN T L so)) (fTk (kdT T L) 11) = .ok (fJ (nmS T L s) (sI s + 3)) := by rw [z1', bnd_ok', z3, bnd_ok', fTk_j rfl]; show bnd (ex (kdT T L) 11 (sI s + 2)) _ = _; rw [e11]; rfl
        have hw3 : kdT T L (sI s + 3) = way := hwk _ hs3
        split at hq2
        · rename_i hr
          obtain ⟨i4, e4, hq2⟩ := bnd_ok hq2
          cases hq2
          rcases hρ4 with ⟨rfl, hr4⟩ | ⟨rfl, hr4⟩
          · have hs5 : bnd (bnd (bnd (bnd (.ok s) (fTk (kdT T L) c0)) (fNN T L so)) (fTk (kdT T L) 11)) (fTk (kdT T L) way) = .ok (fJ (fJ (nmS T L s) (sI s + 3)) i4) := by
              rw [hs3, bnd_ok', fTk_j rfl]
              show bnd (ex (kdT T L) way (sI s + 3)) _ = _
              rw [← hw3]
              have e4' : ex (kdT T L) (kdT T L (sI s + 3)) (sI s + 3) = .ok i4 := e4
              rw [e4']; rfl
            have := hVU _ hs5
            show VU w w7 so (cntE so (sE s)) ((kdT T L (sI s + 3) : Nat) : Int)
            rw [hw3]
            exact this
          · exact absurd hr (hr4 _ hs3)
        · cases hq2
  refine ⟨fun c => st_stop (f := 1) (by decide) hR3 (fun w4 hF4 hR4 _ => hgo w4 _ (Or.inr ⟨rfl, fun s3 h3 z => ?_⟩) hF4 hR4), fun c => ⟨fun c2 => hgo w3 _ (Or.inl ⟨rfl, fun s3 h3 => ?_⟩) (Fx.rf _ w3) hR3, fun c2 => st_stop (f := 1) (by decide) hR3 (fun w4 hF4 hR4 _ => hgo w4 _ (Or.inr ⟨rfl, fun s3 h3 z => ?_⟩) hF4 hR4)⟩⟩
  · rw [h3] at c
    have : ((kdT T L (sI s3) : Nat) : Int) < 35 := c
    omega
  · rw [h3] at c c2
    have : ¬ ((kdT T L (sI s3) : Nat) : Int) < 35 := c
    have : ((kdT T L (sI s3) : Nat) : Int) ≤ 40 := c2
    omega
  · rw [h3] at c2
    have : ¬ ((kdT T L (sI s3) : Nat) : Int) ≤ 40 := c2
    omega
theorem fT1_to {s : ST} (hk : tls (kdT T L (sI s))) : bnd (fT1 T L (kdT T L (sI s)) (tlS (kdT T L (sI s))) s) (fTk (kdT T L) 4) = fTo T L s := by
  unfold fT1 fTo pTd
  cases e1 : ex (kdT T L) (kdT T L (sI s)) (sI s) with
  | error e => rfl
  | ok i1 =>
    obtain ⟨-, rfl, -⟩ := ex_ok e1
    rw [bnd_ok', bnd_ok']
    cases e2 : pNm (kdT T L) (mostL.getD (tlS (kdT T L (sI s))) 0 ≤ ((cntE (tlS (kdT T L (sI s))) (sE s) : Nat) : Int)) (sI s + 1) with
    | error e => rfl
    | ok i2 =>
      rw [bnd_ok', bnd_ok']
      cases e3 : pTv (kdT T L) (vlT T L) (tlS (kdT T L (sI s))) i2 with
      | error e => rfl
      | ok q =>
        rw [bnd_ok', bnd_ok', bnd_ok', fTk_j rfl]
        show bnd (ex (kdT T L) 4 q.2) _ = _
        cases ex (kdT T L) 4 q.2 with
        | error e => rfl
        | ok j => rfl
theorem st_told (hd : 6 ≤ d) (hR : RdS T L w ρ) (ho : ∀ s, ρ = .ok s → sO s = List.range (sI s)) (hk : tls (kS T L (iS ρ))) (h : ∀ w', FxT w w' → RdS T L w' (bnd ρ (fTo T L)) → (∀ s, ρ = .ok s → ∀ q, pTd (kdT T L) (vlT T L) (sE s) (sI s) = .ok q → VU w w' (tlS (kdT T L (sI s))) (cntE (tlS (kdT T L (sI s))) (sE s)) q.1.2) → K (.inl none) w') : Cal g LC jRe_readTold (d + 1) [vA 24] w K := by
  have hnT := nTk_le (T := T) (L := L)
  cases ρ with
  | error e => exact absurd (show tls 0 from hk) (by decide)
  | ok s =>
    have hks : kS T L (iS (.ok s)) = kdT T L (sI s) := rfl
    rw [hks] at hk
    have hfin : ∀ (w1 : Wd) (c so : Nat), kdT T L (sI s) = c → tlS c = so → FxT w w1 → RdS T L w1 (bnd (.ok s) (fT1 T L c so)) → (∀ q, pTv (kdT T L) (vlT T L) so (sI s + 2) = .ok q → ∀ s', fT1 T L c so s = .ok s' → VU w w1 so (cntE so (sE s)) q.1.2) → Cal g LC jCu_take d [vA 25, vI 4] w1 (fun o w12 => rI o (fun x13 => K (.inl none) w12)) := by
      intro w1 c so hc hso hF1 hR1 hV
      refine st_take (c := 4) (by omega) hR1 (by decide) (fun w2 x2 hF2 hx2 hxi2 hR2 _ => h w2 (hF1.tr (FxT.e hF2)) ?_ (fun s' hs' q hq => ?_))
      · have e : bnd (bnd (.ok s) (fT1 T L c so)) (fTk (kdT T L) 4) = bnd (.ok s) (fTo T L) := by
          subst hc; subst hso
          exact fT1_to hk
        rw [← e]; exact hR2
      · cases hs'
        subst hc; subst hso
        unfold pTd at hq
        obtain ⟨i1, p1, hq⟩ := bnd_ok hq
        obtain ⟨-, rfl, -⟩ := ex_ok p1
        obtain ⟨i2, p2, hq⟩ := bnd_ok hq
        obtain ⟨-, rfl, -, -⟩ := pNm_ok p2
        obtain ⟨q', p3, hq⟩ := bnd_ok hq
        obtain ⟨j, p4, hq⟩ := bnd_ok hq
        cases hq
        have hf : ∃ s', fT1 T L (kdT T L (sI s)) (tlS (kdT T L (sI s))) s = .ok s' := by
          refine ⟨tdS T L s (tlS (kdT T L (sI s))) q'.1.1 q'.2, ?_⟩
          unfold fT1
          rw [p1, bnd_ok', p2, bnd_ok', p3]; rfl
        obtain ⟨s', hs'⟩ := hf
        have hv := hV q' p3 s' hs'
        refine ⟨fun z => ?_, fun o ho9 m hm => ?_⟩
        · rw [hF2 _ (by unfold vcl; split <;> (try split) <;> decide)]; exact hv.1 z
        · rw [hF2 o (by rcases ho9 with rfl | rfl | rfl <;> decide)]; exact hv.2 o ho9 m hm
    refine Cal.ofV (by decide) rfl (Nat.le_of_ble_eq_true rfl) (s_Re_readTold (st_kind hR ⟨fun z => ?_, fun z => ⟨fun z2 => ?_, fun z2 => ⟨fun z3 => ?_, fun z3 => ?_⟩⟩⟩))
    · have hc : kdT T L (sI s) = 27 := by have : ((kdT T L (sI s) : Nat) : Int) = 27 := z; omega
      refine st_take (c := 27) (by omega) hR (by decide) (fun w1 x1 hF1 hx1 hxi1 hR1 _ => st_newName (so := 0) (by omega) hR1 (by decide) (fun w2 x2 hF2 hx2 hxi2 hR2 _ => st_lotAdd (so := 0) (by omega) hR2 (by decide) hx2 (fun s2 h2 => ?_) (fun w3 y hF3 hy hR3 _ => hfin w3 27 0 hc rfl (FxT.s ((FxS.e (hF1.tr hF2)).tr hF3)) ?_ (fun q hq s' hs' => ?_))))
      · have hR2' := hR2
        rw [h2] at hR2'
        have h2' : bnd (fTk (kdT T L) 27 s) (fNN T L 0) = .ok s2 := h2
        obtain ⟨e1, e2, rfl, e3, e4, e5⟩ := pre_ok (ho s rfl) h2'
        obtain ⟨s1, z1, z2, z3⟩ := pre_mk (ho s rfl) e1 e2
        have hxe : x2 = sI s + 1 := by rw [← z2]; exact hxi2 s1 z1 _ z3
        have hc' : sI s + 2 ≤ nTk T L := hR2'.2.2.1.2.2.1
        exact ⟨e3, by omega, by omega, by decide⟩
      · have e : bnd (bnd (bnd (.ok s) (fTk (kdT T L) 27)) (fNN T L 0)) (fLa x2 0 1) = bnd (.ok s) (fT1 T L 27 0) := by
          show bnd (bnd (fTk (kdT T L) 27 s) (fNN T L 0)) (fLa x2 0 1) = fT1 T L 27 0 s
          refine pre_eq (ho s rfl) _ (fun p1 p2 => ?_)
          obtain ⟨s1, z1, z2, z3⟩ := pre_mk (ho s rfl) p1 p2
          have hx2e : x2 = sI s + 1 := by rw [← z2]; exact hxi2 s1 z1 _ z3
          unfold pTv
          rw [if_pos rfl, hx2e]
          rfl
        rw [← e]; exact hR3
      · refine ⟨fun z => absurd rfl z, fun o ho9 m hm => ?_⟩
        rw [hF3.1 o (by rcases ho9 with rfl | rfl | rfl <;> decide), (hF1.tr hF2) o (by rcases ho9 with rfl | rfl | rfl <;> decide)]
    · have hc : kdT T L (sI s) = 28 := by have : ((kdT T L (sI s) : Nat) : Int) = 28 := z2; omega
      obtain ⟨d', rfl⟩ : ∃ d', d = d' + 1 := ⟨d - 1, by omega⟩
      exact st_state (by omega) hR ho (fun w1 hF1 hR1 hV => hfin w1 28 1 hc rfl hF1 hR1 (fun q hq s' hs' => hV s rfl q hq s' hs'))
    · have hc : kdT T L (sI s) = 33 := by have : ((kdT T L (sI s) : Nat) : Int) = 33 := z3; omega
      obtain ⟨d', rfl⟩ : ∃ d', d = d' + 1 := ⟨d - 1, by omega⟩
      exact st_folded (so := 2) (c0 := 33) (by omega) (Or.inl rfl) hR ho (fun s' hs' => by cases hs'; exact hc) (by decide) (fun w1 hF1 hR1 hV => hfin w1 33 2 hc rfl hF1 hR1 (fun q hq s' hs' => hV s rfl q hq s' hs'))
    · have hc : kdT T L (sI s) = 34 := by
        have q1 : ¬ ((kdT T L (sI s) : Nat) : Int) = 27 := z
        have q2 : ¬ ((kdT T L (sI s) : Nat) : Int) = 28 := z2
        have q3 : ¬ ((kdT T L (sI s) : Nat) : Int) = 33 := z3
        omega
      obtain ⟨d', rfl⟩ : ∃ d', d = d' + 1 := ⟨d - 1, by omega⟩
      exact st_folded (so := 3) (c0 := 34) (by omega) (Or.inr rfl) hR ho (fun s' hs' => by cases hs'; exact hc) (by decide) (fun w1 hF1 hR1 hV => hfin w1 34 3 hc rfl hF1 hR1 (fun q hq s' hs' => hV s rfl q hq s' hs'))
end ToldF
