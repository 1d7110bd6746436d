/-! ===== the class reads what is told ===== -/
section ToldM
variable {g : Mg} {d D : Nat} {K : Ou → Wd → Prop} {w : Wd} {T : Nat → Int} {L : Nat} {ρ : PE ST}
/-- a told thing up to its ; -/
def fT1 (T : Nat → Int) (L c so : Nat) (s : ST) : PE ST := bnd (ex (kdT T L) c (sI s)) (fun i1 => bnd (pNm (kdT T L) (mostL.getD so 0 ≤ ((cntE so (sE s) : Nat) : Int)) i1) (fun i2 => bnd (pTv (kdT T L) (vlT T L) so i2) (fun q => .ok (tdS T L s so q.1.1 q.2))))
def VU (w w' : Wd) (so n : Nat) (v : Int) : Prop := (so ≠ 0 → w' (vcl so) n = v) ∧ ∀ o, (o = 9 ∨ o = 10 ∨ o = 11) → ∀ m, ¬ (so ≠ 0 ∧ o = vcl so ∧ m = n) → w' o m = w o m
/-- the NAME is read: place behind it, blame -/
def nmS (T : Nat → Int) (L : Nat) (s : ST) : ST := (sI s + 2, sE s, sc s, sl s, sb s, min (sK s) (if fnd T L (sE s) (sI s + 1) = none then 100000 else tAt T L (sI s + 1) * 8 + 3), sC s, List.range (sI s + 2), sh s)
theorem pre_ok {c so : Nat} {s s2 : ST} (ho : sO s = List.range (sI s)) (h : bnd (fTk (kdT T L) c s) (fNN T L so) = .ok s2) : ex (kdT T L) c (sI s) = .ok (sI s + 1) ∧ pNm (kdT T L) (mostL.getD so 0 ≤ ((cntE so (sE s) : Nat) : Int)) (sI s + 1) = .ok (sI s + 2) ∧ s2 = nmS T L s ∧ ((cntE so (sE s) : Nat) : Int) < mostL.getD so 0 ∧ sI s + 1 < 1000 ∧ kdT T L (sI s + 1) = 2 := by
  obtain ⟨s1, h1, h2⟩ := bnd_ok h
  obtain ⟨e1, rfl⟩ := fTk_ok h1
  unfold fNN at h2
  obtain ⟨j, hj, h2⟩ := bnd_ok h2
  obtain ⟨k1, rfl, k2, k3⟩ := pNm_ok hj
  cases h2
  have k3' : ¬ mostL.getD so 0 ≤ ((cntE so (sE s) : Nat) : Int) := k3
  have k2' : ¬ 1000 ≤ sI s + 1 := k2
  refine ⟨e1, hj, ?_, by omega, by omega, k1⟩
  unfold nmS
  rw [show sI s + 2 = sI s + 1 + 1 from rfl, List.range_succ, List.range_succ, ← ho]
theorem pre_mk {c so : Nat} {s : ST} (ho : sO s = List.range (sI s)) (e1 : ex (kdT T L) c (sI s) = .ok (sI s + 1)) (e2 : pNm (kdT T L) (mostL.getD so 0 ≤ ((cntE so (sE s) : Nat) : Int)) (sI s + 1) = .ok (sI s + 2)) : ∃ s1, fTk (kdT T L) c s = .ok s1 ∧ sI s1 = sI s + 1 ∧ fNN T L so s1 = .ok (nmS T L s) := by
  refine ⟨(sI s + 1, sE s, sc s, sl s, sb s, sK s, sC s, sO s ++ [sI s], sh s), by unfold fTk; rw [e1]; rfl, rfl, ?_⟩
  unfold fNN
  have e2' : pNm (kdT T L) (mostL.getD so 0 ≤ ((cntE so (sE ((sI s + 1, sE s, sc s, sl s, sb s, sK s, sC s, sO s ++ [sI s], sh s) : ST)) : Nat) : Int)) (sI ((sI s + 1, sE s, sc s, sl s, sb s, sK s, sC s, sO s ++ [sI s], sh s) : ST)) = .ok (sI s + 1 + 1) := e2
  rw [e2', bnd_ok']
  show Except.ok _ = Except.ok _
  unfold nmS
  rw [show sI s + 2 = sI s + 1 + 1 from rfl, List.range_succ, List.range_succ, ← ho]
theorem pre_eq {c so : Nat} {s : ST} (ho : sO s = List.range (sI s)) (f : ST → PE ST) (hf : ex (kdT T L) c (sI s) = .ok (sI s + 1) → pNm (kdT T L) (mostL.getD so 0 ≤ ((cntE so (sE s) : Nat) : Int)) (sI s + 1) = .ok (sI s + 2) → f (nmS T L s) = bnd (pTv (kdT T L) (vlT T L) so (sI s + 2)) (fun q => .ok (tdS T L s so q.1.1 q.2))) : bnd (bnd (fTk (kdT T L) c s) (fNN T L so)) f = fT1 T L c so s := by
  unfold fT1
  cases e1 : ex (kdT T L) c (sI s) with
  | error e => have : fTk (kdT T L) c s = .error e := by unfold fTk; rw [e1]; rfl
               rw [this]; rfl
  | ok i1 =>
    obtain ⟨-, rfl, -⟩ := ex_ok e1
    rw [bnd_ok']
    cases e2 : pNm (kdT T L) (mostL.getD so 0 ≤ ((cntE so (sE s) : Nat) : Int)) (sI s + 1) with
    | error e =>
      have t1 : fTk (kdT T L) c s = .ok (sI s + 1, sE s, sc s, sl s, sb s, sK s, sC s, sO s ++ [sI s], sh s) := by unfold fTk; rw [e1]; rfl
      have : fNN T L so (sI s + 1, sE s, sc s, sl s, sb s, sK s, sC s, sO s ++ [sI s], sh s) = .error e := by
        unfold fNN
        have e2' : pNm (kdT T L) (mostL.getD so 0 ≤ ((cntE so (sE ((sI s + 1, sE s, sc s, sl s, sb s, sK s, sC s, sO s ++ [sI s], sh s) : ST)) : Nat) : Int)) (sI ((sI s + 1, sE s, sc s, sl s, sb s, sK s, sC s, sO s ++ [sI s], sh s) : ST)) = .error e := e2
        rw [e2']; rfl
      rw [t1, bnd_ok', this]; rfl
    | ok i2 =>
      obtain ⟨-, rfl, -, -⟩ := pNm_ok e2
      obtain ⟨s1, h1, -, h3⟩ := pre_mk ho e1 e2
      rw [h1, bnd_ok', h3, bnd_ok', bnd_ok', hf e1 e2]
/-- lot.add, and the value at its place -/
theorem add_val {so x : Nat} {ki v : Int} {o2 n2 : Nat} {s0 : PE ST} {w0 : Wd} (hD : 1 ≤ D) (hso : so < 5) (hso0 : so ≠ 0) (ho2 : o2 = vcl so) (hn2 : n2 = if so = 1 then 8 else 4) (hso3 : so ≤ 3) (hR : RdS T L w ρ) (hx : x ≤ nTk T L) (hw0 : ∀ o, o = 9 ∨ o = 10 ∨ o = 11 → w o = w0 o) (hf : ∀ s, ρ = .ok s → ((cntE so (sE s) : Nat) : Int) < mostL.getD so 0 ∧ x < nTk T L ∧ x < 1000 ∧ 0 ≤ ki) (h : ∀ w', FxT w w' → RdS T L w' (bnd ρ (fLa x so ki)) → (∀ s, ρ = .ok s → VU w0 w' so (cntE so (sE s)) v) → K (.inl none) w') : Cal g LC jLo_add D [vA 13, vI (x : Int), vI (so : Int), vI ki] w (fun o w1 => rI o (fun x2 => (x2 < 0 → K (.inl none) w1) ∧ (¬ x2 < 0 → (((n2 : Int) ≤ x2 → K (.inl none) w1) ∧ (¬ (n2 : Int) ≤ x2 → ((0 ≤ x2 ∧ x2 < (n2 : Int)) ∧ K (.inl none) (up w1 o2 (x2.toNat) v))))))) := by
  refine st_lotAdd hD hR hso hx hf (fun w1 y hF1 hy hR1 _ => ?_)
  have hlim : ∀ s, ρ = .ok s → 0 ≤ y ∧ y < (n2 : Int) := by
    intro s hs
    have h1 := hy s hs
    have h2 := (hf s hs).1
    rw [hn2]
    rcases (by omega : so = 1 ∨ so = 2 ∨ so = 3) with rfl | rfl | rfl <;> simp [mostL] at h2 ⊢ <;> omega
  have hbad : ¬ (0 ≤ y ∧ y < (n2 : Int)) → K (.inl none) w1 := fun z => h w1 (FxT.s hF1) hR1 (fun s hs => absurd (hlim s hs) z)
  refine ⟨fun c => hbad (by omega), fun c => ⟨fun c2 => hbad (by omega), fun c2 => ⟨by omega, ?_⟩⟩⟩
  have ho3 : o2 = 9 ∨ o2 = 10 ∨ o2 = 11 := by rw [ho2]; unfold vcl; split <;> (try split) <;> simp
  refine h _ ((FxT.s hF1).tr ⟨(Fx.rf _ w1).up (by rcases ho3 with rfl | rfl | rfl <;> decide), fun b _ => by rw [up_o (by rcases ho3 with rfl | rfl | rfl <;> decide)]⟩) (hR1.vc ho3) (fun s hs => ⟨fun _ => ?_, fun o ho m hm => ?_⟩)
  · have := hy s hs
    rw [← ho2, show cntE so (sE s) = y.toNat by omega, up_s]
  · have hyy := hy s hs
    have h1 : w1 o = w o := hF1.1 o (by rcases ho with rfl | rfl | rfl <;> decide)
    by_cases hoo : o = o2
    · subst hoo
      rw [up_k (by intro z; exact hm ⟨hso0, ho2, by omega⟩), h1, hw0 _ ho]
    · rw [up_o hoo, h1, hw0 _ ho]
theorem st_state (hd : 5 ≤ d) (hR : RdS T L w ρ) (ho : ∀ s, ρ = .ok s → sO s = List.range (sI s)) (h : ∀ w', FxT w w' → RdS T L w' (bnd ρ (fT1 T L 28 1)) → (∀ s, ρ = .ok s → ∀ q, pTv (kdT T L) (vlT T L) 1 (sI s + 2) = .ok q → ∀ s', fT1 T L 28 1 s = .ok s' → VU w w' 1 (cntE 1 (sE s)) q.1.2) → K (.inl none) w') : Cal g LC jRe_readState (d + 1) [vA 24] w K := by
  have hnT := nTk_le (T := T) (L := L)
  refine Cal.ofV (by decide) rfl (Nat.le_of_ble_eq_true rfl) (s_Re_readState (st_take (c := 28) (by omega) hR (by decide) (fun w1 x1 hF1 hx1 hxi1 hR1 _ => st_newName (so := 1) (by omega) hR1 (by decide) (fun w2 x2 hF2 hx2 hxi2 hR2 _ => st_take (c := 11) (by omega) hR2 (by decide) (fun w3 x3 hF3 hx3 hxi3 hR3 _ => st_sees (c := 30) hR3 ?_)))))
  -- bool or int
  have hgo : ∀ (bb : Int) (tk kk : Nat), (bb = 0 ∨ bb = 1) → (tk = if bb = 0 then 29 else 30) → (kk = if bb = 0 then 1 else 2) → (∀ s3, bnd (bnd (bnd ρ (fTk (kdT T L) 28)) (fNN T L 1)) (fTk (kdT T L) 11) = .ok s3 → (kdT T L (sI s3) = 30 ↔ bb = 1)) → V g LC jRe_readState (d + 1) K 51 [(0, vA 24), (1, vI (x2 : Int)), (2, vI bb)] [vI (tk : Int), vA 25] w3 := by
    intro bb tk kk hbb htk hkk hk30
    refine s_Re_readState_51 (st_take (by omega) hR3 (by rw [htk]; split <;> decide) (fun w4 x4 hF4 hx4 hxi4 hR4 _ => st_take (c := 12) (by omega) hR4 (by decide) (fun w5 x5 hF5 hx5 hxi5 hR5 _ => ?_)))
    have hO5 : ∀ s5, bnd (bnd (bnd (bnd (bnd ρ (fTk (kdT T L) 28)) (fNN T L 1)) (fTk (kdT T L) 11)) (fTk (kdT T L) tk)) (fTk (kdT T L) 12) = .ok s5 → ∃ s, ρ = .ok s ∧ x2 = sI s + 1 ∧ s5 = fJ (nmS T L s) (sI s + 5) ∧ ex (kdT T L) 11 (sI s + 2) = .ok (sI s + 3) ∧ ex (kdT T L) tk (sI s + 3) = .ok (sI s + 4) ∧ ex (kdT T L) 12 (sI s + 4) = .ok (sI s + 5) ∧ (kdT T L (sI s + 3) = 30 ↔ bb = 1) ∧ ((cntE 1 (sE s) : Nat) : Int) < mostL.getD 1 0 ∧ sI s + 1 < 1000 ∧ sI s + 1 < nTk T L ∧ ex (kdT T L) 28 (sI s) = .ok (sI s + 1) ∧ pNm (kdT T L) (mostL.getD 1 0 ≤ ((cntE 1 (sE s) : Nat) : Int)) (sI s + 1) = .ok (sI s + 2) := by
      intro s5 h5
      obtain ⟨s4, a1, a2⟩ := bnd_ok h5
      obtain ⟨s3, a3, a4⟩ := bnd_ok a1
      have hk3 := hk30 s3 a3
      obtain ⟨s2, a5, a6⟩ := bnd_ok a3
      obtain ⟨s1, a7, a8⟩ := bnd_ok a5
      have hx2e := hxi2 s1 a7 s2 a8
      have hR2' := hR2
      rw [a5] at hR2'
      cases ρ with
      | error e => cases a7
      | ok s =>
        have hpre := pre_ok (c := 28) (so := 1) (s2 := s2) (ho s rfl) a5
        obtain ⟨e1, e2, rfl, e3, e4, e5⟩ := hpre
        obtain ⟨b1, rfl⟩ := fTk_ok (s := s) (c := 28) a7
        rw [fTk_j rfl] at a6
        obtain ⟨j3, c1, c2⟩ := bnd_ok a6
        obtain ⟨-, rfl, -⟩ := ex_ok c1
        cases c2
        rw [fTk_j rfl] at a4
        obtain ⟨j4, d1, d2⟩ := bnd_ok a4
        obtain ⟨-, rfl, -⟩ := ex_ok d1
        cases d2
        rw [fTk_j rfl] at a2
        obtain ⟨j5, f1, f2⟩ := bnd_ok a2
        obtain ⟨-, rfl, -⟩ := ex_ok f1
        cases f2
        have hc := hR2'.2.2.1.2.2.1
        have hc' : sI s + 2 ≤ nTk T L := hc
        exact ⟨s, rfl, hx2e, rfl, c1, d1, f1, hk3, e3, e4, by omega, e1, e2⟩
    have hOr : ∀ s5, bnd (bnd (bnd (bnd (bnd ρ (fTk (kdT T L) 28)) (fNN T L 1)) (fTk (kdT T L) 11)) (fTk (kdT T L) tk)) (fTk (kdT T L) 12) = .ok s5 → sO s5 = List.range (sI s5) := by
      intro s5 h5
      obtain ⟨s, -, -, rfl, -⟩ := hO5 s5 h5
      rfl
    -- what is left is the same for both
    have hend : ∀ (w6 : Wd) (v : Int) (P : Nat → PE (Int × Nat)) (F : ST → PE ST), (∀ s, F s = bnd (P (sI s)) (fun q => .ok (fJ s q.2))) → (∀ i5, (if bb = 1 then pBool (kdT T L) i5 else pInt (kdT T L) (vlT T L) i5) = P i5) → Fx FEl w5 w6 → (∀ s5, bnd (bnd (bnd (bnd (bnd ρ (fTk (kdT T L) 28)) (fNN T L 1)) (fTk (kdT T L) 11)) (fTk (kdT T L) tk)) (fTk (kdT T L) 12) = .ok s5 → ∀ q, P (sI s5) = .ok q → v = q.1) → RdS T L w6 (bnd (bnd (bnd (bnd (bnd (bnd ρ (fTk (kdT T L) 28)) (fNN T L 1)) (fTk (kdT T L) 11)) (fTk (kdT T L) tk)) (fTk (kdT T L) 12)) F) → V g LC jRe_readState (d + 1) K 80 [(0, vA 24), (1, vI (x2 : Int)), (2, vI bb)] [vI v] w6 := by
      intro w6 v P F hF hP hF6 hv hR6
      have hadd : V g LC jRe_readState (d + 1) K 96 [(0, vA 24), (3, vI v)] [vI (kk : Int), vI 1, vI (x2 : Int), vA 13] w6 := by
        have hFx : FxT w w6 := FxT.e (((((hF1.tr hF2).tr hF3).tr hF4).tr hF5).tr hF6)
        refine s_Re_readState_96 (Cal.weak (add_val (so := 1) (o2 := 9) (n2 := 8) (v := v) (s0 := ρ) (w0 := w) (K := K) (by omega) (by decide) (by decide) rfl rfl (by decide) hR6 hx2 (fun o ho9 => ?_) (fun s6 h6 => ?_) (fun w7 hF7 hR7 hVU => h w7 (hFx.tr hF7) ?_ (fun s hs q hq s' hs' => ?_))) (fun o w1 z => ?_))
        · have e := ((((((hF1.tr hF2).tr hF3).tr hF4).tr hF5).tr hF6)) o (by rcases ho9 with rfl | rfl | rfl <;> decide)
          exact e
        · obtain ⟨s5, a1, a2⟩ := bnd_ok h6
          obtain ⟨s, hs, hxs, rfl, e11, etk, e12, hk3, e3, e4, e5, -⟩ := hO5 s5 a1
          rw [hF] at a2
          obtain ⟨q, hq, a2⟩ := bnd_ok a2
          cases a2
          exact ⟨e3, by omega, by omega, by omega⟩
        · cases ρ with
          | error e => exact hR7
          | ok s =>
            have e : bnd (bnd (bnd (bnd (bnd (bnd (bnd (.ok s) (fTk (kdT T L) 28)) (fNN T L 1)) (fTk (kdT T L) 11)) (fTk (kdT T L) tk)) (fTk (kdT T L) 12)) F) (fLa x2 1 (kk : Int)) = bnd (.ok s) (fT1 T L 28 1) := by
              have hassoc : bnd (bnd (bnd (bnd (bnd (bnd (bnd (.ok s) (fTk (kdT T L) 28)) (fNN T L 1)) (fTk (kdT T L) 11)) (fTk (kdT T L) tk)) (fTk (kdT T L) 12)) F) (fLa x2 1 (kk : Int)) = bnd (bnd (fTk (kdT T L) 28 s) (fNN T L 1)) (fun s2 => bnd (bnd (bnd (bnd (fTk (kdT T L) 11 s2) (fTk (kdT T L) tk)) (fTk (kdT T L) 12)) F) (fLa x2 1 (kk : Int))) := by
                rw [bnd_ok']
                simp only [bnd_as]
              rw [hassoc]
              show _ = fT1 T L 28 1 s
              refine pre_eq (ho s rfl) _ (fun p1 p2 => ?_)
              obtain ⟨s1, z1, z2, z3⟩ := pre_mk (ho s rfl) p1 p2
              have hx2e : x2 = sI s + 1 := by rw [← z2]; exact hxi2 s1 z1 _ z3
              unfold pTv
              rw [if_neg (by decide), fTk_j rfl]
              show bnd (bnd (bnd (bnd (bnd (ex (kdT T L) 11 (sI s + 2)) _) _) _) _) _ = _
              cases e11 : ex (kdT T L) 11 (sI s + 2) with
              | error e => rfl
              | ok i3 =>
                obtain ⟨-, rfl, -⟩ := ex_ok e11
                rw [bnd_ok', bnd_ok', bnd_ok', if_pos rfl]
                have hth : kdT T L (sI s + 2 + 1) = 30 ↔ bb = 1 := by
                  have z1' : bnd (.ok s) (fTk (kdT T L) 28) = .ok s1 := z1
                  have := hk30 (fJ (nmS T L s) (sI s + 2 + 1)) (by rw [z1', bnd_ok', z3, bnd_ok', fTk_j rfl]; show bnd (ex (kdT T L) 11 (sI s + 2)) _ = _; rw [e11]; rfl)
                  exact this
                have htk' : (if kdT T L (sI s + 2 + 1) = 30 then 30 else 29) = tk := by
                  rw [htk]
                  rcases hbb with rfl | rfl
                  · rw [if_neg (fun z => absurd (hth.mp z) (by decide)), if_pos rfl]
                  · rw [if_pos (hth.mpr rfl), if_neg (by decide)]
                have hkk' : (if kdT T L (sI s + 2 + 1) = 30 then 2 else 1) = kk := by
                  rw [hkk]
                  rcases hbb with rfl | rfl
                  · rw [if_neg (fun z => absurd (hth.mp z) (by decide)), if_pos rfl]
                  · rw [if_pos (hth.mpr rfl), if_neg (by decide)]
                have hPP : ∀ i5, (if kdT T L (sI s + 2 + 1) = 30 then pBool (kdT T L) i5 else pInt (kdT T L) (vlT T L) i5) = P i5 := by
                  intro i5
                  rw [← hP i5]
                  rcases hbb with rfl | rfl
                  · rw [if_neg (fun z => absurd (hth.mp z) (by decide)), if_neg (by decide)]
                  · rw [if_pos (hth.mpr rfl), if_pos rfl]
                simp only [hPP]
                rw [htk', hkk', fTk_j rfl]
                show bnd (bnd (bnd (bnd (ex (kdT T L) tk (sI s + 2 + 1)) _) _) _) _ = _
                cases etk : ex (kdT T L) tk (sI s + 2 + 1) with
                | error e => rfl
                | ok i4 =>
                  rw [bnd_ok', bnd_ok', bnd_ok', fTk_j rfl]
                  show bnd (bnd (bnd (ex (kdT T L) 12 i4) _) _) _ = _
                  cases e12 : ex (kdT T L) 12 i4 with
                  | error e => rfl
                  | ok i5 =>
                    rw [bnd_ok', bnd_ok', bnd_ok', hF]
                    show bnd (bnd (P i5) _) _ = _
                    cases hP5 : P i5 with
                    | error e => rfl
                    | ok q =>
                      rw [bnd_ok', bnd_ok', bnd_ok', bnd_ok', hx2e]
                      show Except.ok _ = Except.ok _
                      unfold tdS fJ nmS
                      simp only [Int.toNat_natCast]
            rw [e] at hR7
            exact hR7
        · subst hs
          have hs'' := hs'
          unfold fT1 at hs''
          obtain ⟨i1, p1, hs''⟩ := bnd_ok hs''
          obtain ⟨-, rfl, -⟩ := ex_ok p1
          obtain ⟨i2, p2, hs''⟩ := bnd_ok hs''
          obtain ⟨-, rfl, -, -⟩ := pNm_ok p2
          obtain ⟨s1, z1, z2, z3⟩ := pre_mk (ho s rfl) p1 p2
          have z1' : bnd (.ok s) (fTk (kdT T L) 28) = .ok s1 := z1
          have hq2 := hq
          unfold pTv at hq2
          rw [if_neg (by decide)] at hq2
          obtain ⟨i3, e11, hq2⟩ := bnd_ok hq2
          obtain ⟨-, rfl, -⟩ := ex_ok e11
          rw [if_pos rfl] at hq2
          have hs3 : bnd (bnd (bnd (.ok s) (fTk (kdT T L) 28)) (fNN T L 1)) (fTk (kdT T L) 11) = .ok (fJ (nmS T L s) (sI s + 2 + 1)) := by rw [z1', bnd_ok', z3, bnd_ok', fTk_j rfl]; show bnd (ex (kdT T L) 11 (sI s + 2)) _ = _; rw [e11]; rfl
          have hth : kdT T L (sI s + 2 + 1) = 30 ↔ bb = 1 := hk30 _ hs3
          have htk' : (if kdT T L (sI s + 2 + 1) = 30 then 30 else 29) = tk := by
            rw [htk]
            rcases hbb with rfl | rfl
            · rw [if_neg (fun z => absurd (hth.mp z) (by decide)), if_pos rfl]
            · rw [if_pos (hth.mpr rfl), if_neg (by decide)]
          have hPP : ∀ i5, (if kdT T L (sI s + 2 + 1) = 30 then pBool (kdT T L) i5 else pInt (kdT T L) (vlT T L) i5) = P i5 := by
            intro i5
            rw [← hP i5]
            rcases hbb with rfl | rfl
            · rw [if_neg (fun z => absurd (hth.mp z) (by decide)), if_neg (by decide)]
            · rw [if_pos (hth.mpr rfl), if_pos rfl]
          simp only [hPP] at hq2
          rw [htk'] at hq2
          obtain ⟨i4, etk, hq2⟩ := bnd_ok hq2
          obtain ⟨i5, e12, hq2⟩ := bnd_ok hq2
          obtain ⟨qq, hqq, hq2⟩ := bnd_ok hq2
          cases hq2
          have hs5 : bnd (bnd (bnd (bnd (bnd (.ok s) (fTk (kdT T L) 28)) (fNN T L 1)) (fTk (kdT T L) 11)) (fTk (kdT T L) tk)) (fTk (kdT T L) 12) = .ok (fJ (fJ (fJ (nmS T L s) (sI s + 2 + 1)) i4) i5) := by
            rw [hs3, bnd_ok', fTk_j rfl]
            show bnd (bnd (ex (kdT T L) tk (sI s + 2 + 1)) _) _ = _
            rw [etk, bnd_ok', bnd_ok', fTk_j rfl]
            show bnd (ex (kdT T L) 12 i4) _ = _
            rw [e12]; rfl
          have hvq := hv _ hs5 qq hqq
          have hs6 : bnd (bnd (bnd (bnd (bnd (bnd (.ok s) (fTk (kdT T L) 28)) (fNN T L 1)) (fTk (kdT T L) 11)) (fTk (kdT T L) tk)) (fTk (kdT T L) 12)) F = .ok (fJ (fJ (fJ (fJ (nmS T L s) (sI s + 2 + 1)) i4) i5) qq.2) := by
            rw [hs5, bnd_ok', hF]
            show bnd (P i5) _ = _
            rw [hqq]; rfl
          have := hVU _ hs6
          rw [hvq] at this
          exact this
        · obtain ⟨y, rfl, z⟩ := rI_of z
          refine ⟨fun c => s_Re_readState_130 (z.1 c), fun c => ⟨fun c2 => s_Re_readState_130 ((z.2 c).1 c2), fun c2 => ⟨((z.2 c).2 c2).1, s_Re_readState_130 ((z.2 c).2 c2).2⟩⟩⟩
      refine s_Re_readState_80 ⟨fun c => ?_, fun c => ?_⟩
      · rw [hkk, if_pos c] at hadd; exact hadd
      · rw [hkk, if_neg c] at hadd; exact hadd
    refine ⟨fun c => st_int (by omega) hR5 hOr (fun w6 v hF6 hv hR6 => hend w6 v _ _ (fun s => rfl) (fun i5 => by rw [if_neg (by omega)]) hF6 hv hR6), fun c => st_bool (by omega) hR5 hOr (fun w6 v hF6 hv hR6 => hend w6 v _ _ (fun s => rfl) (fun i5 => by rw [if_pos (by omega)]) hF6 hv hR6)⟩
  refine ⟨fun c => hgo _ 29 1 ?_ ?_ ?_ ?_, fun c => hgo _ 30 2 ?_ ?_ ?_ ?_⟩
  · exact Or.inl c
  · rw [c]; rfl
  · rw [c]; rfl
  · intro s3 h3
    rw [h3] at c
    rw [h3]
    have hne : ¬ kS T L (iS (.ok s3)) = 30 := fun z => by rw [if_pos z] at c; exact absurd c (by decide)
    rw [if_neg hne]
    exact ⟨fun z => absurd z hne, fun z => absurd z (by decide)⟩
  · by_cases z : kS T L (iS (bnd (bnd (bnd ρ (fTk (kdT T L) 28)) (fNN T L 1)) (fTk (kdT T L) 11))) = 30
    · rw [if_pos z]; exact Or.inr rfl
    · rw [if_neg z] at c; exact absurd rfl c
  · rw [if_neg c]
  · rw [if_neg c]
  · intro s3 h3
    rw [h3] at c
    rw [h3]
    have hne : kS T L (iS (.ok s3)) = 30 := by
      by_cases z : kS T L (iS (.ok s3)) = 30
      · exact z
      · rw [if_neg z] at c; exact absurd rfl c
    rw [if_pos hne]
    exact ⟨fun _ => rfl, fun _ => hne⟩
end ToldM
