/-! ===== the class reads a whole text ===== -/
abbrev DE : Type := List (En × Int)
/-- the told values lie at their places; numbers are below their counts -/
def VS (w : Wd) (D : DE) : Prop := ∀ e ∈ D, e.1.2.1 ≤ 3 ∧ e.1.2.2.1 < cntE e.1.2.1 (D.map (fun e => e.1)) ∧ (e.1.2.1 ≠ 0 → w (vcl e.1.2.1) e.1.2.2.1 = e.2)
def fTo2 (T : Nat → Int) (L : Nat) (p : ST × DE) : PE (ST × DE) := bnd (pTd (kdT T L) (vlT T L) (sE p.1) (sI p.1)) (fun q => .ok (tdS T L p.1 (tlS (kdT T L (sI p.1))) q.1.1 q.2, p.2 ++ [((sI p.1 + 1, tlS (kdT T L (sI p.1)), cntE (tlS (kdT T L (sI p.1))) (sE p.1), q.1.1), q.1.2)]))
def fTs (T : Nat → Int) (L : Nat) : Nat → ST × DE → PE (ST × DE)
  | 0, p => .ok p
  | f + 1, p => if tls (kdT T L (sI p.1)) then bnd (fTo2 T L p) (fTs T L f) else .ok p
abbrev stT (τ : PE (ST × DE)) : PE ST := bnd τ (fun p => .ok p.1)
def TB (w : Wd) (p : ST × DE) : Prop := sE p.1 = p.2.map (fun e => e.1) ∧ VS w p.2 ∧ sO p.1 = List.range (sI p.1) ∧ sC p.1 = [] ∧ sb p.1 = false ∧ sc p.1 = 0 ∧ sl p.1 = 0 ∧ sh p.1 = 0 ∧ cntE 4 (sE p.1) = 0
theorem tlS_3 (c : Nat) : tlS c ≤ 3 := by
  unfold tlS
  repeat' split
  all_goals omega
theorem vcl_9 (so : Nat) : vcl so = 9 ∨ vcl so = 10 ∨ vcl so = 11 := by
  unfold vcl
  repeat' split
  all_goals simp
theorem vcl_inj {a b : Nat} (ha : a ≤ 3) (hb : b ≤ 3) (ha0 : a ≠ 0) (hb0 : b ≠ 0) (h : vcl a = vcl b) : a = b := by
  rcases (by omega : a = 1 ∨ a = 2 ∨ a = 3) with rfl | rfl | rfl <;> rcases (by omega : b = 1 ∨ b = 2 ∨ b = 3) with rfl | rfl | rfl <;> first | rfl | (revert h; decide)
section ReadAll
variable {g : Mg} {d D : Nat} {K : Ou → Wd → Prop} {w : Wd} {T : Nat → Int} {L : Nat} {ρ : PE ST}
theorem VS.add {w' : Wd} {D0 : DE} {so ki t : Nat} {v : Int} (hso : so ≤ 3) (h : VS w D0) (hu : VU w w' so (cntE so (D0.map (fun e => e.1))) v) : VS w' (D0 ++ [((t, so, cntE so (D0.map (fun e => e.1)), ki), v)]) := by
  intro e he
  rw [List.map_append]
  show _ ∧ e.1.2.2.1 < cntE e.1.2.1 (List.map (fun e => e.1) D0 ++ [(t, so, cntE so (D0.map (fun e => e.1)), ki)]) ∧ _
  rw [cnt_app]
  rcases List.mem_append.mp he with he | he
  · obtain ⟨a1, a2, a3⟩ := h e he
    refine ⟨a1, by omega, fun z => ?_⟩
    rw [hu.2 _ (vcl_9 _) _ (fun q => ?_)]
    · exact a3 z
    · have := vcl_inj a1 hso z q.1 q.2.1
      rw [this] at a2
      omega
  · simp at he
    subst he
    refine ⟨hso, by simp, fun z => hu.1 z⟩
theorem told_loop {w0 : Wd} (hd : 7 ≤ d) : ∀ (f n : Nat) (w : Wd) (τ : PE (ST × DE)), n + f = 1000 → FxT w0 w → RdS T L w (stT τ) → (∀ p, τ = .ok p → TB w p) → (∀ w', FxT w0 w' → RdS T L w' (stT (bnd τ (fTs T L f))) → (∀ p, bnd τ (fTs T L f) = .ok p → TB w' p) → V g LC jRe_read (d + 1) K 58 [(0, vA 24)] [] w') → V g LC jRe_read (d + 1) K 28 [(0, vA 24), (1, vI (n : Int))] [] w := by
  intro f
  induction f with
  | zero =>
    intro n w τ hn hF hR hT h
    refine s_Re_read_28 ⟨fun _ => h w hF ?_ (fun p hp => ?_), fun c => absurd (by omega) c⟩
    · cases τ <;> exact hR
    · cases τ with
      | error e => cases hp
      | ok p' => cases hp; exact hT p rfl
  | succ f ih =>
    intro n w τ hn hF hR hT h
    refine s_Re_read_28 ⟨fun c => absurd c (by omega), fun c => st_kind hR ?_⟩
    have hout : ¬ tls (kS T L (iS (stT τ))) → V g LC jRe_read (d + 1) K 58 [(0, vA 24)] [] w := by
      intro hno
      refine h w hF ?_ (fun p hp => ?_)
      · cases τ with
        | error e => exact hR
        | ok p =>
          have e : bnd (.ok p) (fTs T L (f + 1)) = .ok p := by
            show fTs T L (f + 1) p = .ok p
            rw [fTs]; exact if_neg hno
          rw [e]; exact hR
      · cases τ with
        | error e => cases hp
        | ok p' =>
          have e : fTs T L (f + 1) p' = .ok p := hp
          have e2 : fTs T L (f + 1) p' = .ok p' := by rw [fTs]; exact if_neg hno
          rw [e2] at e
          cases e
          exact hT p rfl
    have hin : tls (kS T L (iS (stT τ))) → Cal g LC jRe_readTold d [vA 24] w (fun o w5 => rV o (V g LC jRe_read (d + 1) K 28 [(0, vA 24), (1, vI (wr ((n : Int) + 1)))] [] w5)) := by
      intro hyes
      rw [wr_n1 (by omega)]
      cases τ with
      | error e => exact absurd (show tls 0 from hyes) (by decide)
      | ok p =>
        obtain ⟨d', rfl⟩ : ∃ d', d = d' + 1 := ⟨d - 1, by omega⟩
        obtain ⟨t1, t2, t3, t4, t5, t6, t7, t8, t9⟩ := hT p rfl
        refine st_told (ρ := .ok p.1) (by omega) hR (fun s hs => by cases hs; exact t3) hyes (fun w1 hF1 hR1 hV => ih (n + 1) w1 (fTo2 T L p) (by omega) (hF.tr hF1) ?_ (fun p1 hp1 => ?_) (fun w' h1 h2 h3 => h w' h1 ?_ (fun p' hp' => ?_)))
        · have e : stT (fTo2 T L p) = bnd (.ok p.1) (fTo T L) := by
            show bnd (fTo2 T L p) _ = fTo T L p.1
            unfold fTo2 fTo
            cases pTd (kdT T L) (vlT T L) (sE p.1) (sI p.1) <;> rfl
          rw [e]; exact hR1
        · unfold fTo2 at hp1
          obtain ⟨q, hq, hp1⟩ := bnd_ok hp1
          cases hp1
          have hv := hV p.1 rfl q hq
          rw [t1] at hv
          have hcnt4 : cntE 4 (sE (tdS T L p.1 (tlS (kdT T L (sI p.1))) q.1.1 q.2)) = 0 := by
            show cntE 4 (sE p.1 ++ [(sI p.1 + 1, tlS (kdT T L (sI p.1)), cntE (tlS (kdT T L (sI p.1))) (sE p.1), q.1.1)]) = 0
            rw [cnt_app, t9]
            have := tlS_3 (kdT T L (sI p.1))
            simp only []
            rw [if_neg (by omega)]
          refine ⟨?_, ?_, rfl, t4, t5, t6, t7, t8, hcnt4⟩
          · show sE p.1 ++ [_] = List.map (fun e => e.1) (p.2 ++ [_])
            rw [List.map_append, ← t1]; rfl
          · rw [t1]
            exact t2.add (tlS_3 _) hv
        · have e : bnd (.ok p) (fTs T L (f + 1)) = bnd (fTo2 T L p) (fTs T L f) := by show fTs T L (f + 1) p = _; rw [fTs]; exact if_pos hyes
          rw [e]; exact h2
        · have e : bnd (.ok p) (fTs T L (f + 1)) = bnd (fTo2 T L p) (fTs T L f) := by show fTs T L (f + 1) p = _; rw [fTs]; exact if_pos hyes
          rw [e] at hp'
          exact h3 p' hp'
    generalize kS T L (iS (stT τ)) = kk at hout hin ⊢
    refine Cal.ofV (by decide) rfl (Nat.le_of_ble_eq_true rfl) (s_Re_tells ⟨fun q => ⟨fun z => absurd z (by decide), fun _ => hin (by omega)⟩, fun q1 => ⟨fun q => ⟨fun z => absurd z (by decide), fun _ => hin (by omega)⟩, fun q2 => ⟨fun q => ⟨fun z => absurd z (by decide), fun _ => hin (by omega)⟩, fun q3 => ⟨fun q => ⟨fun _ => hout (by omega), fun z => absurd rfl z⟩, fun q => ⟨fun z => absurd z (by decide), fun _ => hin (by omega)⟩⟩⟩⟩⟩)
/-- a program: what is told, the two blocks, how many statements, the blame, what is printed; from the told state -/
def fPr (T : Nat → Int) (L : Nat) (s : ST) : PE ST := bnd (fTk (kdT T L) 41 s) (fun s1 => bnd (fB T L (pBk (kdT T L) (vlT T L) 13) s1) (fun s2 => bnd (fAd 31 0 0 s2) (fun s3 => bnd (fTk (kdT T L) 42 s3) (fun s4 => bnd (fB T L (pBk (kdT T L) (vlT T L) 13) s4) (fun s5 => bnd (fAd 31 0 0 s5) (fun s6 => if kdT T L (sI s6) = 0 then .ok s6 else .error (1, sI s6)))))))
theorem RdS.u8 {b : Nat} {v : Int} (hR : RdS T L w ρ) (hb : b ≠ 3) : RdS T L (up w 8 b v) ρ := by
  have hf : Fx [8] w (up w 8 b v) := (Fx.rf _ w).up (by decide)
  refine ⟨hR.1.fx hf (by decide) (by decide) (by decide) (by decide) (by decide) (by decide) (by decide) (by decide) (by decide) (hR.1.2.2.1.fx hf (by decide)) (hR.1.2.2.2.fx hf (by decide)), by rw [hf 26 (by decide)]; exact hR.2.1, ?_⟩
  cases ρ with
  | error e => exact CS.fx (σ := .error e) hR.2.2 hf (by decide)
  | ok s =>
    obtain ⟨o1, o2, o3, o4, o5, o6, o7, o8, o9, o10⟩ := hR.2.2
    exact ⟨CS.fx (σ := .ok (sI s)) o1 hf (by decide), o2.fx hf (by decide) (by decide) (by decide) (by decide) (by decide), o3.fx hf (by decide), by rw [up_k (fun z => hb z.symm)]; exact o4, by rw [hf 24 (by decide)]; exact o5, by rw [hf 26 (by decide)]; exact o6, o7.same (hf 25 (by decide)), o8.fx hf (by decide) (by decide) (by decide) (by decide) (by decide), o9.congr (fun x _ _ => by rw [hf 30 (by decide)]), fun x hx => by rw [hf 30 (by decide)]; exact o10 x hx⟩
/-- only what statements change, and where the blocks begin -/
def FxP (w w' : Wd) : Prop := Fx FSl w w' ∧ ∀ b, b ≠ 3 → b ≠ 4 → b ≠ 5 → w' 8 b = w 8 b
theorem FxP.tr {a b c : Wd} (h1 : FxP a b) (h2 : FxP b c) : FxP a c := ⟨h1.1.tr h2.1, fun x q1 q2 q3 => (h2.2 x q1 q2 q3).trans (h1.2 x q1 q2 q3)⟩
theorem FxP.s {w w' : Wd} (h : FxS w w') : FxP w w' := ⟨h.1, fun b h3 _ _ => h.2 b h3⟩
theorem FxP.e {w w' : Wd} (h : Fx FEl w w') : FxP w w' := FxP.s (FxS.e h)
theorem read_blocks (hd : 210 ≤ d) (hR : RdS T L w ρ) (hp : ∀ s, ρ = .ok s → sC s = [] ∧ sb s = false ∧ sl s = 0 ∧ sc s = 0) (h : ∀ w', FxP w w' → RdS T L w' (bnd ρ (fPr T L)) → (∀ s, ρ = .ok s → ∀ s', fPr T L s = .ok s' → w' 8 4 = 0 ∧ ∃ a, pBk (kdT T L) (vlT T L) 13 0 (cntE 4 (sE s)) (sI s + 1) = .ok a ∧ w' 8 5 = ((nK a.1 + 1 : Nat) : Int)) → V g LC jRe_read (d + 1) K 159 [(0, vA 24)] [] w') : V g LC jRe_read (d + 1) K 58 [(0, vA 24)] [] w := by
  have hB : SpBk g d T L 13 0 := fun K w ρ h1 h2 h3 => (sp_block (g := g) (T := T) (L := L) 13 0 rfl K w ρ h1 h2 h3).mono (by omega)
  refine s_Re_read_58 (st_take (c := 41) (by omega) hR (by decide) (fun w1 x1 hF1 hx1 hxi1 hR1 _ => ?_))
  have hR1u := hR1.u8 (b := 4) (v := w1 19 4) (by decide)
  have hp1 : ∀ s1, bnd ρ (fTk (kdT T L) 41) = .ok s1 → ∃ s, ρ = .ok s ∧ ex (kdT T L) 41 (sI s) = .ok (sI s + 1) ∧ s1 = (sI s + 1, sE s, 0, 0, false, sK s, [], sO s ++ [sI s], sh s) := by
    intro s1 h1
    obtain ⟨s, a1, a2⟩ := bnd_ok h1
    obtain ⟨e1, rfl⟩ := fTk_ok a2
    obtain ⟨q1, q2, q3, q4⟩ := hp s a1
    refine ⟨s, a1, e1, ?_⟩
    rw [q1, q2, q3, q4]
  have h84 : ∀ s, ρ = .ok s → ∀ s1, fTk (kdT T L) 41 s = .ok s1 → w1 19 4 = 0 := by
    intro s hs s1 h1
    subst hs
    have t : bnd (.ok s) (fTk (kdT T L) 41) = .ok s1 := h1
    have hR1' := hR1
    rw [t] at hR1'
    obtain ⟨s', e1, e2, e3⟩ := hp1 s1 t
    have := hR1'.2.2.2.2.2.2.2.2.2.1.1
    rw [e3] at this
    exact this
  refine hB _ _ _ hR1u (fun s1 h1 => ?_) (fun w2 hF2 hR2 => ?_)
  · obtain ⟨s, -, -, rfl⟩ := hp1 s1 h1
    exact ⟨rfl, Nat.zero_le _, Nat.le_refl 13, Nat.zero_le 120⟩
  have hp2 : ∀ s2, bnd (bnd ρ (fTk (kdT T L) 41)) (fB T L (pBk (kdT T L) (vlT T L) 13)) = .ok s2 → ∃ s a, ρ = .ok s ∧ ex (kdT T L) 41 (sI s) = .ok (sI s + 1) ∧ pBk (kdT T L) (vlT T L) 13 0 (cntE 4 (sE s)) (sI s + 1) = .ok a ∧ GB 0 (sI s + 1) a ∧ LenOK T L a.1 ∧ s2 = (a.2.1, sE s, a.2.2, 0, false, min (sK s) (jS T L a.1 (sE s)), cmS T L a.1 (sE s) 0 0 (sh s), sO s ++ [sI s] ++ oP (kdT T L) a.1, sh s) := by
    intro s2 h2
    obtain ⟨s1, a1, a2⟩ := bnd_ok h2
    obtain ⟨s, hs, e1, rfl⟩ := hp1 s1 a1
    obtain ⟨a, ha, hg, hl, rfl⟩ := fB_ok a2 (Nat.zero_le 120)
    exact ⟨s, a, hs, e1, ha, hg, hl, rfl⟩
  refine st_add hR2 (fun s2 h2 => ?_) (fun w3 x3 hF3 hx3 hxi3 hR3 _ => st_take (c := 42) (by omega) hR3 (by decide) (fun w4 x4 hF4 hx4 hxi4 hR4 _ => ?_))
  · obtain ⟨s, a, hs, e1, ha, ⟨-, g1, g2, g3, g4, g5⟩, hl, rfl⟩ := hp2 s2 h2
    show (cmS T L a.1 (sE s) 0 0 (sh s)).length < 1024
    rw [hl]; omega
  have hp4 : ∀ s4, bnd (bnd (bnd (bnd ρ (fTk (kdT T L) 41)) (fB T L (pBk (kdT T L) (vlT T L) 13))) (fAd 31 0 0)) (fTk (kdT T L) 42) = .ok s4 → ∃ s a, ρ = .ok s ∧ ex (kdT T L) 41 (sI s) = .ok (sI s + 1) ∧ pBk (kdT T L) (vlT T L) 13 0 (cntE 4 (sE s)) (sI s + 1) = .ok a ∧ GB 0 (sI s + 1) a ∧ LenOK T L a.1 ∧ s4 = (a.2.1 + 1, sE s, a.2.2, 0, false, min (sK s) (jS T L a.1 (sE s)), cmS T L a.1 (sE s) 0 0 (sh s) ++ [(31, 0, 0, sh s)], sO s ++ [sI s] ++ oP (kdT T L) a.1 ++ [a.2.1], sh s) := by
    intro s4 h4
    obtain ⟨s3, a1, a2⟩ := bnd_ok h4
    obtain ⟨s2, a3, a4⟩ := bnd_ok a1
    obtain ⟨s, a, hs, e1, ha, hg, hl, rfl⟩ := hp2 s2 a3
    cases a4
    obtain ⟨-, rfl⟩ := fTk_ok a2
    exact ⟨s, a, hs, e1, ha, hg, hl, rfl⟩
  have hR4u := hR4.u8 (b := 5) (v := w4 19 4) (by decide)
  refine hB _ _ _ hR4u (fun s4 h4 => ?_) (fun w5 hF5 hR5 => ?_)
  · obtain ⟨s, a, hs, e1, ha, ⟨-, g1, g2, g3, g4, g5⟩, hl, rfl⟩ := hp4 s4 h4
    refine ⟨rfl, ?_, by show 0 + 13 ≤ 13; decide, g5⟩
    show (cmS T L a.1 (sE s) 0 0 (sh s) ++ [(31, 0, 0, sh s)]).length ≤ a.2.1 + 1 + 1
    rw [List.length_append, hl]; simp; omega
  have hp5 : ∀ s5, bnd (bnd (bnd (bnd (bnd ρ (fTk (kdT T L) 41)) (fB T L (pBk (kdT T L) (vlT T L) 13))) (fAd 31 0 0)) (fTk (kdT T L) 42)) (fB T L (pBk (kdT T L) (vlT T L) 13)) = .ok s5 → (sC s5).length < 1024 := by
    intro s5 h5
    obtain ⟨s4, a1, a2⟩ := bnd_ok h5
    obtain ⟨s, a, hs, e1, ha, ⟨-, g1, g2, g3, g4, g5⟩, hl, rfl⟩ := hp4 s4 a1
    obtain ⟨b, hb, ⟨-, k1, k2, k3, k4, k5⟩, hl2, rfl⟩ := fB_ok a2 g5
    show (cmS T L a.1 (sE s) 0 0 (sh s) ++ [(31, 0, 0, sh s)] ++ cmS T L b.1 (sE s) (cmS T L a.1 (sE s) 0 0 (sh s) ++ [((31 : Int), (0 : Int), (0 : Int), sh s)]).length 0 (sh s)).length < 1024
    have k1' : a.2.1 + 1 < b.2.1 := k1
    have k3' : nK b.1 + 2 ≤ b.2.1 - (a.2.1 + 1) := k3
    rw [List.length_append, List.length_append, hl, hl2]; simp; omega
  refine st_add hR5 hp5 (fun w6 x6 hF6 hx6 hxi6 hR6 _ => st_sees (c := 0) hR6 ?_)
  have hFall : FxP w w6 := (FxP.e hF1).tr (FxP.tr (b := up w1 8 4 (w1 19 4)) ⟨(Fx.rf _ w1).up (by decide), fun b _ h4 _ => up_k h4⟩ ((FxP.s hF2).tr ((FxP.e (hF3.tr hF4)).tr (FxP.tr (b := up w4 8 5 (w4 19 4)) ⟨(Fx.rf _ w4).up (by decide), fun b _ _ h5 => up_k h5⟩ ((FxP.s hF5).tr (FxP.e hF6))))))
  have hkeep : ∀ s, ρ = .ok s → ∀ s', fPr T L s = .ok s' → w6 8 4 = 0 ∧ ∃ a, pBk (kdT T L) (vlT T L) 13 0 (cntE 4 (sE s)) (sI s + 1) = .ok a ∧ w6 8 5 = ((nK a.1 + 1 : Nat) : Int) := by
    intro s hs s' hs'
    unfold fPr at hs'
    obtain ⟨s1, b1, hs'⟩ := bnd_ok hs'
    obtain ⟨s2, b2, hs'⟩ := bnd_ok hs'
    obtain ⟨s3, b3, hs'⟩ := bnd_ok hs'
    obtain ⟨s4, b4, hs'⟩ := bnd_ok hs'
    have t4 : bnd (bnd (bnd (bnd ρ (fTk (kdT T L) 41)) (fB T L (pBk (kdT T L) (vlT T L) 13))) (fAd 31 0 0)) (fTk (kdT T L) 42) = .ok s4 := by
      rw [hs, bnd_ok', b1, bnd_ok', b2, bnd_ok', b3, bnd_ok', b4]
    obtain ⟨s0, a, hs0, e1, ha, hg, hl, rfl⟩ := hp4 s4 t4
    have : s0 = s := by rw [hs] at hs0; cases hs0; rfl
    subst this
    have h41 := h84 s0 hs s1 b1
    have hR4' := hR4
    rw [t4] at hR4'
    have h19 : w4 19 4 = ((nK a.1 + 1 : Nat) : Int) := by
      have := hR4'.2.2.2.2.2.2.2.2.2.1.1
      have e : (sC ((a.2.1 + 1, sE s0, a.2.2, 0, false, min (sK s0) (jS T L a.1 (sE s0)), cmS T L a.1 (sE s0) 0 0 (sh s0) ++ [(31, 0, 0, sh s0)], sO s0 ++ [sI s0] ++ oP (kdT T L) a.1 ++ [a.2.1], sh s0) : ST)).length = nK a.1 + 1 := by
        show (cmS T L a.1 (sE s0) 0 0 (sh s0) ++ [(31, 0, 0, sh s0)]).length = _
        rw [List.length_append, hl]; rfl
      rw [e] at this
      exact this
    refine ⟨?_, a, ha, ?_⟩
    · rw [hF6 8 (by decide), hF5.2 4 (by decide), up_k (by decide), (hF3.tr hF4) 8 (by decide), hF2.2 4 (by decide), up_s]
      exact h41
    · rw [hF6 8 (by decide), hF5.2 5 (by decide), up_s]; exact h19
  have hassoc : bnd (bnd (bnd (bnd (bnd (bnd ρ (fTk (kdT T L) 41)) (fB T L (pBk (kdT T L) (vlT T L) 13))) (fAd 31 0 0)) (fTk (kdT T L) 42)) (fB T L (pBk (kdT T L) (vlT T L) 13))) (fAd 31 0 0) = bnd ρ (fun s => bnd (fTk (kdT T L) 41 s) (fun s1 => bnd (fB T L (pBk (kdT T L) (vlT T L) 13) s1) (fun s2 => bnd (fAd 31 0 0 s2) (fun s3 => bnd (fTk (kdT T L) 42 s3) (fun s4 => bnd (fB T L (pBk (kdT T L) (vlT T L) 13) s4) (fAd 31 0 0)))))) := by
    simp only [bnd_as]
  have hassoc2 : ∀ F : ST → PE ST, bnd (bnd (bnd (bnd (bnd (bnd (bnd ρ (fTk (kdT T L) 41)) (fB T L (pBk (kdT T L) (vlT T L) 13))) (fAd 31 0 0)) (fTk (kdT T L) 42)) (fB T L (pBk (kdT T L) (vlT T L) 13))) (fAd 31 0 0)) F = bnd ρ (fun s => bnd (fTk (kdT T L) 41 s) (fun s1 => bnd (fB T L (pBk (kdT T L) (vlT T L) 13) s1) (fun s2 => bnd (fAd 31 0 0 s2) (fun s3 => bnd (fTk (kdT T L) 42 s3) (fun s4 => bnd (fB T L (pBk (kdT T L) (vlT T L) 13) s4) (fun s5 => bnd (fAd 31 0 0 s5) F)))))) := by
    intro F; simp only [bnd_as]
  generalize hρ6 : bnd (bnd (bnd (bnd (bnd (bnd ρ (fTk (kdT T L) 41)) (fB T L (pBk (kdT T L) (vlT T L) 13))) (fAd 31 0 0)) (fTk (kdT T L) 42)) (fB T L (pBk (kdT T L) (vlT T L) 13))) (fAd 31 0 0) = ρ6 at hR6 hassoc2
  have hfp : ∀ F : ST → PE ST, (∀ s6, ρ6 = .ok s6 → F s6 = if kdT T L (sI s6) = 0 then .ok s6 else .error (1, sI s6)) → bnd ρ6 F = bnd ρ (fPr T L) := by
    intro F hF
    have h1 := hassoc2 (fun s6 => if kdT T L (sI s6) = 0 then .ok s6 else .error (1, sI s6))
    have h2 : bnd ρ6 F = bnd ρ6 (fun s6 => if kdT T L (sI s6) = 0 then .ok s6 else .error (1, sI s6)) := by
      cases ρ6 with
      | error e => rfl
      | ok s6 => exact hF s6 rfl
    rw [h2, h1]
    rfl
  refine ⟨fun c => h w6 hFall ?_ hkeep, fun c => st_stop (f := 1) (by decide) hR6 (fun w7 hF7 hR7 _ => h w7 (hFall.tr (FxP.e hF7)) ?_ (fun s hs s' hs' => ?_))⟩
  · have e := hfp (fun s => .ok s) (fun s6 h6 => ?_)
    · rw [← e]
      cases ρ6 with
      | error e => exact hR6
      | ok s6 => exact hR6
    · rw [h6] at c
      by_cases z : kS T L (iS (.ok s6)) = 0
      · have z' : kdT T L (sI s6) = 0 := z
        rw [if_pos z']
      · rw [if_neg z] at c; exact absurd rfl c
  · have e := hfp (fSp 1) (fun s6 h6 => ?_)
    · rw [← e]; exact hR7
    · rw [h6] at c
      by_cases z : kS T L (iS (.ok s6)) = 0
      · rw [if_pos z] at c; exact absurd c (by decide)
      · have z' : ¬ kdT T L (sI s6) = 0 := z
        rw [if_neg z']; rfl
  · have := hkeep s hs s' hs'
    rw [hF7 8 (by decide)]
    exact this
end ReadAll
