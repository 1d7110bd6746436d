/-! ===== the class: read(), program() ===== -/
def st0 : ST := (0, [], 0, 0, false, 100000, [], [], 0)
/-- the program that a text is, or its first FAULT of 1, 2 -/
def pPrg (T : Nat → Int) (L : Nat) : PE (ST × DE) := bnd (fTs T L 1000 (st0, [])) (fun p => bnd (fPr T L p.1) (fun s => .ok (s, p.2)))
abbrev FRl : List Nat := [8, 9, 10, 11, 12, 13, 14, 15, 16, 17, 18, 19, 20, 21, 22, 23, 24, 25, 26, 27, 28, 29, 30]
/-- a program stands -/
def PgC (T : Nat → Int) (L : Nat) (w : Wd) (s : ST) (D : DE) : Prop := OKs T L w s ∧ VS w D ∧ sE s = D.map (fun e => e.1) ∧ w 8 4 = 0 ∧ (∃ p a, fTs T L 1000 (st0, []) = .ok p ∧ p.2 = D ∧ pBk (kdT T L) (vlT T L) 13 0 0 (sI p.1 + 1) = .ok a ∧ w 8 5 = ((nK a.1 + 1 : Nat) : Int)) ∧ PRc w (prB T L [] (sO s))
def ReadC (T : Nat → Int) (L : Nat) (w : Wd) (v : Int) : Prop := IC T L w ∧ match pPrg T L with
  | .error e => w 25 2 = (e.1 : Int) ∧ e.1 ≠ 0 ∧ w 25 3 = ((tAt T L e.2 : Nat) : Int) ∧ w 8 2 = 0 ∧ v = (e.1 : Int)
  | .ok q => w 25 2 = 0 ∧ KY w (sK q.1) ∧ ((sK q.1 = 100000 ∧ v = 0 ∧ w 8 2 = 1 ∧ PgC T L w q.1 q.2) ∨ (sK q.1 ≠ 100000 ∧ v = ((sK q.1 % 8 : Nat) : Int) ∧ v ≠ 0 ∧ w 8 2 = 0))
section ReadProg
variable {g : Mg} {d D : Nat} {K : Ou → Wd → Prop} {w : Wd} {T : Nat → Int} {L : Nat}
theorem ec_loop {w0 : Wd} (h : K (.inl none) (fillw w0 30 1002 0)) : ∀ (m i : Nat), i + m = 1002 → V g LC jEx_clear d K 7 [(0, vA 26), (1, vI (i : Int))] [] (fillw w0 30 i 0) := by
  intro m
  induction m with
  | zero =>
    intro i hi
    have : i = 1002 := by omega
    subst this
    exact s_Ex_clear_7 ⟨fun _ => h, fun c => absurd (by decide) c⟩
  | succ m ih =>
    intro i hi
    refine s_Ex_clear_7 ⟨fun c => absurd c (by omega), fun c => ⟨by omega, ?_⟩⟩
    rw [toN, fillw_s, wr_n1 (by omega)]
    exact ih (i + 1) (by omega)
/-- cut where nothing is -/
def cut30 (w : Wd) : Wd := fun o k => if o = 30 ∧ 1002 ≤ k then 0 else w o k
theorem sp_exClear (h : ∀ w', Fx [26, 30] w w' → (∀ b, b ≠ 4 → w' 26 b = w 26 b) → w' 26 4 = 0 → (∀ x, w' 30 x = 0) → K (.inl none) w') : Cal g LC jEx_clear D [vA 26] w K := by
  refine Cal.cg (w' := cut30 w) (fun o ho k hk => ?_) (fun o k r hr => ?_) (Cal.ofV (by decide) rfl (Nat.le_of_ble_eq_true rfl) (s_Ex_clear ?_))
  · unfold cut30
    rw [if_neg]
    rintro ⟨rfl, h2⟩
    have hk' : k < 1002 := hk
    omega
  · unfold cut30
    rw [if_neg]
    rintro ⟨rfl, h2⟩
    rw [aC_30] at hr
    cases hr
  · have := ec_loop (g := g) (d := D) (K := K) (w0 := up (cut30 w) 26 4 0) ?_ 1002 0 (by decide)
    · rw [fillw_0] at this
      exact this
    · refine h _ (fun a ha => ?_) (fun b hb => ?_) ?_ (fun x => ?_)
      · have h26 : a ≠ 26 := fun z => ha (by simp [z])
        have h30 : a ≠ 30 := fun z => ha (by simp [z])
        funext b
        rw [fillw_ne h30, up_o h26]
        unfold cut30
        rw [if_neg (fun z => h30 z.1)]
      · rw [fillw_ne (by decide), up_k hb]
        unfold cut30
        rw [if_neg (by omega)]
      · rw [fillw_ne (by decide), up_s]
      · by_cases hx : x < 1002
        · rw [fillw_in hx]
        · unfold fillw
          rw [if_neg (by omega), up_o (by decide)]
          unfold cut30
          rw [if_pos ⟨rfl, by omega⟩]
theorem stP : bnd (stT (fTs T L 1000 (st0, []))) (fPr T L) = stT (pPrg T L) := by
  unfold pPrg
  cases fTs T L 1000 (st0, []) with
  | error e => rfl
  | ok p =>
    show fPr T L p.1 = bnd (bnd (fPr T L p.1) _) _
    cases fPr T L p.1 <;> rfl
theorem fPr_end {s s' : ST} (h : fPr T L s = .ok s') : kdT T L (sI s') = 0 := by
  unfold fPr at h
  obtain ⟨s1, -, h⟩ := bnd_ok h
  obtain ⟨s2, -, h⟩ := bnd_ok h
  obtain ⟨s3, -, h⟩ := bnd_ok h
  obtain ⟨s4, -, h⟩ := bnd_ok h
  obtain ⟨s5, -, h⟩ := bnd_ok h
  obtain ⟨s6, -, h⟩ := bnd_ok h
  split at h
  · rename_i hk
    cases h; exact hk
  · cases h
theorem kd0_n {i : Nat} (h1 : i ≤ nTk T L) (h0 : kdT T L i = 0) : i = nTk T L := by
  by_cases hi : i < nTk T L
  · have := tok_lt hi
    rw [kdT_at this] at h0
    exfalso
    revert h0
    unfold tKd
    split
    · split
      · decide
      · rcases wKd_cases T (tAt T L i) (eW T L (tAt T L i) - tAt T L i) 33 0 with ⟨z, -⟩ | ⟨q, -, -, z, -⟩
        · rw [z]; decide
        · rw [z]; omega
    · split
      · split <;> decide
      · split
        · omega
        · split <;> omega
  · omega
theorem sp_read (hD : 220 ≤ D) (hX : TxC T L w) (hB : ∀ i, i < L → -128 ≤ T i ∧ T i ≤ 127) (hC : ClB w) (h : ∀ w' v, Fx FRl w w' → ReadC T L w' v → K (.inl (some (vI v))) w') : Cal g LC jRe_read D [vA 24] w K := by
  obtain ⟨d, rfl⟩ : ∃ d, D = d + 1 := ⟨D - 1, by omega⟩
  obtain ⟨d1, rfl⟩ : ∃ d1, d = d1 + 2 := ⟨d - 2, by omega⟩
  refine Cal.ofV (by decide) rfl (Nat.le_of_ble_eq_true rfl) (s_Re_read (Cal.ofV (by decide) rfl (Nat.le_of_ble_eq_true rfl) (s_Pr_clear (Cal.ofV (by decide) rfl (Nat.le_of_ble_eq_true rfl) (s_Lo_clear (sp_fill (o := 18) (n := 5) (by decide) (by decide) aC_18 (by decide) (Cal.ofV (by decide) rfl (Nat.le_of_ble_eq_true rfl) (s_Co_clear (Cal.ofV (by decide) rfl (Nat.le_of_ble_eq_true rfl) (s_Cu_rewind (sp_exClear (fun w3 hF3 h26 h264 h30 => ?_))))))))))))
  generalize hwb : up (up (up (up (up (fillw (up (up (up (up w 8 2 0) 8 3 0) 8 10 0) 13 6 0) 18 5 0) 19 4 0) 19 5 0) 25 1 0) 25 2 0) 25 4 0 = wb at hF3 h26
  have hFb : Fx [8, 13, 18, 19, 25] w wb := by
    rw [← hwb]
    refine (((((Fx.up (Fx.up ?_ (by decide)) (by decide)).up (by decide)).up (by decide)).up (by decide)))
    intro a ha
    have h18 : a ≠ 18 := fun z => ha (by simp [z])
    funext b
    rw [fillw_ne h18, up_o (fun z => ha (by simp [z])), up_o (fun z => ha (by simp [z])), up_o (fun z => ha (by simp [z])), up_o (fun z => ha (by simp [z]))]
  have b8 : wb 8 2 = 0 ∧ wb 8 3 = 0 ∧ wb 8 10 = 0 := by rw [← hwb]; refine ⟨?_, ?_, ?_⟩ <;> simp [up, fillw]
  have b13 : wb 13 6 = 0 := by rw [← hwb]; simp [up, fillw]
  have b18 : ∀ s, s < 5 → wb 18 s = 0 := by intro s hs; rw [← hwb]; simp [up, fillw, hs]
  have b19 : wb 19 4 = 0 ∧ wb 19 5 = 0 := by rw [← hwb]; refine ⟨?_, ?_⟩ <;> simp [up]
  have b25 : wb 25 1 = 0 ∧ wb 25 2 = 0 ∧ wb 25 4 = 0 := by rw [← hwb]; refine ⟨?_, ?_, ?_⟩ <;> simp [up]
  have hF4 : Fx [24] w3 (up w3 24 6 0) := (Fx.rf _ w3).up (by decide)
  generalize hw4 : up w3 24 6 0 = w4 at hF4
  have h424 : w4 24 6 = 0 := by rw [← hw4, up_s]
  have hbw : ∀ o, o ≠ 24 → o ≠ 26 → o ≠ 30 → w4 o = wb o := fun o h1 h2 h3 => by rw [hF4 o (by simp [h1]), hF3 o (by simp [h2, h3])]
  have hww : ∀ o, o ∉ [8, 13, 18, 19, 24, 25, 26, 30] → w4 o = w o := fun o ho => by
    rw [hbw o (fun z => ho (by simp [z])) (fun z => ho (by simp [z])) (fun z => ho (by simp [z])), hFb o (fun z => ho (by simp at z ⊢; omega))]
  have hI4 : IC T L w4 := by
    refine ⟨?_, ⟨0, ?_, by decide, fun e he => absurd he (Nat.not_lt_zero _)⟩, ⟨0, ?_, by decide⟩, fun x hx => ?_⟩
    · unfold TxC Toks TokE at *
      rw [hww 2 (by decide), hww 3 (by decide), hww 4 (by decide), hww 5 (by decide), hww 6 (by decide), hww 7 (by decide)]
      exact hX
    · rw [hbw 13 (by decide) (by decide) (by decide), b13]; rfl
    · rw [hbw 19 (by decide) (by decide) (by decide), b19.1]; rfl
    · rw [hww 29 (by decide)]; exact hC x hx
  have h426 : w4 26 4 = 0 := by rw [hF4 26 (by decide)]; exact h264
  have h430 : ∀ x, w4 30 x = 0 := fun x => by rw [hF4 30 (by decide)]; exact h30 x
  have hR4 : RdS T L w4 (stT (.ok (st0, []))) := by
    refine ⟨hI4, Or.inl h426, ?_⟩
    show OKs T L w4 st0
    refine ⟨⟨?_, ?_, Nat.zero_le _, Nat.zero_le _⟩, ⟨?_, fun q e he => by simp [st0, sE] at he⟩, ⟨fun s hs => ⟨?_, ?_⟩, fun e he => by simp [st0, sE] at he⟩, ?_, ?_, ?_, Or.inl ⟨rfl, ?_⟩, ⟨?_, ?_, fun q e he => by simp [st0, sC] at he⟩, DL.nil w4 0, fun x _ => h430 x⟩
    · rw [hbw 25 (by decide) (by decide) (by decide)]; exact b25.1
    · rw [hbw 25 (by decide) (by decide) (by decide)]; exact b25.2.1
    · rw [hbw 13 (by decide) (by decide) (by decide)]; exact b13
    · rw [hbw 18 (by decide) (by decide) (by decide)]; exact b18 s hs
    · show (0 : Int) ≤ _
      rcases (by omega : s = 0 ∨ s = 1 ∨ s = 2 ∨ s = 3 ∨ s = 4) with rfl | rfl | rfl | rfl | rfl <;> decide
    · rw [hbw 8 (by decide) (by decide) (by decide)]; exact b8.2.1
    · exact h424
    · exact h426
    · rw [hbw 25 (by decide) (by decide) (by decide)]; exact b25.2.2
    · rw [hbw 19 (by decide) (by decide) (by decide)]; exact b19.1
    · rw [hbw 19 (by decide) (by decide) (by decide)]; exact b19.2
  have hFw4 : Fx FRl w w4 := fun o ho => hww o (fun z => ho (by simp at z ⊢; omega))
  refine told_loop (w0 := w4) (by omega) 1000 0 w4 (.ok (st0, [])) (by decide) (FxT.rf w4) hR4 (fun p hp => ?_) (fun w5 hF5 hR5 hT5 => read_blocks (by omega) hR5 (fun s hs => ?_) (fun w6 hF6 hR6 hk6 => ?_))
  · cases hp
    exact ⟨rfl, fun e he => by simp at he, rfl, rfl, rfl, rfl, rfl, rfl, rfl⟩
  · have hs' : bnd (fTs T L 1000 (st0, [])) (fun p => .ok p.1) = .ok s := hs
    obtain ⟨p, hp, hs2⟩ := bnd_ok hs'
    cases hs2
    obtain ⟨t1, t2, t3, t4, t5, t6, t7, t8, t9⟩ := hT5 p hp
    exact ⟨t4, t5, t7, t6⟩
  have e6 : bnd (stT (bnd (.ok (st0, [])) (fTs T L 1000))) (fPr T L) = stT (pPrg T L) := stP
  rw [e6] at hR6
  have hFw6 : Fx FRl w w6 := (hFw4.tr (hF5.1.mono (by decide))).tr (hF6.1.mono (by decide))
  have h82 : w6 8 2 = 0 := by rw [hF6.2 2 (by decide) (by decide) (by decide), hF5.2 2 (by decide), hbw 8 (by decide) (by decide) (by decide)]; exact b8.1
  have h810 : w6 8 10 = 0 := by rw [hF6.2 10 (by decide) (by decide) (by decide), hF5.2 10 (by decide), hbw 8 (by decide) (by decide) (by decide)]; exact b8.2.2
  -- worst(), read at the end
  have hlast : ∀ (w7 : Wd) (v : Int), (w7 25 2 = 0 → v = w7 25 4) → (¬ w7 25 2 = 0 → v = w7 25 2) → K (.inl (some (vI v))) w7 → V g LC jRe_read (d1 + 2 + 1) K 181 [(0, vA 24)] [] w7 := by
    intro w7 v h1 h2 hk
    refine s_Re_read_181 (Cal.ofV (by decide) rfl (Nat.le_of_ble_eq_true rfl) (s_Cu_worst ⟨fun z => ?_, fun z => ?_⟩))
    · rw [← h1 z]; exact hk
    · rw [← h2 z]; exact hk
  cases hp : pPrg T L with
  | error e =>
    rw [hp] at hR6
    have hcs : CS T L w6 (.error e) := hR6.2.2
    have hne : ¬ w6 25 2 = 0 := by rw [hcs.2.1]; have := hcs.2.2.1; omega
    refine s_Re_read_159 (Cal.ofV (by decide) rfl (Nat.le_of_ble_eq_true rfl) (s_Cu_worst ⟨fun z => absurd z hne, fun _ => ⟨fun _ => hlast w6 (e.1 : Int) (fun z => absurd z hne) (fun _ => hcs.2.1.symm) (h w6 _ hFw6 ⟨hR6.1, ?_⟩), fun z => absurd z hne⟩⟩))
    rw [hp]
    exact ⟨hcs.2.1, hcs.2.2.1, hcs.2.2.2, h82, rfl⟩
  | ok q =>
    obtain ⟨s, D⟩ := q
    rw [hp] at hR6
    have hOK : OKs T L w6 s := hR6.2.2
    obtain ⟨o1, o2, o3, o4, o5, o6, o7, o8, o9, o10⟩ := id hOK
    have h252 : w6 25 2 = 0 := o1.2.1
    by_cases hk : sK s = 100000
    · have h254 : w6 25 4 = 0 := by
        rcases o7 with ⟨-, z⟩ | ⟨p, f, z, z1, z2, z3, -⟩
        · exact z
        · omega
      refine s_Re_read_159 (Cal.ofV (by decide) rfl (Nat.le_of_ble_eq_true rfl) (s_Cu_worst ⟨fun _ => ⟨fun z => absurd h254 z, fun _ => ?_⟩, fun z => absurd h252 z⟩))
      -- where it ends
      unfold pPrg at hp
      obtain ⟨p, hp1, hp2⟩ := bnd_ok hp
      obtain ⟨s', hp3, hp4⟩ := bnd_ok hp2
      cases hp4
      have hend := kd0_n o1.2.2.1 (fPr_end hp3)
      have hlt : nTk T L ≤ 1000 := by have := o1.2.2.2; omega
      refine sp_writeOut (by omega) hR6.1.1 hlt hB h810 (fun w7 hF7 hP7 => hlast _ 0 (fun _ => ?_) (fun z => absurd ?_ z) (h _ 0 ((hFw6.tr (hF7.1.mono (by decide))).up (by decide)) ⟨?_, ?_⟩))
      · rw [up_o (by decide), hF7.1 25 (by decide)]; exact h254.symm
      · rw [up_o (by decide), hF7.1 25 (by decide)]; exact h252
      · have hff : Fx [8, 12] w6 (up w7 8 2 1) := hF7.1.up (by decide)
        exact hR6.1.fx hff (by decide) (by decide) (by decide) (by decide) (by decide) (by decide) (by decide) (by decide) (by decide) (hR6.1.2.2.1.fx hff (by decide)) (hR6.1.2.2.2.fx hff (by decide))
      · have hpp : pPrg T L = .ok (s, p.2) := by unfold pPrg; rw [hp1, bnd_ok', hp3]; rfl
        rw [hpp]
        have hff : Fx [8, 12] w6 (up w7 8 2 1) := hF7.1.up (by decide)
        have f8 : ∀ b, b ≠ 10 → b ≠ 2 → up w7 8 2 1 8 b = w6 8 b := fun b h1 h2 => by rw [up_k h2, hF7.2 b h1]
        refine ⟨by rw [up_o (by decide), hF7.1 25 (by decide)]; exact h252, o7.same (hff 25 (by decide)), Or.inl ⟨hk, rfl, up_s _ _ _ _, ?_⟩⟩
        have hTB := hT5 p hp1
        obtain ⟨t1, t2, t3, t4, t5, t6, t7, t8, t9⟩ := hTB
        have hEs : sE s = sE p.1 := by
          have h3 := hp3
          unfold fPr at h3
          obtain ⟨s1, c1, h3⟩ := bnd_ok h3
          obtain ⟨-, rfl⟩ := fTk_ok c1
          obtain ⟨s2, c2, h3⟩ := bnd_ok h3
          obtain ⟨a, -, ga, -, rfl⟩ := fB_ok c2 (by show sc p.1 ≤ 120; omega)
          obtain ⟨s3, c3, h3⟩ := bnd_ok h3
          cases c3
          obtain ⟨s4, c4, h3⟩ := bnd_ok h3
          obtain ⟨-, rfl⟩ := fTk_ok c4
          obtain ⟨s5, c5, h3⟩ := bnd_ok h3
          obtain ⟨b, -, -, -, rfl⟩ := fB_ok c5 ga.2.2.2.2.2
          obtain ⟨s6, c6, h3⟩ := bnd_ok h3
          cases c6
          split at h3
          · cases h3; rfl
          · cases h3
        have hk6' := hk6 p.1 (by show bnd (fTs T L 1000 (st0, [])) (fun p => .ok p.1) = _; rw [hp1]; rfl) s hp3
        obtain ⟨q84, a, qa, q85⟩ := hk6'
        rw [t9] at qa
        refine ⟨⟨CS.fx (σ := .ok (sI s)) o1 hff (by decide), o2.fx hff (by decide) (by decide) (by decide) (by decide) (by decide), o3.fx hff (by decide), by rw [f8 3 (by decide) (by decide)]; exact o4, by rw [hff 24 (by decide)]; exact o5, by rw [hff 26 (by decide)]; exact o6, o7.same (hff 25 (by decide)), o8.fx hff (by decide) (by decide) (by decide) (by decide) (by decide), o9.congr (fun x _ _ => by rw [hff 30 (by decide)]), fun x hx => by rw [hff 30 (by decide)]; exact o10 x hx⟩, ?_, by rw [hEs]; exact t1, by rw [f8 4 (by decide) (by decide)]; exact q84, ⟨p, a, hp1, rfl, qa, by rw [f8 5 (by decide) (by decide)]; exact q85⟩, ?_⟩
        · intro e he
          obtain ⟨v1, v2, v3⟩ := t2 e he
          refine ⟨v1, v2, fun z => ?_⟩
          have hv9 : vcl e.1.2.1 ∉ [8, 12] := by rcases vcl_9 e.1.2.1 with q | q | q <;> rw [q] <;> decide
          have hv9' : vcl e.1.2.1 ∉ FSl := by rcases vcl_9 e.1.2.1 with q | q | q <;> rw [q] <;> decide
          rw [hff _ hv9, hF6.1 _ hv9']
          exact v3 z
        · have hdl : dl (w6 30) (nTk T L) 0 = sO s := by
            have := o9.2
            rw [Nat.sub_zero, hend] at this
            exact this
          rw [hdl] at hP7
          exact ⟨by rw [up_k (by decide)]; exact hP7.1, hP7.2.1, fun k hk => by rw [up_o (by decide)]; exact hP7.2.2 k hk⟩
    · obtain ⟨pp, f, z, z1, z2, z3, z4, z5⟩ : ∃ p f : Nat, sK s = p * 8 + f ∧ 3 ≤ f ∧ f ≤ 5 ∧ p ≤ 4000 ∧ w6 25 4 = (f : Int) ∧ w6 25 5 = (p : Int) := by
        rcases o7 with ⟨z, -⟩ | z
        · exact absurd z hk
        · exact z
      have hne : ¬ w6 25 4 = 0 := by rw [z4]; omega
      have hmod : sK s % 8 = f := by omega
      refine s_Re_read_159 (Cal.ofV (by decide) rfl (Nat.le_of_ble_eq_true rfl) (s_Cu_worst ⟨fun _ => ⟨fun _ => hlast w6 (f : Int) (fun _ => z4.symm) (fun q => absurd h252 q) (h w6 _ hFw6 ⟨hR6.1, ?_⟩), fun q => absurd q hne⟩, fun q => absurd h252 q⟩))
      rw [hp]
      exact ⟨h252, o7, Or.inr ⟨hk, by rw [hmod], by omega, h82⟩⟩
end ReadProg
