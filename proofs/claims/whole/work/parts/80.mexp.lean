/-! ===== the model reads exps: all of them ===== -/
section ModelExp
variable {g : Mg} {d D : Nat} {K : Ou → Wd → Prop} {w : Wd} {T : Nat → Int} {L m dep : Nat}
theorem cL_err {kd : Nat → Nat} {o : Nat → PE (Tr × Nat)} {i : Nat} {e : Nat × Nat} (h : o i = .error e) : ∀ k, cL kd o k i = .error e
  | 0 => h
  | k + 1 => by rw [cL, cL_err h k]; rfl
theorem SpM.mono {J : Jm} {D D' : Nat} {r : Nat → PE (Tr × Nat)} (h : SpM g J D T L m dep r) (hd : D ≤ D') : SpM g J D' T L m dep r := fun K w i n h1 h2 h3 h4 h5 h6 h7 => (h K w i n h1 h2 h3 h4 h5 h6 h7).mono hd
theorem lev_M {J Js : Jm} {pc line k nn : Nat} (hd : 1 ≤ d) (hk : line + k = 5) (hl : 1 ≤ line) (hk2 : k ≠ 2) (hs : SpM g Js d T L m dep (cL (kdT T L) (pOne (kdT T L) nn) k))
    (hstart : ∀ (K : Ou → Wd → Prop) (w : Wd) (i n : Nat), TxM T L m w → MS w i n dep → i ≤ m → (∀ w' e, cL (kdT T L) (pOne (kdT T L) nn) (k + 1) i = .error e → FMx w w' → ErM T L w' e → K (.inr 1) w') → Cal g LM Js d [vA 0] w (fun o w1 => rIt o (fun b => K (.inr b) w1) (fun x2 => V g LM J (d + 1) K pc [(0, vA 0), (1, vI x2)] [] w1)) → Cal g LM J (d + 1) [vA 0] w K)
    (hhead : ∀ (K : Ou → Wd → Prop) (w : Wd) (x : Int) (i : Nat), TxM T L m w → w 0 11 = (i : Int) → i ≤ m → (lnO (kdT T L i) ≠ line → K (.inl (some (vI x))) w) → (lnO (kdT T L i) = line → Cal g LM jMd_pass d [vA 0] w (fun o w3 => rIt o (fun b => K (.inr b) w3) (fun x4 => Cal g LM Js d [vA 0] w3 (fun o w5 => rIt o (fun b => K (.inr b) w5) (fun x6 => (0 ≤ x ∧ x < 2000) ∧ (Cal g LM jMd_exp d [vA 0, vI 11, vI x4, vI (w5 28 x.toNat), vI x, vI x6] w5 (fun o w7 => rIt o (fun b => K (.inr b) w7) (fun x8 => V g LM J (d + 1) K pc [(0, vA 0), (1, vI x8)] [] w7)))))))) → V g LM J (d + 1) K pc [(0, vA 0), (1, vI x)] [] w) :
    SpM g J (d + 1) T L m dep (cL (kdT T L) (pOne (kdT T L) nn) (k + 1)) := by
  intro K w i n hM hS him hi10 hni h he
  refine hstart K w i n hM hS him he (hs _ w i n hM hS him hi10 hni (fun w1 q hq hF1 hS1 hqm hA1 hL1 => ?_) (fun w1 e hee hF1 hE1 => he w1 e (by rw [cL, hee]; rfl) hF1 hE1))
  have hg := cL_gw hq
  have e : cL (kdT T L) (pOne (kdT T L) nn) (k + 1) i = pCh (kdT T L) (cL (kdT T L) (pOne (kdT T L) nn) k) line 1000 q.1 q.2 := by
    rw [cL, hq, if_neg hk2, show 5 - k = line by omega]; rfl
  rw [e] at h he
  exact chain_M (i0 := i) hs (fun i q hq => cL_gw hq) hd hl hni (hhead K) 1000 w1 q.1 q.2 (by have := hg.1.2.1; omega) (hM.fx hF1) hS1 hqm hg hA1 hF1 hL1 h he
theorem sp_termM {nn : Nat} (hd : 6 ≤ d) (hs : SpM g jMd_readOne d T L m dep (pOne (kdT T L) nn)) : SpM g jMd_readTerm (d + 1) T L m dep (cL (kdT T L) (pOne (kdT T L) nn) 1) := by
  refine lev_M (k := 0) (line := 5) (by omega) rfl (by decide) (by decide) hs (fun K w i n hM hS hi _ h => Cal.ofV (by decide) rfl (Nat.le_of_ble_eq_true rfl) (s_Md_readTerm h)) (fun K w x i hM hat hi hno hyes => s_Md_readTerm_5 (sp_isM (c := 17) (by omega) hM hat hi (by decide) (by decide) ⟨fun z => hyes (by have := isv.mp z; rw [this]; rfl), fun z1 => sp_isM (c := 18) (by omega) hM hat hi (by decide) (by decide) ⟨fun z => hyes (by have := isv.mp z; rw [this]; rfl), fun z2 => sp_isM (c := 19) (by omega) hM hat hi (by decide) (by decide) ⟨fun z3 => hno (fun q => ?_), fun z => hyes (by have := isv.mp z; rw [this]; rfl)⟩⟩⟩))
  have y1 := isv0.mp z1
  have y2 := isv0.mp z2
  have y3 := isv0.mp z3
  revert q
  unfold lnO
  repeat' split
  all_goals omega
theorem sp_sumM {nn : Nat} (hd : 6 ≤ d) (hs : SpM g jMd_readTerm d T L m dep (cL (kdT T L) (pOne (kdT T L) nn) 1)) : SpM g jMd_readSum (d + 1) T L m dep (cL (kdT T L) (pOne (kdT T L) nn) 2) := by
  refine lev_M (k := 1) (line := 4) (by omega) rfl (by decide) (by decide) hs (fun K w i n hM hS hi _ h => Cal.ofV (by decide) rfl (Nat.le_of_ble_eq_true rfl) (s_Md_readSum h)) (fun K w x i hM hat hi hno hyes => s_Md_readSum_5 (sp_isM (c := 15) (by omega) hM hat hi (by decide) (by decide) ⟨fun z => hyes (by have := isv.mp z; rw [this]; rfl), fun z1 => sp_isM (c := 16) (by omega) hM hat hi (by decide) (by decide) ⟨fun z3 => hno (fun q => ?_), fun z => hyes (by have := isv.mp z; rw [this]; rfl)⟩⟩))
  have y1 := isv0.mp z1
  have y3 := isv0.mp z3
  revert q
  unfold lnO
  repeat' split
  all_goals omega
theorem sp_bothM {nn : Nat} (hd : 6 ≤ d) (hs : SpM g jMd_readTest d T L m dep (cL (kdT T L) (pOne (kdT T L) nn) 3)) : SpM g jMd_readBoth (d + 1) T L m dep (cL (kdT T L) (pOne (kdT T L) nn) 4) := by
  refine lev_M (k := 3) (line := 2) (by omega) rfl (by decide) (by decide) hs (fun K w i n hM hS hi _ h => Cal.ofV (by decide) rfl (Nat.le_of_ble_eq_true rfl) (s_Md_readBoth h)) (fun K w x i hM hat hi hno hyes => s_Md_readBoth_5 (sp_isM (c := 25) (by omega) hM hat hi (by decide) (by decide) ⟨fun z3 => hno (fun q => ?_), fun z => hyes (by have := isv.mp z; rw [this]; rfl)⟩))
  have y3 := isv0.mp z3
  revert q
  unfold lnO
  repeat' split
  all_goals omega
theorem sp_expRM {nn : Nat} (hd : 7 ≤ d) (hdep : dep + nn = 13) (hs : SpM g jMd_readBoth d T L m dep (cL (kdT T L) (pOne (kdT T L) nn) 4)) : SpM g jMd_readExp (d + 1) T L m dep (pE (kdT T L) nn) := by
  refine lev_M (k := 4) (line := 1) (by omega) rfl (by decide) (by decide) hs (fun K w i n hM hS hi he h => Cal.ofV (by decide) rfl (Nat.le_of_ble_eq_true rfl) (s_Md_readExp (sp_mustBegin (by omega) hM hS hi (fun _ _ => h) (fun hb => ?_) (fun hb hdp => ?_)))) (fun K w x i hM hat hi hno hyes => s_Md_readExp_9 (sp_isM (c := 26) (by omega) hM hat hi (by decide) (by decide) ⟨fun z3 => hno (fun q => ?_), fun z => hyes (by have := isv.mp z; rw [this]; rfl)⟩))
  · exact he _ (1, i) (cL_err (pO_n hb nn) 5) FMx.th (thW_er T L w (1, i))
  · have hn0 : nn = 0 := by omega
    subst hn0
    exact he _ (2, i) (cL_err (by rw [pOne, if_pos hb]) 5) FMx.th (thW_er T L w (2, i))
  · have y3 := isv0.mp z3
    revert q
    unfold lnO
    repeat' split
    all_goals omega
theorem sp_isTest {i : Nat} (hD : 6 ≤ D) (hM : TxM T L m w) (hat : w 0 11 = (i : Int)) (hi : i ≤ m) (h : K (.inl (some (vI (if lnO (kdT T L i) = 3 then 1 else 0)))) w) : Cal g LM jMd_isTest D [vA 0] w K := by
  obtain ⟨d, rfl⟩ : ∃ d, D = d + 1 := ⟨D - 1, by omega⟩
  have hy : lnO (kdT T L i) = 3 → K (.inl (some (vI 1))) w := fun z => by rw [if_pos z] at h; exact h
  have hn : ¬ lnO (kdT T L i) = 3 → K (.inl (some (vI 0))) w := fun z => by rw [if_neg z] at h; exact h
  refine Cal.ofV (by decide) rfl (Nat.le_of_ble_eq_true rfl) (s_Md_isTest (sp_isM (c := 21) (by omega) hM hat hi (by decide) (by decide) ⟨fun z => hy (by have := isv.mp z; rw [this]; rfl), fun z1 => sp_isM (c := 22) (by omega) hM hat hi (by decide) (by decide) ⟨fun z => hy (by have := isv.mp z; rw [this]; rfl), fun z2 => sp_isM (c := 13) (by omega) hM hat hi (by decide) (by decide) ⟨fun z => hy (by have := isv.mp z; rw [this]; rfl), fun z3 => sp_isM (c := 23) (by omega) hM hat hi (by decide) (by decide) ⟨fun z => hy (by have := isv.mp z; rw [this]; rfl), fun z4 => sp_isM (c := 14) (by omega) hM hat hi (by decide) (by decide) ⟨fun z => hy (by have := isv.mp z; rw [this]; rfl), fun z5 => sp_isM (c := 24) (by omega) hM hat hi (by decide) (by decide) ⟨fun z6 => hn (fun q => ?_), fun z => hy (by have := isv.mp z; rw [this]; rfl)⟩⟩⟩⟩⟩⟩))
  have y1 := isv0.mp z1
  have y2 := isv0.mp z2
  have y3 := isv0.mp z3
  have y4 := isv0.mp z4
  have y5 := isv0.mp z5
  have y6 := isv0.mp z6
  revert q
  unfold lnO
  repeat' split
  all_goals omega
theorem sp_testM {nn : Nat} (hd : 7 ≤ d) (hs : SpM g jMd_readSum d T L m dep (cL (kdT T L) (pOne (kdT T L) nn) 2)) : SpM g jMd_readTest (d + 1) T L m dep (cL (kdT T L) (pOne (kdT T L) nn) 3) := by
  intro K w i n hM hS him hi10 hni h he
  refine Cal.ofV (by decide) rfl (Nat.le_of_ble_eq_true rfl) (s_Md_readTest (hs _ w i n hM hS him hi10 hni (fun w1 q hq hF1 hS1 hqm hA1 hL1 => sp_isTest (by omega) (hM.fx hF1) hS1.1 hqm ⟨fun z => ?_, fun z => ?_⟩) (fun w1 e hee hF1 hE1 => he w1 e (by rw [cL, hee]; rfl) hF1 hE1)))
  · have hno := isv0.mp z
    have e : cL (kdT T L) (pOne (kdT T L) nn) 3 i = .ok q := by
      rw [cL, hq]
      show pCh (kdT T L) (cL (kdT T L) (pOne (kdT T L) nn) 2) 3 1 q.1 q.2 = _
      rw [pCh, if_neg hno]
    exact h w1 q e hF1 hS1 hqm hA1 hL1
  · have hyes := isv.mp z
    have hg := cL_gw hq
    have e : cL (kdT T L) (pOne (kdT T L) nn) 3 i = if 1000 ≤ q.2 then .error (2, q.2) else bnd (cL (kdT T L) (pOne (kdT T L) nn) 2 (q.2 + 1)) (fun p => .ok (nd 6 q.2 0 q.1 p.1, p.2)) := by
      rw [cL, hq]
      show pCh (kdT T L) (cL (kdT T L) (pOne (kdT T L) nn) 2) 3 1 q.1 q.2 = _
      rw [pCh, if_pos hyes]
      rfl
    rw [e] at h he
    refine ch_stepM (P := fun x w' => K (.inl (some (vI x))) w') hs (fun i q hq => cL_gw hq) (hM.fx hF1) hS1 hqm hni hg hA1 (by omega) (by omega) (fun w' p hj10 hp hF' hS' hqm' hA' hL' => h w' (nd 6 q.2 0 q.1 p.1, p.2) (by rw [if_neg (by omega), hp]; rfl) (hF1.tr hF') hS' hqm' hA' (hL1.tr hL')) (fun w' e' hee hF' hE' => he w' e' ?_ (hF1.tr hF') hE')
    by_cases hj10 : 1000 ≤ q.2
    · rw [if_pos hj10] at hee ⊢; cases hee; rfl
    · rw [if_neg hj10] at hee ⊢; rw [hee]; rfl
theorem MS.dp {i n k : Nat} (h : MS w i n dep) : MS (up w 0 44 (k : Int)) i n k := ⟨by rw [up_k (by decide)]; exact h.1, by rw [up_k (by decide)]; exact h.2.1, up_s _ _ _ _⟩
theorem LoX.u0 {w : Wd} {b : Nat} {v : Int} {n : Nat} : LoX w (up w 0 b v) n := LoX.of ((Fx.rf _ w).up (by decide))
/-- one node alone -/
theorem ar_leaf {c t i n : Nat} {k : Int} {dd : Nat} (hc : c = 0 ∨ c = 1 ∨ c = 2) (hk : k = if c = 0 then kdM (kdT T L t) else if c = 1 then 4 else 5) (hf : fst_ (nd c t 0 nl nl) = i) : ARx (kdT T L) (exW w n k (t : Int) (i : Int) (-2) (-2)) (nd c t 0 nl nl) n ∧ nX (nd c t 0 nl nl) = 1 := by
  obtain ⟨w26, w27, w28, w29, w30⟩ := exW_at w n k (t : Int) (i : Int) (-2) (-2)
  have h1 : nX (nd c t 0 nl nl) = 1 := by rcases hc with rfl | rfl | rfl <;> rfl
  refine ⟨⟨⟨trivial, trivial, fun z => absurd rfl z, fun z => absurd rfl z, fun _ _ => ⟨w27, ?_⟩, fun z => by omega, fun z => by omega, fun z => by omega⟩, ?_⟩, h1⟩
  · show exW w n k (t : Int) (i : Int) (-2) (-2) 26 n = _
    rw [w26, hk]
    rcases hc with rfl | rfl | rfl <;> rfl
  · rw [h1]
    show exW w n k (t : Int) (i : Int) (-2) (-2) 28 n = _
    rw [w28, hf]
/-- one node over one exp -/
theorem ar_over {c t q i n : Nat} {a : Tr} {k : Int} (hc : c = 3 ∨ c = 5) (hk : k = if c = 3 then 7 else if kdT T L t = 16 then 9 else 10) (ha : WE a) (hA : ARx (kdT T L) w a n) : ARx (kdT T L) (exW w (n + nX a) k (t : Int) (t : Int) ((n + nX a - 1 : Nat) : Int) (-2)) (nd c t q a nl) n ∧ nX (nd c t q a nl) = nX a + 1 := by
  obtain ⟨w26, w27, w28, w29, w30⟩ := exW_at w (n + nX a) k (t : Int) (t : Int) ((n + nX a - 1 : Nat) : Int) (-2)
  have hlo := exW_lo w (n + nX a) k (t : Int) (t : Int) ((n + nX a - 1 : Nat) : Int) (-2)
  have h1 : nX (nd c t q a nl) = nX a + 1 := by rcases hc with rfl | rfl <;> rfl
  have hA2 := hA.lo hlo (Nat.le_refl _) (nX_pos a ha)
  refine ⟨⟨⟨hA2.1, trivial, fun _ _ _ => hA2.2, fun z => absurd rfl z, fun _ _ => ⟨w27, ?_⟩, fun z => w29, fun z => by omega, fun z => by omega⟩, ?_⟩, h1⟩
  · show exW w (n + nX a) k (t : Int) (t : Int) ((n + nX a - 1 : Nat) : Int) (-2) 26 (n + nX a) = _
    rw [w26, hk]
    rcases hc with rfl | rfl <;> rfl
  · rw [h1, show n + (nX a + 1) - 1 = n + nX a by omega, w28]
    rcases hc with rfl | rfl <;> rfl
end ModelExp
