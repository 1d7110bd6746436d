/-! ===== the model reads exps: chains ===== -/
theorem isv {p : Prop} [Decidable p] : ¬ (if p then (1 : Int) else 0) = 0 ↔ p := by by_cases h : p <;> simp [h]
theorem isv0 {p : Prop} [Decidable p] : (if p then (1 : Int) else 0) = 0 ↔ ¬ p := by by_cases h : p <;> simp [h]
def ARx (kd : Nat → Nat) (w : Wd) (a : Tr) (n : Nat) : Prop := AR kd w a n ∧ w 28 (n + nX a - 1) = ((fst_ a : Nat) : Int)
/-- a method of the model that reads an exp, or a piece of one -/
def SpM (g : Mg) (J : Jm) (D : Nat) (T : Nat → Int) (L m dep : Nat) (r : Nat → PE (Tr × Nat)) : Prop :=
  ∀ (K : Ou → Wd → Prop) (w : Wd) (i n : Nat), TxM T L m w → MS w i n dep → i ≤ m → i ≤ 1000 → n ≤ i → (∀ w' q, r i = .ok q → FMx w w' → MS w' q.2 (n + nX q.1) dep → q.2 ≤ m → ARx (kdT T L) w' q.1 n → LoX w w' n → K (.inl (some (vI ((n + nX q.1 - 1 : Nat) : Int)))) w') → (∀ w' e, r i = .error e → FMx w w' → ErM T L w' e → K (.inr 1) w') → Cal g LM J D [vA 0] w K
section ModelChain
variable {g : Mg} {d D : Nat} {K : Ou → Wd → Prop} {w : Wd} {T : Nat → Int} {L m dep : Nat}
theorem FMx.rf (w : Wd) : FMx w w := ⟨Fx.rf _ w, fun _ _ _ _ => rfl⟩
theorem FMx.tr {a b c : Wd} (h1 : FMx a b) (h2 : FMx b c) : FMx a c := ⟨h1.1.tr h2.1, fun x p q r => (h2.2 x p q r).trans (h1.2 x p q r)⟩
theorem FMx.at_ {w : Wd} {j : Int} : FMx w (up w 0 11 j) := ⟨(Fx.rf _ w).up (by decide), fun b h _ _ => up_k h⟩
theorem FMx.dp {w : Wd} {j : Int} : FMx w (up w 0 44 j) := ⟨(Fx.rf _ w).up (by decide), fun b _ _ h => up_k h⟩
theorem FMx.th {w : Wd} {e : Nat × Nat} : FMx w (thW T L w e) := ⟨(thW_fx T L w e).mono (by decide), fun b _ _ _ => by rw [thW_fx T L w e 0 (by decide)]⟩
theorem FMx.ex {w : Wd} {n : Nat} {k t f a b : Int} : FMx w (exW w n k t f a b) := by
  unfold exW
  refine ⟨(((((((((Fx.rf _ w).up (by decide)).up (by decide)).up (by decide)).up (by decide)).up (by decide)).up (by decide)).up (by decide)).up (by decide)).up (by decide), fun x _ h _ => ?_⟩
  rw [up_k h]
  simp only [up_o (show (0 : Nat) ≠ 33 by decide), up_o (show (0 : Nat) ≠ 32 by decide), up_o (show (0 : Nat) ≠ 31 by decide), up_o (show (0 : Nat) ≠ 30 by decide), up_o (show (0 : Nat) ≠ 29 by decide), up_o (show (0 : Nat) ≠ 28 by decide), up_o (show (0 : Nat) ≠ 27 by decide), up_o (show (0 : Nat) ≠ 26 by decide)]
theorem TxM.fx {w' : Wd} (h : TxM T L m w) (hf : FMx w w') : TxM T L m w' := by
  obtain ⟨h1, h2, h3, h4, h5, h6⟩ := h
  refine ⟨?_, h2, h3, h4, by rw [hf.1 3 (by decide)]; exact h5, h6⟩
  unfold MTk at *
  rw [hf.1 4 (by decide), hf.1 5 (by decide), hf.1 6 (by decide), hf.1 7 (by decide)]
  exact h1
theorem LoX.rf (w : Wd) (n : Nat) : LoX w w n := fun _ _ _ _ _ => rfl
theorem LoX.tr {a b c : Wd} {n : Nat} (h1 : LoX a b n) (h2 : LoX b c n) : LoX a c n := fun x hx o p q => (h2 x hx o p q).trans (h1 x hx o p q)
theorem LoX.le {a b : Wd} {n n' : Nat} (h : LoX a b n) (hn : n' ≤ n) : LoX a b n' := fun x hx o p q => h x (by omega) o p q
theorem LoX.of {w w' : Wd} {n : Nat} (h : Fx [0, 1] w w') : LoX w w' n := fun x _ o p q => by rw [h o (by simp; omega)]
theorem exW_at (w : Wd) (n : Nat) (k t f a b : Int) : exW w n k t f a b 26 n = k ∧ exW w n k t f a b 27 n = t ∧ exW w n k t f a b 28 n = f ∧ exW w n k t f a b 29 n = a ∧ exW w n k t f a b 30 n = b := by
  refine ⟨?_, ?_, ?_, ?_, ?_⟩ <;> simp [exW, up]
theorem exW_lo (w : Wd) (n : Nat) (k t f a b : Int) : LoX w (exW w n k t f a b) n := by
  intro x hx o p q
  have hne : x ≠ n := by omega
  have ho : o ≠ 0 := by omega
  simp [exW, up, hne, ho]
theorem AR.lo {kd : Nat → Nat} {w w' : Wd} {a : Tr} {lo n : Nat} (h : AR kd w a lo) (hl : LoX w w' n) (hn : lo + nX a ≤ n) : AR kd w' a lo := AR.congr a lo h (fun x _ hx o p q _ => hl x (by omega) o p (by omega))
theorem ARx.lo {kd : Nat → Nat} {w w' : Wd} {a : Tr} {lo n : Nat} (h : ARx kd w a lo) (hl : LoX w w' n) (hn : lo + nX a ≤ n) (h1 : 1 ≤ nX a) : ARx kd w' a lo := ⟨h.1.lo hl hn, by rw [hl _ (by omega) 28 (by decide) (by decide)]; exact h.2⟩
theorem TxM.lt {i : Nat} (h : TxM T L m w) (hi : i ≤ m) (hk : 2 ≤ kdT T L i) : i + 1 ≤ m := by
  by_cases z : i = m
  · have := h.2.2.2.1; rw [z] at hk; omega
  · omega
theorem MS.at_ {i n j : Nat} (h : MS w i n dep) : MS (up w 0 11 (j : Int)) j n dep := ⟨up_s _ _ _ _, by rw [up_k (by decide)]; exact h.2.1, by rw [up_k (by decide)]; exact h.2.2⟩
theorem MS.ex {i n : Nat} {k t f a b : Int} (h : MS w i n dep) : MS (exW w n k t f a b) i (n + 1) dep := by
  obtain ⟨h1, h2, h3⟩ := h
  have hz : ∀ x, x ≠ 40 → exW w n k t f a b 0 x = w 0 x := fun x hx => by simp [exW, up, hx]
  exact ⟨by rw [hz 11 (by decide)]; exact h1, by unfold exW; rw [up_s], by rw [hz 44 (by decide)]; exact h3⟩
theorem lnO_2 {c : Nat} (h : 1 ≤ lnO c) : 4 ≤ c := by
  by_cases z : 4 ≤ c
  · exact z
  · exfalso
    rcases (by omega : c = 0 ∨ c = 1 ∨ c = 2 ∨ c = 3) with rfl | rfl | rfl | rfl <;> revert h <;> decide
/-- an operator, its right operand, the node of the two -/
theorem ch_stepM {sub : Nat → PE (Tr × Nat)} {Js : Jm} {P : Int → Wd → Prop} {a : Tr} {i0 j n : Nat} (hs : SpM g Js D T L m dep sub) (hgw : ∀ i q, sub i = .ok q → GW i q) (hM : TxM T L m w) (hS : MS w j (n + nX a) dep) (hjm : j ≤ m) (hn : n ≤ i0) (hga : GW i0 (a, j)) (hA : ARx (kdT T L) w a n) (hD : 1 ≤ D) (hk : 1 ≤ lnO (kdT T L j)) (hok : ∀ w' q, j < 1000 → sub (j + 1) = .ok q → FMx w w' → MS w' q.2 (n + nX (nd 6 j 0 a q.1)) dep → q.2 ≤ m → ARx (kdT T L) w' (nd 6 j 0 a q.1) n → LoX w w' n → P ((n + nX (nd 6 j 0 a q.1) - 1 : Nat) : Int) w') (herr : ∀ w' e, (if 1000 ≤ j then .error (2, j) else sub (j + 1)) = .error e → FMx w w' → ErM T L w' e → K (.inr 1) w') :
    Cal g LM jMd_pass D [vA 0] w (fun o w3 => rIt o (fun b => K (.inr b) w3) (fun x4 => Cal g LM Js D [vA 0] w3 (fun o w5 => rIt o (fun b => K (.inr b) w5) (fun x6 => (0 ≤ ((n + nX a - 1 : Nat) : Int) ∧ ((n + nX a - 1 : Nat) : Int) < 2000) ∧ (Cal g LM jMd_exp D [vA 0, vI 11, vI x4, vI (w5 28 ((n + nX a - 1 : Nat) : Int).toNat), vI ((n + nX a - 1 : Nat) : Int), vI x6] w5 (fun o w7 => rIt o (fun b => K (.inr b) w7) (fun x8 => P x8 w7))))))) := by
  obtain ⟨⟨g1, g2, g3, g4⟩, gwe, gz⟩ := id hga
  simp only at g1 g2 g3 g4 gwe
  have hx1 := nX_pos a gwe
  have hxd := nX_nD a
  refine sp_passM hD hM hS.1 hjm g3 (fun j1 hj1 => ?_) (fun e he => herr _ e (by unfold psM at he; split at he; (· rename_i z; rw [if_pos z]; cases he; rfl); (· cases he)) FMx.th (thW_er T L w e))
  unfold psM at hj1
  split at hj1
  · cases hj1
  rename_i hj10
  cases hj1
  have hS1 : MS (up w 0 11 ((j + 1 : Nat) : Int)) (j + 1) (n + nX a) dep := hS.at_
  have hF1 : FMx w (up w 0 11 ((j + 1 : Nat) : Int)) := FMx.at_
  have hL1 : LoX w (up w 0 11 ((j + 1 : Nat) : Int)) (n + nX a) := LoX.of ((Fx.rf _ w).up (by decide))
  refine hs _ _ (j + 1) (n + nX a) (hM.fx hF1) hS1 (hM.lt hjm (by have := lnO_2 hk; omega)) (by omega) (by omega) (fun w5 q hq hF5 hS5 hqm hA5 hL5 => ⟨by omega, ?_⟩) (fun w5 e he hF5 hE5 => herr w5 e (by rw [if_neg hj10]; exact he) (hF1.tr hF5) hE5)
  have hgq := hgw _ _ hq
  obtain ⟨⟨k1, k2, k3, k4⟩, kwe, kz⟩ := id hgq
  have hq1 := nX_pos q.1 kwe
  have hqd := nX_nD q.1
  have hAa : ARx (kdT T L) w5 a n := (hA.lo hL1 (by omega) hx1).lo hL5 (by omega) hx1
  rw [toN, hAa.2]
  refine sp_expM hS5.2.1 (by omega) ?_
  have hN : n + nX (nd 6 j 0 a q.1) = n + nX a + nX q.1 + 1 := by show n + (nX a + nX q.1 + 1) = _; omega
  have hlo := exW_lo w5 (n + nX a + nX q.1) 11 (j : Int) ((fst_ a : Nat) : Int) ((n + nX a - 1 : Nat) : Int) ((n + nX a + nX q.1 - 1 : Nat) : Int)
  obtain ⟨w26, w27, w28, w29, w30⟩ := exW_at w5 (n + nX a + nX q.1) 11 (j : Int) ((fst_ a : Nat) : Int) ((n + nX a - 1 : Nat) : Int) ((n + nX a + nX q.1 - 1 : Nat) : Int)
  have hP := hok (exW w5 (n + nX a + nX q.1) 11 (j : Int) ((fst_ a : Nat) : Int) ((n + nX a - 1 : Nat) : Int) ((n + nX a + nX q.1 - 1 : Nat) : Int)) q (by omega) hq ((hF1.tr hF5).tr FMx.ex) (by rw [hN]; exact hS5.ex) hqm ⟨⟨?_, ?_, fun _ _ _ => ?_, fun _ _ _ _ => ?_, fun _ _ => ⟨w27, w26⟩, fun _ => w29, fun _ => w30, fun z => absurd z (by decide)⟩, ?_⟩ ((hL1.le (by omega)).tr ((hL5.le (by omega)).tr (hlo.le (by omega))))
  · rw [hN, show n + nX a + nX q.1 + 1 - 1 = n + nX a + nX q.1 by omega] at hP
    exact hP
  · exact (hAa.lo hlo (by omega) hx1).1
  · exact (hA5.lo hlo (by omega) hq1).1
  · exact (hAa.lo hlo (by omega) hx1).2
  · exact (hA5.lo hlo (by omega) hq1).2
  · rw [hN, show n + nX a + nX q.1 + 1 - 1 = n + nX a + nX q.1 by omega, w28]; rfl
theorem chain_M {sub : Nat → PE (Tr × Nat)} {Js J : Jm} {pc line n i0 : Nat} {w0 : Wd} (hs : SpM g Js d T L m dep sub) (hgw : ∀ i q, sub i = .ok q → GW i q) (hd : 1 ≤ d) (hl : 1 ≤ line) (hn : n ≤ i0)
    (hhead : ∀ (w : Wd) (x : Int) (i : Nat), TxM T L m w → w 0 11 = (i : Int) → i ≤ m → (lnO (kdT T L i) ≠ line → K (.inl (some (vI x))) w) → (lnO (kdT T L i) = line → Cal g LM jMd_pass d [vA 0] w (fun o w3 => rIt o (fun b => K (.inr b) w3) (fun x4 => Cal g LM Js d [vA 0] w3 (fun o w5 => rIt o (fun b => K (.inr b) w5) (fun x6 => (0 ≤ x ∧ x < 2000) ∧ (Cal g LM jMd_exp d [vA 0, vI 11, vI x4, vI (w5 28 x.toNat), vI x, vI x6] w5 (fun o w7 => rIt o (fun b => K (.inr b) w7) (fun x8 => V g LM J (d + 1) K pc [(0, vA 0), (1, vI x8)] [] w7)))))))) → V g LM J (d + 1) K pc [(0, vA 0), (1, vI x)] [] w) :
    ∀ (f : Nat) (w : Wd) (a : Tr) (j : Nat), 1001 ≤ j + f → TxM T L m w → MS w j (n + nX a) dep → j ≤ m → GW i0 (a, j) → ARx (kdT T L) w a n → FMx w0 w → LoX w0 w n → (∀ w' q, pCh (kdT T L) sub line f a j = .ok q → FMx w0 w' → MS w' q.2 (n + nX q.1) dep → q.2 ≤ m → ARx (kdT T L) w' q.1 n → LoX w0 w' n → K (.inl (some (vI ((n + nX q.1 - 1 : Nat) : Int)))) w') → (∀ w' e, pCh (kdT T L) sub line f a j = .error e → FMx w0 w' → ErM T L w' e → K (.inr 1) w') → V g LM J (d + 1) K pc [(0, vA 0), (1, vI ((n + nX a - 1 : Nat) : Int))] [] w := by
  intro f
  induction f with
  | zero =>
    intro w a j hf hM hS hjm hga hA hF hL h he
    have := hga.1.2.2.1
    simp only at this
    omega
  | succ f ih =>
    intro w a j hf hM hS hjm hga hA hF hL h he
    refine hhead w _ j hM hS.1 hjm (fun hno => h w (a, j) (by rw [pCh, if_neg hno]) hF hS hjm hA hL) (fun hyes => ?_)
    refine ch_stepM hs hgw hM hS hjm hn hga hA hd (by omega) (fun w' q hj10 hq hF' hS' hqm hA' hL' => ?_) (fun w' e hee hF' hE' => he w' e ?_ (hF.tr hF') hE')
    · obtain ⟨⟨g1, g2, g3, g4⟩, gwe, gz⟩ := id hga
      obtain ⟨⟨k1, k2, k3, k4⟩, kwe, kz⟩ := hgw _ _ hq
      simp only at g1 g2 g3 g4 gwe
      have hpc : pCh (kdT T L) sub line (f + 1) a j = pCh (kdT T L) sub line f (nd 6 j 0 a q.1) q.2 := by
        rw [pCh, if_pos hyes, if_neg (by omega), hq]; rfl
      rw [hpc] at h he
      refine ih w' (nd 6 j 0 a q.1) q.2 (by omega) (hM.fx hF') hS' hqm ⟨⟨?_, ?_, k3, ?_⟩, ?_, CZ.n6⟩ hA' (hF.tr hF') (hL.tr hL') h he
      · simp [fst_, g1]
      · show i0 < q.2; omega
      · show nD (nd 6 j 0 a q.1) ≤ q.2 - i0
        simp [nD]; omega
      · show WE (nd 6 j 0 a q.1)
        simp [WE, gwe, kwe]
    · rw [pCh, if_pos hyes]
      by_cases hj10 : 1000 ≤ j
      · rw [if_pos hj10] at hee ⊢; cases hee; rfl
      · rw [if_neg hj10] at hee ⊢; rw [hee]; rfl
theorem sp_beginsM {i : Nat} (hD : 6 ≤ D) (hM : TxM T L m w) (hat : w 0 11 = (i : Int)) (hi : i ≤ m) (h : K (.inl (some (vI (if bgO (kdT T L i) then 1 else 0)))) w) : Cal g LM jMd_beginsExp D [vA 0] w K := by
  obtain ⟨d, rfl⟩ : ∃ d, D = d + 1 := ⟨D - 1, by omega⟩
  obtain ⟨hk, hm4, -⟩ := id hM
  obtain ⟨k4, k5, k6, -⟩ := hk i (by omega)
  have hy : bgO (kdT T L i) → K (.inl (some (vI 1))) w := fun z => by rw [if_pos z] at h; exact h
  have hn : ¬ bgO (kdT T L i) → K (.inl (some (vI 0))) w := fun z => by rw [if_neg z] at h; exact h
  have hmkk : (mkd (kdT T L i) = 1 ↔ kdT T L i = 3) ∧ (mkd (kdT T L i) = 0 ↔ kdT T L i = 2) := by
    unfold mkd
    by_cases q0 : kdT T L i = 0
    · rw [if_pos q0]; omega
    by_cases q1 : kdT T L i = 1
    · rw [if_neg q0, if_pos q1]; omega
    by_cases q2 : kdT T L i = 2
    · rw [if_neg q0, if_neg q1, if_pos q2]; omega
    by_cases q3 : kdT T L i = 3
    · rw [if_neg q0, if_neg q1, if_neg q2, if_pos q3]; omega
    · rw [if_neg q0, if_neg q1, if_neg q2, if_neg q3]
      split <;> omega
  have hb : (0 : Int) ≤ (i : Int) ∧ (i : Int) < 4022 := by omega
  refine Cal.ofV (by decide) rfl (Nat.le_of_ble_eq_true rfl) (s_Md_beginsExp ?_)
  rw [hat, toN, k4]
  refine ⟨hb, fun z => hy (by have := hmkk.1.mp z; omega), fun z1 => ⟨fun z => hy (by have := hmkk.2.mp z; omega), fun z0 => sp_isM (c := 31) (by omega) hM hat hi (by decide) (by decide) ⟨fun z => hy (by have := isv.mp z; omega), fun q0 => sp_isM (c := 32) (by omega) hM hat hi (by decide) (by decide) ⟨fun z => hy (by have := isv.mp z; omega), fun q1 => sp_isM (c := 52) (by omega) hM hat hi (by decide) (by decide) ⟨fun z => hy (by have := isv.mp z; omega), fun q2 => sp_isM (c := 53) (by omega) hM hat hi (by decide) (by decide) ⟨fun z => hy (by have := isv.mp z; omega), fun q3 => sp_isM (c := 54) (by omega) hM hat hi (by decide) (by decide) ⟨fun z => hy (by have := isv.mp z; omega), fun q4 => sp_isM (c := 55) (by omega) hM hat hi (by decide) (by decide) ⟨fun z => hy (by have := isv.mp z; omega), fun q5 => sp_isM (c := 56) (by omega) hM hat hi (by decide) (by decide) ⟨fun z => hy (by have := isv.mp z; omega), fun q6 => sp_isM (c := 57) (by omega) hM hat hi (by decide) (by decide) ⟨fun z => hy (by have := isv.mp z; omega), fun q7 => sp_isM (c := 58) (by omega) hM hat hi (by decide) (by decide) ⟨fun z => hy (by have := isv.mp z; omega), fun q8 => sp_isM (c := 59) (by omega) hM hat hi (by decide) (by decide) ⟨fun z => hy (by have := isv.mp z; omega), fun q9 => sp_isM (c := 48) (by omega) hM hat hi (by decide) (by decide) ⟨fun z => hy (by have := isv.mp z; omega), fun q10 => sp_isM (c := 7) (by omega) hM hat hi (by decide) (by decide) ⟨fun z => hy (by have := isv.mp z; omega), fun q11 => sp_isM (c := 16) (by omega) hM hat hi (by decide) (by decide) ⟨fun z => hy (by have := isv.mp z; omega), fun q12 => sp_isM (c := 20) (by omega) hM hat hi (by decide) (by decide) ⟨fun z => hn (fun y => ?_), fun z => hy (by have := isv.mp z; omega)⟩⟩⟩⟩⟩⟩⟩⟩⟩⟩⟩⟩⟩⟩⟩⟩
  have e0 := hmkk.1
  have e1 := hmkk.2
  have z' := isv0.mp z
  simp only [isv0] at q0 q1 q2 q3 q4 q5 q6 q7 q8 q9 q10 q11 q12
  have z1' : ¬ kdT T L i = 3 := fun q => z1 (e0.mpr q)
  have z0' : ¬ kdT T L i = 2 := fun q => z0 (e1.mpr q)
  omega
theorem sp_mustBegin {i n : Nat} (hD : 7 ≤ D) (hM : TxM T L m w) (hS : MS w i n dep) (hi : i ≤ m) (h : bgO (kdT T L i) → dep ≤ 12 → K (.inl none) w) (he1 : ¬ bgO (kdT T L i) → K (.inr 1) (thW T L w (1, i))) (he2 : bgO (kdT T L i) → ¬ dep ≤ 12 → K (.inr 1) (thW T L w (2, i))) : Cal g LM jMd_mustBeginExp D [vA 0] w K := by
  obtain ⟨d, rfl⟩ : ∃ d, D = d + 1 := ⟨D - 1, by omega⟩
  refine Cal.ofV (by decide) rfl (Nat.le_of_ble_eq_true rfl) (s_Md_mustBeginExp (sp_beginsM (by omega) hM hS.1 hi ⟨fun z => ⟨fun c => h (isv.mp z) (by rw [hS.2.2] at c; omega), fun c => ?_⟩, fun z => ?_⟩))
  · rw [hS.1]
    exact sp_placeM hM hi (sp_fail (f := 2) (he2 (isv.mp z) (by rw [hS.2.2] at c; omega)))
  · rw [hS.1]
    exact sp_placeM hM hi (sp_fail (f := 1) (he1 (isv0.mp z)))
end ModelChain
