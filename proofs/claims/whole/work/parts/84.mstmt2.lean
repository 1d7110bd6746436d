/-! ===== the model reads statements: let, send, loop, if ===== -/
/-- the model's reading of blocks -/
def SpMB (g : Mg) (D : Nat) (T : Nat → Int) (L m dep nb : Nat) : Prop := ∀ (K : Ou → Wd → Prop) (w : Wd) (i n c l : Nat), TxM T L m w → MSt w i n dep c l → i ≤ m → i ≤ 1000 → n ≤ i → c ≤ 120 → l ≤ 8 → (∀ w' q, pBk (kdT T L) (vlT T L) nb c l i = .ok q → FMs w w' → MSt w' q.2.1 (n + nE q.1) dep q.2.2 l → q.2.1 ≤ m → SR (kdT T L) w' q.1 c n → LoX w w' n → LoS w w' c → K (.inl (some (vI (bf_ q.1 c)))) w') → (∀ w' e, pBk (kdT T L) (vlT T L) nb c l i = .error e → FMs w w' → ErM T L w' e → K (.inr 1) w') → Cal g LM jMd_readBlock D [vA 0] w K
section ModelStmt2
variable {g : Mg} {d D : Nat} {K : Ou → Wd → Prop} {w w' : Wd} {T : Nat → Int} {L m dep c n l : Nat} {f : Nat → Int}
theorem st_letM {i nn : Nat} {R : PE Q4} (hd : 100 ≤ d) (hdep : dep + nn = 13) (hc : c < 130) (hl8 : l ≤ 8) (hB : Bs T L m w w' c n f) (hf : f 18 = (i : Int) ∧ f 23 = -2 ∧ f 17 = 1) (hS : MSt w' i n dep (c + 1) l) (him : i ≤ m) (hi10 : i ≤ 1000) (hni : n ≤ i) (hk : kdT T L i = 43) (hr : R = pLet (kdT T L) nn (c + 1) l i) (h : OkS K T L m dep w n c R) (he : NoS K T L w R) : Cal g LM jMd_pass d [vA 0] w' (fun o w57 => rIt o (fun b => K (.inr b) w57) (fun x58 => Cal g LM jMd_mustName d [vA 0] w57 (fun o w59 => rIt o (fun b => K (.inr b) w59) (fun x60 => (¬ (w59 0 45) = 8 → (V g LM jMd_readStatement (d + 1) K 224 [(0, vA 0), (1, vI (c : Int))] [] w59)) ∧ ((w59 0 45) = 8 → (Cal g LM jMd_placeOf d [vA 0, vI (w59 0 11)] w59 (fun o w61 => rIt o (fun b => K (.inr b) w61) (fun x62 => Cal g LM jMd_fail d [vA 0, vI 2, vI x62] w61 (fun o w63 => rVt o (fun b => K (.inr b) w63) (V g LM jMd_readStatement (d + 1) K 224 [(0, vA 0), (1, vI (c : Int))] [] w63)))))))))) := by
  subst hr
  unfold pLet at h he
  refine sp_passM (by omega) hB.2.2.2.1 hS.1.1 him hi10 (fun j hj => ?_) (fun e hj => he _ e (by rw [← psM_ex hk, hj]; rfl) hB.th (thW_er T L _ e))
  rw [psM_ex hk] at hj
  obtain ⟨rfl, h9, -⟩ := ex_i hj
  have hB0 := hB.u0 (b := 11) (v := ((i + 1 : Nat) : Int)) (Or.inl rfl)
  have hS0 := hS.at_ (j := i + 1)
  have him1 := hB.2.2.2.1.lt him (by omega)
  refine sp_mustName (by omega) hB0.2.2.2.1 hS0.1.1 him1 (fun hk2 => ⟨fun hn8 => ?_, fun h8 => ?_⟩) (fun hk2 => he _ (1, i + 1) (by rw [hj, bnd_ok']; unfold pNm; rw [if_neg (fun z => hk2 z.1)]; unfold ex; rw [if_neg hk2]; rfl) hB0.th (thW_er T L _ _))
  · rw [hS0.2.2] at hn8
    have hpn : pNm (kdT T L) (8 ≤ l) (i + 1) = ex (kdT T L) 2 (i + 1) := by unfold pNm; rw [if_neg (by omega)]
    rw [hj, bnd_ok', hpn] at h he
    refine s_Md_readStatement_224 (sp_passM (by omega) hB0.2.2.2.1 hS0.1.1 him1 (by omega) (fun j2 hj2 => ⟨by omega, ?_⟩) (fun e hj2 => he _ e (by rw [← psM_ex hk2, hj2]; rfl) hB0.th (thW_er T L _ e)))
    rw [psM_ex hk2] at hj2
    obtain ⟨rfl, h8, -⟩ := ex_i hj2
    rw [toN]
    have hB1 := (hB0.u0 (b := 11) (v := ((i + 1 + 1 : Nat) : Int)) (Or.inl rfl)).ro (o := 19) (v := ((i + 1 : Nat) : Int)) (by decide)
    have hS1 := (hS0.at_ (j := i + 1 + 1)).row (o := 19) (v := ((i + 1 : Nat) : Int)) (x := c) (by decide)
    have him2 := hB0.2.2.2.1.lt him1 (by omega)
    refine sp_mustM (c := 12) (by omega) hB1.2.2.2.1 hS1.1.1 him2 (by omega) (by decide) (by decide) (fun j3 hj3 => ?_) (fun e hj3 => he _ e (by rw [hj2, bnd_ok', hj3]; rfl) hB1.th (thW_er T L _ e))
    obtain ⟨rfl, h7, hk7⟩ := ex_i hj3
    refine st_tailM (Kc := fun w7 => V g LM jMd_readStatement (d + 1) K 630 [(1, vI (c : Int))] [] (up w7 0 45 (wr ((w7 0 45) + 1)))) (nn := nn) hd hdep hc (hB1.u0 (b := 11) (v := ((i + 1 + 1 + 1 : Nat) : Int)) (Or.inl rfl)) (hS1.at_ (j := i + 1 + 1 + 1)) (hB1.2.2.2.1.lt him2 (show 2 ≤ kdT T L (i + 1 + 1) by omega)) (by omega) (by omega) (fun w2 e hee hF hE => he w2 e ?_ hF hE) (fun w2 q j3 hq hj4 hg hB2 hS2 hjm hA2 => s_Md_readStatement_630 ?_)
    · rw [hj2, bnd_ok', hj3, bnd_ok']
      cases hq : pE (kdT T L) nn (i + 1 + 1 + 1) with
      | error e2 => rw [hq] at hee; cases hee; rfl
      | ok q => rw [hq, bnd_ok'] at hee; rw [bnd_ok', hee]; rfl
    · have e45 : wr (w2 0 45 + 1) = ((l + 1 : Nat) : Int) := by rw [hS2.2.2]; exact wr_n1 (by omega)
      rw [e45]
      have hB3 := hB2.u0 (b := 45) (v := ((l + 1 : Nat) : Int)) (by decide)
      refine h _ (nd 12 (i + 1) q.2 q.1 nl, j3, c + 1, l + 1) (by rw [hj2, bnd_ok', hj3, bnd_ok', hq, bnd_ok', hj4]; rfl) hB3.1 ⟨⟨by rw [up_k (by decide)]; exact hS2.1.1, by rw [up_k (by decide)]; exact hS2.1.2.1, by rw [up_k (by decide)]; exact hS2.1.2.2⟩, by rw [up_k (by decide)]; exact hS2.2.1, up_s _ _ _ _⟩ hjm ?_ (hB3.2.2.2.2 23 (by decide) (by decide) |>.trans (by simp [upv]; exact hf.2.1)) hB3.2.2.1 hB3.2.1
      rw [SR11 (by decide)]
      refine ⟨hB3.2.2.2.2 17 (by decide) (by decide) |>.trans (by simp [upv]; exact hf.2.2), hB3.2.2.2.2 18 (by decide) (by decide) |>.trans (by simp [upv]; exact hf.1), hB3.2.2.2.2 19 (by decide) (by decide) |>.trans (by simp [upv]), hB3.2.2.2.2 20 (by decide) (by decide) |>.trans (by simp [upv]), hA2.congr (nX_pos _ hg.2.1) (fun x _ _ o p q => by rw [up_o (by omega)]), fun z => absurd z (by decide)⟩
  · rw [hS0.2.2] at h8
    rw [hS0.1.1]
    exact sp_placeM hB0.2.2.2.1 him1 (sp_fail (f := 2) (he (thW T L (up w' 0 11 ((i + 1 : Nat) : Int)) (2, i + 1)) (2, i + 1) (by rw [hj, bnd_ok']; unfold pNm; rw [if_pos ⟨hk2, by omega⟩]; rfl) hB0.th (thW_er T L _ (2, i + 1))))
theorem st_sendM {i nn : Nat} {R : PE Q4} (hd : 100 ≤ d) (hdep : dep + nn = 13) (hc : c < 130) (hB : Bs T L m w w' c n f) (hf : f 18 = (i : Int) ∧ f 23 = -2 ∧ f 17 = 2) (hS : MSt w' i n dep (c + 1) l) (him : i ≤ m) (hi10 : i ≤ 1000) (hni : n ≤ i) (hk : kdT T L i = 44) (hr : R = pSend (kdT T L) nn (c + 1) l i) (h : OkS K T L m dep w n c R) (he : NoS K T L w R) : Cal g LM jMd_pass d [vA 0] w' (fun o w42 => rIt o (fun b => K (.inr b) w42) (fun x43 => Cal g LM jMd_mustName d [vA 0] w42 (fun o w44 => rIt o (fun b => K (.inr b) w44) (fun x45 => Cal g LM jMd_pass d [vA 0] w44 (fun o w46 => rIt o (fun b => K (.inr b) w46) (fun x47 => (0 ≤ (c : Int) ∧ (c : Int) < 130) ∧ (Cal g LM jMd_readExp d [vA 0] (up w46 19 (c : Int).toNat x47) (fun o w48 => rIt o (fun b => K (.inr b) w48) (fun x49 => (0 ≤ (c : Int) ∧ (c : Int) < 130) ∧ (Cal g LM jMd_is d [vA 0, vA 1022] (up w48 20 (c : Int).toNat x49) (fun o w50 => rIt o (fun b => K (.inr b) w50) (fun x51 => (¬ x51 = 0 → (V g LM jMd_readStatement (d + 1) K 348 [(0, vA 0), (1, vI (c : Int))] [] w50)) ∧ (x51 = 0 → (Cal g LM jMd_is d [vA 0, vA 1023] w50 (fun o w52 => rIt o (fun b => K (.inr b) w52) (fun x53 => (¬ x53 = 0 → (V g LM jMd_readStatement (d + 1) K 348 [(0, vA 0), (1, vI (c : Int))] [] w52)) ∧ (x53 = 0 → (Cal g LM jMd_placeOf d [vA 0, vI (w52 0 11)] w52 (fun o w54 => rIt o (fun b => K (.inr b) w54) (fun x55 => Cal g LM jMd_fail d [vA 0, vI 1, vI x55] w54 (fun o w56 => rVt o (fun b => K (.inr b) w56) (V g LM jMd_readStatement (d + 1) K 348 [(0, vA 0), (1, vI (c : Int))] [] w56)))))))))))))))))))))) := by
  subst hr
  unfold pSend at h he
  refine sp_passM (by omega) hB.2.2.2.1 hS.1.1 him hi10 (fun j hj => ?_) (fun e hj => he _ e (by rw [← psM_ex hk, hj]; rfl) hB.th (thW_er T L _ e))
  rw [psM_ex hk] at hj
  obtain ⟨rfl, h9, -⟩ := ex_i hj
  have hB0 := hB.u0 (b := 11) (v := ((i + 1 : Nat) : Int)) (Or.inl rfl)
  have hS0 := hS.at_ (j := i + 1)
  have him1 := hB.2.2.2.1.lt him (by omega)
  refine sp_mustName (by omega) hB0.2.2.2.1 hS0.1.1 him1 (fun hk2 => sp_passM (by omega) hB0.2.2.2.1 hS0.1.1 him1 (by omega) (fun j2 hj2 => ⟨by omega, ?_⟩) (fun e hj2 => he _ e (by rw [hj, bnd_ok', ← psM_ex hk2, hj2]; rfl) hB0.th (thW_er T L _ e))) (fun hk2 => he _ (1, i + 1) (by rw [hj, bnd_ok']; unfold ex; rw [if_neg hk2]; rfl) hB0.th (thW_er T L _ _))
  rw [psM_ex hk2] at hj2
  obtain ⟨rfl, h8, -⟩ := ex_i hj2
  rw [toN]
  have hB1 := (hB0.u0 (b := 11) (v := ((i + 1 + 1 : Nat) : Int)) (Or.inl rfl)).ro (o := 19) (v := ((i + 1 : Nat) : Int)) (by decide)
  have hS1 := (hS0.at_ (j := i + 1 + 1)).row (o := 19) (v := ((i + 1 : Nat) : Int)) (x := c) (by decide)
  have him2 := hB0.2.2.2.1.lt him1 (by omega)
  rw [hj, bnd_ok', hj2, bnd_ok'] at h he
  refine sp_readExpM hd hdep _ _ (i + 1 + 1) n hB1.2.2.2.1 hS1.1 him2 (by omega) (by omega) (fun w5 q hq hF5 hS5 hqm hA5 hL5 => ⟨by omega, ?_⟩) (fun w5 e hee hF5 hE5 => he w5 e (by rw [hee]; rfl) (hB1.1.tr (FMs.x hF5)) hE5)
  have hg := pE_gw hq
  have hq10 := hg.1.2.2.1
  rw [hq, bnd_ok'] at h he
  have hB2 := (hB1.x hF5 hL5 (Nat.le_refl _)).ro (o := 20) (v := ((n + nX q.1 - 1 : Nat) : Int)) (by decide)
  have hS2 := (hS1.x hF5 hS5).row (o := 20) (v := ((n + nX q.1 - 1 : Nat) : Int)) (x := c) (by decide)
  have hA2 : ARx (kdT T L) (up w5 20 c ((n + nX q.1 - 1 : Nat) : Int)) q.1 n := hA5.congr (nX_pos _ hg.2.1) (fun x _ _ o p q => by rw [up_o (by omega)])
  generalize hw2 : up w5 20 c ((n + nX q.1 - 1 : Nat) : Int) = w2 at hB2 hS2 hA2 ⊢
  have hgo : (kdT T L q.2 = 45 ∨ kdT T L q.2 = 46) → V g LM jMd_readStatement (d + 1) K 348 [(0, vA 0), (1, vI (c : Int))] [] w2 := by
    intro hkq
    have hex : ex (kdT T L) (if kdT T L q.2 = 46 then 46 else 45) q.2 = psM q.2 := by
      rw [psM_ex]
      split
      · assumption
      · omega
    rw [hex] at h he
    refine s_Md_readStatement_348 (sp_isM (c := 45) (by omega) hB2.2.2.2.1 hS2.1.1 hqm (by decide) (by decide) ⟨by by_cases z : kdT T L q.2 = 45 <;> simp [z], by omega, ?_⟩)
    rw [toN]
    have hB3 := hB2.ro (o := 25) (v := (if kdT T L q.2 = 45 then 1 else 0)) (by decide)
    have hS3 := hS2.row (o := 25) (v := (if kdT T L q.2 = 45 then 1 else 0)) (x := c) (by decide)
    refine sp_passM (by omega) hB3.2.2.2.1 hS3.1.1 hqm hq10 (fun j3 hj3 => ?_) (fun e hj3 => he _ e (by rw [hj3]; rfl) hB3.th (thW_er T L _ e))
    obtain ⟨rfl, hq9⟩ := psM_ok hj3
    rw [hj3, bnd_ok'] at h he
    have hB4 := hB3.u0 (b := 11) (v := ((q.2 + 1 : Nat) : Int)) (Or.inl rfl)
    have hS4 := hS3.at_ (j := q.2 + 1)
    have him4 := hB3.2.2.2.1.lt hqm (by omega)
    refine sp_mustM (c := 4) (by omega) hB4.2.2.2.1 hS4.1.1 him4 (by omega) (by decide) (by decide) (fun j5 hj5 => s_Md_readStatement_630 ?_) (fun e hj5 => he _ e (by rw [hj5]; rfl) hB4.th (thW_er T L _ e))
    obtain ⟨rfl, hq8, hk8⟩ := ex_i hj5
    have hB5 := hB4.u0 (b := 11) (v := ((q.2 + 1 + 1 : Nat) : Int)) (Or.inl rfl)
    refine h _ (nd 13 (i + 1) (q.2 + 1) q.1 nl, q.2 + 1 + 1, c + 1, l) (by rw [hj5]; rfl) hB5.1 (hS4.at_ (j := q.2 + 1 + 1)) (hB4.2.2.2.1.lt him4 (by omega)) ?_ (hB5.2.2.2.2 23 (by decide) (by decide) |>.trans (by simp [upv]; exact hf.2.1)) hB5.2.2.1 hB5.2.1
    rw [SR11 (by decide)]
    refine ⟨hB5.2.2.2.2 17 (by decide) (by decide) |>.trans (by simp [upv]; exact hf.2.2), hB5.2.2.2.2 18 (by decide) (by decide) |>.trans (by simp [upv]; exact hf.1), hB5.2.2.2.2 19 (by decide) (by decide) |>.trans (by simp [upv]), hB5.2.2.2.2 20 (by decide) (by decide) |>.trans (by simp [upv]), hA2.congr (nX_pos _ hg.2.1) (fun x _ _ o p q => by rw [up_o (by omega), up_o (by omega), up_o (by omega)]), fun _ => hB5.2.2.2.2 25 (by decide) (by decide) |>.trans (by simp [upv])⟩
  refine sp_isM (c := 45) (by omega) hB2.2.2.2.1 hS2.1.1 hqm (by decide) (by decide) ⟨fun z => hgo (Or.inl (isv.mp z)), fun z45 => sp_isM (c := 46) (by omega) hB2.2.2.2.1 hS2.1.1 hqm (by decide) (by decide) ⟨fun z => hgo (Or.inr (isv.mp z)), fun z46 => ?_⟩⟩
  rw [hS2.1.1]
  have y45 := isv0.mp z45
  have y46 := isv0.mp z46
  exact sp_placeM hB2.2.2.2.1 hqm (sp_fail (f := 1) (he (thW T L w2 (1, q.2)) (1, q.2) (by rw [if_neg y46]; unfold ex; rw [if_neg y45]; rfl) hB2.th (thW_er T L _ (1, q.2))))
end ModelStmt2
