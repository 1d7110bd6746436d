/-! ===== the model reads statements: loop, if; a statement ===== -/
section ModelStmt3
variable {g : Mg} {d D : Nat} {K : Ou → Wd → Prop} {w w' : Wd} {T : Nat → Int} {L m dep c n l : Nat} {f : Nat → Int}
theorem Bs.b {w2 : Wd} {n2 : Nat} (h : Bs T L m w w' c n f) (hF : FMs w' w2) (hS : LoS w' w2 (c + 1)) (hL : LoX w' w2 n2) (hn : n ≤ n2) : Bs T L m w w2 c n f := by
  obtain ⟨h1, h2, h3, h4, h5⟩ := h
  exact ⟨h1.tr hF, h2.tr (hS.le (by omega)), h3.tr (hL.le hn), h4.fs hF, fun p q r => by rw [hS c (by omega) p q r]; exact h5 p q r⟩
/-- a row is written below a block's own -/
theorem SR.row {kd : Nat → Nat} {a : Tr} {s lo o : Nat} {v : Int} (hw : WS a) (h : SR kd w a s lo) (ho : 17 ≤ o ∧ o ≤ 25) (hc : c + 1 = s) : SR kd (up w o c v) a s lo := SR.congr a s lo c hw (Or.inl (by omega)) h (fun x p1 _ o' _ _ _ => by
    by_cases z : o' = o
    · subst z; rw [up_k (by omega)]
    · rw [up_o z]) (fun x _ _ o' p q => by rw [up_o (by omega)])
theorem SR.u0 {kd : Nat → Nat} {a : Tr} {s lo b : Nat} {v : Int} (hw : WS a) (h : SR kd w a s lo) (hs : 1 ≤ s) : SR kd (up w 0 b v) a s lo := SR.congr a s lo 0 hw (Or.inl (by omega)) h (fun x _ _ o' p _ _ => by rw [up_o (by omega)]) (fun x _ _ o' p q => by rw [up_o (by omega)])
theorem st_loopM {i nn : Nat} {R : PE Q4} (hd : 100 ≤ d) (hb : SpMB g d T L m dep nn) (hc : c < 120) (hl8 : l ≤ 8) (hB : Bs T L m w w' c n f) (hf : f 18 = (i : Int) ∧ f 23 = -2 ∧ f 17 = 5) (hS : MSt w' i n dep (c + 1) l) (him : i ≤ m) (hi10 : i ≤ 1000) (hni : n ≤ i) (hk : kdT T L i = 50) (hr : R = pLoop (kdT T L) (vlT T L) (pBk (kdT T L) (vlT T L) nn) (c + 1) l i) (h : OkS K T L m dep w n c R) (he : NoS K T L w R) : Cal g LM jMd_pass d [vA 0] w' (fun o w15 => rIt o (fun b => K (.inr b) w15) (fun x16 => (0 ≤ (w15 0 11) ∧ (w15 0 11) < 4022) ∧ (((w15 4 ((w15 0 11).toNat)) = 1 → (V g LM jMd_readStatement (d + 1) K 560 [(0, vA 0), (1, vI (c : Int))] [] w15)) ∧ (¬ (w15 4 ((w15 0 11).toNat)) = 1 → (Cal g LM jMd_placeOf d [vA 0, vI (w15 0 11)] w15 (fun o w17 => rIt o (fun b => K (.inr b) w17) (fun x18 => Cal g LM jMd_fail d [vA 0, vI 1, vI x18] w17 (fun o w19 => rVt o (fun b => K (.inr b) w19) (V g LM jMd_readStatement (d + 1) K 560 [(0, vA 0), (1, vI (c : Int))] [] w19))))))))) := by
  subst hr
  unfold pLoop at h he
  refine sp_passM (by omega) hB.2.2.2.1 hS.1.1 him hi10 (fun j hj => ?_) (fun e hj => he _ e (by rw [← psM_ex hk, hj]; rfl) hB.th (thW_er T L _ e))
  rw [psM_ex hk] at hj
  obtain ⟨rfl, h9, -⟩ := ex_i hj
  rw [hj, bnd_ok'] at h he
  have hB0 := hB.u0 (b := 11) (v := ((i + 1 : Nat) : Int)) (Or.inl rfl)
  have hS0 := hS.at_ (j := i + 1)
  have him1 := hB.2.2.2.1.lt him (by omega)
  have hm4 := hB.2.2.2.1.2.1
  generalize hw0 : up w' 0 11 ((i + 1 : Nat) : Int) = w0 at hB0 hS0 ⊢
  rw [hS0.1.1, toN]
  obtain ⟨-, hk3⟩ := mk_name hB0.2.2.2.1 him1
  have hb4 : (0 : Int) ≤ ((i + 1 : Nat) : Int) ∧ ((i + 1 : Nat) : Int) < 4022 := by omega
  refine ⟨hb4, fun z => ?_, fun z => ?_⟩
  · have hk3' := hk3.mp z
    have hv : w0 7 (i + 1) = vlT T L (i + 1) := (hB0.2.2.2.1.1 (i + 1) (by omega)).2.2.2 hk3'
    refine s_Md_readStatement_560 ?_
    rw [hS0.1.1, toN, hv]
    refine ⟨hb4, fun hle => ?_, fun hgt => ?_⟩
    · rw [if_neg (by omega)] at h he
      refine s_Md_readStatement_587 (sp_passM (by omega) hB0.2.2.2.1 hS0.1.1 him1 (by omega) (fun j2 hj2 => ⟨by omega, ?_⟩) (fun e hj2 => he _ e (by rw [← psM_ex hk3', hj2]; rfl) hB0.th (thW_er T L _ e)))
      rw [psM_ex hk3'] at hj2
      obtain ⟨rfl, h8, -⟩ := ex_i hj2
      rw [hj2, bnd_ok'] at h he
      rw [toN]
      have hB1 := (hB0.u0 (b := 11) (v := ((i + 1 + 1 : Nat) : Int)) (Or.inl rfl)).ro (o := 19) (v := ((i + 1 : Nat) : Int)) (by decide)
      have hS1 := (hS0.at_ (j := i + 1 + 1)).row (o := 19) (v := ((i + 1 : Nat) : Int)) (x := c) (by decide)
      refine hb _ _ (i + 1 + 1) n (c + 1) l hB1.2.2.2.1 hS1 (hB0.2.2.2.1.lt him1 (by omega)) (by omega) (by omega) (by omega) hl8 (fun w3 q hq hF3 hS3 hqm hR3 hL3 hO3 => ⟨by omega, s_Md_readStatement_630 ?_⟩) (fun w3 e hee hF3 hE3 => he w3 e (by rw [hee]; rfl) (hB1.1.tr hF3) hE3)
      have hg3 := pBk_g3 _ _ _ _ _ (by omega) hq
      have hB2 := (hB1.b hF3 hO3 hL3 (Nat.le_refl _)).ro (o := 21) (v := bf_ q.1 (c + 1)) (by decide)
      refine h _ (nd 16 (i + 1) 0 q.1 nl, q.2.1, q.2.2, l) (by rw [hq]; rfl) hB2.1 (hS3.row (o := 21) (by decide)) hqm ?_ (hB2.2.2.2.2 23 (by decide) (by decide) |>.trans (by simp [upv]; exact hf.2.1)) hB2.2.2.1 hB2.2.1
      rw [SR16]
      exact ⟨hB2.2.2.2.2 17 (by decide) (by decide) |>.trans (by simp [upv]; exact hf.2.2), hB2.2.2.2.2 18 (by decide) (by decide) |>.trans (by simp [upv]; exact hf.1), hB2.2.2.2.2 19 (by decide) (by decide) |>.trans (by simp [upv]), hB2.2.2.2.2 21 (by decide) (by decide) |>.trans (by simp [upv]), hR3.row hg3.1 (by decide) rfl⟩
    · exact sp_placeM hB0.2.2.2.1 him1 (sp_fail (f := 2) (he (thW T L w0 (2, i + 1)) (2, i + 1) (by rw [if_pos ⟨hk3', by omega⟩]; rfl) hB0.th (thW_er T L _ (2, i + 1))))
  · have hk3' : ¬ kdT T L (i + 1) = 3 := fun q => z (hk3.mpr q)
    exact sp_placeM hB0.2.2.2.1 him1 (sp_fail (f := 1) (he (thW T L w0 (1, i + 1)) (1, i + 1) (by rw [if_neg (fun q => hk3' q.1)]; unfold ex; rw [if_neg hk3']; rfl) hB0.th (thW_er T L _ (1, i + 1))))
theorem st_ifM {i nn : Nat} {R : PE Q4} (hd : 100 ≤ d) (hdep : dep + nn = 13) (hb : SpMB g d T L m dep nn) (hc : c < 120) (hl8 : l ≤ 8) (hB : Bs T L m w w' c n f) (hf : f 18 = (i : Int) ∧ f 23 = -2 ∧ f 17 = 4 ∧ f 22 = -2) (hS : MSt w' i n dep (c + 1) l) (him : i ≤ m) (hi10 : i ≤ 1000) (hni : n ≤ i) (hk : kdT T L i = 48) (hr : R = pIf (kdT T L) (pBk (kdT T L) (vlT T L) nn) nn (c + 1) l i) (h : OkS K T L m dep w n c R) (he : NoS K T L w R) : Cal g LM jMd_pass d [vA 0] w' (fun o w20 => rIt o (fun b => K (.inr b) w20) (fun x21 => Cal g LM jMd_readExp d [vA 0] w20 (fun o w22 => rIt o (fun b => K (.inr b) w22) (fun x23 => (0 ≤ (c : Int) ∧ (c : Int) < 130) ∧ (Cal g LM jMd_readBlock d [vA 0] (up w22 20 ((c : Int).toNat) x23) (fun o w24 => rIt o (fun b => K (.inr b) w24) (fun x25 => (0 ≤ (c : Int) ∧ (c : Int) < 130) ∧ ((0 ≤ (c : Int) ∧ (c : Int) < 130) ∧ (Cal g LM jMd_is d [vA 0, vA 1026] (up (up w24 21 ((c : Int).toNat) x25) 24 ((c : Int).toNat) 0) (fun o w26 => rIt o (fun b => K (.inr b) w26) (fun x27 => (x27 = 0 → (V g LM jMd_readStatement (d + 1) K 630 [(1, vI (c : Int))] [] w26)) ∧ (¬ x27 = 0 → (Cal g LM jMd_pass d [vA 0] w26 (fun o w28 => rIt o (fun b => K (.inr b) w28) (fun x29 => Cal g LM jMd_readBlock d [vA 0] w28 (fun o w30 => rIt o (fun b => K (.inr b) w30) (fun x31 => (0 ≤ (c : Int) ∧ (c : Int) < 130) ∧ ((0 ≤ (c : Int) ∧ (c : Int) < 130) ∧ (V g LM jMd_readStatement (d + 1) K 630 [(1, vI (c : Int))] [] (up (up w30 22 ((c : Int).toNat) x31) 24 ((c : Int).toNat) 1)))))))))))))))))))) := by
  subst hr
  unfold pIf at h he
  refine sp_passM (by omega) hB.2.2.2.1 hS.1.1 him hi10 (fun j hj => ?_) (fun e hj => he _ e (by rw [← psM_ex hk, hj]; rfl) hB.th (thW_er T L _ e))
  rw [psM_ex hk] at hj
  obtain ⟨rfl, h9, -⟩ := ex_i hj
  rw [hj, bnd_ok'] at h he
  have hB0 := hB.u0 (b := 11) (v := ((i + 1 : Nat) : Int)) (Or.inl rfl)
  have hS0 := hS.at_ (j := i + 1)
  have him1 := hB.2.2.2.1.lt him (by omega)
  refine sp_readExpM hd hdep _ _ (i + 1) n hB0.2.2.2.1 hS0.1 him1 (by omega) (by omega) (fun w5 q hq hF5 hS5 hqm hA5 hL5 => ⟨by omega, ?_⟩) (fun w5 e hee hF5 hE5 => he w5 e (by rw [hee]; rfl) (hB0.1.tr (FMs.x hF5)) hE5)
  rw [hq, bnd_ok'] at h he
  rw [toN]
  have hg := pE_gw hq
  have g1 := hg.1.2.1; have g2 := hg.1.2.2.1; have g3 := hg.1.2.2.2; have g4 := nX_nD q.1; have g5 := nX_pos _ hg.2.1
  have hB1 := (hB0.x hF5 hL5 (Nat.le_refl _)).ro (o := 20) (v := ((n + nX q.1 - 1 : Nat) : Int)) (by decide)
  have hS1 := (hS0.x hF5 hS5).row (o := 20) (v := ((n + nX q.1 - 1 : Nat) : Int)) (x := c) (by decide)
  have hA1 : ARx (kdT T L) (up w5 20 c ((n + nX q.1 - 1 : Nat) : Int)) q.1 n := hA5.congr g5 (fun x _ _ o p q => by rw [up_o (by omega)])
  refine hb _ _ q.2 (n + nX q.1) (c + 1) l hB1.2.2.2.1 hS1 hqm (by omega) (by omega) (by omega) hl8 (fun w3 b1 hb1 hF3 hS3 hbm hR3 hL3 hO3 => ⟨by omega, by omega, ?_⟩) (fun w3 e hee hF3 hE3 => he w3 e (by rw [hee]; rfl) (hB1.1.tr hF3) hE3)
  rw [hb1, bnd_ok'] at h he
  have hG1 := pBk_gb _ _ _ _ _ (by omega) hb1
  have hG3 := pBk_g3 _ _ _ _ _ (by omega) hb1
  obtain ⟨-, e1, e2, e3, e4, e5⟩ := hG1
  obtain ⟨k1, k2, k3⟩ := hG3
  have hB2 := ((hB1.b hF3 hO3 hL3 (by omega)).ro (o := 21) (v := bf_ b1.1 (c + 1)) (by decide)).ro (o := 24) (v := 0) (by decide)
  have hS2 := (hS3.row (o := 21) (v := bf_ b1.1 (c + 1)) (x := c) (by decide)).row (o := 24) (v := 0) (x := c) (by decide)
  have hA2 : ARx (kdT T L) (up (up w3 21 c (bf_ b1.1 (c + 1))) 24 c 0) q.1 n := (hA1.lo hL3 (Nat.le_refl _) g5).congr g5 (fun x _ _ o p q => by rw [up_o (by omega), up_o (by omega)])
  have hR2 : SR (kdT T L) (up (up w3 21 c (bf_ b1.1 (c + 1))) 24 c 0) b1.1 (c + 1) (n + nX q.1) := (hR3.row k1 (by decide) rfl).row k1 (by decide) rfl
  generalize hw2 : up (up w3 21 c (bf_ b1.1 (c + 1))) 24 c 0 = w2 at hB2 hS2 hA2 hR2 ⊢
  refine sp_isM (c := 49) (by omega) hB2.2.2.2.1 hS2.1.1 hbm (by decide) (by decide) ⟨fun z => s_Md_readStatement_630 ?_, fun z => ?_⟩
  · have y := isv0.mp z
    rw [if_neg y] at h
    refine h w2 (nd 15 i 0 q.1 (nd 9 0 0 b1.1 nl), b1.2.1, b1.2.2, l) rfl hB2.1 ?_ hbm ?_ (hB2.2.2.2.2 23 (by decide) (by decide) |>.trans (by simp [upv]; exact hf.2.1)) hB2.2.2.1 hB2.2.1
    · show MSt w2 b1.2.1 (n + (nX q.1 + (nE b1.1 + 0))) dep b1.2.2 l
      rw [show n + (nX q.1 + (nE b1.1 + 0)) = n + nX q.1 + nE b1.1 by omega]; exact hS2
    · rw [SR15]
      refine ⟨hB2.2.2.2.2 17 (by decide) (by decide) |>.trans (by simp [upv]; exact hf.2.2.1), hB2.2.2.2.2 18 (by decide) (by decide) |>.trans (by simp [upv]; exact hf.1), hB2.2.2.2.2 20 (by decide) (by decide) |>.trans (by simp [upv]), hA2, ?_, hB2.2.2.2.2 21 (by decide) (by decide) |>.trans (by simp [upv, lf_]), hB2.2.2.2.2 22 (by decide) (by decide) |>.trans (by simp [upv]; exact hf.2.2.2), hB2.2.2.2.2 24 (by decide) (by decide) |>.trans (by simp [upv]; rfl)⟩
      rw [SR9]
      exact ⟨hR2, trivial⟩
  · have y := isv.mp z
    rw [if_pos y] at h he
    refine sp_passM (by omega) hB2.2.2.2.1 hS2.1.1 hbm e2 (fun j3 hj3 => ?_) (fun e hj3 => he _ e (by rw [← psM_ex y, hj3]; rfl) hB2.th (thW_er T L _ e))
    rw [psM_ex y] at hj3
    obtain ⟨rfl, h8, -⟩ := ex_i hj3
    rw [hj3, bnd_ok'] at h he
    have hB3 := hB2.u0 (b := 11) (v := ((b1.2.1 + 1 : Nat) : Int)) (Or.inl rfl)
    have hS4 := hS2.at_ (j := b1.2.1 + 1)
    have hA3 : ARx (kdT T L) (up w2 0 11 ((b1.2.1 + 1 : Nat) : Int)) q.1 n := hA2.congr g5 (fun x _ _ o p q => by rw [up_o (by omega)])
    have hR4 : SR (kdT T L) (up w2 0 11 ((b1.2.1 + 1 : Nat) : Int)) b1.1 (c + 1) (n + nX q.1) := hR2.u0 k1 (by omega)
    refine hb _ _ (b1.2.1 + 1) (n + nX q.1 + nE b1.1) b1.2.2 l hB3.2.2.2.1 hS4 (hB2.2.2.2.1.lt hbm (by omega)) (by omega) (by omega) e5 hl8 (fun w6 b2 hb2 hF6 hS6 hbm2 hR6 hL6 hO6 => ⟨by omega, by omega, s_Md_readStatement_630 ?_⟩) (fun w6 e hee hF6 hE6 => he w6 e (by rw [hee]; rfl) (hB3.1.tr hF6) hE6)
    have hG2 := pBk_gb _ _ _ _ _ e5 hb2
    obtain ⟨f1, f2, f3⟩ := pBk_g3 _ _ _ _ _ e5 hb2
    obtain ⟨⟨z2, s2, ez2, -⟩, p1, p2, p3, p4, p5⟩ := hG2
    have hcc : c + 1 ≤ b1.2.2 := by omega
    have hB4 := ((hB3.b hF6 (hO6.le hcc) hL6 (by omega)).ro (o := 22) (v := bf_ b2.1 b1.2.2) (by decide)).ro (o := 24) (v := 1) (by decide)
    refine h _ (nd 15 i 0 q.1 (nd 9 0 b1.2.1 b1.1 b2.1), b2.2.1, b2.2.2, l) (by rw [hb2]; rfl) hB4.1 ?_ hbm2 ?_ (hB4.2.2.2.2 23 (by decide) (by decide) |>.trans (by simp [upv]; exact hf.2.1)) hB4.2.2.1 hB4.2.1
    · show MSt _ b2.2.1 (n + (nX q.1 + (nE b1.1 + nE b2.1))) dep b2.2.2 l
      rw [show n + (nX q.1 + (nE b1.1 + nE b2.1)) = n + nX q.1 + nE b1.1 + nE b2.1 by omega]
      exact (hS6.row (o := 22) (by decide)).row (o := 24) (by decide)
    · have hup : ∀ o x, x ≠ c → up (up w6 22 c (bf_ b2.1 b1.2.2)) 24 c 1 o x = w6 o x := by
        intro o x hx
        by_cases q1 : o = 24
        · subst q1; rw [up_k hx, up_o (by decide)]
        · by_cases q2 : o = 22
          · subst q2; rw [up_o q1, up_k hx]
          · rw [up_o q1, up_o q2]
      have hx4 : ∀ o x, 26 ≤ o → up (up w6 22 c (bf_ b2.1 b1.2.2)) 24 c 1 o x = w6 o x := fun o x ho => by rw [up_o (by omega), up_o (by omega)]
      rw [SR15]
      refine ⟨hB4.2.2.2.2 17 (by decide) (by decide) |>.trans (by simp [upv]; exact hf.2.2.1), hB4.2.2.2.2 18 (by decide) (by decide) |>.trans (by simp [upv]; exact hf.1), hB4.2.2.2.2 20 (by decide) (by decide) |>.trans (by simp [upv]), (hA3.lo hL6 (by omega) g5).congr g5 (fun x _ _ o p q => hx4 o x p), ?_, hB4.2.2.2.2 21 (by decide) (by decide) |>.trans (by simp [upv, lf_]), hB4.2.2.2.2 22 (by decide) (by decide) |>.trans ?_, hB4.2.2.2.2 24 (by decide) (by decide) |>.trans ?_⟩
      · rw [SR9]
        refine ⟨?_, ?_⟩
        · refine SR.congr b1.1 (c + 1) (n + nX q.1) c k1 (Or.inl (by omega)) hR4 (fun x q1 q2 o q3 q4 _ => ?_) (fun x q1 q2 o q3 q4 => ?_)
          · rw [hup o x (by omega)]; exact hO6 x (by omega) o q3 q4
          · rw [hx4 o x q3]; exact hL6 x (by omega) o q3 (by omega)
        · rw [show c + 1 + nT b1.1 = b1.2.2 by omega]
          exact SR.congr b2.1 b1.2.2 (n + nX q.1 + nE b1.1) c f1 (Or.inl (by omega)) hR6 (fun x q1 q2 o q3 q4 _ => hup o x (by omega)) (fun x q1 q2 o q3 q4 => hx4 o x q3)
      · simp [upv, rt_, lf_]
        rw [show c + 1 + nT b1.1 = b1.2.2 by omega]
      · simp [upv, rt_]
        rw [ez2]; rfl
end ModelStmt3
