/-! ===== the model reads statements ===== -/
def upv (f : Nat → Int) (o : Nat) (v : Int) : Nat → Int := fun p => if p = o then v else f p
/-- while statement c is read: what has changed, what its row holds -/
def Bs (T : Nat → Int) (L m : Nat) (w w' : Wd) (c n : Nat) (f : Nat → Int) : Prop := FMs w w' ∧ LoS w w' c ∧ LoX w w' n ∧ TxM T L m w' ∧ ∀ o, 17 ≤ o → o ≤ 25 → w' o c = f o
section ModelStmt
variable {g : Mg} {d D : Nat} {K : Ou → Wd → Prop} {w w' : Wd} {T : Nat → Int} {L m dep c n l : Nat} {f : Nat → Int}
theorem FMs.row {o : Nat} {v : Int} (ho : 17 ≤ o ∧ o ≤ 25) : FMs w (up w o c v) := ⟨(Fx.rf _ w).up (by simp; omega), fun b _ _ _ _ _ => by rw [up_o (by omega)]⟩
theorem Bs.ro {o : Nat} {v : Int} (h : Bs T L m w w' c n f) (ho : 17 ≤ o ∧ o ≤ 25) : Bs T L m w (up w' o c v) c n (upv f o v) := by
  obtain ⟨h1, h2, h3, h4, h5⟩ := h
  have hf : FMs w' (up w' o c v) := FMs.row ho
  refine ⟨h1.tr hf, fun x hx p q r => ?_, fun x hx p q r => ?_, h4.fs hf, fun p q r => ?_⟩
  · by_cases hp : p = o
    · subst hp; rw [up_k (by omega)]; exact h2 x hx p q r
    · rw [up_o hp]; exact h2 x hx p q r
  · rw [up_o (by omega)]; exact h3 x hx p q r
  · unfold upv
    by_cases hp : p = o
    · subst hp; rw [up_s, if_pos rfl]
    · rw [up_o hp, if_neg hp]; exact h5 p q r
theorem Bs.u0 {b : Nat} {v : Int} (h : Bs T L m w w' c n f) (hb : b = 11 ∨ b = 44 ∨ b = 45 ∨ b = 31) : Bs T L m w (up w' 0 b v) c n f := by
  obtain ⟨h1, h2, h3, h4, h5⟩ := h
  have hf : FMs w' (up w' 0 b v) := ⟨(Fx.rf _ w').up (by decide), fun x p q r s t => up_k (by omega)⟩
  exact ⟨h1.tr hf, fun x hx p q r => by rw [up_o (by omega)]; exact h2 x hx p q r, fun x hx p q r => by rw [up_o (by omega)]; exact h3 x hx p q r, h4.fs hf, fun p q r => by rw [up_o (by omega)]; exact h5 p q r⟩
theorem Bs.x {w2 : Wd} {n2 : Nat} (h : Bs T L m w w' c n f) (hF : FMx w' w2) (hL : LoX w' w2 n2) (hn : n ≤ n2) : Bs T L m w w2 c n f := by
  obtain ⟨h1, h2, h3, h4, h5⟩ := h
  exact ⟨h1.tr (FMs.x hF), h2.tr (LoS.x hF), h3.tr (hL.le hn), h4.fx hF, fun p q r => by rw [hF.1 p (by simp; omega)]; exact h5 p q r⟩
theorem Bs.th {e : Nat × Nat} (h : Bs T L m w w' c n f) : FMs w (thW T L w' e) := h.1.tr (FMs.x FMx.th)
theorem MSt.row {i o : Nat} {v : Int} (h : MSt w i n dep c l) (ho : 17 ≤ o) {x : Nat} : MSt (up w o x v) i n dep c l := by
  unfold MSt MS at *
  rw [up_o (show 0 ≠ o by omega)]
  exact h
theorem MSt.at_ {i j : Nat} (h : MSt w i n dep c l) : MSt (up w 0 11 (j : Int)) j n dep c l := ⟨h.1.at_, by rw [up_k (by decide)]; exact h.2.1, by rw [up_k (by decide)]; exact h.2.2⟩
theorem MSt.x {w2 : Wd} {i i2 n2 : Nat} (h : MSt w i n dep c l) (hF : FMx w w2) (hS : MS w2 i2 n2 dep) : MSt w2 i2 n2 dep c l := ⟨hS, by rw [hF.2 31 (by decide) (by decide) (by decide)]; exact h.2.1, by rw [hF.2 45 (by decide) (by decide) (by decide)]; exact h.2.2⟩
abbrev OkS (K : Ou → Wd → Prop) (T : Nat → Int) (L m dep : Nat) (w : Wd) (n c : Nat) (R : PE Q4) : Prop := ∀ w' q, R = .ok q → FMs w w' → MSt w' q.2.1 (n + nE q.1) dep q.2.2.1 q.2.2.2 → q.2.1 ≤ m → SR (kdT T L) w' q.1 c n → w' 23 c = -2 → LoX w w' n → LoS w w' c → K (.inl (some (vI (c : Int)))) w'
abbrev NoS (K : Ou → Wd → Prop) (T : Nat → Int) (L : Nat) (w : Wd) {α : Type} (R : PE α) : Prop := ∀ w' e, R = .error e → FMs w w' → ErM T L w' e → K (.inr 1) w'
/-- from an exp on to the ; -/
theorem st_tailM {i nn : Nat} {Kc : Wd → Prop} (hd : 100 ≤ d) (hdep : dep + nn = 13) (hc : c < 130) (hB : Bs T L m w w' c n f) (hS : MSt w' i n dep (c + 1) l) (him : i ≤ m) (hi10 : i ≤ 1000) (hni : n ≤ i) (he : ∀ w2 e, bnd (pE (kdT T L) nn i) (fun q => ex (kdT T L) 4 q.2) = .error e → FMs w w2 → ErM T L w2 e → K (.inr 1) w2) (h : ∀ w2 q j, pE (kdT T L) nn i = .ok q → ex (kdT T L) 4 q.2 = .ok j → GW i q → Bs T L m w w2 c n (upv f 20 ((n + nX q.1 - 1 : Nat) : Int)) → MSt w2 j (n + nX q.1) dep (c + 1) l → j ≤ m → ARx (kdT T L) w2 q.1 n → Kc w2) :
    Cal g LM jMd_readExp d [vA 0] w' (fun o w68 => rIt o (fun b => K (.inr b) w68) (fun x69 => (0 ≤ (c : Int) ∧ (c : Int) < 130) ∧ (Cal g LM jMd_must d [vA 0, vA 1043] (up w68 20 (c : Int).toNat x69) (fun o w70 => rIt o (fun b => K (.inr b) w70) (fun x71 => Kc w70))))) := by
  refine sp_readExpM hd hdep _ w' i n hB.2.2.2.1 hS.1 him hi10 hni (fun w5 q hq hF5 hS5 hqm hA5 hL5 => ⟨by omega, ?_⟩) (fun w5 e hee hF5 hE5 => he w5 e (by rw [hee]; rfl) (hB.1.tr (FMs.x hF5)) hE5)
  rw [toN]
  have hg := pE_gw hq
  have hB5 := hB.x hF5 hL5 (Nat.le_refl _)
  have hSt5 := hS.x hF5 hS5
  have hB6 := hB5.ro (o := 20) (v := ((n + nX q.1 - 1 : Nat) : Int)) (by decide)
  have hS6 := hSt5.row (o := 20) (v := ((n + nX q.1 - 1 : Nat) : Int)) (x := c) (by decide)
  have hA6 : ARx (kdT T L) (up w5 20 c ((n + nX q.1 - 1 : Nat) : Int)) q.1 n := hA5.congr (nX_pos _ hg.2.1) (fun x _ _ o p q => by rw [up_o (by omega)])
  refine sp_mustM (c := 4) (by omega) hB6.2.2.2.1 hS6.1.1 hqm hg.1.2.2.1 (by decide) (by decide) (fun j hj => ?_) (fun e hj => he _ e (by rw [hq, bnd_ok', hj]) hB6.th (thW_er T L _ e))
  obtain ⟨rfl, h9, hk⟩ := ex_i hj
  refine h _ q (q.2 + 1) hq hj hg (hB6.u0 (Or.inl rfl)) hS6.at_ (hB6.2.2.2.1.lt hqm (by omega)) ?_
  exact hA6.congr (nX_pos _ hg.2.1) (fun x _ _ o p q => by rw [up_o (by omega)])
theorem mk_name {i : Nat} (hM : TxM T L m w) (hi : i ≤ m) : (w 4 i = 0 ↔ kdT T L i = 2) ∧ (w 4 i = 1 ↔ kdT T L i = 3) := by
  obtain ⟨hk, hm4, -⟩ := hM
  rw [(hk i (by omega)).1]
  unfold mkd
  by_cases q0 : kdT T L i = 0
  · rw [if_pos q0]; omega
  by_cases q1 : kdT T L i = 1
  · rw [if_neg q0, if_pos q1]; omega
  by_cases q2 : kdT T L i = 2
  · rw [if_neg q0, if_neg q1, if_pos q2]; omega
  by_cases q3 : kdT T L i = 3
  · rw [if_neg q0, if_neg q1, if_neg q2, if_pos q3]; omega
  · rw [if_neg q0, if_neg q1, if_neg q2, if_neg q3]
    split <;> omega
theorem psM_ok {i j : Nat} (h : psM i = .ok j) : j = i + 1 ∧ i < 1000 := by unfold psM at h; split at h; (· cases h); (· cases h; exact ⟨rfl, by omega⟩)
/-- set -/
theorem st_setM {i nn : Nat} {R : PE Q4} (hd : 100 ≤ d) (hdep : dep + nn = 13) (hc : c < 130) (hB : Bs T L m w w' c n f) (hf : f 18 = (i : Int) ∧ f 23 = -2 ∧ f 17 = 0) (hS : MSt w' i n dep (c + 1) l) (him : i ≤ m) (hi10 : i ≤ 1000) (hni : n ≤ i) (hk : kdT T L i = 2) (hr : R = pSet (kdT T L) nn (c + 1) l i) (h : OkS K T L m dep w n c R) (he : NoS K T L w R) : Cal g LM jMd_pass d [vA 0] w' (fun o w64 => rIt o (fun b => K (.inr b) w64) (fun x65 => (0 ≤ (c : Int) ∧ (c : Int) < 130) ∧ (Cal g LM jMd_must d [vA 0, vA 1051] (up w64 19 (c : Int).toNat x65) (fun o w66 => rIt o (fun b => K (.inr b) w66) (fun x67 => Cal g LM jMd_readExp d [vA 0] w66 (fun o w68 => rIt o (fun b => K (.inr b) w68) (fun x69 => (0 ≤ (c : Int) ∧ (c : Int) < 130) ∧ (Cal g LM jMd_must d [vA 0, vA 1043] (up w68 20 (c : Int).toNat x69) (fun o w70 => rIt o (fun b => K (.inr b) w70) (fun x71 => V g LM jMd_readStatement (d + 1) K 630 [(1, vI (c : Int))] [] w70)))))))))) := by
  subst hr
  unfold pSet at h he
  refine sp_passM (by omega) hB.2.2.2.1 hS.1.1 him hi10 (fun j hj => ⟨by omega, ?_⟩) (fun e hj => he _ e (by rw [← psM_ex hk, hj]; rfl) hB.th (thW_er T L _ e))
  rw [psM_ex hk] at hj
  obtain ⟨rfl, h9, -⟩ := ex_i hj
  rw [toN]
  have hB1 := (hB.u0 (b := 11) (v := ((i + 1 : Nat) : Int)) (Or.inl rfl)).ro (o := 19) (v := (i : Int)) (by decide)
  have hS1 := (hS.at_ (j := i + 1)).row (o := 19) (v := (i : Int)) (x := c) (by decide)
  have him1 := hB.2.2.2.1.lt him (by omega)
  refine sp_mustM (c := 12) (by omega) hB1.2.2.2.1 hS1.1.1 him1 (by omega) (by decide) (by decide) (fun j2 hj2 => ?_) (fun e hj2 => he _ e (by rw [hj, bnd_ok', hj2]; rfl) hB1.th (thW_er T L _ e))
  obtain ⟨rfl, h8, hk8⟩ := ex_i hj2
  refine st_tailM (nn := nn) hd hdep hc (hB1.u0 (b := 11) (v := ((i + 1 + 1 : Nat) : Int)) (Or.inl rfl)) (hS1.at_ (j := i + 1 + 1)) (hB1.2.2.2.1.lt him1 (by omega)) (by omega) (by omega) (fun w2 e hee hF hE => he w2 e ?_ hF hE) (fun w2 q j3 hq hj3 hg hB2 hS2 hjm hA2 => s_Md_readStatement_630 (h w2 (nd 11 i q.2 q.1 nl, j3, c + 1, l) (by rw [hj, bnd_ok', hj2, bnd_ok', hq, bnd_ok', hj3]; rfl) hB2.1 hS2 hjm ?_ (hB2.2.2.2.2 23 (by decide) (by decide) |>.trans (by simp [upv]; exact hf.2.1)) hB2.2.2.1 hB2.2.1))
  · rw [hj, bnd_ok', hj2, bnd_ok']
    cases hq : pE (kdT T L) nn (i + 1 + 1) with
    | error e2 => rw [hq] at hee; cases hee; rfl
    | ok q => rw [hq, bnd_ok'] at hee; rw [bnd_ok', hee]; rfl
  · rw [SR11 (by decide)]
    refine ⟨hB2.2.2.2.2 17 (by decide) (by decide) |>.trans (by simp [upv]; exact hf.2.2), hB2.2.2.2.2 18 (by decide) (by decide) |>.trans (by simp [upv]; exact hf.1), hB2.2.2.2.2 19 (by decide) (by decide) |>.trans (by simp [upv]), hB2.2.2.2.2 20 (by decide) (by decide) |>.trans (by simp [upv]), hA2, fun z => absurd z (by decide)⟩
/-- give: NAME behind the word -/
theorem st_giveM {i nn : Nat} {R : PE Q4} (hd : 100 ≤ d) (hdep : dep + nn = 13) (hc : c < 130) (hB : Bs T L m w w' c n f) (hf : f 18 = (i : Int) ∧ f 23 = -2 ∧ f 17 = 3) (hS : MSt w' i n dep (c + 1) l) (him : i ≤ m) (hi10 : i ≤ 1000) (hni : n ≤ i) (hk : kdT T L i = 47) (hr : R = pGive (kdT T L) nn (c + 1) l i) (h : OkS K T L m dep w n c R) (he : NoS K T L w R) : Cal g LM jMd_pass d [vA 0] w' (fun o w32 => rIt o (fun b => K (.inr b) w32) (fun x33 => Cal g LM jMd_mustName d [vA 0] w32 (fun o w34 => rIt o (fun b => K (.inr b) w34) (fun x35 => Cal g LM jMd_pass d [vA 0] w34 (fun o w36 => rIt o (fun b => K (.inr b) w36) (fun x37 => (0 ≤ (c : Int) ∧ (c : Int) < 130) ∧ (Cal g LM jMd_readExp d [vA 0] (up w36 19 (c : Int).toNat x37) (fun o w38 => rIt o (fun b => K (.inr b) w38) (fun x39 => (0 ≤ (c : Int) ∧ (c : Int) < 130) ∧ (Cal g LM jMd_must d [vA 0, vA 1043] (up w38 20 (c : Int).toNat x39) (fun o w40 => rIt o (fun b => K (.inr b) w40) (fun x41 => V g LM jMd_readStatement (d + 1) K 630 [(1, vI (c : Int))] [] w40)))))))))))) := by
  subst hr
  unfold pGive at h he
  refine sp_passM (by omega) hB.2.2.2.1 hS.1.1 him hi10 (fun j hj => ?_) (fun e hj => he _ e (by rw [← psM_ex hk, hj]; rfl) hB.th (thW_er T L _ e))
  rw [psM_ex hk] at hj
  obtain ⟨rfl, h9, -⟩ := ex_i hj
  have hB0 := hB.u0 (b := 11) (v := ((i + 1 : Nat) : Int)) (Or.inl rfl)
  have hS0 := hS.at_ (j := i + 1)
  have him1 := hB.2.2.2.1.lt him (by omega)
  refine sp_mustName (by omega) hB0.2.2.2.1 hS0.1.1 him1 (fun hk2 => sp_passM (by omega) hB0.2.2.2.1 hS0.1.1 him1 (by omega) (fun j2 hj2 => ⟨by omega, ?_⟩) (fun e hj2 => he _ e (by rw [hj, bnd_ok', ← psM_ex hk2, hj2]; rfl) hB0.th (thW_er T L _ e))) (fun hk2 => he _ (1, i + 1) (by rw [hj, bnd_ok']; unfold ex; rw [if_neg hk2]; rfl) hB0.th (thW_er T L _ _))
  rw [psM_ex hk2] at hj2
  obtain ⟨rfl, h8, -⟩ := ex_i hj2
  rw [toN]
  have hB1 := (hB0.u0 (b := 11) (v := ((i + 1 + 1 : Nat) : Int)) (Or.inl rfl)).ro (o := 19) (v := ((i + 1 : Nat) : Int)) (by decide)
  have hS1 := (hS0.at_ (j := i + 1 + 1)).row (o := 19) (v := ((i + 1 : Nat) : Int)) (x := c) (by decide)
  refine st_tailM (nn := nn) hd hdep hc hB1 hS1 (hB0.2.2.2.1.lt him1 (by omega)) (by omega) (by omega) (fun w2 e hee hF hE => he w2 e ?_ hF hE) (fun w2 q j3 hq hj3 hg hB2 hS2 hjm hA2 => s_Md_readStatement_630 (h w2 (nd 14 (i + 1) q.2 q.1 nl, j3, c + 1, l) (by rw [hj, bnd_ok', hj2, bnd_ok', hq, bnd_ok', hj3]; rfl) hB2.1 hS2 hjm ?_ (hB2.2.2.2.2 23 (by decide) (by decide) |>.trans (by simp [upv]; exact hf.2.1)) hB2.2.2.1 hB2.2.1))
  · rw [hj, bnd_ok', hj2, bnd_ok']
    cases hq : pE (kdT T L) nn (i + 1 + 1) with
    | error e2 => rw [hq] at hee; cases hee; rfl
    | ok q => rw [hq, bnd_ok'] at hee; rw [bnd_ok', hee]; rfl
  · rw [SR11 (by decide)]
    refine ⟨hB2.2.2.2.2 17 (by decide) (by decide) |>.trans (by simp [upv]; exact hf.2.2), hB2.2.2.2.2 18 (by decide) (by decide) |>.trans (by simp [upv]; exact hf.1), hB2.2.2.2.2 19 (by decide) (by decide) |>.trans (by simp [upv]), hB2.2.2.2.2 20 (by decide) (by decide) |>.trans (by simp [upv]), hA2, fun z => absurd z (by decide)⟩
/-- halt -/
theorem st_haltM {i : Nat} {R : PE Q4} (hd : 100 ≤ d) (hB : Bs T L m w w' c n f) (hf : f 18 = (i : Int) ∧ f 23 = -2 ∧ f 17 = 6) (hS : MSt w' i n dep (c + 1) l) (him : i ≤ m) (hi10 : i ≤ 1000) (hk : kdT T L i = 51) (hr : R = pHalt (kdT T L) (c + 1) l i) (h : OkS K T L m dep w n c R) (he : NoS K T L w R) : Cal g LM jMd_pass d [vA 0] w' (fun o w11 => rIt o (fun b => K (.inr b) w11) (fun x12 => Cal g LM jMd_must d [vA 0, vA 1043] w11 (fun o w13 => rIt o (fun b => K (.inr b) w13) (fun x14 => V g LM jMd_readStatement (d + 1) K 630 [(1, vI (c : Int))] [] w13)))) := by
  subst hr
  unfold pHalt at h he
  refine sp_passM (by omega) hB.2.2.2.1 hS.1.1 him hi10 (fun j hj => ?_) (fun e hj => he _ e (by rw [← psM_ex hk, hj]; rfl) hB.th (thW_er T L _ e))
  rw [psM_ex hk] at hj
  obtain ⟨rfl, h9, -⟩ := ex_i hj
  have hB0 := hB.u0 (b := 11) (v := ((i + 1 : Nat) : Int)) (Or.inl rfl)
  have hS0 := hS.at_ (j := i + 1)
  have him1 := hB.2.2.2.1.lt him (by omega)
  refine sp_mustM (c := 4) (by omega) hB0.2.2.2.1 hS0.1.1 him1 (by omega) (by decide) (by decide) (fun j2 hj2 => s_Md_readStatement_630 ?_) (fun e hj2 => he _ e (by rw [hj, bnd_ok', hj2]; rfl) hB0.th (thW_er T L _ e))
  obtain ⟨rfl, h8, hk8⟩ := ex_i hj2
  have hB1 := hB0.u0 (b := 11) (v := ((i + 1 + 1 : Nat) : Int)) (Or.inl rfl)
  refine h _ (nd 17 i 0 nl nl, i + 1 + 1, c + 1, l) (by rw [hj, bnd_ok', hj2]; rfl) hB1.1 (hS0.at_ (j := i + 1 + 1)) (hB0.2.2.2.1.lt him1 (by omega)) ?_ (hB1.2.2.2.2 23 (by decide) (by decide) |>.trans hf.2.1) hB1.2.2.1 hB1.2.1
  rw [SR17]
  exact ⟨hB1.2.2.2.2 17 (by decide) (by decide) |>.trans hf.2.2, hB1.2.2.2.2 18 (by decide) (by decide) |>.trans hf.1⟩
end ModelStmt
