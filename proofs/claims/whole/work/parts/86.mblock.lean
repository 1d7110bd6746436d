/-! ===== the model reads a statement, a block ===== -/
section ModelBlock
variable {g : Mg} {d D : Nat} {K : Ou → Wd → Prop} {w w' : Wd} {T : Nat → Int} {L m dep c n l : Nat}
theorem sp_beginsSM {i : Nat} (hD : 6 ≤ D) (hM : TxM T L m w) (hat : w 0 11 = (i : Int)) (hi : i ≤ m) (h : K (.inl (some (vI (if bgS (kdT T L i) then 1 else 0)))) w) : Cal g LM jMd_beginsStatement D [vA 0] w K := by
  obtain ⟨d, rfl⟩ : ∃ d, D = d + 1 := ⟨D - 1, by omega⟩
  have hm4 := hM.2.1
  have hy : bgS (kdT T L i) → K (.inl (some (vI 1))) w := fun z => by rw [if_pos z] at h; exact h
  have hn : ¬ bgS (kdT T L i) → K (.inl (some (vI 0))) w := fun z => by rw [if_neg z] at h; exact h
  obtain ⟨k2, -⟩ := mk_name hM hi
  refine Cal.ofV (by decide) rfl (Nat.le_of_ble_eq_true rfl) (s_Md_beginsStatement ?_)
  rw [hat, toN]
  refine ⟨by omega, fun z => hy (by have := k2.mp z; omega), fun z0 => sp_isM (c := 43) (by omega) hM hat hi (by decide) (by decide) ⟨fun z => hy (by have := isv.mp z; omega), fun q1 => sp_isM (c := 44) (by omega) hM hat hi (by decide) (by decide) ⟨fun z => hy (by have := isv.mp z; omega), fun q2 => sp_isM (c := 47) (by omega) hM hat hi (by decide) (by decide) ⟨fun z => hy (by have := isv.mp z; omega), fun q3 => sp_isM (c := 48) (by omega) hM hat hi (by decide) (by decide) ⟨fun z => hy (by have := isv.mp z; omega), fun q4 => sp_isM (c := 50) (by omega) hM hat hi (by decide) (by decide) ⟨fun z => hy (by have := isv.mp z; omega), fun q5 => sp_isM (c := 51) (by omega) hM hat hi (by decide) (by decide) ⟨fun q6 => hn (fun y => ?_), fun z => hy (by have := isv.mp z; omega)⟩⟩⟩⟩⟩⟩⟩
  simp only [isv0] at q1 q2 q3 q4 q5 q6
  have : ¬ kdT T L i = 2 := fun q => z0 (k2.mpr q)
  omega
/-- a new row -/
def rwW (w : Wd) (c i : Nat) : Wd := up (up (up (up (up (up (up (up w 0 31 ((c + 1 : Nat) : Int)) 18 c (i : Int)) 23 c (-2)) 21 c (-2)) 22 c (-2)) 20 c (-2)) 19 c (-2)) 24 c (-2)
theorem rwW_bs {i : Nat} (hM : TxM T L m w) : Bs T L m w (rwW w c i) c n (fun o => rwW w c i o c) := by
  have hF : FMs w (rwW w c i) := by
    refine ⟨(((((((((Fx.rf _ w).up (by decide)).up (by decide)).up (by decide)).up (by decide)).up (by decide)).up (by decide)).up (by decide)).up (by decide)), fun b _ h31 _ _ _ => ?_⟩
    simp [rwW, up, h31]
  refine ⟨hF, fun x hx o p q => ?_, fun x hx o p q => ?_, hM.fs hF, fun _ _ _ => rfl⟩
  · have hne : x ≠ c := by omega
    have ho : o ≠ 0 := by omega
    simp [rwW, up, hne, ho]
  · unfold rwW
    rw [up_o (by omega), up_o (by omega), up_o (by omega), up_o (by omega), up_o (by omega), up_o (by omega), up_o (by omega), up_o (by omega)]
theorem rwW_st {i : Nat} (hS : MSt w i n dep c l) : MSt (rwW w c i) i n dep (c + 1) l := by
  have h : ∀ b, b ≠ 31 → rwW w c i 0 b = w 0 b := fun b hb => by simp [rwW, up, hb]
  exact ⟨⟨by rw [h 11 (by decide)]; exact hS.1.1, by rw [h 40 (by decide)]; exact hS.1.2.1, by rw [h 44 (by decide)]; exact hS.1.2.2⟩, by simp [rwW, up], by rw [h 45 (by decide)]; exact hS.2.2⟩
def SpMS (g : Mg) (D : Nat) (T : Nat → Int) (L m dep nn : Nat) : Prop := ∀ (K : Ou → Wd → Prop) (w : Wd) (i n c l : Nat), TxM T L m w → MSt w i n dep c l → i ≤ m → i ≤ 1000 → n ≤ i → c ≤ 120 → l ≤ 8 → OkS K T L m dep w n c (if bgS (kdT T L i) then pSt (kdT T L) (vlT T L) (pBk (kdT T L) (vlT T L) nn) nn c l i else .error (1, i)) → NoS K T L w (if bgS (kdT T L i) then pSt (kdT T L) (vlT T L) (pBk (kdT T L) (vlT T L) nn) nn c l i else .error (1, i)) → Cal g LM jMd_readStatement D [vA 0] w K
theorem sp_stmtM {nn : Nat} (hd : 100 ≤ d) (hdep : dep + nn = 13) (hb : SpMB g d T L m dep nn) : SpMS g (d + 1) T L m dep nn := by
  intro K w i n c l hM hS him hi10 hni hc hl8 h he
  have hm4 := hM.2.1
  refine Cal.ofV (by decide) rfl (Nat.le_of_ble_eq_true rfl) (s_Md_readStatement (sp_beginsSM (by omega) hM hS.1.1 him ⟨fun z => ?_, fun z => ?_⟩))
  · have hbg := isv.mp z
    rw [if_pos hbg] at h he
    refine s_Md_readStatement_20 ⟨fun hne => ?_, fun h120 => ?_⟩
    · rw [hS.2.1] at hne
      have hc' : c < 120 := by omega
      refine s_Md_readStatement_42 ?_
      rw [hS.2.1, hS.1.1, toN, toN, wr_n1 (by omega)]
      have hbc : (0 : Int) ≤ (c : Int) ∧ (c : Int) < 130 := by omega
      have hbi : (0 : Int) ≤ (i : Int) ∧ (i : Int) < 4022 := by omega
      have hBr := rwW_bs (T := T) (L := L) (m := m) (w := w) (c := c) (n := n) (i := i) hM
      have hSr := rwW_st (c := c) hS
      have hMr := hBr.2.2.2.1
      have hv : ∀ k : Int, upv (fun o => rwW w c i o c) 17 k 18 = (i : Int) ∧ upv (fun o => rwW w c i o c) 17 k 23 = -2 ∧ upv (fun o => rwW w c i o c) 17 k 17 = k ∧ upv (fun o => rwW w c i o c) 17 k 22 = -2 := by
        intro k
        refine ⟨?_, ?_, ?_, ?_⟩ <;> simp [upv, rwW, up]
      obtain ⟨k2, -⟩ := mk_name hM him
      have hps : ∀ P, pSt (kdT T L) (vlT T L) (pBk (kdT T L) (vlT T L) nn) nn c l i = P → OkS K T L m dep w n c P ∧ NoS K T L w P := fun P hP => by subst hP; exact ⟨h, he⟩
      have hun : pSt (kdT T L) (vlT T L) (pBk (kdT T L) (vlT T L) nn) nn c l i = if kdT T L i = 2 then pSet (kdT T L) nn (c + 1) l i else if kdT T L i = 43 then pLet (kdT T L) nn (c + 1) l i else if kdT T L i = 44 then pSend (kdT T L) nn (c + 1) l i else if kdT T L i = 47 then pGive (kdT T L) nn (c + 1) l i else if kdT T L i = 48 then pIf (kdT T L) (pBk (kdT T L) (vlT T L) nn) nn (c + 1) l i else if kdT T L i = 50 then pLoop (kdT T L) (vlT T L) (pBk (kdT T L) (vlT T L) nn) (c + 1) l i else pHalt (kdT T L) (c + 1) l i := by unfold pSt; rw [if_neg (by omega)]
      refine ⟨hbc, hbc, hbc, hbc, hbc, hbc, hbc, hbi, fun y2 => ?_, fun y2 => ?_⟩
      · have k2' : ¬ kdT T L i = 2 := fun q => y2 (k2.mpr q)
        refine sp_isM (c := 43) (by omega) hMr hSr.1.1 him (by decide) (by decide) ⟨fun z43 => ?_, fun z43 => ⟨hbc, ?_⟩⟩
        · have y43 := isv0.mp z43
          refine sp_isM (c := 44) (by omega) hMr hSr.1.1 him (by decide) (by decide) ⟨fun z44 => ?_, fun z44 => ⟨hbc, ?_⟩⟩
          · have y44 := isv0.mp z44
            refine sp_isM (c := 47) (by omega) hMr hSr.1.1 him (by decide) (by decide) ⟨fun z47 => ?_, fun z47 => ⟨hbc, ?_⟩⟩
            · have y47 := isv0.mp z47
              refine sp_isM (c := 48) (by omega) hMr hSr.1.1 him (by decide) (by decide) ⟨fun z48 => ?_, fun z48 => ⟨hbc, ?_⟩⟩
              · have y48 := isv0.mp z48
                refine sp_isM (c := 50) (by omega) hMr hSr.1.1 him (by decide) (by decide) ⟨fun z50 => ⟨hbc, ?_⟩, fun z50 => ⟨hbc, ?_⟩⟩
                · have y50 := isv0.mp z50
                  have hk : kdT T L i = 51 := by omega
                  obtain ⟨h1, h2⟩ := hps _ (by rw [hun, if_neg k2', if_neg y43, if_neg y44, if_neg y47, if_neg y48, if_neg y50])
                  exact st_haltM hd (hBr.ro (o := 17) (v := 6) (by decide)) ⟨(hv 6).1, (hv 6).2.1, (hv 6).2.2.1⟩ (hSr.row (by decide)) him hi10 hk rfl h1 h2
                · have hk := isv.mp z50
                  obtain ⟨h1, h2⟩ := hps _ (by rw [hun, if_neg k2', if_neg y43, if_neg y44, if_neg y47, if_neg y48, if_pos hk])
                  exact st_loopM hd hb hc' hl8 (hBr.ro (o := 17) (v := 5) (by decide)) ⟨(hv 5).1, (hv 5).2.1, (hv 5).2.2.1⟩ (hSr.row (by decide)) him hi10 hni hk rfl h1 h2
              · have hk := isv.mp z48
                obtain ⟨h1, h2⟩ := hps _ (by rw [hun, if_neg k2', if_neg y43, if_neg y44, if_neg y47, if_pos hk])
                exact st_ifM hd hdep hb hc' hl8 (hBr.ro (o := 17) (v := 4) (by decide)) (hv 4) (hSr.row (by decide)) him hi10 hni hk rfl h1 h2
            · have hk := isv.mp z47
              obtain ⟨h1, h2⟩ := hps _ (by rw [hun, if_neg k2', if_neg y43, if_neg y44, if_pos hk])
              exact st_giveM hd hdep (by omega) (hBr.ro (o := 17) (v := 3) (by decide)) ⟨(hv 3).1, (hv 3).2.1, (hv 3).2.2.1⟩ (hSr.row (by decide)) him hi10 hni hk rfl h1 h2
          · have hk := isv.mp z44
            obtain ⟨h1, h2⟩ := hps _ (by rw [hun, if_neg k2', if_neg y43, if_pos hk])
            exact st_sendM hd hdep (by omega) (hBr.ro (o := 17) (v := 2) (by decide)) ⟨(hv 2).1, (hv 2).2.1, (hv 2).2.2.1⟩ (hSr.row (by decide)) him hi10 hni hk rfl h1 h2
        · have hk := isv.mp z43
          obtain ⟨h1, h2⟩ := hps _ (by rw [hun, if_neg k2', if_pos hk])
          exact st_letM hd hdep (by omega) hl8 (hBr.ro (o := 17) (v := 1) (by decide)) ⟨(hv 1).1, (hv 1).2.1, (hv 1).2.2.1⟩ (hSr.row (by decide)) him hi10 hni hk rfl h1 h2
      · have hk := k2.mp y2
        obtain ⟨h1, h2⟩ := hps _ (by rw [hun, if_pos hk])
        refine ⟨hbc, ?_⟩
        exact st_setM hd hdep (by omega) (hBr.ro (o := 17) (v := 0) (by decide)) ⟨(hv 0).1, (hv 0).2.1, (hv 0).2.2.1⟩ (hSr.row (by decide)) him hi10 hni hk rfl h1 h2
    · rw [hS.2.1] at h120
      rw [hS.1.1]
      exact sp_placeM hM him (sp_fail (f := 2) (he (thW T L w (2, i)) (2, i) (by unfold pSt; rw [if_pos (by omega)]) (FMs.x FMx.th) (thW_er T L w (2, i))))
  · have hbg := isv0.mp z
    rw [if_neg hbg] at he
    rw [hS.1.1]
    exact sp_placeM hM him (sp_fail (f := 1) (he (thW T L w (1, i)) (1, i) rfl (FMs.x FMx.th) (thW_er T L w (1, i))))
theorem pSt_l8 {kd : Nat → Nat} {vl : Nat → Int} {blk : Nat → Nat → Nat → PE (Tr × Nat × Nat)} {mm c l i : Nat} {r : Q4} (hl : l ≤ 8) (h : pSt kd vl blk mm c l i = .ok r) : r.2.2.2 ≤ 8 := by
  unfold pSt at h
  split at h
  · cases h
  split at h
  · obtain ⟨q, -, rfl, -⟩ := pSet_ok h; exact hl
  split at h
  · obtain ⟨q, -, rfl, -, -, -, -, -, -, h8⟩ := pLet_ok h; show l + 1 ≤ 8; omega
  split at h
  · obtain ⟨q, -, rfl, -⟩ := pSend_ok h; exact hl
  split at h
  · obtain ⟨q, -, rfl, -⟩ := pGive_ok h; exact hl
  split at h
  · obtain ⟨q, b1, -, -, -, -, -, hr⟩ := pIf_ok h
    rcases hr with ⟨-, b2, -, rfl, -⟩ | ⟨-, rfl⟩
    · exact hl
    · exact hl
  split at h
  · obtain ⟨b1, -, rfl, -⟩ := pLoop_ok h; exact hl
  · obtain ⟨rfl, -⟩ := pHalt_ok h; exact hl
def LoN (w w' : Wd) (c : Nat) (last : Int) : Prop := ∀ x, x < c → ∀ o, 17 ≤ o → o ≤ 25 → ¬ (o = 23 ∧ (x : Int) = last) → w' o x = w o x
theorem blk_loopM {nn l0 : Nat} (hd : 10 ≤ d) (hs : SpMS g d T L m (dep + 1) nn) (hdep : dep ≤ 100) :
    ∀ (f : Nat) (w : Wd) (i n c l : Nat) (first last : Int), 121 ≤ c + f → c ≤ 120 → TxM T L m w → MSt w i n (dep + 1) c l → i ≤ m → i ≤ 1000 → n ≤ i → l ≤ 8 → ((last = -2 ∧ first = -2) ∨ ∃ ls : Nat, last = (ls : Int) ∧ ls < c ∧ w 23 ls = -2) → (∀ w2 z j, pSL (kdT T L) (pSt (kdT T L) (vlT T L) (pBk (kdT T L) (vlT T L) nn) nn) f c l i = .ok z → ex (kdT T L) 6 z.2.1 = .ok j → FMs w w2 → MSt w2 j (n + nE z.1) dep z.2.2 l0 → j ≤ m → SR (kdT T L) w2 z.1 c n → (∀ ls : Nat, last = (ls : Int) → w2 23 ls = nx_ z.1 c) → LoX w w2 n → LoN w w2 c last → K (.inl (some (vI (if last < 0 then nx_ z.1 c else first)))) w2) → (∀ w2 e, bnd (pSL (kdT T L) (pSt (kdT T L) (vlT T L) (pBk (kdT T L) (vlT T L) nn) nn) f c l i) (fun z => ex (kdT T L) 6 z.2.1) = .error e → FMs w w2 → ErM T L w2 e → K (.inr 1) w2) → V g LM jMd_readBlock (d + 1) K 71 [(0, vA 0), (2, vI (l0 : Int)), (3, vI first), (4, vI last)] [] w := by
  intro f
  induction f with
  | zero => intro w i n c l first last hcf hc; omega
  | succ f ih =>
    intro w i n c l first last hcf hc hM hS him hi10 hni hl8 hla h he
    refine s_Md_readBlock_71 (sp_isM (c := 6) (by omega) hM hS.1.1 him (by decide) (by decide) ⟨fun z => ?_, fun z => ?_⟩)
    · -- the end
      have hk := isv.mp z
      have hsl : pSL (kdT T L) (pSt (kdT T L) (vlT T L) (pBk (kdT T L) (vlT T L) nn) nn) (f + 1) c l i = .ok (nl, i, c) := by rw [pSL, if_neg (by omega)]
      rw [hsl] at h he
      refine sp_passM (by omega) hM hS.1.1 him hi10 (fun j hj => ?_) (fun e hj => he _ e (by rw [bnd_ok', ← psM_ex hk, hj]) (FMs.x FMx.th) (thW_er T L _ e))
      rw [psM_ex hk] at hj
      obtain ⟨rfl, h9, -⟩ := ex_i hj
      have hS1 := hS.at_ (j := i + 1)
      rw [dep_dn hS1.1.2.2 hdep]
      have hF : FMs w (up (up (up w 0 11 ((i + 1 : Nat) : Int)) 0 45 (l0 : Int)) 0 44 (dep : Int)) := ⟨((((Fx.rf _ w).up (by decide)).up (by decide)).up (by decide)), fun b p q r s t => by rw [up_k s, up_k t, up_k p]⟩
      have h0 : ∀ o x, o ≠ 0 → up (up (up w 0 11 ((i + 1 : Nat) : Int)) 0 45 (l0 : Int)) 0 44 (dep : Int) o x = w o x := fun o x ho => by rw [up_o ho, up_o ho, up_o ho]
      have := h (up (up (up w 0 11 ((i + 1 : Nat) : Int)) 0 45 (l0 : Int)) 0 44 (dep : Int)) (nl, i, c) (i + 1) rfl hj hF ⟨⟨by rw [up_k (by decide), up_k (by decide), up_s], by rw [up_k (by decide), up_k (by decide), up_k (by decide)]; exact hS.1.2.1, up_s _ _ _ _⟩, by rw [up_k (by decide), up_k (by decide), up_k (by decide)]; exact hS.2.1, by rw [up_k (by decide), up_s]⟩ (hM.lt him (by omega)) trivial (fun ls hls => ?_) (fun x _ o p _ => h0 o x (by omega)) (fun x _ o p _ _ => h0 o x (by omega))
      · have e : (if last < 0 then nx_ nl c else first) = first := by
          rcases hla with ⟨rfl, rfl⟩ | ⟨ls, rfl, -, -⟩
          · rfl
          · rw [if_neg (by omega)]
        have this' : K (.inl (some (vI (if last < 0 then nx_ nl c else first)))) (up (up (up w 0 11 ((i + 1 : Nat) : Int)) 0 45 (l0 : Int)) 0 44 (dep : Int)) := this
        rw [e] at this'
        exact this'
      · rcases hla with ⟨z1, -⟩ | ⟨ls', z1, -, z3⟩
        · omega
        · have : ls' = ls := by omega
          subst this
          rw [h0 23 ls' (by decide)]; exact z3
    · -- one more
      have hk6 := isv0.mp z
      refine hs _ w i n c l hM hS him hi10 hni hc hl8 (fun w5 q hq hF5 hS5 hqm hR5 h235 hL5 hO5 => ?_) (fun w5 e hee hF5 hE5 => he w5 e ?_ hF5 hE5)
      · have hbg : bgS (kdT T L i) := by
          by_cases hb : bgS (kdT T L i)
          · exact hb
          · rw [if_neg hb] at hq; cases hq
        rw [if_pos hbg] at hq
        obtain ⟨⟨k1, k2, k3, k4⟩, k5, k6, k7⟩ := pSt_gs (fun c l i q => pBk_gb nn c l i q) hq
        have hg2 := pSt_g2 (fun c l i q => pBk_g3 nn c l i q) (fun c l i q => pBk_gb nn c l i q) hq
        rw [Nat.add_sub_cancel] at hg2
        obtain ⟨g1, g2, g3, g4⟩ := hg2
        have hpos := nT_tag g1 g2
        have hsl : pSL (kdT T L) (pSt (kdT T L) (vlT T L) (pBk (kdT T L) (vlT T L) nn) nn) (f + 1) c l i = bnd (pSL (kdT T L) (pSt (kdT T L) (vlT T L) (pBk (kdT T L) (vlT T L) nn) nn) f q.2.2.1 q.2.2.2 q.2.1) (fun z => .ok (nd 20 0 0 q.1 z.1, z.2.1, z.2.2)) := by rw [pSL, if_pos hbg, hq]; rfl
        rw [hsl] at h he
        -- behind the statement: w6 is w5 with the last one's next set
        have hgo : ∀ (w6 : Wd) (first' : Int), FMs w5 w6 → (∀ (o x : Nat), ¬ (o = 23 ∧ (x : Int) = last) → o ≠ 0 → w6 o x = w5 o x) → w6 0 = w5 0 → (∀ ls : Nat, last = (ls : Int) → w6 23 ls = (c : Int)) → (first' = if last < 0 then (c : Int) else first) → V g LM jMd_readBlock (d + 1) K 71 [(0, vA 0), (2, vI (l0 : Int)), (3, vI first'), (4, vI (c : Int))] [] w6 := by
          intro w6 first' hF6 hsame h00 hnext hfirst
          have hlc : ∀ ls : Nat, last = (ls : Int) → ls < c := fun ls hls => by
            rcases hla with ⟨z1, -⟩ | ⟨ls', z1, z2, -⟩
            · omega
            · omega
          have hx6 : ∀ o x, o ≠ 23 → o ≠ 0 → w6 o x = w5 o x := fun o x ho ho0 => hsame o x (fun z => ho z.1) ho0
          have hS6 : MSt w6 q.2.1 (n + nE q.1) (dep + 1) q.2.2.1 q.2.2.2 := by unfold MSt MS at *; rw [h00]; exact hS5
          have hR6 : SR (kdT T L) w6 q.1 c n := SR.congr q.1 c n c g1 (Or.inr ⟨rfl, g2⟩) hR5 (fun x p1 p2 o p3 p4 p5 => hsame o x (fun z => by have := p5 z.1; have := z.2; rcases hla with ⟨z1, -⟩ | ⟨ls', z1, z2, -⟩ <;> omega) (by omega)) (fun x p1 p2 o p3 p4 => hx6 o x (by omega) (by omega))
          refine ih w6 q.2.1 (n + nE q.1) q.2.2.1 q.2.2.2 first' (c : Int) (by omega) k6 ((hM.fs hF5).fs hF6) hS6 hqm k3 (by omega) (pSt_l8 hl8 hq) (Or.inr ⟨c, rfl, by omega, ?_⟩) (fun w2 z j hz hj hF2 hS2 hjm hR2 hn2 hL2 hO2 => ?_) (fun w2 e hee hF2 hE2 => he w2 e ?_ ((hF5.tr hF6).tr hF2) hE2)
          · rw [hsame 23 c (fun z => by have := z.2; rcases hla with ⟨z1, -⟩ | ⟨ls', z1, z2, -⟩ <;> omega) (by decide)]; exact h235
          · have hpz := pSL_g3 (fun c l i r hr => by
              have h1 := pSt_gs (fun c l i q => pBk_gb nn c l i q) hr
              have h2 := pSt_g2 (fun c l i q => pBk_g3 nn c l i q) (fun c l i q => pBk_gb nn c l i q) hr
              rw [Nat.add_sub_cancel] at h2
              exact ⟨h2, h1.1, h1.2.2.1⟩) f _ _ _ z k3 k6 hz
            have hOc : ∀ x, x < c → ∀ o, 17 ≤ o → o ≤ 25 → w2 o x = w6 o x := fun x hx o p r => hO2 x (by omega) o p r (fun z => by omega)
            have hRq : SR (kdT T L) w2 q.1 c n := SR.congr q.1 c n c g1 (Or.inr ⟨rfl, g2⟩) hR6 (fun x p1 p2 o p3 p4 p5 => hO2 x (by omega) o p3 p4 (fun z => by have := p5 z.1; omega)) (fun x p1 p2 o p3 p4 => hL2 x (by omega) o p3 (by omega))
            have := h w2 (nd 20 0 0 q.1 z.1, z.2.1, z.2.2) j (by rw [hz]; rfl) hj ((hF5.tr hF6).tr hF2) (by show MSt w2 j (n + (nE q.1 + nE z.1)) dep z.2.2 l0; rw [← Nat.add_assoc]; exact hS2) hjm (by rw [SR20]; exact ⟨hRq, by rw [← g3]; exact hR2, by rw [← g3]; exact hn2 c rfl⟩) (fun ls hls => ?_) ((hL5.tr (fun x hx o p r => hx6 o x (by omega) (by omega))).tr (hL2.le (by omega))) (fun x hx o p r hno => ?_)
            · rw [if_neg (show ¬ (c : Int) < 0 by omega), hfirst]
              exact this
            · rw [hOc ls (hlc ls hls) 23 (by decide) (by decide)]; exact hnext ls hls
            · rw [hOc x hx o p r, hsame o x hno (by omega)]; exact hO5 x hx o p r
          · rw [hsl] at *
            cases hz : pSL (kdT T L) (pSt (kdT T L) (vlT T L) (pBk (kdT T L) (vlT T L) nn) nn) f q.2.2.1 q.2.2.2 q.2.1 with
            | error e2 => rw [hz] at hee; cases hee; rfl
            | ok z => rw [hz, bnd_ok'] at hee; exact hee
        refine ⟨fun hl0 => ?_, fun hl0 => hgo w5 (c : Int) (FMs.rf w5) (fun _ _ _ _ => rfl) rfl (fun ls hls => by omega) (by rw [if_pos (by omega)])⟩
        rcases hla with ⟨z1, -⟩ | ⟨ls, rfl, z2, z3⟩
        · omega
        · rw [toN]
          refine ⟨by omega, hgo (up w5 23 ls (c : Int)) first ⟨(Fx.rf _ w5).up (by decide), fun b _ _ _ _ _ => by rw [up_o (by decide)]⟩ (fun o x hno h0 => ?_) (up_o (by decide)) (fun ls' hls => ?_) (by rw [if_neg (by omega)])⟩
          · by_cases ho : o = 23
            · subst ho; rw [up_k (by intro z; exact hno ⟨rfl, by rw [z]⟩)]
            · rw [up_o ho]
          · have : ls' = ls := by omega
            subst this
            exact up_s _ _ _ _
      · by_cases hbg : bgS (kdT T L i)
        · rw [if_pos hbg] at hee
          rw [pSL, if_pos hbg, hee]; rfl
        · rw [if_neg hbg] at hee
          cases hee
          rw [pSL, if_neg hbg, bnd_ok']
          unfold ex; rw [if_neg hk6]
theorem sp_blockM : ∀ (nb dep : Nat), dep + nb = 13 → SpMB g (2 * nb + 105) T L m dep nb := by
  intro nb
  induction nb with
  | zero =>
    intro dep hdep K w i n c l hM hS him hi10 hni hc hl8 h he
    refine Cal.ofV (by decide) rfl (Nat.le_of_ble_eq_true rfl) (s_Md_readBlock (sp_isM (c := 5) (by omega) hM hS.1.1 him (by decide) (by decide) ⟨fun z => ⟨fun hle => by rw [hS.1.2.2] at hle; omega, fun _ => ?_⟩, fun z => ?_⟩))
    · rw [hS.1.1]
      exact sp_placeM hM him (sp_fail (f := 2) (he (thW T L w (2, i)) (2, i) (by rw [pBk, if_pos (isv.mp z)]) (FMs.x FMx.th) (thW_er T L w (2, i))))
    · rw [hS.1.1]
      exact sp_placeM hM him (sp_fail (f := 1) (he (thW T L w (1, i)) (1, i) (by rw [pBk, if_neg (isv0.mp z)]) (FMs.x FMx.th) (thW_er T L w (1, i))))
  | succ nb ih =>
    intro dep hdep K w i n c l hM hS him hi10 hni hc hl8 h he
    have hst : SpMS g (2 * nb + 105 + 1) T L m (dep + 1) nb := sp_stmtM (by omega) (by omega) (ih (dep + 1) (by omega))
    rw [pBk] at h he
    refine Cal.ofV (by decide) rfl (Nat.le_of_ble_eq_true rfl) (s_Md_readBlock (d := 2 * nb + 105 + 1) (sp_isM (c := 5) (by omega) hM hS.1.1 him (by decide) (by decide) ⟨fun z => ⟨fun _ => ?_, fun hle => absurd (by rw [hS.1.2.2]; omega) hle⟩, fun z => ?_⟩))
    · have hk := isv.mp z
      refine sp_passM (by omega) hM hS.1.1 him hi10 (fun j hj => ?_) (fun e hj => he _ e (by rw [← psM_ex hk, hj]; rfl) (FMs.x FMx.th) (thW_er T L _ e))
      rw [psM_ex hk] at hj
      obtain ⟨rfl, h9, -⟩ := ex_i hj
      rw [hj, bnd_ok'] at h he
      have hS1 := hS.at_ (j := i + 1)
      rw [dep_up hS1.1.2.2 (by omega), hS1.2.2]
      have hF1 : FMs w (up (up w 0 11 ((i + 1 : Nat) : Int)) 0 44 ((dep + 1 : Nat) : Int)) := FMs.x (FMx.at_.tr FMx.dp)
      have hS2 : MSt (up (up w 0 11 ((i + 1 : Nat) : Int)) 0 44 ((dep + 1 : Nat) : Int)) (i + 1) n (dep + 1) c l := ⟨hS1.1.dp, by rw [up_k (by decide)]; exact hS1.2.1, by rw [up_k (by decide)]; exact hS1.2.2⟩
      have hz0 : ∀ o x, o ≠ 0 → up (up w 0 11 ((i + 1 : Nat) : Int)) 0 44 ((dep + 1 : Nat) : Int) o x = w o x := fun o x ho => by rw [up_o ho, up_o ho]
      refine blk_loopM (by omega) hst (by omega) 121 _ (i + 1) n c l (-2) (-2) (by omega) hc (hM.fs hF1) hS2 (hM.lt him (by omega)) (by omega) (by omega) hl8 (Or.inl ⟨rfl, rfl⟩) (fun w2 zz j hz hj2 hF2 hS3 hjm hR2 _ hL2 hO2 => ?_) (fun w2 e hee hF2 hE2 => he w2 e ?_ (hF1.tr hF2) hE2)
      · have := h w2 (nd 21 i zz.2.1 zz.1 nl, j, zz.2.2) (by rw [hz, bnd_ok', hj2]; rfl) (hF1.tr hF2) hS3 hjm hR2 (fun x hx o p q => (hL2 x hx o p q).trans (hz0 o x (by omega))) (fun x hx o p q => (hO2 x hx o p q (fun y => by omega)).trans (hz0 o x (by omega)))
        exact this
      · cases hz : pSL (kdT T L) (pSt (kdT T L) (vlT T L) (pBk (kdT T L) (vlT T L) nb) nb) 121 c l (i + 1) with
        | error e2 => rw [hz] at hee; cases hee; rfl
        | ok zz => rw [hz, bnd_ok'] at hee; rw [bnd_ok', hee]; rfl
    · rw [hS.1.1]
      exact sp_placeM hM him (sp_fail (f := 1) (he (thW T L w (1, i)) (1, i) (by unfold ex; rw [if_neg (isv0.mp z)]; rfl) (FMs.x FMx.th) (thW_er T L w (1, i))))
end ModelBlock
