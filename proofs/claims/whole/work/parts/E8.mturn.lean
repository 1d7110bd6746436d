/-! ===== the model: a TURN ===== -/
def FTn (w5 w' : Wd) : Prop := Fx [0, 1, 41, 42, 47, 48, 49, 50, 53] w5 w' ∧ ∀ b, (b < 84 ∨ b = 85 ∨ 91 < b) → w' 0 b = w5 0 b
def TnM (D : DE) (c1 : Nat) (F : Nat → PE SS) (act : Nat → Bool) (w5 w' : Wd) (u : Nat) : Prop := FTn w5 w' ∧ (∀ v, v < u → act v = true → (∀ k, k < c1 → w' 41 (8 * v + k) = zo (gT F v) k) ∧ w' 42 v = (if zb (gT F v) = true then 1 else 0) ∧ ∃ σ, F v = .ok σ) ∧ (∀ v, (u ≤ v ∨ act v = false) → (∀ k, k < 8 → w' 41 (8 * v + k) = w5 41 (8 * v + k)) ∧ w' 42 v = w5 42 v) ∧ (∀ o, 47 ≤ o → o ≤ 50 → w' o = ((evT F act u).foldl (evM D) w5) o) ∧ w' 0 84 = ((sumT F act u : Nat) : Int) ∧ sumT F act u ≤ 1000 * u
/-- a block of the program, as the model holds it -/
def BkM (T : Nat → Int) (L m : Nat) (a : Tr) (E : List En) (w : Wd) (s lo : Nat) : Prop := tg a = 21 ∧ WS a ∧ SX (kdT T L) (m + 1) a ∧ SY (kdT T L) a ∧ LD (kdT T L) (m + 1) a ∧ OB (kdT T L) (vlT T L) a 13 (cntE 4 E) ∧ 100000 ≤ jS T L a E ∧ s + nT a ≤ 130 ∧ lo + nE a ≤ 2000 ∧ SR (kdT T L) w a s lo ∧ JS T L w a E s lo
theorem RQ.tr {E : List En} {x y z : PE SS} (h1 : RQ E x y) (h2 : RQ E y z) : RQ E x z := by
  cases x with
  | error e =>
    cases y with
    | ok τ => exact h1.elim
    | error e' =>
      cases z with
      | ok τ => exact h2.elim
      | error e'' => exact (show e = e' from h1).trans (show e' = e'' from h2)
  | ok σ =>
    cases y with
    | error e' => exact h1.elim
    | ok τ =>
      cases z with
      | error e'' => exact h2.elim
      | ok ρ =>
        obtain ⟨a1, a2, a3, a4, a5, a6⟩ := h1
        obtain ⟨b1, b2, b3, b4, b5, b6⟩ := h2
        exact ⟨a1.trans b1, a2.trans b2, fun k hk => (a3 k hk).trans (b3 k hk), fun k hk => (a4 k hk).trans (b4 k hk), a5.trans b5, a6.trans b6⟩
theorem lt4 {i : Nat} (h : i < 4) : ¬ 4 ≤ (i : Int) := by omega
theorem ile {x y : Int} (h : y ≤ 0) (q : 0 < y) : x = 1 := by omega
theorem ilt {y : Int} (h : ¬ y ≤ 0) : 0 < y := by omega
section TurnM
variable {g : Mg} {d : Nat} {T : Nat → Int} {L m : Nat} {n na s lo : Nat} {K : Ou → Wd → Prop} {w5 : Wd} {a : Tr} {E : List En} {D : DE} {F : Nat → PE SS} {act : Nat → Bool} {Xf : Nat → Xv}
theorem evMf_cg : ∀ (l : List (Nat × Nat × Int)) {w w' : Wd}, (∀ o, 47 ≤ o → o ≤ 50 → w o = w' o) → ∀ o, 47 ≤ o → o ≤ 50 → l.foldl (evM D) w o = l.foldl (evM D) w' o
  | [], _, _, h => h
  | e :: l, _, _, h => evMf_cg l (evM_cg e h)
theorem FTn.tr {a b c : Wd} (h1 : FTn a b) (h2 : FTn b c) : FTn a c := ⟨h1.1.tr h2.1, fun x p => (h2.2 x p).trans (h1.2 x p)⟩
theorem XMd.cgx {X : Xv} {v : Nat} {w w' : Wd} (h : XMd T L m X D w v na) (hc : ∀ o, ((3 ≤ o ∧ o ≤ 7) ∨ (10 ≤ o ∧ o ≤ 16) ∨ (38 ≤ o ∧ o ≤ 40) ∨ (43 ≤ o ∧ o ≤ 46)) → w' o = w o) (h0 : ∀ b, (b = 20 ∨ b = 86 ∨ b = 66 ∨ b = 65 ∨ b = 59 ∨ b = 60) → w' 0 b = w 0 b) : XMd T L m X D w' v na := by
  obtain ⟨h1, h2, h3, h4, h5, h6, h7, h8, h9, h10, h11, h12, h13, h14, h15, h16, h17, h18⟩ := h
  refine ⟨h1.cg (fun o p r => hc o (by omega)), h2.cg (h0 20 (by decide)) (fun o p r => hc o (by omega)), h3, by rw [h0 86 (by decide)]; exact h4, h5, h6, by rw [h0 66 (by decide)]; exact h7, by rw [h0 65 (by decide)]; exact h8, by rw [h0 59 (by decide)]; exact h9, by rw [h0 60 (by decide)]; exact h10, h11, h12, ?_, h14, h15, ?_, ?_, ?_⟩
  · rw [hc 38 (by decide), hc 39 (by decide), hc 40 (by decide)]; exact h13
  · rw [hc 43 (by decide)]; exact h16
  · rw [hc 43 (by decide), hc 44 (by decide)]; exact h17
  · rw [hc 45 (by decide), hc 46 (by decide)]; exact h18
/-- as a node's work begins -/
abbrev wkM (w : Wd) (v : Nat) : Wd := up (up (up (up (up w 42 v 0) 0 86 (v : Int)) 0 87 0) 0 88 0) 0 89 0
theorem wkM_o {w : Wd} {v o : Nat} (h0 : o ≠ 0) (h1 : o ≠ 42) : wkM w v o = w o := by unfold wkM; rw [up_o h0, up_o h0, up_o h0, up_o h0, up_o h1]
theorem wkM_b {w : Wd} {v b : Nat} (h : b < 86 ∨ 89 < b) : wkM w v 0 b = w 0 b := by unfold wkM; rw [up_k (by omega), up_k (by omega), up_k (by omega), up_k (by omega), up_o (by decide)]
theorem mturn_loop (hL : L ≤ 4000) (hd : nE a + 40 ≤ d) (hn : n ≤ 40) (h59 : w5 0 59 = (n : Int)) (hX : ∀ v : Nat, v < n → XMd T L m (Xf v) D (up w5 0 86 (v : Int)) v na) (hXb : ∀ v, v < n → ∀ i, i < na → (0 ≤ Xf v 5 i ∧ Xf v 5 i < 40) ∧ (0 ≤ Xf v 6 i ∧ Xf v 6 i < 40)) (hB : BkM T L m a E w5 s lo) (hbk : if w5 0 66 = 0 then w5 0 41 = bf_ a s else w5 0 42 = bf_ a s) (hE : EV E) (hF : NFs D E) (hc4 : cntE 4 E = 0) (hc1 : cntE 1 E ≤ 8) (hTy : ∀ v, v < n → TyX E (fun k => w5 41 (8 * v + k)) (fun _ => 0) (Xf v)) (hact : ∀ v, v < n → act v = decide (w5 42 v = 0 ∨ wkB (w5 43) v)) (hFv : ∀ v, v < n → ∀ lets, RQ E (rns T L (Xf v) true a E 0 (0, 0, (fun k => w5 41 (8 * v + k)), lets, [], false)) (F v))
    (hend : ∀ w', TnM D (cntE 1 E) F act w5 w' n → (¬ w' 0 78 = 6 → V g LM jMd_oneTurn (d + 1) K 296 [(0, vA 0)] [] w') ∧ (w' 0 78 = 6 → V g LM jMd_oneTurn (d + 1) K 257 [(0, vA 0), (1, vI 0)] [] w'))
    (her : ∀ v e w', v < n → act v = true → F v = .error e → (∀ u, u < v → act u = true → ∃ σ, F u = .ok σ) → FTn w5 w' → ∀ w3, BrI 52 0 (up (up (up (up w' 0 80 (e.1 : Int)) 0 81 (v : Int)) 0 82 (e.2 : Int)) 0 83 (w5 0 66)) w3 320 40 160 4 → K (.inl (some (vI 0))) w3) : ∀ (f u : Nat) (w' : Wd), u + f = n → TnM D (cntE 1 E) F act w5 w' u → V g LM jMd_oneTurn (d + 1) K 72 [(0, vA 0), (1, vI (u : Int))] [] w' := by
  obtain ⟨b1, b2, b3, b4, b5, b6, b7, b8, b9, b10, b11⟩ := hB
  intro f
  induction f with
  | zero =>
    intro u w' hu hT
    have : u = n := by omega
    subst this
    have e59 : w' 0 59 = (u : Int) := by rw [hT.1.2 59 (by decide)]; exact h59
    exact s_Md_oneTurn_72 ⟨fun _ => hend w' hT, fun z => absurd (by rw [e59]; exact Int.le_refl _) z⟩
  | succ f ih =>
    intro u w' hu hT
    obtain ⟨t1, t2, t3, t4, t5, t6⟩ := id hT
    have e59 : w' 0 59 = (n : Int) := by rw [t1.2 59 (by decide)]; exact h59
    have hu40 : u < 40 := by omega
    have hbu : (0 : Int) ≤ (u : Int) ∧ (u : Int) < 40 := by omega
    have e43 : w' 43 = w5 43 := t1.1 43 (by decide)
    have e42 : w' 42 u = w5 42 u := (t3 u (Or.inl (Nat.le_refl _))).2
    have nxt : ∀ w2, TnM D (cntE 1 E) F act w5 w2 (u + 1) → V g LM jMd_oneTurn (d + 1) K 193 [(0, vA 0), (1, vI (u : Int))] [] w2 := by
      intro w2 h2
      refine s_Md_oneTurn_193 ?_
      rw [wr_n1 (by omega)]
      exact ih (u + 1) w2 (by omega) h2
    have skip : act u = false → V g LM jMd_oneTurn (d + 1) K 193 [(0, vA 0), (1, vI (u : Int))] [] w' := by
      intro ha
      have hsum : sumT F act (u + 1) = sumT F act u := by rw [sumT, if_neg (by rw [ha]; decide)]; rfl
      have hev : evT F act (u + 1) = evT F act u := by rw [evT, if_neg (by rw [ha]; decide), List.append_nil]
      refine nxt w' ⟨t1, fun v hv hav => t2 v ?_ hav, fun v hv => t3 v ?_, fun o p q => by rw [hev]; exact t4 o p q, by rw [hsum]; exact t5, by rw [hsum]; exact sum_l0 t6⟩
      · by_cases hvu : v = u
        · subst hvu; rw [ha] at hav; cases hav
        · omega
      · rcases hv with z | z
        · exact Or.inl (by omega)
        · exact Or.inr z
    have work : act u = true → V g LM jMd_oneTurn (d + 1) K 131 [(0, vA 0), (1, vI (u : Int))] [] w' := by
      intro ha
      have hX1 : XMd T L m (Xf u) D (wkM w' u) u na := (hX u (by omega)).cgx (fun o ho => by rw [wkM_o (by omega) (by omega), up_o (by omega)]; exact t1.1 o (by simp; omega)) (fun b hb => by
        by_cases z : b = 86
        · subst z; unfold wkM; rw [up_k (by decide), up_k (by decide), up_k (by decide), up_s, up_s]
        · rw [wkM_b (by omega), up_k z]; exact t1.2 b (by omega))
      have hM0 : MW0 T L m (Xf u) D u na (wkM w' u) := ⟨hL, hX1, hXb u (by omega)⟩
      have hcell : ∀ o, 17 ≤ o → o ≤ 33 → wkM w' u o = w5 o := fun o p q => by rw [wkM_o (by omega) (by omega)]; exact t1.1 o (by simp; omega)
      have hSR : SR (kdT T L) (wkM w' u) a s lo := SR.cgA a s lo b2 b10 (fun x _ _ o p q => by rw [hcell o (by omega) (by omega)]) (fun x _ _ o p q => by rw [hcell o (by omega) (by omega)])
      have hJS : JS T L (wkM w' u) a E s lo := JS.congr a E s lo b2 b11 (fun x p q => by rw [hcell 24 (by decide) (by decide)]) (fun x p q => ⟨by rw [hcell 32 (by decide) (by decide)], by rw [hcell 33 (by decide) (by decide)]⟩)
      have hgo := sp_goBlock (g := g) (d := d) hM0 b1 b2 b3 b4 b5 b6 b7 hE hF b8 b9 (by omega) hSR hJS
      have hown : ∀ k, k < cntE 1 E → wkM w' u 41 (8 * u + k) = w5 41 (8 * u + k) := fun k hk => by rw [wkM_o (by decide) (by decide)]; exact (t3 u (Or.inl (Nat.le_refl _))).1 k (by omega)
      have hSQ : SQ E (0, 0, (fun k => wkM w' u 41 (8 * u + k)), (fun k => wkM w' u 53 k), [], false) (0, 0, (fun k => w5 41 (8 * u + k)), (fun k => wkM w' u 53 k), [], false) := ⟨rfl, rfl, hown, fun _ _ => rfl, rfl, rfl⟩
      have hrq0 : RQ E (rns T L (Xf u) true a E 0 (0, 0, (fun k => wkM w' u 41 (8 * u + k)), (fun k => wkM w' u 53 k), [], false)) (rns T L (Xf u) true a E 0 (0, 0, (fun k => w5 41 (8 * u + k)), (fun k => wkM w' u 53 k), [], false)) := by
        have := rns_cg (T := T) (L := L) (X := Xf u) a true E 0 _ _ hE.2.2 hSQ
        rw [eSt_n12 (by rw [b1]; decide)] at this
        exact this
      have hrq := hrq0.tr (hFv u (by omega) (fun k => wkM w' u 53 k))
      have hRM : RM D u (wkM w' u) (wkM w' u) (0, 0, (fun k => wkM w' u 41 (8 * u + k)), (fun k => wkM w' u 53 k), [], false) := ⟨FMw.rf, ⟨fun _ _ => rfl, fun _ _ => rfl⟩, by unfold wkM; rw [up_k (by decide), up_k (by decide), up_s]; rfl, by unfold wkM; rw [up_k (by decide), up_s]; rfl, by unfold wkM; rw [up_s]; rfl, rfl, fun _ _ _ => rfl⟩
      have hTy1 : TyX E (fun k => wkM w' u 41 (8 * u + k)) (fun k => wkM w' u 53 k) (Xf u) := by
        intro e he hk
        obtain ⟨y1, y2, y3, y4⟩ := hTy u (by omega) e he hk
        have hl := num_lt hE.2.2 he
        refine ⟨fun z => ?_, fun z => ?_, y3, y4⟩
        · rw [z] at hl
          have this : b01 (w5 41 (8 * u + e.2.2.1)) := y1 z
          rw [← hown _ hl] at this
          exact this
        · rw [z, hc4] at hl; omega
      have hfr : ∀ w2, FMw u (wkM w' u) w2 → FTn w5 w2 := fun w2 fm => t1.tr ⟨((((((Fx.rf _ w').up (by decide)).up (by decide)).up (by decide)).up (by decide)).up (by decide)).tr fm.1, fun b hb => by rw [fm.2.1 b (by omega), wkM_b (by omega)]⟩
      have main : V g LM jMd_oneTurn (d + 1) K 177 [(0, vA 0), (1, vI (u : Int))] [vI (bf_ a s), vA 0] (wkM w' u) := by
        refine s_Md_oneTurn_177 (hgo _ (wkM w' u) _ 0 hRM (Nat.zero_le _) (Nat.le_refl _) hTy1 (fun σ' w2 hσ z1 z2 R2 => ?_) (fun e he w2 f2 q1 q2 => ⟨rfl, ?_⟩))
        · rw [hσ] at hrq
          cases hFu : F u with
          | error e => rw [hFu] at hrq; exact hrq.elim
          | ok τ =>
            rw [hFu] at hrq
            obtain ⟨s1, s2, s3, s4, s5, s6⟩ := hrq
            obtain ⟨r1, r2, r3, r4, r5, r6, r7⟩ := R2
            have hg : gT F u = τ := gT_ok hFu
            have hsum : sumT F act (u + 1) = sumT F act u + zs τ := by rw [sumT, if_pos ha, hg]
            have hev : evT F act (u + 1) = evT F act u ++ ze τ := by rw [evT, if_pos ha, hg]
            have hz : zs τ ≤ 1000 := by rw [← s1]; exact z1
            have h84 : w2 0 84 = ((sumT F act u : Nat) : Int) := by rw [r1.2.1 84 (by decide), wkM_b (by decide)]; exact t5
            have hw : wr (w2 0 84 + w2 0 87) = ((sumT F act u + zs τ : Nat) : Int) := by
              rw [h84, r3, s1]
              exact sum_wr t6 (by omega) hz
            rw [hw, ← hsum]
            have u0 : ∀ o, o ≠ 0 → up w2 0 84 ((sumT F act (u + 1) : Nat) : Int) o = w2 o := fun o ho => up_o ho
            have w41 : ∀ x, (x < 8 * u ∨ 8 * u + 8 ≤ x) → w2 41 x = w' 41 x := fun x hx => by rw [r1.2.2.1 x hx, wkM_o (by decide) (by decide)]
            have w42 : ∀ x, x ≠ u → w2 42 x = w' 42 x := fun x hx => by rw [r1.2.2.2 x hx]; unfold wkM; rw [up_o (by decide), up_o (by decide), up_o (by decide), up_o (by decide), up_k hx]
            refine nxt _ ⟨?_, fun v hv hav => ?_, fun v hv => ?_, fun o p q => ?_, up_s _ _ _ _, by rw [hsum]; exact sum_le t6 hz⟩
            · exact (hfr w2 r1).tr ⟨(Fx.rf _ w2).up (by decide), fun b hb => up_k (by omega)⟩
            · rw [u0 41 (by decide), u0 42 (by decide)]
              by_cases hvu : v = u
              · subst hvu
                rw [hg]
                refine ⟨fun k hk => by rw [r2.1 k (by omega)]; exact s3 k hk, ?_, ⟨τ, hFu⟩⟩
                rw [r6, s6]
                split
                · rfl
                · unfold wkM; rw [up_o (by decide), up_o (by decide), up_o (by decide), up_o (by decide), up_s]
              · obtain ⟨y1, y2, y3⟩ := t2 v (by omega) hav
                exact ⟨fun k hk => by rw [w41 (8 * v + k) (by omega)]; exact y1 k hk, by rw [w42 v hvu]; exact y2, y3⟩
            · have hvu : v ≠ u := by
                intro z
                subst z
                rcases hv with z | z
                · omega
                · rw [ha] at z; cases z
              obtain ⟨y1, y2⟩ := t3 v (by rcases hv with z | z; exact Or.inl (by omega); exact Or.inr z)
              rw [u0 41 (by decide), u0 42 (by decide)]
              exact ⟨fun k hk => by rw [w41 (8 * v + k) (by omega)]; exact y1 k hk, by rw [w42 v hvu]; exact y2⟩
            · rw [u0 o (by omega), r7 o p q, s5, hev, List.foldl_append]
              exact evMf_cg (ze τ) (fun o p q => by rw [wkM_o (by omega) (by omega)]; exact t4 o p q) o p q
        · rw [he] at hrq
          cases hFu : F u with
          | ok τ => rw [hFu] at hrq; exact hrq.elim
          | error e' =>
            rw [hFu] at hrq
            have hrq : e = e' := hrq
            subst hrq
            have ft := hfr w2 f2
            refine s_Md_oneTurn_202 (sp_bringM (p := 0) (by decide) (fun w3 hB3 => ?_))
            have e86 : w2 0 86 = (u : Int) := by rw [f2.2.1 86 (by decide)]; unfold wkM; rw [up_k (by decide), up_k (by decide), up_k (by decide), up_s]
            rw [q1, q2, e86, ft.2 66 (by decide)] at hB3
            exact her u e w2 (by omega) ha hFu (fun v hv hav => (t2 v hv hav).2.2) ft w3 hB3
      refine s_Md_oneTurn_131 ⟨hbu, ?_⟩
      rw [toN u, t1.2 66 (by decide), t1.2 41 (by decide), t1.2 42 (by decide)]
      by_cases hz : w5 0 66 = 0
      · rw [if_pos hz] at hbk
        refine ⟨fun z => absurd hz z, fun _ => ?_⟩
        rw [hbk]; exact main
      · rw [if_neg hz] at hbk
        refine ⟨fun _ => ?_, fun z => absurd z hz⟩
        rw [hbk]; exact main
    -- whether it is awake
    have fin : ∀ x2 : Int, (x2 = (if wkB (w5 43) u then 1 else 0)) → V g LM jMd_oneTurn (d + 1) K 84 [(0, vA 0), (1, vI (u : Int)), (2, vI x2), (3, vI 4)] [] w' := by
      intro x2 hx2
      have hau := hact u (by omega)
      refine s_Md_oneTurn_84 ⟨fun _ => ⟨hbu, fun z => work ?_, fun z => ⟨fun y => skip ?_, fun y => work ?_⟩⟩, fun z => absurd (by decide) z⟩
      · rw [toN, e42] at z
        rw [hau]; exact decide_eq_true (Or.inl z)
      · rw [toN, e42] at z
        rw [hau]
        refine decide_eq_false (fun q => ?_)
        rcases q with q | q
        · exact z q
        · rw [if_pos q, y] at hx2; exact absurd hx2 (by decide)
      · rw [hau]
        refine decide_eq_true (Or.inr ?_)
        by_cases q : wkB (w5 43) u
        · exact q
        · rw [if_neg q] at hx2; exact absurd hx2 y
    have one : ∀ (i : Nat) (x2 : Int), i < 4 → (x2 = 0 ∨ x2 = 1) → (∀ y2 : Int, (y2 = 0 ∨ y2 = 1) → (y2 = 1 ↔ (x2 = 1 ∨ 0 < w5 43 (4 * u + i))) → V g LM jMd_oneTurn (d + 1) K 84 [(0, vA 0), (1, vI (u : Int)), (2, vI y2), (3, vI ((i + 1 : Nat) : Int))] [] w') → V g LM jMd_oneTurn (d + 1) K 84 [(0, vA 0), (1, vI (u : Int)), (2, vI x2), (3, vI (i : Int))] [] w' := by
      intro i x2 hi hx hgo
      have hw := wr_n1 (i := i) (by omega)
      refine s_Md_oneTurn_84 ⟨fun z => absurd z (lt4 hi), fun _ => ⟨fun z => s_Md_oneTurn_106 (s_Md_oneTurn_111 ?_), fun z => ?_⟩⟩
      · rw [hw]
        have hx1 : x2 = 1 := by
          rcases hx with q | q
          · exact absurd q z
          · exact q
        exact hgo 1 (Or.inr rfl) ⟨fun _ => Or.inl hx1, fun _ => rfl⟩
      · rw [ix4' hu40 hi, toN (4 * u + i), e43]
        refine ⟨ib4 hu40 hi, fun y => s_Md_oneTurn_111 ?_, fun y => s_Md_oneTurn_106 (s_Md_oneTurn_111 ?_)⟩
        · rw [hw]
          exact hgo 0 (Or.inl rfl) ⟨fun q => absurd q (by decide), fun q => by
            rcases q with q | q
            · rw [z] at q; exact absurd q (by decide)
            · exact ile y q⟩
        · rw [hw]
          exact hgo 1 (Or.inr rfl) ⟨fun _ => Or.inr (ilt y), fun _ => rfl⟩
    refine s_Md_oneTurn_72 ⟨fun z => absurd z (by rw [e59]; omega), fun _ => ?_⟩
    refine one 0 0 (by decide) (Or.inl rfl) (fun y0 h0 i0 => one 1 y0 (by decide) h0 (fun y1 h1 i1 => one 2 y1 (by decide) h1 (fun y2 h2 i2 => one 3 y2 (by decide) h2 (fun y3 h3 i3 => fin y3 ?_))))
    clear work skip nxt ih one fin
    have e0 : w5 43 (4 * u + 0) = w5 43 (4 * u) := rfl
    rw [e0] at i0
    by_cases q : wkB (w5 43) u
    · rw [if_pos q, i3, i2, i1, i0]
      rcases q with q | q | q | q
      · exact Or.inl (Or.inl (Or.inl (Or.inr q)))
      · exact Or.inl (Or.inl (Or.inr q))
      · exact Or.inl (Or.inr q)
      · exact Or.inr q
    · rw [if_neg q]
      rcases h3 with z | z
      · exact z
      · exfalso
        rw [i3, i2, i1, i0] at z
        rcases z with ((( z | z) | z) | z) | z
        · exact absurd z (by decide)
        · exact q (Or.inl z)
        · exact q (Or.inr (Or.inl z))
        · exact q (Or.inr (Or.inr (Or.inl z)))
        · exact q (Or.inr (Or.inr (Or.inr z)))
end TurnM
