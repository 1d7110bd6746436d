/-! ===== the model prints any exp ===== -/
section ModelShowX2
variable {g : Mg} {d D : Nat} {T : Nat → Int} {L m : Nat}
theorem AR.fp {kd : Nat → Nat} {w w' : Wd} {a : Tr} {lo : Nat} (ha : AR kd w a lo) (hf : FPm w w') : AR kd w' a lo := AR.congr a lo ha (fun x _ _ o p q _ => by rw [hf.1 o (by simp; omega)])
theorem wb_of {a : Tr} {lo : Nat} (hA : SpWA g (d + 1) T L m a lo) (hA' : ∀ t q l, a = nd 7 t q l nl → SpWA g d T L m l lo) (hW : WE a) (h9 : M9 a) (hk : tkB (kdT T L) (m + 1) a) (hX : XK (kdT T L) a) (hd : 6 ≤ d) (hlo : lo + nX a ≤ 2000) : SpWB g (d + 1) T L m a lo := by
  intro K w0 w1 PF O r hPF hM hR hs hlk h
  have hp := lnT_pos a hW hk
  by_cases hr : r ≤ lnT (kdT T L) a
  · rw [oS_r hr hp] at hs
    exact hA K w0 w1 PF O r hPF hM hR hs hr h
  · have h7 : tg a = 7 := by
      rcases hlk with z | z
      · exact z
      · exact absurd z hr
    cases a with
    | leaf => exact hW.elim
    | inner c t q l rr =>
      have : c = 7 := h7
      subst this
      have hW' := hW
      simp only [WE] at hW'
      rcases hW' with ⟨z, -⟩ | ⟨z, -⟩ | ⟨z, -⟩ | ⟨z, -⟩ | ⟨z, -⟩ | ⟨z, -⟩ | ⟨z, -⟩ | ⟨z, -⟩ | ⟨-, hl, rfl⟩
      iterate 8 exact absurd z (by decide)
      obtain ⟨-, -, -, -, -, -, x7, -⟩ := hX
      obtain ⟨k1, k2⟩ := x7 rfl
      have e : lnT (kdT T L) (.inner 7 t q l .leaf) = lnT (kdT T L) l := rfl
      have eo : oS (kdT T L) (.inner 7 t q l .leaf) r ++ O = t :: (oS (kdT T L) l 1 ++ (q :: O)) := by
        show (if r ≤ lnT (kdT T L) l then _ else _) ++ O = _
        rw [if_neg (by rw [← e]; exact hr)]
        simp
      rw [eo] at hs
      refine Cal.ofV (by decide) rfl (Nat.le_of_ble_eq_true rfl) (s_Md_showExp (sp_lineT (.inner 7 t q l .leaf) lo hW h9 hk (by omega) hlo (hM.fp hs.1) (hR.fp hs.1) ⟨fun z => absurd (Int.ofNat_le.mp z) hr, fun _ => ?_⟩))
      refine ws_text (c := 7) (by omega) hPF (by decide) (by decide) k1 hs (fun w2 h2 => ?_)
      refine hA' t q l rfl _ w0 w2 PF (q :: O) 1 hPF hM hR.1 h2 (by rw [← e]; exact hp) (fun w3 h3 => ?_)
      exact ws_text (c := 8) (by omega) hPF (by decide) (by decide) k2 h3 h
theorem sp_showExp : ∀ (N : Nat) (a : Tr) (lo D : Nat), szT a ≤ N → WE a → M9 a → tkB (kdT T L) (m + 1) a → XK (kdT T L) a → szT a + 8 ≤ D → lo + nX a ≤ 2000 → SpWA g D T L m a lo := by
  intro N
  induction N with
  | zero =>
    intro a lo D hN hW
    cases a with
    | leaf => exact hW.elim
    | inner c t q l r => simp only [szT] at hN; omega
  | succ N ih =>
    intro a lo D hN hW h9 hk hX hD hlo K w0 w1 PF O r hPF hM hR hs hr h
    have wb : ∀ (b : Tr) (lo D : Nat), szT b ≤ N → WE b → M9 b → tkB (kdT T L) (m + 1) b → XK (kdT T L) b → szT b + 8 ≤ D → lo + nX b ≤ 2000 → SpWB g D T L m b lo := by
      intro b lo D q1 q2 q3 q4 q5 q6 q7
      obtain ⟨d, rfl⟩ : ∃ d, D = d + 1 := ⟨D - 1, by omega⟩
      refine wb_of (ih b lo (d + 1) q1 q2 q3 q4 q5 q6 q7) (fun t q l hb => ?_) q2 q3 q4 q5 (by omega) q7
      subst hb
      simp only [szT] at q1 q6
      simp only [WE] at q2
      rcases q2 with ⟨z, -⟩ | ⟨z, -⟩ | ⟨z, -⟩ | ⟨z, -⟩ | ⟨z, -⟩ | ⟨z, -⟩ | ⟨z, -⟩ | ⟨z, -⟩ | ⟨-, hl, -⟩
      iterate 8 exact absurd z (by decide)
      exact ih l lo d (by omega) hl ⟨q3.1.1, q3.1.2.2.1⟩ q4.1 q5.1 (by omega) q7
    obtain ⟨d, rfl⟩ : ∃ d, D = d + 1 := ⟨D - 1, by omega⟩
    cases a with
    | leaf => exact hW.elim
    | inner c t q l rr =>
      have hW' := hW
      simp only [WE] at hW'
      have htm : t ≤ m := by have := hk.2.2.1; omega
      have hsz : szT l ≤ N ∧ szT rr ≤ N ∧ szT l + 8 ≤ d ∧ szT rr + 8 ≤ d := by simp only [szT] at hN hD; omega
      have hl9 : M9 l := ⟨h9.1.1, h9.1.2.2.1⟩
      have hr9 : c ≠ 4 → M9 rr := fun z => ⟨h9.1.2.1, h9.1.2.2.2 z⟩
      have hlk := hk.1
      have hrk := hk.2.1
      have hlx := hX.1
      have hrx := hX.2.1
      by_cases h7 : c = 7
      · subst h7
        rcases hW' with ⟨z, -⟩ | ⟨z, -⟩ | ⟨z, -⟩ | ⟨z, -⟩ | ⟨z, -⟩ | ⟨z, -⟩ | ⟨z, -⟩ | ⟨z, -⟩ | ⟨-, hl, rfl⟩
        iterate 8 exact absurd z (by decide)
        have hp := lnT_pos l hl hlk
        have eo : oS (kdT T L) (.inner 7 t q l .leaf) 1 = oS (kdT T L) l 1 := by
          show (if 1 ≤ lnT (kdT T L) l then _ else _) = _
          rw [if_pos hp]
        rw [eo] at hs
        exact ih l lo (d + 1) hsz.1 hl hl9 hlk hlx (by omega) hlo K w0 w1 PF O r hPF hM hR.1 hs hr h
      have hc9 : c ≠ 9 := h9.2
      have hn : nX (.inner c t q l rr) = nX l + nX rr + 1 := by
        show nX l + nX rr + (if c = 7 ∨ c = 9 then 0 else 1) = _
        rw [if_neg (by omega)]
      have hline : ∀ K', K' (.inl (some (vI ((lnT (kdT T L) (.inner c t q l rr) : Nat) : Int)))) w1 → Cal g LM jMd_line d [vA 0, vI ((lo + nX l + nX rr : Nat) : Int)] w1 K' := by
        intro K' h'
        have := sp_lineT (g := g) (D := d) (K := K') (.inner c t q l rr) lo hW h9 hk (by omega) hlo (hM.fp hs.1) (hR.fp hs.1) h'
        rw [hn, show lo + (nX l + nX rr + 1) - 1 = lo + nX l + nX rr by omega] at this
        exact this
      rw [hn] at hlo ⊢
      rw [show lo + (nX l + nX rr + 1) - 1 = lo + nX l + nX rr by omega]
      obtain ⟨r1, r2, -, -, r5, r6, r7, r8⟩ := hR
      obtain ⟨h27, h26⟩ := r5 h7 hc9
      have hrow : ∀ w', FPm w0 w' → ∀ o, 26 ≤ o → o ≤ 31 → w' o = w0 o := fun w' f o p1 p2 => f.1 o (by simp; omega)
      have hb : (0 : Int) ≤ ((lo + nX l + nX rr : Nat) : Int) ∧ ((lo + nX l + nX rr : Nat) : Int) < 2000 := by omega
      refine Cal.ofV (by decide) rfl (Nat.le_of_ble_eq_true rfl) (s_Md_showExp (hline _ ⟨fun _ => ⟨hb, ?_⟩, fun z => absurd (by omega) z⟩))
      have hv := (congrFun (hrow w1 hs.1 26 (by decide) (by decide)) (lo + nX l + nX rr)).trans h26
      rw [toN, hv]
      clear hv
      have w27 : ∀ w', FPm w0 w' → w' 27 (lo + nX l + nX rr) = (t : Int) := fun w' f => by rw [hrow w' f 27 (by decide) (by decide)]; exact h27
      rcases hW' with ⟨rfl, rfl, rfl⟩ | ⟨rfl, rfl, rfl⟩ | ⟨rfl, rfl, rfl⟩ | ⟨rfl, hl, rfl⟩ | ⟨rfl, hl, t9, q9, x, y, rfl, hxy⟩ | ⟨z, -⟩ | ⟨rfl, hl, rfl⟩ | ⟨rfl, hl, hr'⟩ | ⟨z, -⟩
      · -- a TOKEN
        have hs' : St T L PF w0 w1 (t :: O) := hs
        have go : Cal g LM jMd_show d [vA 0, vI (w1 27 (lo + nX nl + nX nl))] w1 (fun o w3 => rVt o (fun b => K (.inr b) w3) (K (.inl none) w3)) := by
          rw [w27 w1 hs.1]
          exact ws_show hM hPF htm hs' h
        have e : ∀ x : Int, (if (0 : Nat) = 0 then x else if (0 : Nat) = 1 then 4 else if (0 : Nat) = 2 then 5 else if (0 : Nat) = 3 then 7 else if (0 : Nat) = 4 then 8 else if (0 : Nat) = 5 then (if kdT T L t = 16 then 9 else 10) else 11) = x := fun _ => rfl
        rw [e]
        have hkm : kdM (kdT T L t) = 0 ∨ kdM (kdT T L t) = 1 ∨ kdM (kdT T L t) = 2 ∨ kdM (kdT T L t) = 3 ∨ kdM (kdT T L t) = 6 := by
          unfold kdM
          split
          · simp
          · split
            · simp
            · split
              · simp
              · split <;> simp
        rcases hkm with z | z | z | z | z <;> rw [z]
        iterate 4 exact ⟨fun _ => ⟨hb, go⟩, fun z => absurd z (by decide), fun z => absurd z (by decide), fun z => absurd z (by decide), fun z => absurd z (by decide), fun z => absurd z (by decide), fun z => absurd z (by decide), fun z => absurd z (by decide), fun z => absurd z (by decide)⟩
        exact ⟨fun z => absurd z (by decide), fun z => absurd z (by decide), fun z => absurd z (by decide), fun _ => ⟨hb, go⟩, fun z => absurd z (by decide), fun z => absurd z (by decide), fun z => absurd z (by decide), fun z => absurd z (by decide), fun z => absurd z (by decide)⟩
      · -- arc . NAME
        obtain ⟨k1, k2⟩ := hX.2.2.1 rfl
        have hs' : St T L PF w0 w1 ((t - 2) :: (t - 1) :: t :: O) := hs
        rw [show (if (1 : Nat) = 0 then kdM (kdT T L t) else if (1 : Nat) = 1 then 4 else if (1 : Nat) = 2 then 5 else if (1 : Nat) = 3 then 7 else if (1 : Nat) = 4 then 8 else if (1 : Nat) = 5 then (if kdT T L t = 16 then 9 else 10) else 11) = (4 : Int) from rfl]
        refine ⟨fun z => absurd z (by decide), fun _ => ?_, fun z => absurd z (by decide), fun z => absurd z (by decide), fun z => absurd z (by decide), fun z => absurd z (by decide), fun z => absurd z (by decide), fun z => absurd z (by decide), fun z => absurd z (by decide)⟩
        refine ws_text (c := 52) (by omega) hPF (by decide) (by decide) k1 hs' (fun w2 h2 => ws_text (c := 10) (by omega) hPF (by decide) (by decide) k2 h2 (fun w3 h3 => ⟨hb, ?_⟩))
        rw [w27 w3 h3.1]
        exact ws_show hM hPF htm h3 h
      · -- has NAME
        have k1 := hX.2.2.2.1 rfl
        have hs' : St T L PF w0 w1 ((t - 1) :: t :: O) := hs
        rw [show (if (2 : Nat) = 0 then kdM (kdT T L t) else if (2 : Nat) = 1 then 4 else if (2 : Nat) = 2 then 5 else if (2 : Nat) = 3 then 7 else if (2 : Nat) = 4 then 8 else if (2 : Nat) = 5 then (if kdT T L t = 16 then 9 else 10) else 11) = (5 : Int) from rfl]
        refine ⟨fun z => absurd z (by decide), fun z => absurd z (by decide), fun _ => ?_, fun z => absurd z (by decide), fun z => absurd z (by decide), fun z => absurd z (by decide), fun z => absurd z (by decide), fun z => absurd z (by decide), fun z => absurd z (by decide)⟩
        refine ws_text (c := 53) (by omega) hPF (by decide) (by decide) k1 hs' (fun w2 h2 => ⟨hb, ?_⟩)
        rw [w27 w2 h2.1]
        exact ws_show hM hPF htm h2 h
      · -- draw
        obtain ⟨k1, k2⟩ := hX.2.2.2.2.1 (Or.inl rfl)
        have hs' : St T L PF w0 w1 (t :: (t + 1) :: (oS (kdT T L) l 1 ++ (q :: O))) := by
          have e : oS (kdT T L) (nd 3 t q l nl) 1 ++ O = t :: (t + 1) :: (oS (kdT T L) l 1 ++ (q :: O)) := by
            show (t :: (t + 1) :: (oS (kdT T L) l 1 ++ [q])) ++ O = _
            simp
          rw [← e]; exact hs
        rw [show (if (3 : Nat) = 0 then kdM (kdT T L t) else if (3 : Nat) = 1 then 4 else if (3 : Nat) = 2 then 5 else if (3 : Nat) = 3 then 7 else if (3 : Nat) = 4 then 8 else if (3 : Nat) = 5 then (if kdT T L t = 16 then 9 else 10) else 11) = (7 : Int) from rfl]
        refine ⟨fun z => absurd z (by decide), fun z => absurd z (by decide), fun z => absurd z (by decide), fun z => absurd z (by decide), fun _ => ⟨hb, ?_⟩, fun z => absurd z (by decide), fun z => absurd z (by decide), fun z => absurd z (by decide), fun z => absurd z (by decide)⟩
        rw [w27 w1 hs.1]
        refine ws_show hM hPF htm hs' (fun w2 h2 => ws_text (c := 7) (by omega) hPF (by decide) (by decide) k1 h2 (fun w3 h3 => ⟨hb, ?_⟩))
        rw [hrow w3 h3.1 29 (by decide) (by decide), r6 (Or.inl rfl)]
        refine wb l lo d hsz.1 hl hl9 hlk hlx hsz.2.2.1 (by omega) _ w0 w3 PF (q :: O) 1 hPF hM r1 h3 (Or.inr (lnT_pos l hl hlk)) (fun w4 h4 => ?_)
        exact ws_text (c := 8) (by omega) hPF (by decide) (by decide) k2 h4 h
      · -- if
        obtain ⟨k1, k2⟩ := hX.2.2.2.2.1 (Or.inr rfl)
        obtain ⟨xx, xy, -, -, -, x9, -⟩ := hrx
        obtain ⟨k3, k4⟩ := x9 rfl
        have hx' : WE x ∧ WE y := by
          simp only [WE] at hxy
          rcases hxy with ⟨z, -⟩ | ⟨z, -⟩ | ⟨z, -⟩ | ⟨z, -⟩ | ⟨z, -⟩ | ⟨-, a1, a2⟩ | ⟨z, -⟩ | ⟨z, -⟩ | ⟨z, -⟩
          iterate 5 exact absurd z (by decide)
          · exact ⟨a1, a2⟩
          all_goals exact absurd z (by decide)
        have m9 := h9.1.2.1
        have hx9 : M9 x := ⟨m9.1, m9.2.2.1⟩
        have hy9 : M9 y := ⟨m9.2.1, m9.2.2.2 (by decide)⟩
        have hsx : szT x ≤ N ∧ szT y ≤ N ∧ szT x + 8 ≤ d ∧ szT y + 8 ≤ d := by
          have := hsz.2
          simp only [szT] at this
          omega
        have hs' : St T L PF w0 w1 (t :: (t + 1) :: (oS (kdT T L) l 1 ++ (t9 :: (oS (kdT T L) x 1 ++ (q9 :: (oS (kdT T L) y 1 ++ (q :: O))))))) := by
          have e : oS (kdT T L) (nd 4 t q l (nd 9 t9 q9 x y)) 1 ++ O = t :: (t + 1) :: (oS (kdT T L) l 1 ++ (t9 :: (oS (kdT T L) x 1 ++ (q9 :: (oS (kdT T L) y 1 ++ (q :: O)))))) := by
            show (t :: (t + 1) :: (oS (kdT T L) l 1 ++ ((t9 :: (oS (kdT T L) x 1 ++ (q9 :: oS (kdT T L) y 1))) ++ [q]))) ++ O = _
            simp
          rw [← e]; exact hs
        have n9 : nX (nd 9 t9 q9 x y) = nX x + nX y := rfl
        obtain ⟨a30, a31, -⟩ := r8 rfl
        have a30 : w0 30 (lo + nX l + nX (nd 9 t9 q9 x y)) = ((lo + nX l + nX x - 1 : Nat) : Int) := a30
        have a31 : w0 31 (lo + nX l + nX (nd 9 t9 q9 x y)) = ((lo + nX l + nX x + nX y - 1 : Nat) : Int) := by rw [a31, n9, Nat.add_assoc (lo + nX l)]
        obtain ⟨rx, ry, -⟩ : AR (kdT T L) w0 x (lo + nX l) ∧ AR (kdT T L) w0 y (lo + nX l + nX x) ∧ _ := r2
        rw [show (if (4 : Nat) = 0 then kdM (kdT T L t) else if (4 : Nat) = 1 then 4 else if (4 : Nat) = 2 then 5 else if (4 : Nat) = 3 then 7 else if (4 : Nat) = 4 then 8 else if (4 : Nat) = 5 then (if kdT T L t = 16 then 9 else 10) else 11) = (8 : Int) from rfl]
        refine ⟨fun z => absurd z (by decide), fun z => absurd z (by decide), fun z => absurd z (by decide), fun z => absurd z (by decide), fun z => absurd z (by decide), fun _ => ⟨hb, ?_⟩, fun z => absurd z (by decide), fun z => absurd z (by decide), fun z => absurd z (by decide)⟩
        rw [w27 w1 hs.1]
        refine ws_show hM hPF htm hs' (fun w2 h2 => ws_text (c := 7) (by omega) hPF (by decide) (by decide) k1 h2 (fun w3 h3 => ⟨hb, ?_⟩))
        rw [hrow w3 h3.1 29 (by decide) (by decide), r6 (Or.inr (Or.inl rfl))]
        refine wb l lo d hsz.1 hl hl9 hlk hlx hsz.2.2.1 (by omega) _ w0 w3 PF _ 1 hPF hM r1 h3 (Or.inr (lnT_pos l hl hlk)) (fun w4 h4 => ?_)
        refine ws_text (c := 9) (by omega) hPF (by decide) (by decide) k3 h4 (fun w5 h5 => ⟨hb, ?_⟩)
        rw [hrow w5 h5.1 30 (by decide) (by decide), a30]
        refine wb x (lo + nX l) d hsx.1 hx'.1 hx9 hrk.1 xx hsx.2.2.1 (by omega) _ w0 w5 PF _ 1 hPF hM rx h5 (Or.inr (lnT_pos x hx'.1 hrk.1)) (fun w6 h6 => ?_)
        refine ws_text (c := 9) (by omega) hPF (by decide) (by decide) k4 h6 (fun w7 h7 => ⟨hb, ?_⟩)
        rw [hrow w7 h7.1 31 (by decide) (by decide), a31]
        refine wb y (lo + nX l + nX x) d hsx.2.1 hx'.2 hy9 hrk.2.1 xy hsx.2.2.2 (by omega) _ w0 w7 PF _ 1 hPF hM ry h7 (Or.inr (lnT_pos y hx'.2 hrk.2.1)) (fun w8 h8 => ?_)
        exact ws_text (c := 8) (by omega) hPF (by decide) (by decide) k2 h8 h
      · exact absurd z hc9
      · -- - !
        have k6 := hX.2.2.2.2.2.2.2.2 rfl
        have hs' : St T L PF w0 w1 (t :: (oS (kdT T L) l 6 ++ O)) := hs
        have go : Cal g LM jMd_show d [vA 0, vI (w1 27 (lo + nX l + nX nl))] w1 (fun o w22 => rVt o (fun b => K (.inr b) w22) ((0 ≤ ((lo + nX l + nX nl : Nat) : Int) ∧ ((lo + nX l + nX nl : Nat) : Int) < 2000) ∧ (Cal g LM jMd_showExp d [vA 0, vI (w22 29 (lo + nX l + nX nl)), vI 6] w22 (fun o w23 => rVt o (fun b => K (.inr b) w23) (K (.inl none) w23))))) := by
          rw [w27 w1 hs.1]
          refine ws_show hM hPF htm hs' (fun w2 h2 => ⟨hb, ?_⟩)
          rw [hrow w2 h2.1 29 (by decide) (by decide), r6 (Or.inr (Or.inr (Or.inl rfl)))]
          exact wb l lo d hsz.1 hl hl9 hlk hlx hsz.2.2.1 (by omega) _ w0 w2 PF O 6 hPF hM r1 h2 k6 h
        have e : ∀ x : Int, (if (5 : Nat) = 0 then kdM (kdT T L t) else if (5 : Nat) = 1 then 4 else if (5 : Nat) = 2 then 5 else if (5 : Nat) = 3 then 7 else if (5 : Nat) = 4 then 8 else if (5 : Nat) = 5 then x else 11) = x := fun _ => rfl
        rw [e]
        by_cases k16 : kdT T L t = 16
        · rw [if_pos k16]
          exact ⟨fun z => absurd z (by decide), fun z => absurd z (by decide), fun z => absurd z (by decide), fun z => absurd z (by decide), fun z => absurd z (by decide), fun z => absurd z (by decide), fun _ => ⟨hb, go⟩, fun z => absurd z (by decide), fun z => absurd z (by decide)⟩
        · rw [if_neg k16]
          exact ⟨fun z => absurd z (by decide), fun z => absurd z (by decide), fun z => absurd z (by decide), fun z => absurd z (by decide), fun z => absurd z (by decide), fun z => absurd z (by decide), fun z => absurd z (by decide), fun _ => ⟨hb, go⟩, fun z => absurd z (by decide)⟩
      · -- an operator between two
        obtain ⟨k1, k2⟩ := hX.2.2.2.2.2.2.2.1 rfl
        have hlt : lnT (kdT T L) (nd 6 t q l rr) = lnO (kdT T L t) := rfl
        have hs' : St T L PF w0 w1 (oS (kdT T L) l (if lnO (kdT T L t) = 3 then 4 else lnO (kdT T L t)) ++ (t :: (oS (kdT T L) rr (lnO (kdT T L t) + 1) ++ O))) := by
          have e : oS (kdT T L) (nd 6 t q l rr) 1 ++ O = oS (kdT T L) l (if lnO (kdT T L t) = 3 then 4 else lnO (kdT T L t)) ++ (t :: (oS (kdT T L) rr (lnO (kdT T L t) + 1) ++ O)) := by
            show (oS (kdT T L) l (if lnO (kdT T L t) = 3 then 4 else lnO (kdT T L t)) ++ (t :: oS (kdT T L) rr (lnO (kdT T L t) + 1))) ++ O = _
            simp
          rw [← e]; exact hs
        have hl5 : lnO (kdT T L t) ≤ 5 := by
          have := ln_cases _ (hk.2.2.2.1 rfl)
          omega
        have go : ∀ rl : Nat, rl = (if lnO (kdT T L t) = 3 then 4 else lnO (kdT T L t)) → Cal g LM jMd_showExp d [vA 0, vI (w1 29 (lo + nX l + nX rr)), vI (rl : Int)] w1 (fun o w26 => rVt o (fun b => K (.inr b) w26) ((0 ≤ ((lo + nX l + nX rr : Nat) : Int) ∧ ((lo + nX l + nX rr : Nat) : Int) < 2000) ∧ (Cal g LM jMd_show d [vA 0, vI (w26 27 (lo + nX l + nX rr))] w26 (fun o w27 => rVt o (fun b => K (.inr b) w27) ((0 ≤ ((lo + nX l + nX rr : Nat) : Int) ∧ ((lo + nX l + nX rr : Nat) : Int) < 2000) ∧ (Cal g LM jMd_showExp d [vA 0, vI (w27 30 (lo + nX l + nX rr)), vI (wr (((lnO (kdT T L t) : Nat) : Int) + 1))] w27 (fun o w28 => rVt o (fun b => K (.inr b) w28) (K (.inl none) w28)))))))) := by
          intro rl hrl
          rw [← hrl] at hs' k1
          rw [hrow w1 hs.1 29 (by decide) (by decide), r6 (Or.inr (Or.inr (Or.inr rfl)))]
          refine wb l lo d hsz.1 hl hl9 hlk hlx hsz.2.2.1 (by omega) _ w0 w1 PF _ rl hPF hM r1 hs' k1 (fun w2 h2 => ⟨hb, ?_⟩)
          rw [w27 w2 h2.1]
          refine ws_show hM hPF htm h2 (fun w3 h3 => ⟨hb, ?_⟩)
          rw [hrow w3 h3.1 30 (by decide) (by decide), r7 rfl, wr_n1 (by omega)]
          exact wb rr (lo + nX l) d hsz.2.1 hr' (hr9 (by decide)) hrk hrx hsz.2.2.2 (by omega) _ w0 w3 PF O (lnO (kdT T L t) + 1) hPF hM r2 h3 k2 h
        rw [hlt]
        rw [show (if (6 : Nat) = 0 then kdM (kdT T L t) else if (6 : Nat) = 1 then 4 else if (6 : Nat) = 2 then 5 else if (6 : Nat) = 3 then 7 else if (6 : Nat) = 4 then 8 else if (6 : Nat) = 5 then (if kdT T L t = 16 then 9 else 10) else 11) = (11 : Int) from rfl]
        refine ⟨fun z => absurd z (by decide), fun z => absurd z (by decide), fun z => absurd z (by decide), fun z => absurd z (by decide), fun z => absurd z (by decide), fun z => absurd z (by decide), fun z => absurd z (by decide), fun z => absurd z (by decide), fun _ => ⟨hb, fun z => ?_, fun z => ?_⟩⟩
        · exact go (lnO (kdT T L t)) (by rw [if_neg (fun q => z (by rw [q]; rfl))])
        · exact go 4 (by rw [if_pos (by omega)])
      · exact absurd z h7
end ModelShowX2
