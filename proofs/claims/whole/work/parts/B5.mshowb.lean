/-! ===== the numbers of loops lie before the end ===== -/
def LB (j : Nat) : Tr → Prop
  | .leaf => True
  | .inner c t _ l r => if c = 20 ∨ c = 9 then LB j l ∧ LB j r else if c = 21 then LB j l else if c = 15 then LB j r else if c = 16 then LB j l ∧ t < j else True
theorem LB.le {j j' : Nat} (h : j ≤ j') : ∀ (a : Tr), LB j a → LB j' a
  | .leaf, _ => trivial
  | .inner c t q l r, hx => by
    rw [LB] at hx ⊢
    by_cases h1 : c = 20 ∨ c = 9
    · rw [if_pos h1] at hx ⊢; exact ⟨LB.le h l hx.1, LB.le h r hx.2⟩
    · rw [if_neg h1] at hx ⊢
      by_cases h2 : c = 21
      · rw [if_pos h2] at hx ⊢; exact LB.le h l hx
      · rw [if_neg h2] at hx ⊢
        by_cases h3 : c = 15
        · rw [if_pos h3] at hx ⊢; exact LB.le h r hx
        · rw [if_neg h3] at hx ⊢
          by_cases h4 : c = 16
          · rw [if_pos h4] at hx ⊢; exact ⟨LB.le h l hx.1, by omega⟩
          · rw [if_neg h4]; trivial
section PureLB
variable {kd : Nat → Nat} {vl : Nat → Int} {blk : Nat → Nat → Nat → PE (Tr × Nat × Nat)}
theorem pSt_lb (hb : ∀ c l i q, c ≤ 120 → blk c l i = .ok q → LB q.2.1 q.1) (hb2 : ∀ c l i q, c ≤ 120 → blk c l i = .ok q → GB c i q) {m c l i : Nat} {r : Q4} (h : pSt kd vl blk m c l i = .ok r) : LB r.2.1 r.1 := by
  unfold pSt at h
  split at h
  · cases h
  rename_i hc
  split at h
  · obtain ⟨q, hq, rfl, -⟩ := pSet_ok h
    exact trivial
  split at h
  · obtain ⟨q, hq, rfl, -⟩ := pLet_ok h
    exact trivial
  split at h
  · obtain ⟨q, hq, rfl, -⟩ := pSend_ok h
    exact trivial
  split at h
  · obtain ⟨q, hq, rfl, -⟩ := pGive_ok h
    exact trivial
  split at h
  · obtain ⟨q, b1, hq, hg, k1, -, hb1, hr⟩ := pIf_ok h
    have f5 := (hb2 _ _ _ _ (by omega) hb1).2.2.2.2.2
    have s1 := hb _ _ _ _ (by omega) hb1
    rcases hr with ⟨k2, b2, hb2', rfl, -⟩ | ⟨-, rfl⟩
    · have s2 := hb _ _ _ _ (by omega) hb2'
      have f1 := (hb2 _ _ _ _ (by omega) hb2').2.1
      exact ⟨LB.le (by show b1.2.1 ≤ b2.2.1; omega) _ s1, s2⟩
    · exact ⟨s1, trivial⟩
  split at h
  · obtain ⟨b1, hb1, rfl, -⟩ := pLoop_ok h
    have f1 := (hb2 _ _ _ _ (by omega) hb1).2.1
    exact ⟨hb _ _ _ _ (by omega) hb1, by show i + 1 < b1.2.1; omega⟩
  · obtain ⟨rfl, -⟩ := pHalt_ok h
    exact trivial
theorem pSL_lb {st : Nat → Nat → Nat → PE Q4} (hs : ∀ c l i r, st c l i = .ok r → LB r.2.1 r.1 ∧ i < r.2.1) : ∀ (f c l i : Nat) (z : Tr × Nat × Nat), pSL kd st f c l i = .ok z → LB z.2.1 z.1 ∧ i ≤ z.2.1
  | 0, c, l, i, z, h => by cases h; exact ⟨trivial, Nat.le_refl _⟩
  | f + 1, c, l, i, z, h => by
    rw [pSL] at h
    split at h
    · obtain ⟨q, hq, h⟩ := bnd_ok h
      obtain ⟨y, hy, h⟩ := bnd_ok h
      cases h
      obtain ⟨g1, g2⟩ := hs _ _ _ _ hq
      obtain ⟨a1, a2⟩ := pSL_lb hs f _ _ _ y hy
      exact ⟨⟨LB.le a2 _ g1, a1⟩, by show i ≤ y.2.1; omega⟩
    · cases h; exact ⟨trivial, Nat.le_refl _⟩
theorem pBk_lb : ∀ (n c l i : Nat) (q : Tr × Nat × Nat), c ≤ 120 → pBk kd vl n c l i = .ok q → LB q.2.1 q.1
  | 0, c, l, i, q, hc, h => by rw [pBk] at h; split at h <;> cases h
  | n + 1, c, l, i, q, hc, h => by
    rw [pBk] at h
    obtain ⟨i1, h1, h⟩ := bnd_ok h
    obtain ⟨z, h2, h⟩ := bnd_ok h
    obtain ⟨j, h3, h⟩ := bnd_ok h
    obtain ⟨-, rfl, k3⟩ := ex_ok h3
    cases h
    obtain ⟨a1, a2⟩ := pSL_lb (fun c l i r hr => ⟨pSt_lb (pBk_lb n) (pBk_gb n) hr, (pSt_gs (pBk_gb n) hr).1.2.1⟩) 121 c l i1 z h2
    exact LB.le (Nat.le_succ _) _ a1
end PureLB
/-! ===== the model prints blocks ===== -/
section ModelShowB
variable {g : Mg} {T : Nat → Int} {L m : Nat} {vl : Nat → Int}
theorem SR.fp {kd : Nat → Nat} {w w' : Wd} {a : Tr} {s lo : Nat} (hW : WS a) (h : SR kd w a s lo) (hf : FPm w w') : SR kd w' a s lo := SR.cgA a s lo hW h (fun x _ _ o p q => by rw [hf.1 o (by simp; omega)]) (fun x _ _ o p q => by rw [hf.1 o (by simp; omega)])
/-- an exp of a statement -/
theorem ws_exp {K : Ou → Wd → Prop} {w0 w1 : Wd} {PF : List Int} {O : List Nat} {l : Tr} {lo D : Nat} (hD : szT l + 8 ≤ D) (hF : PF.length ≤ 5000) (hM : TxM T L m w0) (hW : WE l) (hX : XO (kdT T L) (m + 1) l) (hK : XK (kdT T L) l) (hlo : lo + nX l ≤ 2000) (hA : AR (kdT T L) w0 l lo) (hs : St T L PF w0 w1 (oS (kdT T L) l 1 ++ O)) (h : ∀ w2, St T L PF w0 w2 O → K (.inl none) w2) : Cal g LM jMd_showExp D [vA 0, vI ((lo + nX l - 1 : Nat) : Int), vI 1] w1 K :=
  sp_showExp (szT l) l lo D (Nat.le_refl _) hW hX.1 hX.2 hK hD hlo K w0 w1 PF O 1 hF hM hA hs (lnT_pos l hW hX.2) h
/-- showBlock -/
def SpPB (g : Mg) (D : Nat) (T : Nat → Int) (L m : Nat) (a : Tr) (s lo : Nat) : Prop := ∀ (K : Ou → Wd → Prop) (w0 w1 : Wd) (PF : List Int) (O : List Nat), PF.length ≤ 5000 → TxM T L m w0 → SR (kdT T L) w0 a s lo → St T L PF w0 w1 (oP (kdT T L) a ++ O) → (∀ w2, St T L PF w0 w2 O → K (.inl none) w2) → Cal g LM jMd_showBlock D [vA 0, vI (bf_ a s)] w1 K
section oProws
variable {kd : Nat → Nat} {t q : Nat} {l r : Tr}
theorem oQ11 : oP kd (nd 11 t q l r) = t :: (t + 1) :: (oS kd l 1 ++ [q]) := rfl
theorem oQ12 : oP kd (nd 12 t q l r) = (t - 1) :: t :: (t + 1) :: (oS kd l 1 ++ [q]) := rfl
theorem oQ13 : oP kd (nd 13 t q l r) = (t - 1) :: t :: (oS kd l 1 ++ [q - 1, q]) := rfl
theorem oQ14 : oP kd (nd 14 t q l r) = (t - 1) :: t :: (oS kd l 1 ++ [q]) := rfl
theorem oQ15 : oP kd (nd 15 t q l r) = t :: (oS kd l 1 ++ oP kd r) := rfl
theorem oQ9 : oP kd (nd 9 t q l r) = oP kd l ++ (if q = 0 then [] else q :: oP kd r) := rfl
theorem oQ16 : oP kd (nd 16 t q l r) = (t - 1) :: t :: oP kd l := rfl
theorem oQ17 : oP kd (nd 17 t q l r) = [t, t + 1] := rfl
theorem oQ20 : oP kd (nd 20 t q l r) = oP kd l ++ oP kd r := rfl
theorem oQ21 : oP kd (nd 21 t q l r) = t :: (oP kd l ++ [q]) := rfl
end oProws
theorem pb_all : ∀ (N : Nat) (a : Tr) (s lo n lt D : Nat) (K : Ou → Wd → Prop) (w0 w1 : Wd) (PF : List Int) (O : List Nat) (qe : Nat), szT a ≤ N → (a = nl ∨ tg a = 20) → WS a → SX (kdT T L) (m + 1) a → SK (kdT T L) a → LB (m + 1) a → OB (kdT T L) vl a n lt → s + nT a ≤ 130 → lo + nE a ≤ 2000 → 1010 + n ≤ D → PF.length ≤ 5000 → TxM T L m w0 → SR (kdT T L) w0 a s lo → kdT T L qe = 6 → St T L PF w0 w1 (oP (kdT T L) a ++ (qe :: O)) → (∀ w2, St T L PF w0 w2 O → K (.inl none) w2) → V g LM jMd_showBlock (D + 1) K 8 [(0, vA 0), (2, vI (nx_ a s))] [] w1 := by
  intro N
  induction N with
  | zero =>
    intro a s lo n lt D K w0 w1 PF O qe hN ha
    cases a with
    | leaf =>
      intro _ _ _ _ _ _ _ hD hF hM _ hqe hs h
      refine s_Md_showBlock_8 ⟨fun _ => ?_, fun z => absurd (show (-2 : Int) < 0 by decide) z⟩
      exact ws_text (c := 6) (by omega) hF (by decide) (by decide) hqe hs h
    | inner c t q l r => simp only [szT] at hN; omega
  | succ N ih =>
    intro a s lo n lt D K w0 w1 PF O qe hN ha hW hX hSK hLB hO hs hlo hD hF hM hR hqe hst h
    cases a with
    | leaf => exact ih .leaf s lo n lt D K w0 w1 PF O qe (Nat.zero_le _) ha hW hX hSK hLB hO hs hlo hD hF hM hR hqe hst h
    | inner c t q l r =>
      have hc : c = 20 := by
        rcases ha with z | z
        · cases z
        · exact z
      subst hc
      have hsz : szT l ≤ N ∧ szT r ≤ N := by simp only [szT] at hN; omega
      have e1 : nT (.inner 20 t q l r) = nT l + nT r := rfl
      have e2 : nE (.inner 20 t q l r) = nE l + nE r := rfl
      rw [e1] at hs
      rw [e2] at hlo
      obtain ⟨o1, o2, o3, o4⟩ : stTag l ∧ OB (kdT T L) vl l n lt ∧ OB (kdT T L) vl r n (lt + (if tg l = 12 then 1 else 0)) ∧ (r = nl ∨ tg r = 20) := hO
      obtain ⟨x1, x2'⟩ : SX (kdT T L) (m + 1) l ∧ SX (kdT T L) (m + 1) r := hX
      obtain ⟨k1, k2⟩ : SK (kdT T L) l ∧ SK (kdT T L) r := hSK
      obtain ⟨lb1, lb2⟩ : LB (m + 1) l ∧ LB (m + 1) r := hLB
      obtain ⟨r1, r2, r3⟩ : SR (kdT T L) w0 l s lo ∧ SR (kdT T L) w0 r (s + nT l) (lo + nE l) ∧ w0 23 s = nx_ r (s + nT l) := hR
      have hW' : WS l ∧ WS r := by
        simp only [WS] at hW
        rcases hW with ⟨-, a1, a2, -⟩ | ⟨z, -⟩ | ⟨z, -⟩ | ⟨z, -⟩ | ⟨z, -⟩ | z | ⟨z, -⟩
        · exact ⟨a1, a2⟩
        all_goals omega
      obtain ⟨w1', w2'⟩ := hW'
      have hp := nT_tag w1' o1
      have hb : (0 : Int) ≤ (s : Int) ∧ (s : Int) < 130 := by omega
      have hst' : St T L PF w0 w1 (oP (kdT T L) l ++ (oP (kdT T L) r ++ (qe :: O))) := by
        rw [← List.append_assoc]; exact hst
      have hrow : ∀ w', FPm w0 w' → ∀ o, 10 ≤ o → o ≤ 36 → w' o = w0 o := fun w' f o p1 p2 => f.1 o (by simp; omega)
      -- behind the statement
      have tail : ∀ w3, St T L PF w0 w3 (oP (kdT T L) r ++ (qe :: O)) → V g LM jMd_showBlock (D + 1) K 8 [(0, vA 0), (2, vI (w3 23 s))] [] w3 := by
        intro w3 h3
        rw [hrow w3 h3.1 23 (by decide) (by decide), r3]
        exact ih r (s + nT l) (lo + nE l) n _ D K w0 w3 PF O qe hsz.2 o4 w2' x2' k2 lb2 o3 (by omega) (by omega) hD hF hM r2 hqe h3 h
      have blk : ∀ (bt : Tr) (s lo : Nat), szT bt ≤ N → tg bt = 21 → WS bt → SX (kdT T L) (m + 1) bt → SK (kdT T L) bt → LB (m + 1) bt → OB (kdT T L) vl bt n lt → s + nT bt ≤ 130 → lo + nE bt ≤ 2000 → SpPB g D T L m bt s lo := by
        intro bt s lo hsz hbk hWb hXb hKb hLb hOb hsb hlob K w0 w1 PF O hF hM hR hst h
        cases bt with
        | leaf => exact absurd hbk (show (0 : Nat) ≠ 21 by decide)
        | inner c' t' q' l' r' =>
          have hc' : c' = 21 := hbk
          subst hc'
          obtain ⟨p1, p2, p3⟩ : 1 ≤ n ∧ OB (kdT T L) vl l' (n - 1) lt ∧ (l' = nl ∨ tg l' = 20) := hOb
          obtain ⟨y1, y2, y3⟩ : SK (kdT T L) l' ∧ kdT T L t' = 5 ∧ kdT T L q' = 6 := hKb
          obtain ⟨d, rfl⟩ : ∃ d, D = d + 1 := ⟨D - 1, by omega⟩
          have hw' : WS l' := by
            simp only [WS] at hWb
            rcases hWb with ⟨z, -⟩ | ⟨z, -⟩ | ⟨-, a1⟩ | ⟨z, -⟩ | ⟨z, -⟩ | z | ⟨z, -⟩
            · omega
            · omega
            · exact a1
            all_goals omega
          have hsz' : szT l' ≤ N := by simp only [szT] at hsz; omega
          have hs2 : St T L PF w0 w1 (t' :: (oP (kdT T L) l' ++ (q' :: O))) := by
            have e : oP (kdT T L) (nd 21 t' q' l' r') ++ O = t' :: (oP (kdT T L) l' ++ (q' :: O)) := by rw [oQ21]; simp
            rw [← e]; exact hst
          refine Cal.ofV (by decide) rfl (Nat.le_of_ble_eq_true rfl) (s_Md_showBlock (ws_text (c := 5) (by omega) hF (by decide) (by decide) y2 hs2 (fun w2 h2 => ?_)))
          exact ih l' s lo (n - 1) lt d K w0 w2 PF O q' hsz' p3 hw' hXb y1 hLb p2 hsb hlob (by omega) hF hM hR y3 h2 h
      rw [nx_inner]
      cases l with
      | leaf => exact o1.elim
      | inner c' t' q' l' r' =>
        have ht' : 11 ≤ c' ∧ c' ≤ 17 := o1
        simp only [WS] at w1'
        rcases w1' with ⟨z, -⟩ | ⟨z, -⟩ | ⟨z, -⟩ | ⟨rfl, we, wr'⟩ | ⟨rfl, wl'⟩ | rfl | ⟨hc, we⟩
        · omega
        · omega
        · omega
        · -- if
          obtain ⟨p1, p2⟩ : OB (kdT T L) vl r' n lt ∧ tg r' = 9 := o2
          obtain ⟨q1, q2⟩ : XO (kdT T L) (m + 1) l' ∧ SX (kdT T L) (m + 1) r' := x1
          obtain ⟨j1, j2, j3, j4⟩ : XK (kdT T L) l' ∧ szT l' ≤ 1000 ∧ SK (kdT T L) r' ∧ kdT T L t' = 48 := k1
          cases r' with
          | leaf => exact absurd p2 (show (0 : Nat) ≠ 9 by decide)
          | inner c9 t9 q9 b1 b2 =>
            have : c9 = 9 := p2
            subst this
            obtain ⟨y1, y2, y3, y4⟩ : OB (kdT T L) vl b1 n lt ∧ OB (kdT T L) vl b2 n lt ∧ tg b1 = 21 ∧ ((q9 = 0 ∧ b2 = nl) ∨ (q9 ≠ 0 ∧ tg b2 = 21)) := p1
            obtain ⟨u1, u2⟩ : SX (kdT T L) (m + 1) b1 ∧ SX (kdT T L) (m + 1) b2 := q2
            obtain ⟨lc1, lc2⟩ : LB (m + 1) b1 ∧ LB (m + 1) b2 := lb1
            obtain ⟨i1, i2, i3⟩ : SK (kdT T L) b1 ∧ SK (kdT T L) b2 ∧ (q9 ≠ 0 → kdT T L q9 = 49) := j3
            have v : WS b1 ∧ WS b2 := by
              simp only [WS] at wr'
              rcases wr' with ⟨z, -⟩ | ⟨-, a1, a2⟩ | ⟨z, -⟩ | ⟨z, -⟩ | ⟨z, -⟩ | z | ⟨z, -⟩
              · omega
              · exact ⟨a1, a2⟩
              all_goals omega
            have g1 : nT (.inner 15 t' q' l' (.inner 9 t9 q9 b1 b2)) = 1 + (nT b1 + nT b2) := rfl
            have g2 : nE (.inner 15 t' q' l' (.inner 9 t9 q9 b1 b2)) = nX l' + (nE b1 + nE b2) := rfl
            have hz := hsz.1
            simp only [szT] at hz
            obtain ⟨a17, -, a20, aA, aR, a21, a22, a24⟩ : w0 17 s = 4 ∧ w0 18 s = (t' : Int) ∧ w0 20 s = ((lo + nX l' - 1 : Nat) : Int) ∧ ARx (kdT T L) w0 l' lo ∧ SR (kdT T L) w0 (nd 9 t9 q9 b1 b2) (s + 1) (lo + nX l') ∧ w0 21 s = bf_ b1 (s + 1) ∧ w0 22 s = bf_ b2 (s + 1 + nT b1) ∧ w0 24 s = el_ b2 := r1
            obtain ⟨s1, s2⟩ : SR (kdT T L) w0 b1 (s + 1) (lo + nX l') ∧ SR (kdT T L) w0 b2 (s + 1 + nT b1) (lo + nX l' + nE b1) := aR
            have hs2 : St T L PF w0 w1 (t' :: (oS (kdT T L) l' 1 ++ (oP (kdT T L) b1 ++ ((if q9 = 0 then [] else q9 :: oP (kdT T L) b2) ++ (oP (kdT T L) r ++ (qe :: O)))))) := by
              have e : oP (kdT T L) (nd 15 t' q' l' (nd 9 t9 q9 b1 b2)) ++ (oP (kdT T L) r ++ (qe :: O)) = t' :: (oS (kdT T L) l' 1 ++ (oP (kdT T L) b1 ++ ((if q9 = 0 then [] else q9 :: oP (kdT T L) b2) ++ (oP (kdT T L) r ++ (qe :: O))))) := by rw [oQ15, oQ9]; simp only [List.cons_append, List.append_assoc]
              rw [← e]; exact hst'
            refine s_Md_showBlock_8 ⟨fun z => absurd z (by omega), fun _ => ⟨hb, ?_⟩⟩
            rw [toN, hrow w1 hst.1 17 (by decide) (by decide), a17]
            refine ⟨fun z => absurd z (by decide), fun z => absurd z (by decide), fun z => absurd z (by decide), fun z => absurd z (by decide), fun z => absurd z (by decide), fun _ => ?_, fun z => absurd z (by decide)⟩
            refine ws_text (c := 48) (by omega) hF (by decide) (by decide) j4 hs2 (fun w2 h2 => ⟨hb, ?_⟩)
            rw [hrow w2 h2.1 20 (by decide) (by decide), a20]
            refine ws_exp (by omega) hF hM we q1 j1 (by omega) aA.1 h2 (fun w3 h3 => ⟨hb, ?_⟩)
            rw [hrow w3 h3.1 21 (by decide) (by decide), a21]
            refine blk b1 (s + 1) (lo + nX l') (by omega) y3 v.1 u1 i1 lc1 y1 (by omega) (by omega) _ w0 w3 PF _ hF hM s1 h3 (fun w4 h4 => ⟨hb, ?_⟩)
            rw [hrow w4 h4.1 24 (by decide) (by decide), a24]
            rcases y4 with ⟨z1, z2⟩ | ⟨z1, z2⟩
            · subst z2
              rw [if_pos z1] at h4
              exact ⟨fun _ => ⟨hb, tail w4 h4⟩, fun z => absurd z (show ¬ (0 : Int) = 1 by decide)⟩
            · rw [if_neg z1] at h4
              have hel : el_ b2 = 1 := by
                cases b2 with
                | leaf => exact absurd z2 (show (0 : Nat) ≠ 21 by decide)
                | inner => rfl
              rw [hel]
              refine ⟨fun z => absurd rfl z, fun _ => ?_⟩
              refine ws_text (c := 49) (by omega) hF (by decide) (by decide) (i3 z1) h4 (fun w5 h5 => ⟨hb, ?_⟩)
              rw [hrow w5 h5.1 22 (by decide) (by decide), a22]
              exact blk b2 (s + 1 + nT b1) (lo + nX l' + nE b1) (by omega) z2 v.2 u2 i2 lc2 y2 (by omega) (by omega) _ w0 w5 PF _ hF hM s2 h5 (fun w6 h6 => ⟨hb, tail w6 h6⟩)
        · -- loop
          obtain ⟨p1, p2, -⟩ : OB (kdT T L) vl l' n lt ∧ tg l' = 21 ∧ _ := o2
          obtain ⟨j1, j2⟩ : SK (kdT T L) l' ∧ kdT T L (t' - 1) = 50 := k1
          have g1 : nT (.inner 16 t' q' l' r') = 1 + nT l' := rfl
          have g2 : nE (.inner 16 t' q' l' r') = nE l' := rfl
          have hz := hsz.1
          simp only [szT] at hz
          obtain ⟨a17, -, a19, a21, aR⟩ : w0 17 s = 5 ∧ w0 18 s = ((t' - 1 : Nat) : Int) ∧ w0 19 s = (t' : Int) ∧ w0 21 s = bf_ l' (s + 1) ∧ SR (kdT T L) w0 l' (s + 1) lo := r1
          obtain ⟨lc1, lc2⟩ : LB (m + 1) l' ∧ t' < m + 1 := lb1
          have hs2 : St T L PF w0 w1 ((t' - 1) :: t' :: (oP (kdT T L) l' ++ (oP (kdT T L) r ++ (qe :: O)))) := hst'
          refine s_Md_showBlock_8 ⟨fun z => absurd z (by omega), fun _ => ⟨hb, ?_⟩⟩
          rw [toN, hrow w1 hst.1 17 (by decide) (by decide), a17]
          refine ⟨fun z => absurd z (by decide), fun z => absurd z (by decide), fun z => absurd z (by decide), fun z => absurd z (by decide), fun z => absurd z (by decide), fun z => absurd z (by decide), fun _ => ?_⟩
          refine ws_text (c := 50) (by omega) hF (by decide) (by decide) j2 hs2 (fun w2 h2 => ⟨hb, ?_⟩)
          rw [hrow w2 h2.1 19 (by decide) (by decide), a19]
          refine ws_show hM hF (by omega) h2 (fun w3 h3 => ⟨hb, ?_⟩)
          rw [hrow w3 h3.1 21 (by decide) (by decide), a21]
          exact blk l' (s + 1) lo (by omega) p2 wl' x1 j1 lc1 p1 (by omega) (by omega) _ w0 w3 PF _ hF hM aR h3 (fun w6 h6 => ⟨hb, tail w6 h6⟩)
        · -- halt
          obtain ⟨j1, j2⟩ : kdT T L t' = 51 ∧ kdT T L (t' + 1) = 4 := k1
          obtain ⟨a17, -⟩ : w0 17 s = 6 ∧ w0 18 s = (t' : Int) := r1
          have hs2 : St T L PF w0 w1 (t' :: (t' + 1) :: (oP (kdT T L) r ++ (qe :: O))) := hst'
          refine s_Md_showBlock_8 ⟨fun z => absurd z (by omega), fun _ => ⟨hb, ?_⟩⟩
          rw [toN, hrow w1 hst.1 17 (by decide) (by decide), a17]
          refine ⟨fun _ => ?_, fun z => absurd z (by decide), fun z => absurd z (by decide), fun z => absurd z (by decide), fun z => absurd z (by decide), fun z => absurd z (by decide), fun z => absurd z (by decide)⟩
          exact ws_text (c := 51) (by omega) hF (by decide) (by decide) j1 hs2 (fun w2 h2 => ws_text (c := 4) (by omega) hF (by decide) (by decide) j2 h2 (fun w3 h3 => ⟨hb, tail w3 h3⟩))
        · have g1 : nT (.inner c' t' q' l' r') = 1 := nT11 (by omega)
          have g2 : nE (.inner c' t' q' l' r') = nX l' := nE11 hc
          have xo : XO (kdT T L) (m + 1) l' ∧ t' < m + 1 := by
            have := x1
            rw [SX, if_neg (by omega), if_neg (by omega), if_neg (by omega), if_neg (by omega)] at this
            exact this
          have htm : t' ≤ m := by omega
          have q1 := xo.1
          have kk : XK (kdT T L) l' ∧ szT l' ≤ 1000 ∧ kdT T L q' = 4 ∧ ((c' = 11 ∨ c' = 12) → kdT T L (t' + 1) = 12) ∧ (c' = 12 → kdT T L (t' - 1) = 43) ∧ (c' = 13 → kdT T L (t' - 1) = 44) ∧ (c' = 14 → kdT T L (t' - 1) = 47) := by
            have := k1
            rw [SK, if_neg (by omega), if_neg (by omega), if_neg (by omega), if_neg (by omega), if_neg (by omega), if_neg (by omega)] at this
            exact this
          obtain ⟨j1, j2, j3, j4, j5, j6, j7⟩ := kk
          have r1' : SR (kdT T L) w0 (nd c' t' q' l' r') s lo := r1
          rw [SR11 hc] at r1'
          obtain ⟨a17, -, a19, a20, aA, a25⟩ := r1'
          clear blk
          -- the exp, and the rest
          have ex1 : ∀ (K' : Ou → Wd → Prop) (w2 : Wd) (O' : List Nat), St T L PF w0 w2 (oS (kdT T L) l' 1 ++ O') → (∀ w3, St T L PF w0 w3 O' → K' (.inl none) w3) → Cal g LM jMd_showExp D [vA 0, vI (w2 20 s), vI 1] w2 K' := by
            intro K' w2 O' h2 h3
            rw [hrow w2 h2.1 20 (by decide) (by decide), a20]
            exact ws_exp (by omega) hF hM we q1 j1 (by omega) aA.1 h2 h3
          have sh1 : ∀ (K' : Ou → Wd → Prop) (w2 : Wd) (O' : List Nat), St T L PF w0 w2 (t' :: O') → (∀ w3, St T L PF w0 w3 O' → K' (.inl none) w3) → Cal g LM jMd_show D [vA 0, vI (w2 19 s)] w2 K' := by
            intro K' w2 O' h2 h3
            rw [hrow w2 h2.1 19 (by decide) (by decide), a19]
            exact ws_show hM hF htm h2 h3
          have en1 : ∀ w2, St T L PF w0 w2 (q' :: (oP (kdT T L) r ++ (qe :: O))) → Cal g LM jMd_showText D [vA 0, vA 1043] w2 (fun o w7 => rVt o (fun b => K (.inr b) w7) ((0 ≤ (s : Int) ∧ (s : Int) < 130) ∧ (V g LM jMd_showBlock (D + 1) K 8 [(0, vA 0), (2, vI (w7 23 s))] [] w7))) := fun w2 h2 => ws_text (c := 4) (by omega) hF (by decide) (by decide) j3 h2 (fun w3 h3 => ⟨hb, tail w3 h3⟩)
          refine s_Md_showBlock_8 ⟨fun z => absurd z (by omega), fun _ => ⟨hb, ?_⟩⟩
          rw [toN, hrow w1 hst.1 17 (by decide) (by decide), a17]
          rcases hc with rfl | rfl | rfl | rfl
          · have hs2 : St T L PF w0 w1 (t' :: (t' + 1) :: (oS (kdT T L) l' 1 ++ (q' :: (oP (kdT T L) r ++ (qe :: O))))) := by
              have e : oP (kdT T L) (nd 11 t' q' l' r') ++ (oP (kdT T L) r ++ (qe :: O)) = t' :: (t' + 1) :: (oS (kdT T L) l' 1 ++ (q' :: (oP (kdT T L) r ++ (qe :: O)))) := by rw [oQ11]; simp
              rw [← e]; exact hst'
            refine ⟨fun z => absurd z (by decide), fun _ => ⟨hb, ?_⟩, fun z => absurd z (by decide), fun z => absurd z (by decide), fun z => absurd z (by decide), fun z => absurd z (by decide), fun z => absurd z (by decide)⟩
            exact sh1 _ w1 _ hs2 (fun w2 h2 => ws_text (c := 12) (by omega) hF (by decide) (by decide) (j4 (Or.inl rfl)) h2 (fun w3 h3 => ⟨hb, ex1 _ w3 _ h3 (fun w4 h4 => en1 w4 h4)⟩))
          · have hs2 : St T L PF w0 w1 ((t' - 1) :: t' :: (t' + 1) :: (oS (kdT T L) l' 1 ++ (q' :: (oP (kdT T L) r ++ (qe :: O))))) := by
              have e : oP (kdT T L) (nd 12 t' q' l' r') ++ (oP (kdT T L) r ++ (qe :: O)) = (t' - 1) :: t' :: (t' + 1) :: (oS (kdT T L) l' 1 ++ (q' :: (oP (kdT T L) r ++ (qe :: O)))) := by rw [oQ12]; simp
              rw [← e]; exact hst'
            refine ⟨fun z => absurd z (by decide), fun z => absurd z (by decide), fun _ => ?_, fun z => absurd z (by decide), fun z => absurd z (by decide), fun z => absurd z (by decide), fun z => absurd z (by decide)⟩
            exact ws_text (c := 43) (by omega) hF (by decide) (by decide) (j5 rfl) hs2 (fun w1a h1a => ⟨hb, sh1 _ w1a _ h1a (fun w2 h2 => ws_text (c := 12) (by omega) hF (by decide) (by decide) (j4 (Or.inr rfl)) h2 (fun w3 h3 => ⟨hb, ex1 _ w3 _ h3 (fun w4 h4 => en1 w4 h4)⟩))⟩)
          · have hs2 : St T L PF w0 w1 ((t' - 1) :: t' :: (oS (kdT T L) l' 1 ++ ((q' - 1) :: q' :: (oP (kdT T L) r ++ (qe :: O))))) := by
              have e : oP (kdT T L) (nd 13 t' q' l' r') ++ (oP (kdT T L) r ++ (qe :: O)) = (t' - 1) :: t' :: (oS (kdT T L) l' 1 ++ ((q' - 1) :: q' :: (oP (kdT T L) r ++ (qe :: O)))) := by rw [oQ13]; simp
              rw [← e]; exact hst'
            have o13 : kdT T L (q' - 1) = 46 ∨ kdT T L (q' - 1) = 45 := o2
            refine ⟨fun z => absurd z (by decide), fun z => absurd z (by decide), fun z => absurd z (by decide), fun _ => ?_, fun z => absurd z (by decide), fun z => absurd z (by decide), fun z => absurd z (by decide)⟩
            refine ws_text (c := 44) (by omega) hF (by decide) (by decide) (j6 rfl) hs2 (fun w1a h1a => ⟨hb, sh1 _ w1a _ h1a (fun w2 h2 => ⟨hb, ex1 _ w2 _ h2 (fun w4 h4 => ⟨hb, ?_⟩)⟩)⟩)
            rw [hrow w4 h4.1 25 (by decide) (by decide), a25 rfl]
            by_cases k45 : kdT T L (q' - 1) = 45
            · rw [if_pos k45]
              exact ⟨fun z => absurd z (by decide), fun _ => ws_text (c := 45) (by omega) hF (by decide) (by decide) k45 h4 (fun w5 h5 => en1 w5 h5)⟩
            · rw [if_neg k45]
              exact ⟨fun _ => ws_text (c := 46) (by omega) hF (by decide) (by decide) (by omega) h4 (fun w5 h5 => en1 w5 h5), fun z => absurd rfl z⟩
          · have hs2 : St T L PF w0 w1 ((t' - 1) :: t' :: (oS (kdT T L) l' 1 ++ (q' :: (oP (kdT T L) r ++ (qe :: O))))) := by
              have e : oP (kdT T L) (nd 14 t' q' l' r') ++ (oP (kdT T L) r ++ (qe :: O)) = (t' - 1) :: t' :: (oS (kdT T L) l' 1 ++ (q' :: (oP (kdT T L) r ++ (qe :: O)))) := by rw [oQ14]; simp
              rw [← e]; exact hst'
            refine ⟨fun z => absurd z (by decide), fun z => absurd z (by decide), fun z => absurd z (by decide), fun z => absurd z (by decide), fun _ => ?_, fun z => absurd z (by decide), fun z => absurd z (by decide)⟩
            exact ws_text (c := 47) (by omega) hF (by decide) (by decide) (j7 rfl) hs2 (fun w1a h1a => ⟨hb, sh1 _ w1a _ h1a (fun w2 h2 => ⟨hb, ex1 _ w2 _ h2 (fun w4 h4 => en1 w4 h4)⟩)⟩)
/-- a block of the whole text -/
theorem sp_showBlock {a : Tr} {s lo D : Nat} (hb : tg a = 21) (hW : WS a) (hX : SX (kdT T L) (m + 1) a) (hK : SK (kdT T L) a) (hL : LB (m + 1) a) (hO : OB (kdT T L) vl a 13 0) (hs : s + nT a ≤ 130) (hlo : lo + nE a ≤ 2000) (hD : 1040 ≤ D) : SpPB g D T L m a s lo := by
  intro K w0 w1 PF O hF hM hR hst h
  cases a with
  | leaf => exact absurd hb (show (0 : Nat) ≠ 21 by decide)
  | inner c' t' q' l' r' =>
    have hc' : c' = 21 := hb
    subst hc'
    obtain ⟨p1, p2, p3⟩ : 1 ≤ 13 ∧ OB (kdT T L) vl l' (13 - 1) 0 ∧ (l' = nl ∨ tg l' = 20) := hO
    obtain ⟨y1, y2, y3⟩ : SK (kdT T L) l' ∧ kdT T L t' = 5 ∧ kdT T L q' = 6 := hK
    obtain ⟨d, rfl⟩ : ∃ d, D = d + 1 := ⟨D - 1, by omega⟩
    have hw' : WS l' := by
      simp only [WS] at hW
      rcases hW with ⟨z, -⟩ | ⟨z, -⟩ | ⟨-, a1⟩ | ⟨z, -⟩ | ⟨z, -⟩ | z | ⟨z, -⟩
      · omega
      · omega
      · exact a1
      all_goals omega
    have hs2 : St T L PF w0 w1 (t' :: (oP (kdT T L) l' ++ (q' :: O))) := by
      have e : oP (kdT T L) (nd 21 t' q' l' r') ++ O = t' :: (oP (kdT T L) l' ++ (q' :: O)) := by rw [oQ21]; simp
      rw [← e]; exact hst
    refine Cal.ofV (by decide) rfl (Nat.le_of_ble_eq_true rfl) (s_Md_showBlock (ws_text (c := 5) (by omega) hF (by decide) (by decide) y2 hs2 (fun w2 h2 => ?_)))
    exact pb_all (vl := vl) (szT l') l' s lo 12 0 d K w0 w2 PF O q' (Nat.le_refl _) p3 hw' hX y1 hL p2 hs hlo (by omega) hF hM hR y3 h2 h
end ModelShowB
