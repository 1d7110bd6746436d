/-! ===== the model judges exps: binary; all ===== -/
section ModelJudge5
variable {g : Mg} {d D : Nat} {K : Ou → Wd → Prop} {w w' : Wd} {T : Nat → Int} {L m : Nat} {E1 E2 : List En} {b : Bool}
theorem ln_4 {c : Nat} (h : lnO c ≠ 0) : 4 ≤ c ∧ (lnO c ≤ 2 ↔ c = 25 ∨ c = 26) ∧ (lnO c ≤ 3 ↔ c = 25 ∨ c = 26 ∨ c = 21 ∨ c = 22 ∨ c = 13 ∨ c = 23 ∨ c = 14 ∨ c = 24) := by
  unfold lnO at *
  by_cases h1 : c = 26
  · subst h1; decide
  rw [if_neg h1] at *
  by_cases h2 : c = 25
  · subst h2; decide
  rw [if_neg h2] at *
  by_cases h3 : c = 21 ∨ c = 22 ∨ c = 13 ∨ c = 23 ∨ c = 14 ∨ c = 24
  · rw [if_pos h3] at *; omega
  rw [if_neg h3] at *
  by_cases h4 : c = 15 ∨ c = 16
  · rw [if_pos h4] at *; omega
  rw [if_neg h4] at *
  by_cases h5 : c = 17 ∨ c = 18 ∨ c = 19
  · rw [if_pos h5] at *; omega
  · rw [if_neg h5] at h; exact absurd rfl h
theorem jd_bin {t q lo : Nat} {l r : Tr} (hd : 6 ≤ d) (hN : ∀ e ∈ E1 ++ E2, e.2.1 ≤ 4 ∧ e.2.2.2 ≤ 2) (hln : lnO (kdT T L t) ≠ 0) (hl : SpJ g d T L m E1 E2 b l lo) (hr : SpJ g d T L m E1 E2 b r (lo + nX l)) (h1 : 1 ≤ nX l) (h2 : 1 ≤ nX r) (ht : t ≤ m) (hfl : fst_ l ≤ m) (hfr : fst_ r ≤ m) (hlo : lo + nX l + nX r < 2000) : SpJ g (d + 2) T L m E1 E2 b (nd 6 t q l r) lo := by
  intro K w k hM hE hA hK h
  have hn : nX (nd 6 t q l r) = nX l + nX r + 1 := rfl
  rw [hn] at h ⊢
  rw [show lo + (nX l + nX r + 1) - 1 = lo + nX l + nX r by omega]
  obtain ⟨a1, a2, a3, a4, a5, a6, a7, -⟩ := hA
  obtain ⟨h27, h26⟩ := a5 (by decide) (by decide)
  have h26 : w 26 (lo + nX l + nX r) = 11 := h26
  have h29 : w 29 (lo + nX l + nX r) = ((lo + nX l - 1 : Nat) : Int) := a6 (by decide)
  have h30 : w 30 (lo + nX l + nX r) = ((lo + nX l + nX r - 1 : Nat) : Int) := a7 rfl
  have l28 := a3 (by omega) (by decide) (by decide)
  have r28 := a4 (by omega) (by decide) (by decide) (by decide)
  have hb : (0 : Int) ≤ ((lo + nX l + nX r : Nat) : Int) ∧ ((lo + nX l + nX r : Nat) : Int) < 2000 := by omega
  obtain ⟨g4, g2, g3⟩ := ln_4 hln
  have rl := kn_rng (T := T) (L := L) (b := b) (fun e he => (hN e he).2) l
  have rr := kn_rng (T := T) (L := L) (b := b) (fun e he => (hN e he).2) r
  have hj : jkT T L (E1 ++ E2) b (nd 6 t q l r) = (if kdT T L t = 21 ∨ kdT T L t = 22 then min (min (jkT T L (E1 ++ E2) b l) (jkT T L (E1 ++ E2) b r)) (dm T L (knT T L (E1 ++ E2) b r) (knT T L (E1 ++ E2) b l) (fst_ r)) else min (min (jkT T L (E1 ++ E2) b l) (jkT T L (E1 ++ E2) b r)) (min (dm T L (knT T L (E1 ++ E2) b l) (if lnO (kdT T L t) ≤ 2 then 2 else 1) (fst_ l)) (dm T L (knT T L (E1 ++ E2) b r) (if lnO (kdT T L t) ≤ 2 then 2 else 1) (fst_ r)))) := rfl
  have hkn : knT T L (E1 ++ E2) b (nd 6 t q l r) = (if lnO (kdT T L t) ≤ 3 then 2 else 1) := rfl
  have hlo1 : lo + nX l - 1 < 2000 := by omega
  have hlo2 : lo + nX l + nX r - 1 < 2000 := by omega
  refine Cal.ofV (by decide) rfl (Nat.le_of_ble_eq_true rfl) (s_Md_judge ⟨hb, hb, hb, ?_⟩)
  rw [toN, h26]
  refine ⟨fun z => absurd z (by decide), fun z => absurd z (by decide), fun z => absurd z (by decide), fun z => absurd z (by decide), fun z => absurd z (by decide), fun z => absurd z (by decide), fun z => absurd z (by decide), fun z => absurd z (by decide), fun z => absurd z (by decide), fun z => absurd z (by decide), fun z => absurd z (by decide), fun _ => ?_⟩
  have hKK : ∀ (v : Int) (w3 : Wd), K (.inl (some (vI v))) w3 → (fun (o : Ou) (w31 : Wd) => rIt o (fun b => K (Sum.inr b) w31) fun x32 => K (Sum.inl (some (vI x32))) w31) (.inl (some (vI v))) w3 := fun _ _ z => z
  generalize (fun (o : Ou) (w31 : Wd) => rIt o (fun b => K (Sum.inr b) w31) fun x32 => K (Sum.inl (some (vI x32))) w31) = KK at hKK ⊢
  refine Cal.ofV (by decide) rfl (Nat.le_of_ble_eq_true rfl) (s_Md_judgeBinary ⟨hb, hb, ?_⟩)
  rw [toN, h29, h27]
  refine hl _ w k hM hE a1 hK (fun w1 hF1 hK1 hJ1 => ⟨hb, ?_⟩)
  rw [hF1.nm (by decide), h30]
  refine hr _ w1 _ (hM.fj hF1) (hE.fj hF1) (a2.fj hF1) hK1 (fun w2 hF2 hK2 hJ2 => ?_)
  have hM2 := (hM.fj hF1).fj hF2
  have n28 : w2 28 = w 28 := (hF2.nm (by decide)).trans (hF1.nm (by decide))
  have n29 : w2 29 = w 29 := (hF2.nm (by decide)).trans (hF1.nm (by decide))
  have n30 : w2 30 = w 30 := (hF2.nm (by decide)).trans (hF1.nm (by decide))
  have hF12 : FMj w w2 lo (lo + (nX l + nX r + 1)) := (hF1.le (Nat.le_refl _) (by omega)).tr (hF2.le (by omega) (by omega))
  have hJ1' : JR T L (E1 ++ E2) b w2 l lo := JR.congr l lo hJ1 (fun z p1 p2 => hF2.2.2 z (Or.inl (by omega)))
  have hok : ∀ w3, Blm w2 w3 → KyM w3 (min k (jkT T L (E1 ++ E2) b (nd 6 t q l r))) → KK (.inl (some (vI (if lnO (kdT T L t) ≤ 3 then 1 else 0)))) w3 := by
    intro w3 hB hK3
    refine hKK _ _ ?_
    have := h w3 (hF12.tr (FMj.bl hB)) hK3 ⟨hB.jr hJ1', hB.jr hJ2, fun z => absurd z (by decide), fun z => absurd z (by decide), fun z => absurd z (by decide)⟩
    rw [hkn] at this
    by_cases z : lnO (kdT T L t) ≤ 3
    · rw [if_pos z] at this ⊢; exact this
    · rw [if_neg z] at this ⊢; exact this
  have eq53 : kdT T L t = 21 ∨ kdT T L t = 22 → V g LM jMd_judgeBinary (d + 1) KK 53 [(0, vA 0), (1, vI ((lo + nX l + nX r : Nat) : Int)), (4, vI (kI (knT T L (E1 ++ E2) b l))), (5, vI (kI (knT T L (E1 ++ E2) b r)))] [] w2 := by
    intro hk
    refine s_Md_judgeBinary_53 ⟨hb, ?_⟩
    rw [toN, n30, h30]
    refine sp_mustBeM (by omega) hM2 hlo2 rr rl (by rw [n28]; exact r28) hfr hK2 (fun w3 hB hK3 => ?_)
    have := hok w3 hB (by rw [hj, if_pos hk]; simp only [Nat.min_assoc] at hK3 ⊢; exact hK3)
    rw [if_pos (g3.mpr (by omega))] at this
    exact this
  have go94 : ¬ (kdT T L t = 21 ∨ kdT T L t = 22) → ∀ v : Int, (v = if lnO (kdT T L t) ≤ 2 then 1 else 0) → V g LM jMd_judgeBinary (d + 1) KK 94 [(0, vA 0), (1, vI ((lo + nX l + nX r : Nat) : Int)), (3, vI (t : Int)), (4, vI (kI (knT T L (E1 ++ E2) b l))), (5, vI (kI (knT T L (E1 ++ E2) b r)))] [vI v] w2 := by
    intro hk v hv
    have go : ∀ y : Int, y = (if lnO (kdT T L t) ≤ 2 then 2 else 1) → V g LM jMd_judgeBinary (d + 1) KK 106 [(0, vA 0), (1, vI ((lo + nX l + nX r : Nat) : Int)), (3, vI (t : Int)), (4, vI (kI (knT T L (E1 ++ E2) b l))), (5, vI (kI (knT T L (E1 ++ E2) b r))), (6, vI v)] [vI (kI y)] w2 := by
      intro y hy
      have hy2 : 0 ≤ y ∧ y ≤ 2 := by rw [hy]; split <;> decide
      refine s_Md_judgeBinary_106 ⟨hb, ?_⟩
      rw [toN, n29, h29]
      refine sp_mustBeM (by omega) hM2 hlo1 rl hy2 (by rw [n28]; exact l28) hfl hK2 (fun w3 hB3 hK3 => ⟨hb, ?_⟩)
      rw [hB3.1 30 (by decide), n30, h30]
      have hM3 := hM2.fj (FMj.bl (lo := 0) (hi := 0) hB3)
      refine sp_mustBeM (by omega) hM3 hlo2 rr hy2 (by rw [hB3.1 28 (by decide), n28]; exact r28) hfr hK3 (fun w4 hB4 hK4 => ?_)
      have hM4 := hM3.fj (FMj.bl (lo := 0) (hi := 0) hB4)
      have hB : Blm w2 w4 := ⟨fun c hc => (hB4.1 c hc).trans (hB3.1 c hc), fun c p q => (hB4.2 c p q).trans (hB3.2 c p q)⟩
      have hfin := hok w4 hB (by rw [hj, if_neg hk, ← hy]; simp only [Nat.min_assoc] at hK4 ⊢; exact hK4)
      have f176 : kdT T L t = 13 ∨ kdT T L t = 23 ∨ kdT T L t = 14 ∨ kdT T L t = 24 → V g LM jMd_judgeBinary (d + 1) KK 176 [(6, vI v)] [] w4 := by
        intro hc
        rw [if_pos (g3.mpr (by omega))] at hfin
        exact s_Md_judgeBinary_176 (s_Md_judgeBinary_181 ⟨fun _ => s_Md_judgeBinary_193 (s_Md_judgeBinary_198 hfin), fun _ => ⟨fun z => absurd z (by decide), fun _ => s_Md_judgeBinary_193 (s_Md_judgeBinary_198 hfin)⟩⟩)
      refine sp_isSignM (c := 13) (by omega) hM4 ht g4 (by decide) (by decide) ⟨fun z => f176 (Or.inl (is1 z)), fun z1 => ?_⟩
      refine sp_isSignM (c := 23) (by omega) hM4 ht g4 (by decide) (by decide) ⟨fun z => f176 (Or.inr (Or.inl (is1 z))), fun z2 => ?_⟩
      refine sp_isSignM (c := 14) (by omega) hM4 ht g4 (by decide) (by decide) ⟨fun z => f176 (Or.inr (Or.inr (Or.inl (is1 z)))), fun z3 => ?_⟩
      refine sp_isSignM (c := 24) (by omega) hM4 ht g4 (by decide) (by decide) ⟨fun z4 => ?_, fun z => f176 (Or.inr (Or.inr (Or.inr (is1 z))))⟩
      have n1 := is0 z1
      have n2 := is0 z2
      have n3 := is0 z3
      have n4 := is0 z4
      by_cases hc : kdT T L t = 25 ∨ kdT T L t = 26
      · rw [if_pos (g2.mpr hc)] at hv
        rw [if_pos (g3.mpr (by omega))] at hfin
        exact s_Md_judgeBinary_181 ⟨fun _ => s_Md_judgeBinary_193 (s_Md_judgeBinary_198 hfin), fun z => absurd (hv.symm.trans z) (by decide)⟩
      · rw [if_neg (fun z => hc (g2.mp z))] at hv
        rw [if_neg (fun z => by have := g3.mp z; omega)] at hfin
        exact s_Md_judgeBinary_181 ⟨fun z => absurd hv z, fun _ => ⟨fun _ => s_Md_judgeBinary_198 hfin, fun z => absurd rfl z⟩⟩
    refine s_Md_judgeBinary_94 ⟨fun z => ?_, fun z => ?_⟩
    · refine go 1 ?_
      by_cases c2 : lnO (kdT T L t) ≤ 2
      · rw [if_pos c2] at hv; rw [hv] at z; exact absurd z (by decide)
      · rw [if_neg c2]
    · refine go 2 ?_
      by_cases c2 : lnO (kdT T L t) ≤ 2
      · rw [if_pos c2]
      · rw [if_neg c2] at hv; exact absurd hv z
  refine sp_isSignM (c := 21) (by omega) hM2 ht g4 (by decide) (by decide) ⟨fun z => eq53 (Or.inl (is1 z)), fun z1 => ?_⟩
  refine sp_isSignM (c := 22) (by omega) hM2 ht g4 (by decide) (by decide) ⟨fun z2 => ?_, fun z => eq53 (Or.inr (is1 z))⟩
  have n1 := is0 z1
  have n2 := is0 z2
  refine sp_isSignM (c := 25) (by omega) hM2 ht g4 (by decide) (by decide) ⟨fun z => s_Md_judgeBinary_89 (go94 (by omega) 1 (by rw [if_pos (g2.mpr (Or.inl (is1 z)))])), fun z3 => ?_⟩
  refine sp_isSignM (c := 26) (by omega) hM2 ht g4 (by decide) (by decide) ⟨fun z4 => go94 (by omega) 0 ?_, fun z => s_Md_judgeBinary_89 (go94 (by omega) 1 (by rw [if_pos (g2.mpr (Or.inr (is1 z)))]))⟩
  have n3 := is0 z3
  have n4 := is0 z4
  rw [if_neg (fun z => by have := g2.mp z; omega)]
end ModelJudge5
