/-! ===== the model prints exps ===== -/
/-- what is still to be printed, behind w0 -/
def St (T : Nat → Int) (L : Nat) (PF : List Int) (w0 w1 : Wd) (O : List Nat) : Prop := FPm w0 w1 ∧ ∃ P, PRm w1 P ∧ prB T L P O = PF
theorem ln_cases (k : Nat) (h : lnO k ≠ 0) : (k = 26 ∧ lnO k = 1) ∨ (k = 25 ∧ lnO k = 2) ∨ ((k = 15 ∨ k = 16) ∧ lnO k = 4) ∨ ((k = 17 ∨ k = 18 ∨ k = 19) ∧ lnO k = 5) ∨ ((k = 21 ∨ k = 22 ∨ k = 13 ∨ k = 23 ∨ k = 14 ∨ k = 24) ∧ lnO k = 3) := by
  by_cases h1 : k = 26
  · subst h1; exact Or.inl ⟨rfl, rfl⟩
  by_cases h2 : k = 25
  · subst h2; exact Or.inr (Or.inl ⟨rfl, rfl⟩)
  by_cases h3 : k = 21 ∨ k = 22 ∨ k = 13 ∨ k = 23 ∨ k = 14 ∨ k = 24
  · refine Or.inr (Or.inr (Or.inr (Or.inr ⟨h3, ?_⟩)))
    unfold lnO; rw [if_neg h1, if_neg h2, if_pos h3]
  by_cases h4 : k = 15 ∨ k = 16
  · refine Or.inr (Or.inr (Or.inl ⟨h4, ?_⟩))
    unfold lnO; rw [if_neg h1, if_neg h2, if_neg h3, if_pos h4]
  by_cases h5 : k = 17 ∨ k = 18 ∨ k = 19
  · refine Or.inr (Or.inr (Or.inr (Or.inl ⟨h5, ?_⟩)))
    unfold lnO; rw [if_neg h1, if_neg h2, if_neg h3, if_neg h4, if_pos h5]
  · exfalso
    apply h
    unfold lnO; rw [if_neg h1, if_neg h2, if_neg h3, if_neg h4, if_neg h5]
theorem lnT_pos {kd : Nat → Nat} {j : Nat} : ∀ (a : Tr), WE a → tkB kd j a → 1 ≤ lnT kd a
  | .leaf, h, _ => h.elim
  | .inner c t q l r, h, hk => by
    have ih := lnT_pos (kd := kd) (j := j) l
    simp only [WE] at h
    simp only [lnT]
    split
    · omega
    · split
      · rename_i h6
        have := hk.2.2.2.1 h6
        omega
      · split
        · rename_i h7
          subst h7
          rcases h with ⟨z, -⟩ | ⟨z, -⟩ | ⟨z, -⟩ | ⟨z, -⟩ | ⟨z, -⟩ | ⟨z, -⟩ | ⟨z, -⟩ | ⟨z, -⟩ | ⟨-, hl, -⟩
          all_goals first | (exact absurd z (by decide)) | exact ih hl hk.1
        · omega
section ModelShowX
variable {g : Mg} {d D : Nat} {K : Ou → Wd → Prop} {w w0 w1 : Wd} {T : Nat → Int} {L m : Nat} {PF : List Int} {O : List Nat}
theorem ws_show {t : Nat} (hM : TxM T L m w0) (hF : PF.length ≤ 5000) (ht : t ≤ m) (hs : St T L PF w0 w1 (t :: O)) (h : ∀ w2, St T L PF w0 w2 O → K (.inl none) w2) : Cal g LM jMd_show D [vA 0, vI (t : Int)] w1 K := by
  obtain ⟨f, P, hP, e⟩ := hs
  rw [prB_cons] at e
  have hle := prB_le T L O (prB T L P [t])
  rw [e] at hle
  exact sp_show (hM.fp f) ht hP (by omega) (fun w2 f2 h2 => h w2 ⟨f.tr f2, _, h2, e⟩)
theorem ws_text {o t c : Nat} (hD : 5 ≤ D) (hF : PF.length ≤ 5000) (ho : 1001 ≤ o ∧ o < 1060) (hc : sB (o - 1001) = sgn c ∧ 4 ≤ c) (hk : kdT T L t = c) (hs : St T L PF w0 w1 (t :: O)) (h : ∀ w2, St T L PF w0 w2 O → K (.inl none) w2) : Cal g LM jMd_showText D [vA 0, vA o] w1 K := by
  obtain ⟨f, P, hP, e⟩ := hs
  rw [prB_cons] at e
  have hle := prB_le T L O (prB T L P [t])
  rw [e] at hle
  exact sp_showText hD ho hc hk hP (by omega) (fun w2 f2 h2 => h w2 ⟨f.tr f2, _, h2, e⟩)
theorem sp_line6 {t n : Nat} (hD : 6 ≤ D) (hM : TxM T L m w) (ht : t ≤ m) (hn : n < 2000) (hk : lnO (kdT T L t) ≠ 0) (h26 : w 26 n = 11) (h27 : w 27 n = (t : Int)) (h : K (.inl (some (vI ((lnO (kdT T L t) : Nat) : Int)))) w) : Cal g LM jMd_line D [vA 0, vI (n : Int)] w K := by
  obtain ⟨d, rfl⟩ : ∃ d, D = d + 1 := ⟨D - 1, by omega⟩
  have hb : (0 : Int) ≤ (n : Int) ∧ (n : Int) < 2000 := by omega
  have hc := ln_cases _ hk
  have h4 : 4 ≤ kdT T L t := by omega
  have f107 : ∀ a b : Int, (¬ a = 0 ↔ kdT T L t = 15 ∨ kdT T L t = 16) → (¬ b = 0 ↔ kdT T L t = 17 ∨ kdT T L t = 18 ∨ kdT T L t = 19) → V g LM jMd_line (d + 1) K 107 [(0, vA 0), (2, vI (t : Int)), (3, vI a)] [vI b] w := by
    intro a b ha hb'
    refine s_Md_line_107 (sp_isSignM (c := 26) (by omega) hM ht h4 (by decide) (by decide) ⟨fun z1 => sp_isSignM (c := 25) (by omega) hM ht h4 (by decide) (by decide) ⟨fun z2 => ⟨fun za => ⟨fun zb => s_Md_line_155 ?_, fun zb => s_Md_line_155 ?_⟩, fun za => s_Md_line_155 ?_⟩, fun z2 => s_Md_line_155 ?_⟩, fun z1 => s_Md_line_155 ?_⟩)
    · have n1 := is0 z1
      have n2 := is0 z2
      have : lnO (kdT T L t) = 3 := by omega
      rw [this] at h; exact h
    · have n1 := hb'.mp zb
      have : lnO (kdT T L t) = 5 := by omega
      rw [this] at h; exact h
    · have n1 := ha.mp za
      have : lnO (kdT T L t) = 4 := by omega
      rw [this] at h; exact h
    · have n1 := is1 z2
      have : lnO (kdT T L t) = 2 := by omega
      rw [this] at h; exact h
    · have n1 := is1 z1
      have : lnO (kdT T L t) = 1 := by omega
      rw [this] at h; exact h
  have f71 : ∀ a : Int, (¬ a = 0 ↔ kdT T L t = 15 ∨ kdT T L t = 16) → V g LM jMd_line (d + 1) K 71 [(0, vA 0), (2, vI (t : Int))] [vI a] w := by
    intro a ha
    refine s_Md_line_71 (sp_isSignM (c := 17) (by omega) hM ht h4 (by decide) (by decide) ⟨fun z1 => s_Md_line_102 (f107 a 1 ha ?_), fun z1 => sp_isSignM (c := 18) (by omega) hM ht h4 (by decide) (by decide) ⟨fun z2 => s_Md_line_102 (f107 a 1 ha ?_), fun z2 => sp_isSignM (c := 19) (by omega) hM ht h4 (by decide) (by decide) ⟨fun z3 => f107 a 0 ha ?_, fun z3 => s_Md_line_102 (f107 a 1 ha ?_)⟩⟩⟩)
    · have := is1 z1; omega
    · have := is1 z2; omega
    · have := is0 z1; have := is0 z2; have := is0 z3; omega
    · have := is1 z3; omega
  refine Cal.ofV (by decide) rfl (Nat.le_of_ble_eq_true rfl) (s_Md_line ?_)
  rw [toN, h26, h27]
  refine ⟨hb, fun z => absurd z (by decide), fun _ => ⟨hb, fun _ => ⟨hb, fun _ => ⟨hb, sp_isSignM (c := 15) (by omega) hM ht h4 (by decide) (by decide) ⟨fun z1 => s_Md_line_66 (f71 1 ?_), fun z1 => sp_isSignM (c := 16) (by omega) hM ht h4 (by decide) (by decide) ⟨fun z2 => f71 0 ?_, fun z2 => s_Md_line_66 (f71 1 ?_)⟩⟩⟩, fun z => absurd rfl z⟩, fun z => absurd z (by decide)⟩⟩
  · have := is1 z1; omega
  · have := is0 z1; have := is0 z2; omega
  · have := is1 z2; omega
theorem sp_line7 {n : Nat} (hD : 1 ≤ D) (hn : n < 2000) (h9 : w 26 n ≠ 9) (h10 : w 26 n ≠ 10) (h11 : w 26 n ≠ 11) (h : K (.inl (some (vI 7))) w) : Cal g LM jMd_line D [vA 0, vI (n : Int)] w K := by
  obtain ⟨d, rfl⟩ : ∃ d, D = d + 1 := ⟨D - 1, by omega⟩
  have hb : (0 : Int) ≤ (n : Int) ∧ (n : Int) < 2000 := by omega
  refine Cal.ofV (by decide) rfl (Nat.le_of_ble_eq_true rfl) (s_Md_line ?_)
  rw [toN]
  exact ⟨hb, fun z => absurd z h9, fun _ => ⟨hb, fun _ => ⟨hb, fun z => absurd z h11, fun _ => h⟩, fun z => absurd z h10⟩⟩
theorem sp_line5 {n : Nat} (hD : 1 ≤ D) (hn : n < 2000) (h9 : w 26 n = 9 ∨ w 26 n = 10) (h : K (.inl (some (vI 6))) w) : Cal g LM jMd_line D [vA 0, vI (n : Int)] w K := by
  obtain ⟨d, rfl⟩ : ∃ d, D = d + 1 := ⟨D - 1, by omega⟩
  have hb : (0 : Int) ≤ (n : Int) ∧ (n : Int) < 2000 := by omega
  refine Cal.ofV (by decide) rfl (Nat.le_of_ble_eq_true rfl) (s_Md_line ?_)
  rw [toN]
  rcases h9 with h9 | h9
  · rw [h9]
    exact ⟨hb, fun _ => s_Md_line_22 h, fun z => absurd rfl z⟩
  · rw [h9]
    exact ⟨hb, fun z => absurd z (by decide), fun _ => ⟨hb, fun z => absurd rfl z, fun _ => s_Md_line_22 h⟩⟩
/-- showExp prints an exp where line r is asked for and the exp is of that line -/
def SpWA (g : Mg) (D : Nat) (T : Nat → Int) (L m : Nat) (a : Tr) (lo : Nat) : Prop := ∀ (K : Ou → Wd → Prop) (w0 w1 : Wd) (PF : List Int) (O : List Nat) (r : Nat), PF.length ≤ 5000 → TxM T L m w0 → AR (kdT T L) w0 a lo → St T L PF w0 w1 (oS (kdT T L) a 1 ++ O) → r ≤ lnT (kdT T L) a → (∀ w2, St T L PF w0 w2 O → K (.inl none) w2) → Cal g LM jMd_showExp D [vA 0, vI ((lo + nX a - 1 : Nat) : Int), vI (r : Int)] w1 K
def SpWB (g : Mg) (D : Nat) (T : Nat → Int) (L m : Nat) (a : Tr) (lo : Nat) : Prop := ∀ (K : Ou → Wd → Prop) (w0 w1 : Wd) (PF : List Int) (O : List Nat) (r : Nat), PF.length ≤ 5000 → TxM T L m w0 → AR (kdT T L) w0 a lo → St T L PF w0 w1 (oS (kdT T L) a r ++ O) → lk (kdT T L) a r → (∀ w2, St T L PF w0 w2 O → K (.inl none) w2) → Cal g LM jMd_showExp D [vA 0, vI ((lo + nX a - 1 : Nat) : Int), vI (r : Int)] w1 K
theorem oS_r {kd : Nat → Nat} {a : Tr} {r : Nat} (h : r ≤ lnT kd a) (h1 : 1 ≤ lnT kd a) : oS kd a r = oS kd a 1 := by
  cases a with
  | leaf => rfl
  | inner c t q l rr =>
    by_cases h7 : c = 7
    · subst h7
      have e : lnT kd (.inner 7 t q l rr) = lnT kd l := rfl
      rw [e] at h h1
      show (if r ≤ lnT kd l then _ else _) = (if 1 ≤ lnT kd l then _ else _)
      rw [if_pos h, if_pos h1]
    · simp only [oS, if_neg h7]
/-- the line of a row -/
theorem sp_lineT : ∀ (a : Tr) (lo : Nat), WE a → M9 a → tkB (kdT T L) (m + 1) a → 6 ≤ D → lo + nX a ≤ 2000 → TxM T L m w → AR (kdT T L) w a lo → K (.inl (some (vI ((lnT (kdT T L) a : Nat) : Int)))) w → Cal g LM jMd_line D [vA 0, vI ((lo + nX a - 1 : Nat) : Int)] w K
  | .leaf, lo, h, _, _, _, _, _, _, _ => h.elim
  | .inner c t q l r, lo, hW, h9, hk, hD, hlo, hM, hA, h => by
    have hW' := hW
    simp only [WE] at hW'
    have htm : t ≤ m := by have := hk.2.2.1; omega
    by_cases h7 : c = 7
    · subst h7
      rcases hW' with ⟨z, -⟩ | ⟨z, -⟩ | ⟨z, -⟩ | ⟨z, -⟩ | ⟨z, -⟩ | ⟨z, -⟩ | ⟨z, -⟩ | ⟨z, -⟩ | ⟨-, hl, rfl⟩
      iterate 8 exact absurd z (by decide)
      exact sp_lineT l lo hl ⟨h9.1.1, h9.1.2.2.1⟩ hk.1 hD hlo hM hA.1 h
    · have hc9 : c ≠ 9 := h9.2
      have hn : nX (.inner c t q l r) = nX l + nX r + 1 := by
        show nX l + nX r + (if c = 7 ∨ c = 9 then 0 else 1) = _
        rw [if_neg (by omega)]
      rw [hn] at hlo ⊢
      rw [show lo + (nX l + nX r + 1) - 1 = lo + nX l + nX r by omega]
      obtain ⟨-, -, -, -, h5, -⟩ := hA
      obtain ⟨h27, h26⟩ := h5 h7 hc9
      by_cases h6 : c = 6
      · subst h6
        exact sp_line6 hD hM htm (by omega) (hk.2.2.2.1 rfl) h26 h27 h
      · by_cases h5' : c = 5
        · subst h5'
          refine sp_line5 (by omega) (by omega) ?_ h
          have e : w 26 (lo + nX l + nX r) = (if kdT T L t = 16 then 9 else 10) := h26
          rw [e]
          split
          · exact Or.inl rfl
          · exact Or.inr rfl
        · have hln : lnT (kdT T L) (.inner c t q l r) = 7 := by simp only [lnT]; rw [if_neg h5', if_neg h6, if_neg h7]
          rw [hln] at h
          have hv : w 26 (lo + nX l + nX r) ≠ 9 ∧ w 26 (lo + nX l + nX r) ≠ 10 ∧ w 26 (lo + nX l + nX r) ≠ 11 := by
            rw [h26]
            rcases hW' with ⟨rfl, -⟩ | ⟨rfl, -⟩ | ⟨rfl, -⟩ | ⟨rfl, -⟩ | ⟨rfl, -⟩ | ⟨z, -⟩ | ⟨z, -⟩ | ⟨z, -⟩ | ⟨z, -⟩
            · show kdM (kdT T L t) ≠ 9 ∧ kdM (kdT T L t) ≠ 10 ∧ kdM (kdT T L t) ≠ 11
              unfold kdM
              split
              · decide
              · split
                · decide
                · split
                  · decide
                  · split <;> decide
            · show (4 : Int) ≠ 9 ∧ (4 : Int) ≠ 10 ∧ (4 : Int) ≠ 11; decide
            · show (5 : Int) ≠ 9 ∧ (5 : Int) ≠ 10 ∧ (5 : Int) ≠ 11; decide
            · show (7 : Int) ≠ 9 ∧ (7 : Int) ≠ 10 ∧ (7 : Int) ≠ 11; decide
            · show (8 : Int) ≠ 9 ∧ (8 : Int) ≠ 10 ∧ (8 : Int) ≠ 11; decide
            all_goals omega
          exact sp_line7 (by omega) (by omega) hv.1 hv.2.1 hv.2.2 h
end ModelShowX
