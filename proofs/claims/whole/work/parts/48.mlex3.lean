/-! ===== the model's findTokens: words, numbers, signs, all ===== -/
section ModelFind2
variable {g : Mg} {D : Nat} {K : Ou → Wd → Prop} {w : Wd}
/-- words: to the end of the letters -/
theorem ft_ltr {T : Nat → Int} {L i E : Nat} (hD : 1 ≤ D) (hL : w 0 5 = (L : Int)) (hL4 : L ≤ 4000) (hT : w 3 = T) (hB : ∀ j, j < L → -128 ≤ T j ∧ T j ≤ 127) (h : V g LM jMd_findTokens (D + 1) K 169 [(0, vA 0), (1, vI (E : Int)), (3, vI (i : Int))] [] w) : ∀ (n j : Nat), L - j ≤ n → j ≤ L → eW T L j = E → V g LM jMd_findTokens (D + 1) K 131 [(0, vA 0), (1, vI (j : Int)), (3, vI (i : Int))] [] w := by
  intro n
  induction n with
  | zero =>
    intro j hn hj he
    rw [eW, if_pos (by omega)] at he
    subst he
    exact s_Md_findTokens_131 ⟨fun _ => h, fun c => absurd (by rw [hL]; omega) c⟩
  | succ n ih =>
    intro j hn hj he
    rw [eW] at he
    refine s_Md_findTokens_131 ⟨fun c => ?_, fun c => ?_⟩
    · rw [hL] at c
      rw [if_pos (by omega)] at he
      subst he
      exact h
    · rw [hL] at c
      rw [if_neg (by omega)] at he
      have hBj := hB j (by omega)
      have go : eW T L (j + 1) = E → V g LM jMd_findTokens (D + 1) K 163 [(0, vA 0), (1, vI (j : Int)), (3, vI (i : Int))] [] w := fun z => s_Md_findTokens_163 (by rw [wr_n1 (by omega)]; exact ih (j + 1) (by omega) (by omega) z)
      rw [toN, hT]
      refine ⟨by omega, sp_isLM hD ⟨by omega, by omega⟩ ?_⟩
      by_cases h1 : isL (T j)
      · rw [if_pos h1]
        rw [if_pos (Or.inl h1)] at he
        exact ⟨fun _ => go he, fun z => absurd z (by decide)⟩
      · rw [if_neg h1, hT]
        refine ⟨fun z => absurd rfl z, fun _ => ⟨by omega, sp_isDM hD ⟨by omega, by omega⟩ ?_⟩⟩
        by_cases h2 : isD (T j)
        · rw [if_pos h2]
          rw [if_pos (Or.inr h2)] at he
          exact ⟨fun z => absurd z (by decide), fun _ => go he⟩
        · rw [if_neg h2]
          rw [if_neg (fun z => z.elim h1 h2)] at he
          subst he
          exact ⟨fun _ => h, fun z => absurd rfl z⟩
/-- words: which one -/
theorem ft_wrd {T : Nat → Int} {i E : Nat} (hD : 4 ≤ D) (hE : E ≤ 4000) (hiE : i ≤ E) (hT : w 3 = T) (hw : ∀ x : Int, (x < 0 ∧ wKd T i (E - i) 33 0 = 2) ∨ (0 ≤ x ∧ 27 ≤ wKd T i (E - i) 33 0) → V g LM jMd_findTokens (D + 1) K 232 [(0, vA 0), (1, vI (E : Int)), (3, vI (i : Int)), (4, vI x)] [vI (if 12 < E - i then 0 else 1)] w) :
    ∀ (n q : Nat) (x : Int), q + n = 33 → ((x < 0 ∧ ∀ j, j < q → ¬ ((sB (3 + j)).length = E - i ∧ mtb T i (sB (3 + j)) = true)) ∨ (0 ≤ x ∧ ∃ j, j < 33 ∧ (sB (3 + j)).length = E - i ∧ mtb T i (sB (3 + j)) = true)) → V g LM jMd_findTokens (D + 1) K 176 [(0, vA 0), (1, vI (E : Int)), (3, vI (i : Int)), (4, vI x), (5, vI (q : Int))] [] w := by
  have e1 : wr ((E : Int) - (i : Int)) = ((E - i : Nat) : Int) := wrN (by omega) (by omega)
  intro n
  induction n with
  | zero =>
    intro q x hq hx
    have hfin := hw x (by
      rcases hx with ⟨h1, h2⟩ | ⟨h1, j, h2, h3, h4⟩
      · left
        refine ⟨h1, ?_⟩
        rcases wKd_cases T i (E - i) 33 0 with ⟨a, _⟩ | ⟨k, k1, k2, k3, k4, k5⟩
        · exact a
        · obtain ⟨q', q1, q2⟩ := wd_b k (by omega)
          exact absurd ⟨by rw [q2]; exact k4, by rw [q2]; exact k5⟩ (h2 q' (by omega))
      · right
        refine ⟨h1, ?_⟩
        rcases wKd_cases T i (E - i) 33 0 with ⟨a, b⟩ | ⟨k, k1, k2, k3, k4, k5⟩
        · obtain ⟨k, q1, q2⟩ := wd_a j h2
          exact absurd ⟨by rw [q2]; exact h3, by rw [q2]; exact h4⟩ (b k (by omega) (by omega))
        · omega)
    refine s_Md_findTokens_176 ⟨fun _ => ?_, fun c => absurd (by omega) c⟩
    rw [e1]
    refine ⟨fun c => ?_, fun c => ?_⟩
    · rw [if_pos (by omega)] at hfin; exact hfin
    · rw [if_neg (by omega)] at hfin; exact hfin
  | succ n ih =>
    intro q x hq hx
    refine s_Md_findTokens_176 ⟨fun c => absurd c (by omega), fun _ => ⟨by omega, ?_⟩⟩
    rw [e1, toN]
    have eo : 1004 + q - 1001 = 3 + q := by omega
    have hb3 : 1001 ≤ 1004 + q ∧ 1004 + q < 1060 := by omega
    have hb4 : i + (E - i) ≤ 4020 := by omega
    have hnx : ∀ x : Int, V g LM jMd_findTokens (D + 1) K 176 [(0, vA 0), (1, vI (E : Int)), (3, vI (i : Int)), (4, vI x), (5, vI ((q + 1 : Nat) : Int))] [] w → V g LM jMd_findTokens (D + 1) K 211 [(0, vA 0), (1, vI (E : Int)), (3, vI (i : Int)), (5, vI (q : Int))] [vI x] w := fun x z => s_Md_findTokens_211 (by rw [wr_n1 (by omega)]; exact z)
    have hih := ih (q + 1)
    have hq1 : q + 1 + n = 33 := by omega
    have hq33 : q < 33 := by omega
    have hq0 : (0 : Int) ≤ (q : Int) := by omega
    refine sp_isText hD hb3 hb4 (fun h1 h2 => ⟨fun z => absurd z (by decide), fun _ => ?_⟩) (fun h1 => ⟨fun _ => ?_, fun z => absurd rfl z⟩)
    · rw [eo] at h1 h2
      rw [hT] at h2
      exact hnx _ (hih _ hq1 (Or.inr ⟨hq0, q, hq33, h1.symm, h2⟩))
    · rw [eo, hT] at h1
      refine hnx _ (hih _ hq1 ?_)
      rcases hx with ⟨x1, x2⟩ | hx
      · refine Or.inl ⟨x1, fun j hj z => ?_⟩
        by_cases hjq : j = q
        · rw [hjq] at z; exact h1 ⟨z.1.symm, z.2⟩
        · exact x2 j (by omega) z
      · exact Or.inr hx
/-- numbers -/
theorem ft_num {T : Nat → Int} {L i E : Nat} {v : Int} (hD : 1 ≤ D) (hL : w 0 5 = (L : Int)) (hL4 : L ≤ 4000) (hT : w 3 = T) (hB : ∀ j, j < L → -128 ≤ T j ∧ T j ≤ 127) (h : ∀ y : Int, 0 ≤ y → y ≤ 40000000000 → ((y < 2147483648 ∧ v = y) ∨ (2147483648 ≤ y ∧ v = 2147483648)) → V g LM jMd_findTokens (D + 1) K 341 [(0, vA 0), (1, vI (E : Int)), (3, vI (i : Int)), (4, vL y)] [] w) : ∀ (n j : Nat) (x y : Int), L - j ≤ n → j ≤ L → eD T L j = E → vD T L x j = v → 0 ≤ y → y ≤ 40000000000 → ((y < 2147483648 ∧ x = y) ∨ (2147483648 ≤ y ∧ x = 2147483648)) → V g LM jMd_findTokens (D + 1) K 281 [(0, vA 0), (1, vI (j : Int)), (3, vI (i : Int)), (4, vL y)] [] w := by
  intro n
  induction n with
  | zero =>
    intro j x y hn hj he hv y0 y1 hxy
    rw [eD, if_pos (by omega)] at he
    rw [vD, if_pos (by omega)] at hv
    subst he hv
    exact s_Md_findTokens_281 ⟨fun _ => h y y0 y1 hxy, fun c => absurd (by rw [hL]; omega) c⟩
  | succ n ih =>
    intro j x y hn hj he hv y0 y1 hxy
    rw [eD] at he
    rw [vD] at hv
    refine s_Md_findTokens_281 ⟨fun c => ?_, fun c => ?_⟩
    · rw [hL] at c
      rw [if_pos (by omega)] at he hv
      subst he hv
      exact h y y0 y1 hxy
    · rw [hL] at c
      rw [if_neg (by omega)] at he hv
      have hBj := hB j (by omega)
      rw [toN, hT]
      refine ⟨by omega, sp_isDM hD ⟨by omega, by omega⟩ ?_⟩
      by_cases h2 : isD (T j)
      · rw [if_pos h2] at he hv ⊢
        rw [hT]
        rw [lCmp_eq ⟨by omega, by omega⟩ ⟨by omega, by omega⟩]
        refine ⟨fun z => absurd z (by decide), fun _ => ⟨fun c2 => ⟨by omega, ?_⟩, fun c2 => ?_⟩⟩
        · have y3 : y ≤ 3000000000 := by
            by_cases h3 : 3000000000 < y
            · rw [if_pos h3] at c2; omega
            · omega
          rw [digM y0 y3 h2]
          have h2' : 48 ≤ T j ∧ T j ≤ 57 := h2
          refine s_Md_findTokens_333 ?_
          rw [wr_n1 (by omega)]
          refine ih (j + 1) _ _ (by omega) (by omega) he hv (by omega) (by omega) ?_
          split
          · exact Or.inr ⟨by omega, rfl⟩
          · by_cases hq : x * 10 + (T j - 48) = 2147483648
            · exact Or.inr ⟨by omega, by omega⟩
            · exact Or.inl ⟨by omega, by omega⟩
        · have y3 : 3000000000 < y := by
            by_cases h3 : 3000000000 < y
            · exact h3
            · rw [if_neg h3] at c2
              split at c2 <;> omega
          refine s_Md_findTokens_333 ?_
          rw [wr_n1 (by omega)]
          refine ih (j + 1) _ _ (by omega) (by omega) he hv y0 y1 ?_
          rw [if_pos (by omega)]
          exact Or.inr ⟨by omega, rfl⟩
      · rw [if_neg h2] at he hv ⊢
        subst he hv
        exact ⟨fun _ => h y y0 y1 hxy, fun z => absurd rfl z⟩
/-- signs: the least that stands there -/
theorem ft_sgn {T : Nat → Int} {L i : Nat} (hD : 4 ≤ D) (hL : w 0 5 = (L : Int)) (hL4 : L ≤ 4000) (hi : i < L) (hT : w 3 = T) (h1 : (∀ s, s < 23 → ¬ mS T L i s) → V g LM jMd_findTokens (D + 1) K 458 [(0, vA 0), (1, vI (i : Int)), (3, vI (-2))] [vI 0] w) (h2 : ∀ s : Nat, s < 23 → mS T L i s → (∀ q, q < s → ¬ mS T L i q) → V g LM jMd_findTokens (D + 1) K 458 [(0, vA 0), (1, vI (i : Int)), (3, vI (s : Int))] [vI 1] w) :
    ∀ (n : Nat) (x : Int), n ≤ 23 → ((x = -2 ∧ ∀ s, n ≤ s → s < 23 → ¬ mS T L i s) ∨ ∃ s : Nat, x = (s : Int) ∧ n ≤ s ∧ s < 23 ∧ mS T L i s ∧ ∀ q, n ≤ q → q < s → ¬ mS T L i q) → V g LM jMd_findTokens (D + 1) K 391 [(0, vA 0), (1, vI (i : Int)), (3, vI x), (4, vI ((n : Int) - 1))] [] w := by
  intro n
  induction n with
  | zero =>
    intro x hn hx
    refine s_Md_findTokens_391 ⟨fun _ => ?_, fun c => absurd (by omega) c⟩
    rcases hx with ⟨rfl, hx⟩ | ⟨s, rfl, hs, hs2, hs3, hs4⟩
    · exact ⟨fun _ => h1 (fun s hs => hx s (Nat.zero_le _) hs), fun c => absurd (by decide) c⟩
    · exact ⟨fun c => absurd c (by omega), fun _ => h2 s hs2 hs3 (fun q hq => hs4 q (Nat.zero_le _) hq)⟩
  | succ n ih =>
    intro x hn hx
    have en : ((n + 1 : Nat) : Int) - 1 = (n : Int) := by omega
    rw [en]
    have eo : 1037 + n - 1001 = 36 + n := by omega
    have hb1 : 1001 ≤ 1037 + n ∧ 1037 + n < 1060 := by omega
    have hb2 : (0 : Int) ≤ (n : Int) ∧ (n : Int) < 23 := by omega
    have hlen : (sB (36 + n)).length ≤ 2 := by rw [sg_len n (by omega)]; split <;> omega
    have hwx : wr ((i : Int) + (((sB (36 + n)).length : Nat) : Int)) = ((i + (sB (36 + n)).length : Nat) : Int) := wrN (by omega) (by omega)
    have hnw : wr ((n : Int) + (-1)) = (n : Int) - 1 := wr_s (by omega) (by omega)
    have hno : ¬ mS T L i n → V g LM jMd_findTokens (D + 1) K 441 [(0, vA 0), (1, vI (i : Int)), (3, vI x), (4, vI (n : Int))] [] w := by
      intro hm
      refine s_Md_findTokens_441 (s_Md_findTokens_442 ?_)
      rw [hnw]
      refine ih x (by omega) ?_
      rcases hx with ⟨e, hx⟩ | ⟨s, e, hs, hs2, hs3, hs4⟩
      · refine Or.inl ⟨e, fun s q1 q2 => ?_⟩
        by_cases hsn : s = n
        · rw [hsn]; exact hm
        · exact hx s (by omega) q2
      · refine Or.inr ⟨s, e, by omega, hs2, hs3, fun q q1 q2 => ?_⟩
        by_cases hsn : q = n
        · rw [hsn]; exact hm
        · exact hs4 q (by omega) q2
    have hyes : mS T L i n → V g LM jMd_findTokens (D + 1) K 442 [(0, vA 0), (1, vI (i : Int)), (4, vI (n : Int))] [vI (n : Int)] w := by
      intro hm
      refine s_Md_findTokens_442 ?_
      rw [hnw]
      exact ih (n : Int) (by omega) (Or.inr ⟨n, rfl, Nat.le_refl _, by omega, hm, fun q q1 q2 => by omega⟩)
    refine s_Md_findTokens_391 ⟨fun c => absurd c (by omega), fun _ => ⟨hb2, ?_⟩⟩
    rw [toN]
    refine ⟨hb1, sp_lengthD (by omega) hb1 ⟨fun c => hno (fun z => ?_), fun c => ⟨hb2, ?_⟩⟩⟩
    · rw [eo, hwx, hL] at c
      have := z.1; omega
    · rw [eo, hwx, hL] at c
      rw [eo]
      have hle : i + (sB (36 + n)).length ≤ L := by omega
      have hle2 : i + (sB (36 + n)).length ≤ 4020 := by omega
      refine sp_isText hD hb1 hle2 (fun q1 q2 => ⟨fun z => absurd z (by decide), fun _ => hyes ⟨hle, ?_⟩⟩) (fun q => ⟨fun _ => hno (fun z => q ⟨by rw [eo], ?_⟩), fun z => absurd rfl z⟩)
      · rw [eo, hT] at q2; exact q2
      · rw [eo, hT]; exact z.2
theorem kdT_at {T : Nat → Int} {L k : Nat} (h : tAt T L k < L) : kdT T L k = tKd T L (tAt T L k) := by unfold kdT; rw [if_pos h]
theorem tSz_at {T : Nat → Int} {L k : Nat} (h : tAt T L k < L) : tSz T L k = tEn T L (tAt T L k) - tAt T L k := by unfold tSz; rw [if_pos h]
/-- the whole of findTokens, from TOKEN k on -/
theorem ft_go {T : Nat → Int} {L : Nat} (hD : 4 ≤ D) (hL4 : L ≤ 4000) (hB : ∀ j, j < L → -128 ≤ T j ∧ T j ≤ 127) (w0 : Wd) (hT0 : w0 3 = T)
    (h : ∀ (w' : Wd) (m : Nat), Fx [0, 4, 5, 6, 7] w0 w' → (∀ b, b ≠ 10 → w' 0 b = w0 0 b) → MTk w' T L (m + 1) → m ≤ 4000 → (∀ k, k < m → 2 ≤ kdT T L k) → kdT T L m ≤ 1 → K (.inl none) w') :
    ∀ (f k p : Nat) (w : Wd), L - tAt T L k ≤ f → tAt T L k = sk T L false p → p ≤ L → w 0 5 = (L : Int) → w 0 10 = (k : Int) → Fx [0, 4, 5, 6, 7] w0 w → (∀ b, b ≠ 10 → w 0 b = w0 0 b) → MTk w T L k → (∀ j, j < k → 2 ≤ kdT T L j) → V g LM jMd_findTokens (D + 1) K 9 [(0, vA 0), (1, vI (p : Int)), (2, vI 1)] [] w := by
  intro f
  induction f with
  | zero =>
    intro k p w hf hk hp hL ht hfx h0 hM hj
    have hle := tAt_le T L k
    have hkL : k ≤ L := by
      have := tAt_ge (T := T) (L := L) k (fun j hj2 => by
        by_cases hc : tAt T L j < L
        · exact hc
        · have := hj j hj2; unfold kdT at this; rw [if_neg hc] at this; omega)
      omega
    have hat : tAt T L k = L := by omega
    have hT : w 3 = T := (hfx 3 (by decide)).trans hT0
    refine s_Md_findTokens_9 ⟨fun z => absurd z (by decide), fun _ => (ft_skip hL hL4 hT (L - p) p (Nat.le_refl _) hp).1 ?_⟩
    rw [← hk, hat]
    refine s_Md_findTokens_96 ⟨fun c => absurd hL.symm c, fun _ => sp_token ht (by omega) (s_Md_findTokens_9 ⟨fun _ => ?_, fun z => absurd rfl z⟩)⟩
    have hkd : kdT T L k = 0 := by unfold kdT; rw [if_neg (by omega)]
    have hsz : tSz T L k = 0 := by unfold tSz; rw [if_neg (by omega)]
    have hm2 := hM.put (v := 0) (fun z => absurd z (by rw [hkd]; decide))
    rw [hkd, hsz, hat] at hm2
    exact h _ k (hfx.tr (putM_fx _ _ _ _ _ _)) (fun b hb => by rw [putM_0 _ _ _ _ _ _ hb]; exact h0 b hb) hm2 (by omega) hj (by omega)
  | succ f ih =>
    intro k p w hf hk hp hL ht hfx h0 hM hj
    have hle := tAt_le T L k
    have hkL : k ≤ tAt T L k := by
      exact tAt_ge (T := T) (L := L) k (fun j hj2 => by
        by_cases hc : tAt T L j < L
        · exact hc
        · have := hj j hj2; unfold kdT at this; rw [if_neg hc] at this; omega)
    have hT : w 3 = T := (hfx 3 (by decide)).trans hT0
    refine s_Md_findTokens_9 ⟨fun z => absurd z (by decide), fun _ => (ft_skip hL hL4 hT (L - p) p (Nat.le_refl _) hp).1 ?_⟩
    rw [← hk]
    by_cases hat : tAt T L k = L
    · rw [hat]
      refine s_Md_findTokens_96 ⟨fun c => absurd hL.symm c, fun _ => sp_token ht (by omega) (s_Md_findTokens_9 ⟨fun _ => ?_, fun z => absurd rfl z⟩)⟩
      have hkd : kdT T L k = 0 := by unfold kdT; rw [if_neg (by omega)]
      have hsz : tSz T L k = 0 := by unfold tSz; rw [if_neg (by omega)]
      have hm2 := hM.put (v := 0) (fun z => absurd z (by rw [hkd]; decide))
      rw [hkd, hsz, hat] at hm2
      exact h _ k (hfx.tr (putM_fx _ _ _ _ _ _)) (fun b hb => by rw [putM_0 _ _ _ _ _ _ hb]; exact h0 b hb) hm2 (by omega) hj (by omega)
    · have hlt : tAt T L k < L := by omega
      have hen := tEn_gt (T := T) hlt
      have hkd := kdT_at hlt
      have hsz := tSz_at hlt
      have hmono := tAt_mono hlt
      have hnx : tAt T L (k + 1) = sk T L false (tEn T L (tAt T L k)) := by rw [tAt.eq_2, if_pos hlt]
      /- behind the token -/
      have hgo : ∀ v : Int, (kdT T L k = 3 → v = tVl T L (tAt T L k)) → ∀ s : Int, ((2 ≤ kdT T L k ∧ s = 1) ∨ (kdT T L k ≤ 1 ∧ s = 0)) → ∀ k0 : Int, mkd (kdT T L k) = k0 → V g LM jMd_findTokens (D + 1) K 9 [(0, vA 0), (1, vI ((tEn T L (tAt T L k) : Nat) : Int)), (2, vI s)] [] (putM w k k0 ((tAt T L k : Nat) : Int) ((tSz T L k : Nat) : Int) v) := by
        intro v hv s hs k0 hk0
        subst hk0
        rcases hs with ⟨s1, rfl⟩ | ⟨s1, rfl⟩
        · refine ih (k + 1) _ _ (by omega) hnx hen.2 ?_ (putM_n _ _ _ _ _ _) (hfx.tr (putM_fx _ _ _ _ _ _)) (fun b hb => by rw [putM_0 _ _ _ _ _ _ hb]; exact h0 b hb) (hM.put hv) (fun j hj2 => ?_)
          · rw [putM_0 _ _ _ _ _ _ (by decide), hL]
          · by_cases hjk : j = k
            · rw [hjk]; exact s1
            · exact hj j (by omega)
        · refine s_Md_findTokens_9 ⟨fun _ => ?_, fun z => absurd rfl z⟩
          exact h _ k (hfx.tr (putM_fx _ _ _ _ _ _)) (fun b hb => by rw [putM_0 _ _ _ _ _ _ hb]; exact h0 b hb) (hM.put hv) (by omega) hj s1
      have hBi := hB _ hlt
      clear ih hj hM hf hnx hmono
      generalize tAt T L k = i at *
      have ewr : wr (((tEn T L i : Nat) : Int) - (i : Int)) = ((tSz T L k : Nat) : Int) := wrN (by omega) (by omega)
      refine s_Md_findTokens_96 ⟨fun _ => ⟨by omega, ?_⟩, fun c => absurd c (by rw [hL]; omega)⟩
      rw [toN, hT]
      refine sp_isLM (by omega) ⟨by omega, by omega⟩ ?_
      by_cases h1 : isL (T i)
      · rw [if_pos h1]
        refine ⟨fun z => absurd z (by decide), fun _ => ?_⟩
        have eE : tEn T L i = eW T L i := by unfold tEn; rw [if_pos h1]
        have eK : kdT T L k = if 12 < tEn T L i - i then 1 else wKd T i (tEn T L i - i) 33 0 := by rw [hkd, eE]; unfold tKd; rw [if_pos h1]
        refine ft_ltr (E := tEn T L i) (by omega) hL hL4 hT hB ?_ (L - i) i (Nat.le_refl _) (by omega) eE.symm
        refine s_Md_findTokens_169 (ft_wrd hD (by omega) (by omega) hT ?_ 33 0 (-2) rfl (Or.inl ⟨by decide, fun j hj => absurd hj (Nat.not_lt_zero _)⟩))
        intro x hx
        by_cases h12 : 12 < tEn T L i - i
        · rw [if_pos h12] at eK ⊢
          have e5 : mkd (kdT T L k) = 5 := by rw [eK]; rfl
          refine s_Md_findTokens_232 ⟨fun z => absurd rfl z, fun _ => s_Md_findTokens_252 ?_⟩
          rw [ewr]
          exact sp_token ht (by omega) (hgo x (fun z => absurd z (by rw [eK]; decide)) 0 (Or.inr ⟨by omega, rfl⟩) _ e5)
        · rw [if_neg h12] at eK ⊢
          refine s_Md_findTokens_232 ⟨fun _ => ⟨fun c => s_Md_findTokens_252 ?_, fun c => s_Md_findTokens_252 ?_⟩, fun z => absurd z (by decide)⟩
          · have hw2 : kdT T L k = 2 := by
              rcases hx with ⟨_, q⟩ | ⟨q, _⟩
              · rw [eK]; exact q
              · omega
            have e5 : mkd (kdT T L k) = 0 := by rw [hw2]; rfl
            rw [ewr]
            exact sp_token ht (by omega) (hgo x (fun z => absurd z (by rw [hw2]; decide)) 1 (Or.inl ⟨by omega, rfl⟩) _ e5)
          · have hw2 : 27 ≤ kdT T L k := by
              rcases hx with ⟨q, _⟩ | ⟨_, q⟩
              · omega
              · rw [eK]; exact q
            have e5 : mkd (kdT T L k) = 3 := by unfold mkd; rw [if_neg (by omega), if_neg (by omega), if_neg (by omega), if_neg (by omega), if_neg (by omega)]
            rw [ewr]
            exact sp_token ht (by omega) (hgo x (fun z => absurd z (by omega)) 1 (Or.inl ⟨by omega, rfl⟩) _ e5)
      · rw [if_neg h1, hT]
        refine ⟨fun _ => ⟨by omega, sp_isDM (by omega) ⟨by omega, by omega⟩ ?_⟩, fun z => absurd rfl z⟩
        by_cases h2 : isD (T i)
        · rw [if_pos h2]
          refine ⟨fun z => absurd z (by decide), fun _ => ?_⟩
          have eE : tEn T L i = eD T L i := by unfold tEn; rw [if_neg h1, if_pos h2]
          have eK : kdT T L k = if vD T L 0 i < 2147483648 then 3 else 1 := by rw [hkd]; unfold tKd; rw [if_neg h1, if_pos h2]
          have eV : tVl T L i = l2iF (vD T L 0 i) := by unfold tVl; rw [if_neg h1, if_pos h2]
          refine ft_num (E := tEn T L i) (v := vD T L 0 i) (by omega) hL hL4 hT hB ?_ (L - i) i 0 0 (Nat.le_refl _) (by omega) eE.symm rfl (by omega) (by omega) (Or.inl ⟨by omega, rfl⟩)
          intro y y0 y1 hy
          refine s_Md_findTokens_341 ?_
          rw [lCmp_eq ⟨by omega, by omega⟩ ⟨by omega, by omega⟩]
          rcases hy with ⟨a, b⟩ | ⟨a, b⟩
          · rw [if_pos (by omega)] at eK
            have e5 : mkd (kdT T L k) = 1 := by rw [eK]; rfl
            have hn : ¬ (0 : Int) < (if 2147483647 < y then 1 else if y = 2147483647 then 0 else -1) := by rw [if_neg (by omega)]; split <;> omega
            refine ⟨fun c => absurd c hn, fun _ => s_Md_findTokens_355 ⟨fun z => absurd z (by decide), fun _ => s_Md_findTokens_366 ?_⟩⟩
            rw [ewr]
            exact sp_token ht (by omega) (hgo _ (fun _ => by rw [eV, b]) 1 (Or.inl ⟨by omega, rfl⟩) _ e5)
          · rw [if_neg (by omega)] at eK
            have e5 : mkd (kdT T L k) = 5 := by rw [eK]; rfl
            have hn : (0 : Int) < (if 2147483647 < y then 1 else if y = 2147483647 then 0 else -1) := by rw [if_pos (by omega)]; omega
            refine ⟨fun _ => s_Md_findTokens_355 ⟨fun _ => s_Md_findTokens_366 ?_, fun z => absurd rfl z⟩, fun c => absurd hn c⟩
            rw [ewr]
            exact sp_token ht (by omega) (hgo _ (fun z => absurd z (by rw [eK]; decide)) 0 (Or.inr ⟨by omega, rfl⟩) _ e5)
        · rw [if_neg h2]
          refine ⟨fun _ => ?_, fun z => absurd rfl z⟩
          obtain ⟨hs1, hs2⟩ := mS_kd (T := T) hlt h1 h2
          rw [show wr (23 - 1) = ((23 : Nat) : Int) - 1 from by decide]
          /- behind the sign's token the place is read off it -/
          have hend : ∀ (x s : Int) (k0 : Int), mkd (kdT T L k) = k0 → ¬ kdT T L k = 3 → ((2 ≤ kdT T L k ∧ s = 1) ∨ (kdT T L k ≤ 1 ∧ s = 0)) → V g LM jMd_findTokens (D + 1) K 487 [(0, vA 0), (1, vI (i : Int)), (2, vI s), (3, vI x)] [vI ((tSz T L k : Nat) : Int), vI (i : Int), vI k0, vA 0] w := by
            intro x s k0 e5 h3 hs
            refine s_Md_findTokens_487 ?_
            refine sp_token ht (by omega) ?_
            show (_ ∧ _)
            rw [putM_n]
            have hkb : (0 : Int) ≤ (k : Int) ∧ (k : Int) < 4022 := by omega
            have e6 : wr (((k + 1 : Nat) : Int) - 1) = (k : Int) := wrN (by omega) (by omega)
            rw [e6, toN, putM_6, if_pos rfl]
            have e7 : wr ((i : Int) + ((tSz T L k : Nat) : Int)) = ((tEn T L i : Nat) : Int) := wrN (by omega) (by omega)
            rw [e7]
            exact ⟨hkb, hgo x (fun z => absurd z h3) s hs _ e5⟩
          refine ft_sgn hD hL hL4 hlt hT (fun hn => ?_) (fun s q1 q2 q3 => ?_) 23 (-2) (Nat.le_refl _) (Or.inl ⟨rfl, fun s h1 h2 => by omega⟩)
          · obtain ⟨a, b⟩ := hs2 hn
            have ek : kdT T L k = 1 := by rw [hkd]; exact a
            have es : tSz T L k = 1 := by omega
            refine s_Md_findTokens_458 ⟨fun _ => s_Md_findTokens_469 ⟨fun _ => ?_, fun z => absurd rfl z⟩, fun z => absurd rfl z⟩
            have := hend (-2) 0 5 (by rw [ek]; rfl) (by omega) (Or.inr ⟨by omega, rfl⟩)
            rw [es] at this
            exact this
          · obtain ⟨a, b, c⟩ := hs1 s q1 q2 q3
            have es : tSz T L k = (sB (36 + s)).length := by rw [hsz, c]; omega
            have ek4 : 4 ≤ kdT T L k ∧ kdT T L k < 27 := by rw [hkd]; exact ⟨a, b⟩
            have e5 : mkd (kdT T L k) = 2 := by unfold mkd; rw [if_neg (by omega), if_neg (by omega), if_neg (by omega), if_neg (by omega), if_pos (by omega)]
            have hen2 := hend (s : Int) 1 2 e5 (by omega) (Or.inl ⟨by omega, rfl⟩)
            rw [es] at hen2
            clear hend hgo es c
            have eo : 1037 + s - 1001 = 36 + s := by omega
            have hb1 : 1001 ≤ 1037 + s ∧ 1037 + s < 1060 := by omega
            have hb2 : (0 : Int) ≤ (s : Int) ∧ (s : Int) < 23 := by omega
            refine s_Md_findTokens_458 ⟨fun z => absurd z (by decide), fun _ => s_Md_findTokens_469 ⟨fun z => absurd z (by decide), fun _ => ⟨hb2, ?_⟩⟩⟩
            rw [toN]
            refine ⟨hb1, sp_lengthD (by omega) hb1 ?_⟩
            rw [eo]
            exact hen2
theorem sp_findTokens {T : Nat → Int} {L : Nat} (hD : 5 ≤ D) (hL : w 0 5 = (L : Int)) (hL4 : L ≤ 4000) (hT : w 3 = T) (hB : ∀ j, j < L → -128 ≤ T j ∧ T j ≤ 127) (h : ∀ (w' : Wd) (m : Nat), Fx [0, 4, 5, 6, 7] w w' → (∀ b, b ≠ 10 → w' 0 b = w 0 b) → MTk w' T L (m + 1) → m ≤ 4000 → (∀ k, k < m → 2 ≤ kdT T L k) → kdT T L m ≤ 1 → K (.inl none) w') : Cal g LM jMd_findTokens D [vA 0] w K := by
  obtain ⟨d, rfl⟩ : ∃ d, D = d + 1 := ⟨D - 1, by omega⟩
  refine Cal.ofV (by decide) rfl (Nat.le_of_ble_eq_true rfl) (s_Md_findTokens ?_)
  refine ft_go (by omega) hL4 hB w hT h (L - tAt T L 0) 0 0 (up w 0 10 0) (Nat.le_refl _) rfl (Nat.zero_le _) (by rw [up_k (by decide), hL]) (up_s _ _ _ _) ((Fx.rf _ w).up (by decide)) (fun b hb => up_k hb) (fun k hk => absurd hk (Nat.not_lt_zero _)) (fun j hj => absurd hj (Nat.not_lt_zero _))
end ModelFind2
