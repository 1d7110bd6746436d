/-! ===== the model's findTokens ===== -/
/-- a TOKEN's size -/
def tSz (T : Nat → Int) (L k : Nat) : Nat := if tAt T L k < L then tEn T L (tAt T L k) - tAt T L k else 0
def MTk (w : Wd) (T : Nat → Int) (L n : Nat) : Prop := ∀ k, k < n → w 4 k = mkd (kdT T L k) ∧ w 5 k = ((tAt T L k : Nat) : Int) ∧ w 6 k = ((tSz T L k : Nat) : Int) ∧ (kdT T L k = 3 → w 7 k = tVl T L (tAt T L k))
theorem putM_4 (w : Wd) (t : Nat) (k f e v : Int) (b : Nat) : putM w t k f e v 4 b = if b = t then k else w 4 b := by simp [putM, up]
theorem putM_5 (w : Wd) (t : Nat) (k f e v : Int) (b : Nat) : putM w t k f e v 5 b = if b = t then f else w 5 b := by simp [putM, up]
theorem putM_6 (w : Wd) (t : Nat) (k f e v : Int) (b : Nat) : putM w t k f e v 6 b = if b = t then e else w 6 b := by simp [putM, up]
theorem putM_7 (w : Wd) (t : Nat) (k f e v : Int) (b : Nat) : putM w t k f e v 7 b = if b = t then v else w 7 b := by simp [putM, up]
theorem putM_n (w : Wd) (t : Nat) (k f e v : Int) : putM w t k f e v 0 10 = ((t + 1 : Nat) : Int) := by simp [putM, up]
theorem putM_0 (w : Wd) (t : Nat) (k f e v : Int) {b : Nat} (h : b ≠ 10) : putM w t k f e v 0 b = w 0 b := by simp [putM, up, h]
theorem putM_fx (w : Wd) (t : Nat) (k f e v : Int) : Fx [0, 4, 5, 6, 7] w (putM w t k f e v) := by
  unfold putM
  exact (((((Fx.rf _ w).up (by decide)).up (by decide)).up (by decide)).up (by decide)).up (by decide)
theorem MTk.put {w : Wd} {T : Nat → Int} {L t : Nat} {v : Int} (h : MTk w T L t) (hv : kdT T L t = 3 → v = tVl T L (tAt T L t)) : MTk (putM w t (mkd (kdT T L t)) ((tAt T L t : Nat) : Int) ((tSz T L t : Nat) : Int) v) T L (t + 1) := by
  intro k hk
  rw [putM_4, putM_5, putM_6, putM_7]
  by_cases hkt : k = t
  · subst hkt
    rw [if_pos rfl, if_pos rfl, if_pos rfl, if_pos rfl]
    exact ⟨rfl, rfl, rfl, hv⟩
  · rw [if_neg hkt, if_neg hkt, if_neg hkt, if_neg hkt]
    exact h k (by omega)
/-- the places rise -/
theorem tAt_ge {T : Nat → Int} {L : Nat} : ∀ k, (∀ j, j < k → tAt T L j < L) → k ≤ tAt T L k
  | 0, _ => Nat.zero_le _
  | k + 1, h => by
    have h1 := tAt_ge k (fun j hj => h j (by omega))
    have h2 := tAt_mono (h k (by omega))
    omega
theorem digM {y c : Int} (h0 : 0 ≤ y) (h1 : y ≤ 3000000000) (hc : isD c) : lSub (lAdd (lMul 10 y) c) 48 = 10 * y + c - 48 := by
  obtain ⟨c1, c2⟩ := hc
  have e2 : inL (10 * y) := ⟨by omega, by omega⟩
  have e3 : inL (10 * y + c) := ⟨by omega, by omega⟩
  have e4 : inL (10 * y + c - 48) := ⟨by omega, by omega⟩
  have hs : ∀ a b : Int, lSub a b = wrL (a - b) := by
    intro a b
    unfold lSub
    rw [Int64.toInt_sub, l_to, l_to, show (2 ^ 64 : Nat) = 18446744073709551616 from rfl, bm_wrL]
    unfold wrL; omega
  rw [lMul_eq, lAdd_eq, hs, wrL_id e2, wrL_id e3, wrL_id e4]
/-- sign s (of 23) stands at i -/
def mS (T : Nat → Int) (L i s : Nat) : Prop := i + (sB (36 + s)).length ≤ L ∧ mtb T i (sB (36 + s)) = true
theorem sg_len : ∀ s, s < 23 → (sB (36 + s)).length = if s < 6 then 2 else 1 := by decide +kernel
theorem sg_two : ∀ s, s < 6 → sB (36 + s) = [(sB 1).getD (2 * s) 0, (sB 1).getD (2 * s + 1) 0] := by decide +kernel
/-- what the signs at i say of the pure pieces -/
theorem mS_kd {T : Nat → Int} {L i : Nat} (hi : i < L) (h1 : ¬ isL (T i)) (h2 : ¬ isD (T i)) : (∀ s, s < 23 → mS T L i s → (∀ q, q < s → ¬ mS T L i q) → 4 ≤ tKd T L i ∧ tKd T L i < 27 ∧ tEn T L i = i + (sB (36 + s)).length) ∧ ((∀ s, s < 23 → ¬ mS T L i s) → tKd T L i = 1 ∧ tEn T L i = i + 1) := by
  have ek : tKd T L i = match (if i + 1 < L then pKd (T i) (T (i + 1)) else none) with
    | some k => 21 + k
    | none => match ixF (sB 0) (T i) 0 with
      | some k => 4 + k
      | none => 1 := by unfold tKd; rw [if_neg h1, if_neg h2]; rfl
  have ee : tEn T L i = match (if i + 1 < L then pKd (T i) (T (i + 1)) else none) with
    | some _ => i + 2
    | none => i + 1 := by unfold tEn; rw [if_neg h1, if_neg h2]; rfl
  have hone : ∀ j, j < 17 → (mS T L i (6 + j) ↔ T i = (sB 0).getD j 0) := by
    intro j hj
    unfold mS
    rw [show 36 + (6 + j) = 42 + j by omega, sg_one j hj]
    simp [mtb]
    intro _; omega
  have htwo : ∀ s, s < 6 → (mS T L i s ↔ i + 1 < L ∧ T i = (sB 1).getD (2 * s) 0 ∧ T (i + 1) = (sB 1).getD (2 * s + 1) 0) := by
    intro s hs
    unfold mS
    rw [sg_two s hs]
    simp only [mtb, List.length_cons, List.length_nil, Bool.and_true, Bool.and_eq_true, decide_eq_true_eq]
    constructor
    · rintro ⟨a, b⟩; exact ⟨by omega, b⟩
    · rintro ⟨a, b⟩; exact ⟨by omega, b⟩
  cases hp : (if i + 1 < L then pKd (T i) (T (i + 1)) else none) with
  | some k =>
    rw [hp] at ek ee
    simp only at ek ee
    have hc : i + 1 < L := by
      by_cases hc : i + 1 < L
      · exact hc
      · rw [if_neg hc] at hp; cases hp
    rw [if_pos hc] at hp
    have hk : k < 6 ∧ T i = (sB 1).getD (2 * k) 0 ∧ T (i + 1) = (sB 1).getD (2 * k + 1) 0 := by
      unfold pKd at hp
      split at hp
      · rename_i z; cases hp; exact ⟨by omega, z⟩
      split at hp
      · rename_i z; cases hp; exact ⟨by omega, z⟩
      split at hp
      · rename_i z; cases hp; exact ⟨by omega, z⟩
      split at hp
      · rename_i z; cases hp; exact ⟨by omega, z⟩
      split at hp
      · rename_i z; cases hp; exact ⟨by omega, z⟩
      split at hp
      · rename_i z; cases hp; exact ⟨by omega, z⟩
      cases hp
    have hmk : mS T L i k := (htwo k hk.1).mpr ⟨hc, hk.2⟩
    have hk6 := hk.1
    clear hp hk
    refine ⟨fun s hs hm hl => ⟨by omega, by omega, ?_⟩, fun hn => absurd hmk (hn k (by omega))⟩
    have hsk : s ≤ k := by
      by_cases hq : k < s
      · exact absurd hmk (hl k hq)
      · omega
    rw [ee, sg_len s hs, if_pos (by omega)]
  | none =>
    rw [hp] at ek ee
    simp only at ek ee
    have hno : ∀ s, s < 6 → ¬ mS T L i s := by
      intro s hs hm
      obtain ⟨m1, m2⟩ := (htwo s hs).mp hm
      rw [if_pos m1] at hp
      unfold pKd at hp
      rcases (by omega : s = 0 ∨ s = 1 ∨ s = 2 ∨ s = 3 ∨ s = 4 ∨ s = 5) with rfl | rfl | rfl | rfl | rfl | rfl
      · rw [if_pos (show T i = 61 ∧ T (i + 1) = 61 from m2)] at hp; cases hp
      · split at hp
        · cases hp
        rw [if_pos (show T i = 33 ∧ T (i + 1) = 61 from m2)] at hp; cases hp
      · split at hp
        · cases hp
        split at hp
        · cases hp
        rw [if_pos (show T i = 60 ∧ T (i + 1) = 61 from m2)] at hp; cases hp
      · split at hp
        · cases hp
        split at hp
        · cases hp
        split at hp
        · cases hp
        rw [if_pos (show T i = 62 ∧ T (i + 1) = 61 from m2)] at hp; cases hp
      · split at hp
        · cases hp
        split at hp
        · cases hp
        split at hp
        · cases hp
        split at hp
        · cases hp
        rw [if_pos (show T i = 38 ∧ T (i + 1) = 38 from m2)] at hp; cases hp
      · split at hp
        · cases hp
        split at hp
        · cases hp
        split at hp
        · cases hp
        split at hp
        · cases hp
        split at hp
        · cases hp
        rw [if_pos (show T i = 124 ∧ T (i + 1) = 124 from m2)] at hp; cases hp
    clear htwo
    rcases ixF_cases (sB 0) (T i) 0 with ⟨q1, q2⟩ | ⟨q, q1, q2, q3⟩
    · rw [q1] at ek
      simp only at ek
      rw [sB0_len] at q2
      have hall : ∀ s, s < 23 → ¬ mS T L i s := by
        intro s hs hm
        by_cases h6 : s < 6
        · exact hno s h6 hm
        · rw [show s = 6 + (s - 6) by omega, hone (s - 6) (by omega)] at hm
          exact q2 (s - 6) (by omega) hm.symm
      exact ⟨fun s hs hm _ => absurd hm (hall s hs), fun _ => ⟨ek, ee⟩⟩
    · rw [q2] at ek
      simp only [Nat.zero_add] at ek
      rw [sB0_len] at q1
      have hmq : mS T L i (6 + q) := (hone q q1).mpr q3.symm
      clear q3
      refine ⟨fun s hs hm _ => ⟨by omega, by omega, ?_⟩, fun hn => absurd hmq (hn (6 + q) (by omega))⟩
      have h6 : ¬ s < 6 := fun z => hno s z hm
      rw [ee, sg_len s hs, if_neg h6]
section ModelFind
variable {g : Mg} {D : Nat} {K : Ou → Wd → Prop} {w : Wd}
theorem ft_skip {T : Nat → Int} {L : Nat} (hL : w 0 5 = (L : Int)) (hL4 : L ≤ 4000) (hT : w 3 = T) : ∀ (n p : Nat), L - p ≤ n → p ≤ L → (V g LM jMd_findTokens (D + 1) K 96 [(0, vA 0), (1, vI ((sk T L false p : Nat) : Int))] [] w → V g LM jMd_findTokens (D + 1) K 13 [(0, vA 0), (1, vI (p : Int))] [] w) ∧ (V g LM jMd_findTokens (D + 1) K 96 [(0, vA 0), (1, vI ((sk T L true p : Nat) : Int))] [] w → V g LM jMd_findTokens (D + 1) K 65 [(0, vA 0), (1, vI (p : Int))] [] w) := by
  have h0 : ∀ p, p ≤ L → L ≤ p → (V g LM jMd_findTokens (D + 1) K 96 [(0, vA 0), (1, vI ((sk T L false p : Nat) : Int))] [] w → V g LM jMd_findTokens (D + 1) K 13 [(0, vA 0), (1, vI (p : Int))] [] w) ∧ (V g LM jMd_findTokens (D + 1) K 96 [(0, vA 0), (1, vI ((sk T L true p : Nat) : Int))] [] w → V g LM jMd_findTokens (D + 1) K 65 [(0, vA 0), (1, vI (p : Int))] [] w) := by
    intro p hp1 hp2
    have : p = L := by omega
    subst this
    have e1 : ∀ r, sk T p r p = p := fun r => by rw [sk, if_pos (Nat.le_refl _)]
    rw [e1, e1]
    have a13 : V g LM jMd_findTokens (D + 1) K 96 [(0, vA 0), (1, vI (p : Int))] [] w → V g LM jMd_findTokens (D + 1) K 13 [(0, vA 0), (1, vI (p : Int))] [] w := fun h => s_Md_findTokens_13 ⟨fun _ => h, fun c => absurd (by rw [hL]; exact Int.le_refl _) c⟩
    exact ⟨a13, fun h => s_Md_findTokens_65 ⟨fun _ => a13 h, fun c => absurd (by rw [hL]; exact Int.le_refl _) c⟩⟩
  intro n
  induction n with
  | zero => intro p hn hp; exact h0 p hp (by omega)
  | succ n ih =>
    intro p hn hp
    by_cases hc : L ≤ p
    · exact h0 p hp hc
    · obtain ⟨i1, i2⟩ := ih (p + 1) (by omega) (by omega)
      have hw : (wr ((p : Int) + 1)) = ((p + 1 : Nat) : Int) := wr_n1 (by omega)
      have b : (0 : Int) ≤ (p : Int) ∧ (p : Int) < 4020 := by omega
      have hcI : ¬ w 0 5 ≤ (p : Int) := by rw [hL]; omega
      have k54 : ¬ T p = 35 → V g LM jMd_findTokens (D + 1) K 13 [(0, vA 0), (1, vI ((p + 1 : Nat) : Int))] [] w → V g LM jMd_findTokens (D + 1) K 54 [(0, vA 0), (1, vI (p : Int))] [] w := by
        intro h35 h
        refine s_Md_findTokens_54 ⟨b, fun _ => ?_, fun c => absurd (by rw [toN, hT] at c; exact c) h35⟩
        rw [hw]; exact h
      have k65 : ¬ T p = 10 → V g LM jMd_findTokens (D + 1) K 65 [(0, vA 0), (1, vI ((p + 1 : Nat) : Int))] [] w → V g LM jMd_findTokens (D + 1) K 65 [(0, vA 0), (1, vI (p : Int))] [] w := by
        intro h10 h
        refine s_Md_findTokens_65 ⟨fun c => absurd c hcI, fun _ => ⟨b, fun c => absurd (by rw [toN, hT] at c; exact c) h10, fun _ => ?_⟩⟩
        rw [hw]; exact h
      have k13 : ∀ h54 : (T p = 32 ∨ T p = 10 ∨ T p = 35) → V g LM jMd_findTokens (D + 1) K 54 [(0, vA 0), (1, vI (p : Int))] [] w, ((¬ T p = 32 ∧ ¬ T p = 10 ∧ ¬ T p = 35) → V g LM jMd_findTokens (D + 1) K 96 [(0, vA 0), (1, vI (p : Int))] [] w) → V g LM jMd_findTokens (D + 1) K 13 [(0, vA 0), (1, vI (p : Int))] [] w := by
        intro h54 h96
        refine s_Md_findTokens_13 ⟨fun c => absurd c hcI, fun _ => ?_⟩
        rw [toN, hT]
        exact ⟨b, fun c => h54 (Or.inl c), fun c1 => ⟨b, fun c => h54 (Or.inr (Or.inl c)), fun c2 => ⟨b, fun c3 => h96 ⟨c1, c2, c3⟩, fun c => h54 (Or.inr (Or.inr c))⟩⟩⟩
      refine ⟨fun h => ?_, fun h => ?_⟩
      · rw [sk, if_neg hc] at h
        refine k13 (fun h54 => ?_) (fun h96 => ?_)
        · by_cases h35 : T p = 35
          · rw [if_neg (by omega), if_pos h35] at h
            refine s_Md_findTokens_54 ⟨b, fun c => absurd h35 (by rw [toN, hT] at c; exact c), fun _ => k65 (by omega) (i2 h)⟩
          · refine k54 h35 (i1 ?_)
            by_cases h10 : T p = 10
            · rw [if_pos h10] at h; exact h
            · rw [if_neg h10, if_neg h35, if_neg (by decide), if_pos (by omega)] at h; exact h
        · rw [if_neg h96.2.1, if_neg h96.2.2, if_neg (by decide), if_neg h96.1] at h
          exact h
      · rw [sk, if_neg hc] at h
        by_cases h10 : T p = 10
        · rw [if_pos h10] at h
          refine s_Md_findTokens_65 ⟨fun c => absurd c hcI, fun _ => ⟨b, fun _ => ?_, fun c => absurd h10 (by rw [toN, hT] at c; exact c)⟩⟩
          exact k13 (fun _ => k54 (by omega) (i1 h)) (fun z => absurd h10 z.2.1)
        · rw [if_neg h10] at h
          refine k65 h10 (i2 ?_)
          by_cases h35 : T p = 35
          · rw [if_pos h35] at h; exact h
          · rw [if_neg h35, if_pos rfl] at h; exact h
end ModelFind
