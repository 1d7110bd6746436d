/-! ===== the class while it reads: what holds of its world; cursor, lot, code, small steps ===== -/
def eqB (T : Nat → Int) (i : Nat) (S : Nat → Int) (j : Nat) : Nat → Bool
  | 0 => true
  | n + 1 => eqB T i S j n && decide (T (i + n) = S (j + n))
theorem eqB_iff {T : Nat → Int} {i : Nat} {S : Nat → Int} {j : Nat} : ∀ {n : Nat}, eqB T i S j n = true ↔ ∀ q, q < n → T (i + q) = S (j + q)
  | 0 => by simp [eqB]
  | n + 1 => by
    simp only [eqB, Bool.and_eq_true, decide_eq_true_eq, eqB_iff (n := n)]
    constructor
    · rintro ⟨h1, h2⟩ q hq
      by_cases hqn : q = n
      · rw [hqn]; exact h2
      · exact h1 q (by omega)
    · intro h
      exact ⟨fun q hq => h q (by omega), h n (by omega)⟩
/-- TOKENS a and t read the same -/
def sameT (T : Nat → Int) (L a t : Nat) : Bool := decide (tSz T L a = tSz T L t) && eqB T (tAt T L a) T (tAt T L t) (tSz T L a)
theorem sameT_iff {T : Nat → Int} {L a t : Nat} : sameT T L a t = true ↔ sameB T (tAt T L a) (tSz T L a) T (tAt T L t) (tSz T L t) := by
  unfold sameT sameB
  rw [Bool.and_eq_true, decide_eq_true_eq, eqB_iff]
/-- the told NAMES: TOKEN, sort, number, kind -/
abbrev En : Type := Nat × Nat × Nat × Nat
/-- the place of the first that reads as TOKEN t; -1: none -/
def fIx (T : Nat → Int) (L : Nat) : List En → Nat → Nat → Int
  | [], _, _ => -1
  | e :: E, t, k => if sameT T L e.1 t = true then (k : Int) else fIx T L E t (k + 1)
def fnd (T : Nat → Int) (L : Nat) : List En → Nat → Option En
  | [], _ => none
  | e :: E, t => if sameT T L e.1 t = true then some e else fnd T L E t
theorem fIx_lt {T : Nat → Int} {L t : Nat} : ∀ (E : List En) (k : Nat), fIx T L E t k = -1 ∨ ((k : Int) ≤ fIx T L E t k ∧ fIx T L E t k < ((k + E.length : Nat) : Int))
  | [], k => Or.inl rfl
  | e :: E, k => by
    rw [fIx]
    split
    · right; simp; omega
    · rcases fIx_lt (T := T) (L := L) (t := t) E (k + 1) with h | h
      · exact Or.inl h
      · right; simp only [List.length_cons]; omega
theorem fIx_fnd {T : Nat → Int} {L t : Nat} : ∀ (E : List En) (k : Nat), (fIx T L E t k = -1 ∧ fnd T L E t = none) ∨ ∃ q e, fIx T L E t k = ((k + q : Nat) : Int) ∧ E[q]? = some e ∧ fnd T L E t = some e
  | [], k => Or.inl ⟨rfl, rfl⟩
  | e :: E, k => by
    rw [fIx, fnd]
    split
    · exact Or.inr ⟨0, e, by simp, rfl, rfl⟩
    · rcases fIx_fnd (T := T) (L := L) (t := t) E (k + 1) with ⟨h1, h2⟩ | ⟨q, e', h1, h2, h3⟩
      · exact Or.inl ⟨h1, h2⟩
      · exact Or.inr ⟨q + 1, e', by rw [h1]; omega, by simpa using h2, h3⟩
section Reading
variable (T : Nat → Int) (L : Nat)
/-- the text and its TOKENS lie there -/
def TxC (w : Wd) : Prop := w 2 1 = (L : Int) ∧ L ≤ 4000 ∧ w 2 6 = (nTk T L : Int) ∧ w 3 = T ∧ Toks w T L (nTk T L) ∧ TokE w L (nTk T L)
def LotB (w : Wd) : Prop := ∃ s : Nat, w 13 6 = (s : Int) ∧ s ≤ 28 ∧ ∀ e, e < s → (∃ t : Nat, w 14 e = (t : Int) ∧ t ≤ nTk T L) ∧ 0 ≤ w 15 e ∧ w 15 e < 5
def CodB (w : Wd) : Prop := ∃ s : Nat, w 19 4 = (s : Int) ∧ s ≤ 1024
def ClB (w : Wd) : Prop := ∀ x, x < 1002 → w 29 x < 1002
def IC (w : Wd) : Prop := TxC T L w ∧ LotB T L w ∧ CodB w ∧ ClB w
/-- where the reading stands: at a TOKEN, or stopped with a FAULT -/
def CS (w : Wd) (σ : PE Nat) : Prop := match σ with
  | .ok i => w 25 1 = (i : Int) ∧ w 25 2 = 0 ∧ i ≤ nTk T L ∧ i ≤ 1000
  | .error e => w 25 1 = (nTk T L : Int) ∧ w 25 2 = (e.1 : Int) ∧ e.1 ≠ 0 ∧ w 25 3 = ((tAt T L e.2 : Nat) : Int)
def kS (σ : PE Nat) : Nat := match σ with
  | .ok i => kdT T L i
  | .error _ => 0
/-- the lot holds these -/
def EC (w : Wd) (E : List En) : Prop := w 13 6 = (E.length : Int) ∧ ∀ q e, E[q]? = some e → w 14 q = (e.1 : Int) ∧ w 15 q = (e.2.1 : Int) ∧ w 16 q = (e.2.2.1 : Int) ∧ w 17 q = (e.2.2.2 : Int) ∧ e.1 < nTk T L ∧ e.1 < 1000
/-- the least of what was blamed: its place * 8 + its FAULT; 100000: nothing -/
def KY (w : Wd) (k : Nat) : Prop := (k = 100000 ∧ w 25 4 = 0) ∨ ∃ p f : Nat, k = p * 8 + f ∧ 3 ≤ f ∧ f ≤ 5 ∧ p ≤ 4000 ∧ w 25 4 = (f : Int) ∧ w 25 5 = (p : Int)
end Reading
section ReadSmall
variable {g : Mg} {D : Nat} {K : Ou → Wd → Prop} {w : Wd} {T : Nat → Int} {L : Nat}
theorem nTk_le : nTk T L ≤ 1001 := by have := (tkN_le T L 1001 0).2; omega
theorem tok_lt {k : Nat} (h : k < nTk T L) : tAt T L k < L := tkN_lt T L 1001 0 k (Nat.zero_le _) h
theorem TxC.kd {i : Nat} (h : TxC T L w) (h1 : i ≤ nTk T L) (h2 : i ≤ 1000) : w 4 i = ((kdT T L i : Nat) : Int) := by
  obtain ⟨-, -, -, -, ht, he⟩ := h
  by_cases hi : i < nTk T L
  · rw [(ht i hi).1, kdT_at (tok_lt hi)]
  · have e : i = nTk T L := by omega
    rcases tkN_end T L 1001 0 with h3 | h3
    · exact absurd (show nTk T L = 1001 by show tkN T L 1001 0 = 1001; omega) (by omega)
    · have hk : kdT T L i = 0 := by
        unfold kdT
        rw [e]
        exact if_neg h3
      rw [hk, e]
      exact he.1
theorem TxC.end_ (h : TxC T L w) : w 4 (nTk T L) = 0 := h.2.2.2.2.2.1
theorem TxC.pl {i : Nat} (h : TxC T L w) (h1 : i ≤ nTk T L) (h2 : i ≤ 1000) : w 5 i = ((tAt T L i : Nat) : Int) := by
  obtain ⟨-, -, -, -, ht, he⟩ := h
  by_cases hi : i < nTk T L
  · exact (ht i hi).2.1
  · have e : i = nTk T L := by omega
    rcases tkN_end T L 1001 0 with h3 | h3
    · exact absurd (show nTk T L = 1001 by show tkN T L 1001 0 = 1001; omega) (by omega)
    · have h4 := tAt_le T L i
      have h5 : tAt T L i = L := by rw [e] at h4 ⊢; exact Nat.le_antisymm h4 (Nat.le_of_not_lt h3)
      rw [h5, e]
      exact he.2.1
theorem TxC.fe {i : Nat} (h : TxC T L w) (h1 : i ≤ nTk T L) : ∃ f e : Nat, w 5 i = (f : Int) ∧ w 6 i = (e : Int) ∧ f ≤ e ∧ e ≤ 4000 := by
  obtain ⟨-, hL, -, -, ht, he⟩ := h
  by_cases hi : i < nTk T L
  · have := tEn_gt (T := T) (tok_lt hi)
    exact ⟨_, _, (ht i hi).2.1, (ht i hi).2.2.1, by omega, by omega⟩
  · have e : i = nTk T L := by omega
    rw [e]
    exact ⟨_, _, he.2.1, he.2.2.1, Nat.le_refl _, hL⟩
theorem TxC.sz {i : Nat} (h : TxC T L w) (h1 : i < nTk T L) : w 5 i = ((tAt T L i : Nat) : Int) ∧ w 6 i = ((tAt T L i + tSz T L i : Nat) : Int) ∧ w 7 i = tVl T L (tAt T L i) := by
  obtain ⟨-, hL, -, -, ht, he⟩ := h
  have h2 := tEn_gt (T := T) (tok_lt h1)
  have h3 := tSz_at (tok_lt h1)
  obtain ⟨a1, a2, a3, a4⟩ := ht i h1
  refine ⟨a2, ?_, a4⟩
  rw [a3, h3]
  omega
theorem kdT_lt {i : Nat} (h1 : i ≤ nTk T L) (h2 : i ≤ 1000) (h3 : kdT T L i ≠ 0) : i < nTk T L := by
  by_cases hi : i < nTk T L
  · exact hi
  · have e : i = nTk T L := by omega
    rcases tkN_end T L 1001 0 with h4 | h4
    · exact absurd (show nTk T L = 1001 by show tkN T L 1001 0 = 1001; omega) (by omega)
    · exfalso; apply h3; unfold kdT; rw [e]; exact if_neg h4
theorem CS.kd {σ : PE Nat} (hX : TxC T L w) (h : CS T L w σ) : ∃ i : Nat, w 25 1 = (i : Int) ∧ i ≤ nTk T L ∧ w 4 i = ((kS T L σ : Nat) : Int) := by
  cases σ with
  | ok i => exact ⟨i, h.1, h.2.2.1, hX.kd h.2.2.1 h.2.2.2⟩
  | error e => exact ⟨nTk T L, h.1, Nat.le_refl _, hX.end_⟩
theorem IC.fx {M : List Nat} {w' : Wd} (h : IC T L w) (hf : Fx M w w') (h2 : 2 ∉ M) (h3 : 3 ∉ M) (h4 : 4 ∉ M) (h5 : 5 ∉ M) (h6 : 6 ∉ M) (h7 : 7 ∉ M) (h13 : 13 ∉ M) (h14 : 14 ∉ M) (h15 : 15 ∉ M) (hc : CodB w') (hl : ClB w') : IC T L w' := by
  refine ⟨?_, ?_, hc, hl⟩
  · have := h.1
    unfold TxC Toks TokE at *
    rw [hf 2 h2, hf 3 h3, hf 4 h4, hf 5 h5, hf 6 h6, hf 7 h7]
    exact this
  · have := h.2.1
    unfold LotB at *
    rw [hf 13 h13, hf 14 h14, hf 15 h15]
    exact this
theorem CodB.fx {M : List Nat} {w' : Wd} (h : CodB w) (hf : Fx M w w') (h19 : 19 ∉ M) : CodB w' := by
  unfold CodB at *
  rw [hf 19 h19]
  exact h
theorem ClB.fx {M : List Nat} {w' : Wd} (h : ClB w) (hf : Fx M w w') (h29 : 29 ∉ M) : ClB w' := by
  unfold ClB at *
  rw [hf 29 h29]
  exact h
theorem CS.fx {M : List Nat} {w' : Wd} {σ : PE Nat} (h : CS T L w σ) (hf : Fx M w w') (h25 : 25 ∉ M) : CS T L w' σ := by
  unfold CS at *
  rw [hf 25 h25]
  exact h
theorem EC.fx {M : List Nat} {w' : Wd} {E : List En} (h : EC T L w E) (hf : Fx M w w') (h13 : 13 ∉ M) (h14 : 14 ∉ M) (h15 : 15 ∉ M) (h16 : 16 ∉ M) (h17 : 17 ∉ M) : EC T L w' E := by
  unfold EC at *
  rw [hf 13 h13, hf 14 h14, hf 15 h15, hf 16 h16, hf 17 h17]
  exact h
theorem sp_kind {σ : PE Nat} (hI : IC T L w) (hC : CS T L w σ) (h : K (.inl (some (vI ((kS T L σ : Nat) : Int)))) w) : Cal g LC jCu_kind D [vA 25] w K := by
  obtain ⟨i, h1, h2, h3⟩ := hC.kd hI.1
  have hn := nTk_le (T := T) (L := L)
  refine Cal.ofV (by decide) rfl (Nat.le_of_ble_eq_true rfl) (s_Cu_kind ?_)
  rw [h1, toN, h3]
  exact ⟨by omega, h⟩
theorem sp_sees {σ : PE Nat} {c : Nat} (hI : IC T L w) (hC : CS T L w σ) (h : K (.inl (some (vI (if kS T L σ = c then 1 else 0)))) w) : Cal g LC jCu_sees D [vA 25, vI (c : Int)] w K := by
  obtain ⟨i, h1, h2, h3⟩ := hC.kd hI.1
  have hn := nTk_le (T := T) (L := L)
  refine Cal.ofV (by decide) rfl (Nat.le_of_ble_eq_true rfl) (s_Cu_sees ?_)
  rw [h1, toN, h3]
  refine ⟨by omega, fun c1 => ?_, fun c1 => ?_⟩
  · rw [if_neg (by omega)] at h; exact h
  · rw [if_pos (by omega)] at h; exact h
/-- only the cursor's place and stop have changed -/
def C3 (w w' : Wd) : Prop := Fx [25] w w' ∧ ∀ b, b ≠ 1 → b ≠ 2 → b ≠ 3 → w' 25 b = w 25 b
theorem C3.ky {w' : Wd} {k : Nat} (h : C3 w w') (hk : KY w k) : KY w' k := by
  unfold KY at *
  rw [h.2 4 (by decide) (by decide) (by decide), h.2 5 (by decide) (by decide) (by decide)]
  exact hk
def stp (f : Nat) (σ : PE Nat) : PE Nat := bnd σ (fun i => .error (f, i))
theorem sp_stop {σ : PE Nat} {f : Nat} (hf : f ≠ 0) (hI : IC T L w) (hC : CS T L w σ) (h : ∀ w', C3 w w' → CS T L w' (stp f σ) → K (.inl none) w') : Cal g LC jCu_stop D [vA 25, vI (f : Int)] w K := by
  obtain ⟨-, -, h26, -⟩ := hI.1
  have hn := nTk_le (T := T) (L := L)
  refine Cal.ofV (by decide) rfl (Nat.le_of_ble_eq_true rfl) (s_Cu_stop ⟨fun c => ?_, fun c => ?_⟩)
  · cases σ with
    | ok i => exact absurd hC.2.1 c
    | error e =>
      refine h _ ⟨(Fx.rf _ w).up (by decide), fun b h1 h2 h3 => up_k h1⟩ ?_
      show _ ∧ _
      rw [up_s, up_k (by decide), up_k (by decide), h26]
      exact ⟨rfl, hC.2⟩
  · cases σ with
    | ok i =>
      obtain ⟨c1, c2, c3, c4⟩ := hC
      rw [c1, toN, hI.1.pl c3 c4, h26]
      refine ⟨by omega, h _ ⟨(((Fx.rf _ w).up (by decide)).up (by decide)).up (by decide), fun b h1 h2 h3 => ?_⟩ ?_⟩
      · rw [up_k h1, up_k h3, up_k h2]
      · show _ ∧ _
        rw [up_s, up_k (by decide), up_k (by decide), up_s, up_k (by decide), up_s]
        exact ⟨rfl, rfl, hf, rfl⟩
    | error e =>
      have := hC.2.1
      rw [c] at this
      have h3 := hC.2.2.1
      omega
theorem sp_take {σ : PE Nat} {c : Nat} (hD : 1 ≤ D) (hI : IC T L w) (hC : CS T L w σ) (hc : ∀ i, σ = .ok i → c ≠ 0) (h : ∀ (w' : Wd) (x : Nat), C3 w w' → x ≤ nTk T L → (∀ i, σ = .ok i → x = i) → CS T L w' (bnd σ (ex (kdT T L) c)) → K (.inl (some (vI (x : Int)))) w') : Cal g LC jCu_take D [vA 25, vI (c : Int)] w K := by
  obtain ⟨d, rfl⟩ : ∃ d, D = d + 1 := ⟨D - 1, by omega⟩
  obtain ⟨-, -, h26, -⟩ := id hI.1
  have hn := nTk_le (T := T) (L := L)
  cases σ with
  | error e =>
    have h1 := hC.1
    have hgo : ∀ f : Nat, f ≠ 0 → Cal g LC jCu_stop d [vA 25, vI (f : Int)] w (fun o w1 => rV o (K (.inl (some (vI ((nTk T L : Nat) : Int)))) w1)) := fun f hf => sp_stop hf hI hC (fun w' a b => h w' (nTk T L) a (Nat.le_refl _) (fun i z => by cases z) b)
    refine Cal.ofV (by decide) rfl (Nat.le_of_ble_eq_true rfl) (s_Cu_take ?_)
    rw [h1, toN, h26]
    exact ⟨by omega, fun _ => hgo 1 (by decide), fun _ => ⟨fun c => absurd c (by omega), fun _ => hgo 1 (by decide)⟩⟩
  | ok i =>
    obtain ⟨c1, c2, c3, c4⟩ := id hC
    have hc0 := hc i rfl
    have hgo : ∀ f : Nat, f ≠ 0 → ex (kdT T L) c i = .error (f, i) → Cal g LC jCu_stop d [vA 25, vI (f : Int)] w (fun o w1 => rV o (K (.inl (some (vI (i : Int)))) w1)) := fun f hf he => sp_stop hf hI hC (fun w' a b => h w' i a c3 (fun i' z => by cases z; rfl) (by
      show CS T L w' (ex (kdT T L) c i)
      rw [he]; exact b))
    refine Cal.ofV (by decide) rfl (Nat.le_of_ble_eq_true rfl) (s_Cu_take ?_)
    rw [c1, toN, h26, hI.1.kd c3 c4]
    refine ⟨by omega, fun q => hgo 1 (by decide) ?_, fun q => ⟨fun q2 => ⟨fun q3 => ?_, fun q3 => hgo 2 (by decide) ?_⟩, fun q2 => ?_⟩⟩
    · unfold ex; rw [if_neg (by omega)]
    · rw [wr_n1 (by omega)]
      refine h _ i ⟨(Fx.rf _ w).up (by decide), fun b h1 h2 h3 => up_k h1⟩ c3 (fun i' z => by cases z; rfl) ?_
      show CS T L _ (ex (kdT T L) c i)
      unfold ex
      rw [if_pos (by omega), if_neg (by omega)]
      show _ ∧ _
      rw [up_s, up_k (by decide)]
      exact ⟨rfl, c2, by omega, by omega⟩
    · unfold ex; rw [if_pos (by omega), if_pos (by omega)]
    · have := kdT_lt c3 c4 (by omega)
      omega
theorem KY.blame {k p f : Nat} (h : KY w k) (hf : 3 ≤ f ∧ f ≤ 5) (hp : p ≤ 4000) : (w 25 4 = 0 ∨ (p : Int) < w 25 5 ∨ ((p : Int) = w 25 5 ∧ (f : Int) < w 25 4) → KY (up (up w 25 4 (f : Int)) 25 5 (p : Int)) (min k (p * 8 + f))) ∧ (¬ w 25 4 = 0 ∧ ¬ (p : Int) < w 25 5 ∧ ¬ ((p : Int) = w 25 5 ∧ (f : Int) < w 25 4) → KY w (min k (p * 8 + f))) := by
  constructor
  · intro hc
    right
    refine ⟨p, f, ?_, hf.1, hf.2, hp, by rw [up_k (by decide), up_s], up_s _ _ _ _⟩
    rcases h with ⟨rfl, h0⟩ | ⟨p', f', rfl, a1, a2, a3, a4, a5⟩
    · omega
    · rw [a4, a5] at hc; omega
  · intro hc
    rcases h with ⟨rfl, h0⟩ | ⟨p', f', rfl, a1, a2, a3, a4, a5⟩
    · exact absurd h0 hc.1
    · rw [a4, a5] at hc
      right
      exact ⟨p', f', by omega, a1, a2, a3, a4, a5⟩
/-- only what was blamed has changed -/
def B2 (w w' : Wd) : Prop := Fx [25] w w' ∧ ∀ b, b ≠ 4 → b ≠ 5 → w' 25 b = w 25 b
theorem B2.rf (w : Wd) : B2 w w := ⟨Fx.rf _ w, fun _ _ _ => rfl⟩
theorem B2.cs {w' : Wd} {σ : PE Nat} (h : B2 w w') (hC : CS T L w σ) : CS T L w' σ := by
  unfold CS at *
  rw [h.2 1 (by decide) (by decide), h.2 2 (by decide) (by decide), h.2 3 (by decide) (by decide)]
  exact hC
theorem sp_blame {f t : Nat} (hI : IC T L w) (hf : 3 ≤ f ∧ f ≤ 5) (ht : t ≤ nTk T L) (h : ∀ w', B2 w w' → (t ≤ 1000 → ∀ k, KY w k → KY w' (min k (tAt T L t * 8 + f))) → K (.inl none) w') : Cal g LC jCu_blame D [vA 25, vI (f : Int), vI (t : Int)] w K := by
  have hn := nTk_le (T := T) (L := L)
  have hL := hI.1.2.1
  obtain ⟨p, e, hp, -, -, -⟩ := hI.1.fe ht
  have hpl : t ≤ 1000 → p = tAt T L t := fun z => by have := hI.1.pl ht z; rw [hp] at this; omega
  have hple : t ≤ 1000 → p ≤ 4000 := fun z => by have := tAt_le T L t; rw [hpl z]; omega
  have h1 : K (.inl none) w ∨ True := Or.inr trivial
  have hu : (w 25 4 = 0 ∨ (p : Int) < w 25 5 ∨ ((p : Int) = w 25 5 ∧ (f : Int) < w 25 4)) → K (.inl none) (up (up w 25 4 (f : Int)) 25 5 (p : Int)) := fun z => h _ ⟨((Fx.rf _ w).up (by decide)).up (by decide), fun b h1 h2 => by rw [up_k h2, up_k h1]⟩ (fun q k hk => by have := (hk.blame hf (hple q)).1 z; rw [hpl q] at this ⊢; exact this)
  have hs : (¬ w 25 4 = 0 ∧ ¬ (p : Int) < w 25 5 ∧ ¬ ((p : Int) = w 25 5 ∧ (f : Int) < w 25 4)) → K (.inl none) w := fun z => h _ (B2.rf w) (fun q k hk => by have := (hk.blame hf (hple q)).2 z; rw [hpl q] at this; exact this)
  clear h
  refine Cal.ofV (by decide) rfl (Nat.le_of_ble_eq_true rfl) (s_Cu_blame ?_)
  rw [toN, hp]
  exact ⟨by omega, fun c => hu (Or.inl c), fun c => ⟨fun c2 => hu (Or.inr (Or.inl c2)), fun c2 => ⟨fun c3 => hs ⟨c, c2, fun z => c3 z.1⟩, fun c3 => ⟨fun c4 => hs ⟨c, c2, fun z => by omega⟩, fun c4 => hu (Or.inr (Or.inr ⟨c3, by omega⟩))⟩⟩⟩⟩
end ReadSmall
