/-! ===== the TOKENS of a text; the class's cut, load, lineOf, reads ===== -/
def tkN (T : Nat → Int) (L : Nat) : Nat → Nat → Nat
  | 0, k => k
  | f + 1, k => if tAt T L k < L then tkN T L f (k + 1) else k
/-- how many TOKENS the class keeps -/
abbrev nTk (T : Nat → Int) (L : Nat) : Nat := tkN T L 1001 0
theorem tkN_le (T : Nat → Int) (L : Nat) : ∀ f k, k ≤ tkN T L f k ∧ tkN T L f k ≤ k + f
  | 0, k => ⟨Nat.le_refl _, Nat.le_refl _⟩
  | f + 1, k => by
    rw [tkN]
    split
    · have := tkN_le T L f (k + 1); omega
    · omega
theorem tkN_lt (T : Nat → Int) (L : Nat) : ∀ f k j, k ≤ j → j < tkN T L f k → tAt T L j < L
  | 0, k, j, h1, h2 => by rw [tkN] at h2; omega
  | f + 1, k, j, h1, h2 => by
    rw [tkN] at h2
    split at h2
    · rename_i hc
      by_cases hj : j = k
      · rw [hj]; exact hc
      · exact tkN_lt T L f (k + 1) j (by omega) h2
    · omega
theorem tkN_end (T : Nat → Int) (L : Nat) : ∀ f k, tkN T L f k = k + f ∨ ¬ tAt T L (tkN T L f k) < L
  | 0, k => Or.inl rfl
  | f + 1, k => by
    rw [tkN]
    split
    · rcases tkN_end T L f (k + 1) with h | h
      · left; omega
      · exact Or.inr h
    · rename_i hc; exact Or.inr hc
/-- the rows of TOKENS below n, and the end behind them -/
def Toks (w : Wd) (T : Nat → Int) (L n : Nat) : Prop := ∀ k, k < n → w 4 k = ((tKd T L (tAt T L k) : Nat) : Int) ∧ w 5 k = ((tAt T L k : Nat) : Int) ∧ w 6 k = ((tEn T L (tAt T L k) : Nat) : Int) ∧ w 7 k = tVl T L (tAt T L k)
def TokE (w : Wd) (L n : Nat) : Prop := w 4 n = 0 ∧ w 5 n = (L : Int) ∧ w 6 n = (L : Int) ∧ w 7 n = 0
theorem putT_4 (w : Wd) (t : Nat) (k f e v : Int) (b : Nat) : putT w t k f e v 4 b = if b = t then k else w 4 b := by simp [putT, up]
theorem putT_5 (w : Wd) (t : Nat) (k f e v : Int) (b : Nat) : putT w t k f e v 5 b = if b = t then f else w 5 b := by simp [putT, up]
theorem putT_6 (w : Wd) (t : Nat) (k f e v : Int) (b : Nat) : putT w t k f e v 6 b = if b = t then e else w 6 b := by simp [putT, up]
theorem putT_7 (w : Wd) (t : Nat) (k f e v : Int) (b : Nat) : putT w t k f e v 7 b = if b = t then v else w 7 b := by simp [putT, up]
theorem putT_26 (w : Wd) (t : Nat) (k f e v : Int) : putT w t k f e v 2 6 = ((t + 1 : Nat) : Int) := by simp [putT, up]
theorem putT_21 (w : Wd) (t : Nat) (k f e v : Int) : putT w t k f e v 2 1 = w 2 1 := by simp [putT, up]
theorem putT_fx (w : Wd) (t : Nat) (k f e v : Int) : Fx [2, 4, 5, 6, 7] w (putT w t k f e v) := by
  unfold putT
  exact (((((Fx.rf _ w).up (by decide)).up (by decide)).up (by decide)).up (by decide)).up (by decide)
theorem Toks.put {w : Wd} {T : Nat → Int} {L t : Nat} (h : Toks w T L t) : Toks (putT w t ((tKd T L (tAt T L t) : Nat) : Int) ((tAt T L t : Nat) : Int) ((tEn T L (tAt T L t) : Nat) : Int) (tVl T L (tAt T L t))) T L (t + 1) := by
  intro k hk
  rw [putT_4, putT_5, putT_6, putT_7]
  by_cases hkt : k = t
  · subst hkt
    rw [if_pos rfl, if_pos rfl, if_pos rfl, if_pos rfl]
    exact ⟨rfl, rfl, rfl, rfl⟩
  · rw [if_neg hkt, if_neg hkt, if_neg hkt, if_neg hkt]
    exact h k (by omega)
theorem Toks.end_ {w : Wd} {T : Nat → Int} {L t : Nat} {a b c d : Int} (h : Toks w T L t) : Toks (putT w t a b c d) T L t := by
  intro k hk
  have hkt : ¬ k = t := by omega
  rw [putT_4, putT_5, putT_6, putT_7, if_neg hkt, if_neg hkt, if_neg hkt, if_neg hkt]
  exact h k hk
section ClassCut
variable {g : Mg} {D : Nat} {K : Ou → Wd → Prop} {w : Wd}
theorem cut_end {T : Nat → Int} {L t : Nat} {wa wb : Wd} (hL : wb 2 1 = (L : Int)) (ht : wb 2 6 = (t : Int)) (hb : t ≤ 1001) (hf : Fx [2, 4, 5, 6, 7] wa wb) (hT : Toks wb T L t) (h : ∀ w', Fx [2, 4, 5, 6, 7] wa w' → w' 2 1 = (L : Int) → w' 2 6 = (t : Int) → Toks w' T L t → TokE w' L t → K (.inl none) w') :
    Cal g LC jTe_put D [vA 2, vI 0, vI (wb 2 1), vI (wb 2 1), vI 0] wb (fun o w1 => rV o (K (.inl none) (up w1 2 6 (wr ((w1 2 6) - 1))))) := by
  rw [hL]
  refine sp_putT ht (by omega) ?_
  have e : wr (((t + 1 : Nat) : Int) - 1) = (t : Int) := wrN (by omega) (by omega)
  show K (.inl none) (up (putT wb t 0 (L : Int) (L : Int) 0) 2 6 (wr (putT wb t 0 (L : Int) (L : Int) 0 2 6 - 1)))
  rw [putT_26, e]
  refine h _ ((hf.tr (putT_fx _ _ _ _ _ _)).up (by decide)) ?_ (up_s _ _ _ _) ?_ ?_
  · rw [up_k (by decide), putT_21, hL]
  · intro k hk
    rw [up_o (by decide), up_o (by decide), up_o (by decide), up_o (by decide)]
    exact hT.end_ k hk
  · unfold TokE
    rw [up_o (by decide), up_o (by decide), up_o (by decide), up_o (by decide), putT_4, putT_5, putT_6, putT_7, if_pos rfl, if_pos rfl, if_pos rfl, if_pos rfl]
    exact ⟨rfl, rfl, rfl, rfl⟩
theorem cut_loop {T : Nat → Int} {L : Nat} {wa : Wd} (hD : 7 ≤ D) (hL4 : L ≤ 4000) (hT3 : wa 3 = T) (hB : ∀ i, i < L → -128 ≤ T i ∧ T i ≤ 127) {n : Nat} (h : ∀ w', Fx [2, 4, 5, 6, 7] wa w' → w' 2 1 = (L : Int) → w' 2 6 = (n : Int) → Toks w' T L n → TokE w' L n → K (.inl none) w') :
    ∀ (f k : Nat) (wb : Wd), k + f = 1001 → tkN T L f k = n → wb 2 1 = (L : Int) → wb 2 6 = (k : Int) → Fx [2, 4, 5, 6, 7] wa wb → Toks wb T L k → V g LC jTe_cut (D + 1) K 13 [(0, vA 2), (1, vI ((tAt T L k : Nat) : Int)), (2, vI (k : Int))] [] wb := by
  intro f
  induction f with
  | zero =>
    intro k wb hk hn hL ht hf hT
    have hn' : k = n := hn
    subst hn'
    exact s_Te_cut_13 ⟨fun _ => cut_end hL ht (by omega) hf hT h, fun c => absurd (by omega) c⟩
  | succ f ih =>
    intro k wb hk hn hL ht hf hT
    rw [tkN] at hn
    refine s_Te_cut_13 ⟨fun c => absurd c (by omega), fun _ => ⟨fun c => ?_, fun c => ?_⟩⟩
    · rw [hL] at c
      rw [if_neg (by omega)] at hn
      subst hn
      exact cut_end hL ht (by omega) hf hT h
    · rw [hL] at c
      have hlt : tAt T L k < L := by omega
      rw [if_pos hlt] at hn
      have h3 : wb 3 = T := (hf 3 (by decide)).trans hT3
      have hen := tEn_gt (T := T) hlt
      refine sp_cutToken hD hL hL4 hlt ht (by omega) (by rw [h3]; exact hB _ hlt) ?_
      rw [h3]
      have hf2 := hf.tr (putT_fx wb k ((tKd T L (tAt T L k) : Nat) : Int) ((tAt T L k : Nat) : Int) ((tEn T L (tAt T L k) : Nat) : Int) (tVl T L (tAt T L k)))
      refine sp_pass (L := L) (by rw [putT_21, hL]) hL4 (by omega) ?_
      rw [(hf2 3 (by decide)), hT3, wr_n1 (by omega)]
      have e : sk T L false (tEn T L (tAt T L k)) = tAt T L (k + 1) := by rw [tAt.eq_2, if_pos hlt]
      rw [e]
      exact ih (k + 1) _ (by omega) hn (by rw [putT_21, hL]) (putT_26 _ _ _ _ _ _) hf2 hT.put
theorem sp_cut {T : Nat → Int} {L : Nat} (hD : 8 ≤ D) (hL : w 2 1 = (L : Int)) (hL4 : L ≤ 4000) (hT3 : w 3 = T) (hB : ∀ i, i < L → -128 ≤ T i ∧ T i ≤ 127) (h : ∀ w', Fx [2, 4, 5, 6, 7] w w' → w' 2 1 = (L : Int) → w' 2 6 = (nTk T L : Int) → Toks w' T L (nTk T L) → TokE w' L (nTk T L) → K (.inl none) w') : Cal g LC jTe_cut D [vA 2] w K := by
  obtain ⟨d, rfl⟩ : ∃ d, D = d + 1 := ⟨D - 1, by omega⟩
  refine Cal.ofV (by decide) rfl (Nat.le_of_ble_eq_true rfl) (s_Te_cut ?_)
  refine sp_pass (i := 0) (L := L) (by rw [up_k (by decide), hL]) hL4 (by omega) ?_
  rw [up_o (by decide), hT3]
  exact cut_loop (wa := w) (by omega) hL4 hT3 hB h 1001 0 _ rfl rfl (by rw [up_k (by decide), hL]) (up_s _ _ _ _) ((Fx.rf _ w).up (by decide)) (fun k hk => absurd hk (Nat.not_lt_zero _))
theorem sp_load {L : Nat} {T : Nat → Int} (hD : 9 ≤ D) (hL4 : L ≤ 4000) (hT : T = fun b => if b < L then w 1 b else w 3 b) (hB : ∀ i, i < L → -128 ≤ w 1 i ∧ w 1 i ≤ 127) (h : ∀ w', Fx [2, 3, 4, 5, 6, 7] w w' → w' 3 = T → w' 2 1 = (L : Int) → w' 2 6 = (nTk T L : Int) → Toks w' T L (nTk T L) → TokE w' L (nTk T L) → K (.inl none) w') : Cal g LC jTe_load D [vA 2, vA 1, vI (L : Int)] w K := by
  obtain ⟨d, rfl⟩ : ∃ d, D = d + 1 := ⟨D - 1, by omega⟩
  refine Cal.ofV (by decide) rfl (Nat.le_of_ble_eq_true rfl) (s_Te_load (by omega) ?_)
  refine sp_min (sp_min (sp_max ?_))
  rw [show (if (4000 : Int) < 4000 then (4000 : Int) else 4000) = 4000 from by decide]
  have e1 : (if (4000 : Int) < (L : Int) then (4000 : Int) else (L : Int)) = (L : Int) := if_neg (by omega)
  rw [e1]
  have e2 : (if (0 : Int) < (L : Int) then (L : Int) else 0) = (L : Int) := by split <;> omega
  rw [e2]
  refine ⟨⟨by omega, by omega, by omega, by omega, by omega⟩, ?_⟩
  have hf0 : Fx [2, 3, 4, 5, 6, 7] w (cpw (up w 2 1 (L : Int)) 1 (Int.toNat 0) 3 (Int.toNat 0) ((L : Int)).toNat) := by
    intro q hq
    funext b
    have h3 : ¬ q = 3 := fun z => hq (by rw [z]; decide)
    have h2 : q ≠ 2 := fun z => hq (by rw [z]; decide)
    simp only [cpw]
    rw [if_neg (fun z => h3 z.1), up_o h2]
  have h3 : cpw (up w 2 1 (L : Int)) 1 (Int.toNat 0) 3 (Int.toNat 0) ((L : Int)).toNat 3 = T := by
    rw [hT]
    funext b
    simp only [cpw]
    rw [toN]
    by_cases hb : b < L
    · rw [if_pos ⟨trivial, Nat.zero_le _, by show b < 0 + L; omega⟩, if_pos hb, up_o (by decide)]
      congr 1
      show 0 + (b - 0) = b
      omega
    · rw [if_neg (fun z => hb (by have := z.2.2; change b < 0 + L at this; omega)), if_neg hb, up_o (by decide)]
  refine sp_cut (T := T) (L := L) (by omega) ?_ hL4 h3 ?_ ?_
  · simp only [cpw]
    rw [if_neg (fun z => absurd z.1 (by decide)), up_s]
  · intro i hi
    rw [hT]
    simp only [if_pos hi]
    exact hB i hi
  · intro w' hf hl ht hk he
    exact h w' (hf0.tr (hf.mono (by decide))) ((hf 3 (by decide)).trans h3) hl ht hk he
/-- how many line ends lie below p -/
def nls (T : Nat → Int) : Nat → Nat
  | 0 => 0
  | p + 1 => nls T p + (if T p = 10 then 1 else 0)
theorem nls_le (T : Nat → Int) : ∀ p, nls T p ≤ p
  | 0 => Nat.le_refl _
  | p + 1 => by have := nls_le T p; rw [nls]; split <;> omega
theorem lo_loop {L p : Nat} (hL : w 2 1 = (L : Int)) (hL4 : L ≤ 4000) (hp : p ≤ L) (h : K (.inl (some (vI ((nls (w 3) p + 1 : Nat) : Int)))) w) : ∀ (m j : Nat), j + m = p → V g LC jTe_lineOf D K 4 [(0, vA 2), (1, vI (p : Int)), (2, vI ((nls (w 3) j + 1 : Nat) : Int)), (3, vI (j : Int))] [] w := by
  intro m
  induction m with
  | zero =>
    intro j hj
    have : j = p := by omega
    subst this
    exact s_Te_lineOf_4 ⟨fun _ => h, fun c => absurd (Int.le_refl _) c⟩
  | succ m ih =>
    intro j hj
    have hl := nls_le (w 3) j
    have := ih (j + 1) (by omega)
    rw [nls] at this
    refine s_Te_lineOf_4 ⟨fun c => absurd c (by omega), fun _ => ⟨fun c => absurd c (by rw [hL]; omega), fun _ => ⟨by omega, fun c => ?_, fun c => ?_⟩⟩⟩
    · rw [toN] at c
      rw [if_neg c] at this
      rw [wr_n1 (by omega)]
      exact this
    · rw [toN] at c
      rw [if_pos c] at this
      rw [wr_n1 (by omega), wr_n1 (by omega)]
      exact this
theorem sp_lineOf {L p : Nat} (hL : w 2 1 = (L : Int)) (hL4 : L ≤ 4000) (hp : p ≤ L) (h : K (.inl (some (vI ((nls (w 3) p + 1 : Nat) : Int)))) w) : Cal g LC jTe_lineOf D [vA 2, vI (p : Int)] w K :=
  Cal.ofV (by decide) rfl (Nat.le_of_ble_eq_true rfl) (s_Te_lineOf (lo_loop hL hL4 hp h p 0 (by omega)))
/-- the same bytes -/
def sameB (T : Nat → Int) (i n : Nat) (S : Nat → Int) (j m : Nat) : Prop := n = m ∧ ∀ q, q < n → T (i + q) = S (j + q)
theorem rd_loop {f a b : Nat} (hab : a ≤ b) (hb : b ≤ 4000) (hf : f + (b - a) ≤ 4000) (h1 : sameB (w 3) f (b - a) (w 3) a (b - a) → K (.inl (some (vI 1))) w) (h0 : ¬ sameB (w 3) f (b - a) (w 3) a (b - a) → K (.inl (some (vI 0))) w) : ∀ (m j : Nat), j + m = b - a → (∀ q, q < j → w 3 (f + q) = w 3 (a + q)) → V g LC jTe_reads D K 29 [(0, vA 2), (2, vA 3), (3, vI (a : Int)), (4, vI (b : Int)), (5, vI (f : Int)), (6, vI ((a + j : Nat) : Int))] [] w := by
  intro m
  induction m with
  | zero =>
    intro j hj hq
    refine s_Te_reads_29 ⟨fun _ => h1 ⟨rfl, fun q hq2 => hq q (by omega)⟩, fun c => absurd (by omega) c⟩
  | succ m ih =>
    intro j hj hq
    have e0 : wr ((f : Int) + ((a + j : Nat) : Int)) = ((f + (a + j) : Nat) : Int) := wrN (by omega) (by omega)
    have e1 : wr (((f + (a + j) : Nat) : Int) - (a : Int)) = ((f + j : Nat) : Int) := wrN (by omega) (by omega)
    refine s_Te_reads_29 ⟨fun c => absurd c (by omega), fun _ => ?_⟩
    rw [e0, e1, toN, toN, wr_n1 (by omega)]
    refine ⟨by omega, by omega, fun c => ?_, fun c => h0 (fun z => c (z.2 j (by omega)))⟩
    refine ih (j + 1) (by omega) (fun q hq2 => ?_)
    by_cases h3 : q = j
    · rw [h3]; exact c
    · exact hq q (by omega)
theorem rdt_loop {f a b : Nat} (hab : a ≤ b) (hb : b ≤ 4000) (hf : f + (b - a) ≤ 4000) (h1 : sameB (w 3) f (b - a) (w 1) a (b - a) → K (.inl (some (vI 1))) w) (h0 : ¬ sameB (w 3) f (b - a) (w 1) a (b - a) → K (.inl (some (vI 0))) w) : ∀ (m j : Nat), j + m = b - a → (∀ q, q < j → w 3 (f + q) = w 1 (a + q)) → V g LC jTe_reads D K 29 [(0, vA 2), (2, vA 1), (3, vI (a : Int)), (4, vI (b : Int)), (5, vI (f : Int)), (6, vI ((a + j : Nat) : Int))] [] w := by
  intro m
  induction m with
  | zero =>
    intro j hj hq
    refine s_Te_reads_t_29 ⟨fun _ => h1 ⟨rfl, fun q hq2 => hq q (by omega)⟩, fun c => absurd (by omega) c⟩
  | succ m ih =>
    intro j hj hq
    have e0 : wr ((f : Int) + ((a + j : Nat) : Int)) = ((f + (a + j) : Nat) : Int) := wrN (by omega) (by omega)
    have e1 : wr (((f + (a + j) : Nat) : Int) - (a : Int)) = ((f + j : Nat) : Int) := wrN (by omega) (by omega)
    refine s_Te_reads_t_29 ⟨fun c => absurd c (by omega), fun _ => ?_⟩
    rw [e0, e1, toN, toN, wr_n1 (by omega)]
    refine ⟨by omega, by omega, fun c => ?_, fun c => h0 (fun z => c (z.2 j (by omega)))⟩
    refine ih (j + 1) (by omega) (fun q hq2 => ?_)
    by_cases h3 : q = j
    · rw [h3]; exact c
    · exact hq q (by omega)
theorem sp_reads {t f e a b : Nat} (ht : t < 1002) (h5 : w 5 t = (f : Int)) (h6 : w 6 t = (e : Int)) (hfe : f ≤ e) (he : e ≤ 4000) (hab : a ≤ b) (hb : b ≤ 4000) (h1 : sameB (w 3) f (e - f) (w 3) a (b - a) → K (.inl (some (vI 1))) w) (h0 : ¬ sameB (w 3) f (e - f) (w 3) a (b - a) → K (.inl (some (vI 0))) w) : Cal g LC jTe_reads D [vA 2, vI (t : Int), vA 3, vI (a : Int), vI (b : Int)] w K := by
  refine Cal.ofV (by decide) rfl (Nat.le_of_ble_eq_true rfl) (s_Te_reads ⟨by omega, by omega, ?_⟩)
  have e1 : wr ((e : Int) - (f : Int)) = ((e - f : Nat) : Int) := wrN (by omega) (by omega)
  have e2 : wr ((b : Int) - (a : Int)) = ((b - a : Nat) : Int) := wrN (by omega) (by omega)
  rw [toN, h5, h6, e1, e2]
  refine ⟨fun c => ?_, fun c => h0 (fun z => c (by rw [z.1]))⟩
  have hl : e - f = b - a := by omega
  rw [hl] at h1 h0
  exact rd_loop hab hb (by omega) h1 h0 (b - a) 0 (by omega) (fun q hq => absurd hq (Nat.not_lt_zero _))
theorem sp_readsT {t f e b : Nat} (ht : t < 1002) (h5 : w 5 t = (f : Int)) (h6 : w 6 t = (e : Int)) (hfe : f ≤ e) (he : e ≤ 4000) (hb : b ≤ 4000) (h1 : sameB (w 3) f (e - f) (w 1) 0 b → K (.inl (some (vI 1))) w) (h0 : ¬ sameB (w 3) f (e - f) (w 1) 0 b → K (.inl (some (vI 0))) w) : Cal g LC jTe_reads D [vA 2, vI (t : Int), vA 1, vI 0, vI (b : Int)] w K := by
  refine Cal.ofV (by decide) rfl (Nat.le_of_ble_eq_true rfl) (s_Te_reads_t ⟨by omega, by omega, ?_⟩)
  have e1 : wr ((e : Int) - (f : Int)) = ((e - f : Nat) : Int) := wrN (by omega) (by omega)
  have e2 : wr ((b : Int) - 0) = ((b : Nat) : Int) := wrN (by omega) (by omega)
  rw [toN, h5, h6, e1, e2]
  refine ⟨fun c => ?_, fun c => h0 (fun z => c (by rw [z.1]))⟩
  have hl : e - f = b - 0 := by omega
  rw [hl] at h1 h0
  exact rdt_loop (a := 0) (b := b) (by omega) hb (by omega) h1 h0 (b - 0) 0 (by omega) (fun q hq => absurd hq (Nat.not_lt_zero _))
end ClassCut
