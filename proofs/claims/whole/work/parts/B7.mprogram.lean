/-! ===== the model's program() ===== -/
/-- the line of a place -/
def lnF (T : Nat → Int) : Nat → Nat
  | 0 => 1
  | n + 1 => lnF T n + (if T n = 10 then 1 else 0)
theorem lnF_le (T : Nat → Int) : ∀ n, lnF T n ≤ n + 1
  | 0 => Nat.le_refl _
  | n + 1 => by
    have := lnF_le T n
    rw [lnF]
    split <;> omega
def BadM (w : Wd) (T : Nat → Int) (p : Nat) : Prop := w 0 43 = 0 ∧ w 0 20 = 0 ∧ w 0 31 = 0 ∧ (∀ k, k < 5 → w 16 k = 0) ∧ w 0 55 = (p : Int) ∧ w 0 56 = ((lnF T p : Nat) : Int)
def GoodM (T : Nat → Int) (L : Nat) (r : RT) (w : Wd) : Prop := w 0 43 = 1 ∧ w 0 31 = (r.2.2.2.2 : Int) ∧ (∃ m, TxM T L m w ∧ sI r.1.1 ≤ m ∧ r.2.1.2.1 ≤ m ∧ r.2.2.2.1 ≤ m) ∧ PgM T L w r ∧ PgJ T L w r ∧ w 0 55 = -2 ∧ w 0 56 = -2 ∧ ∀ s, pPrg T L = .ok (s, r.1.2) → PRm w (prB T L [] (sO s))
def ResM (T : Nat → Int) (L : Nat) (w : Wd) (v : Int) : Prop := match pMo T L with
  | .error e => v = wr (-10 - (e.1 : Int)) ∧ BadM w T (tAt T L e.2)
  | .ok r => (keyM T L r = 100000 ∧ v = (r.2.2.2.2 : Int) ∧ GoodM T L r w) ∨ (keyM T L r ≠ 100000 ∧ v = wr (-10 - ((keyM T L r % 8 : Nat) : Int)) ∧ BadM w T (keyM T L r / 8))
def FMg (w w' : Wd) : Prop := Fx [0, 1, 3, 4, 5, 6, 7, 10, 11, 12, 13, 14, 15, 16, 17, 18, 19, 20, 21, 22, 23, 24, 25, 26, 27, 28, 29, 30, 31, 32, 33, 34, 35, 36, 37] w w' ∧ ∀ b, 59 ≤ b → b ≠ 64 → w' 0 b = w 0 b
theorem FMg.tr {a b c : Wd} (h1 : FMg a b) (h2 : FMg b c) : FMg a c := ⟨h1.1.tr h2.1, fun x p q => (h2.2 x p q).trans (h1.2 x p q)⟩
theorem FMg.u {w : Wd} {b : Nat} {v : Int} (h : b < 59 ∨ b = 64) : FMg w (up w 0 b v) := ⟨(Fx.rf _ w).up (by decide), fun x p q => up_k (by omega)⟩
theorem FMg.r {a b : Wd} (h : FMr a b) : FMg a b := ⟨h.1.mono (by decide), fun x p _ => h.2 x (by omega) (by omega) (by omega) (by omega) (by omega) (by omega) (by omega) (by omega)⟩
theorem FMg.q {a b : Wd} (h : FMq a b) : FMg a b := ⟨h.1.mono (by decide), fun x p _ => h.2 x (by omega) (by omega) (by omega) (by omega) (by omega) (by omega)⟩
theorem FMg.p {a b : Wd} (h : FPm a b) : FMg a b := ⟨h.1.mono (by decide), fun x p _ => h.2 x (by omega)⟩
theorem FMg.fill {w : Wd} {n : Nat} {v : Int} : FMg w (fillw w 16 n v) := by
  refine ⟨fun a ha => ?_, fun x _ _ => by rw [fillw_ne (by decide)]⟩
  funext b
  rw [fillw_ne (fun z => ha (by rw [z]; decide))]
theorem up_up (w : Wd) (o k : Nat) (x y : Int) : up (up w o k x) o k y = up w o k y := by
  funext a b
  simp only [up]
  split <;> rfl
/-- the text so far copied -/
def cpW (w : Wd) (i : Nat) : Wd := fun o b => if o = 3 ∧ b < i then w 2 b else w o b
theorem cpW_0 (w : Wd) : cpW w 0 = w := by funext o b; simp [cpW]
theorem cpW_s (w : Wd) (i : Nat) : up (cpW w i) 3 i (w 2 i) = cpW w (i + 1) := by
  funext a b
  simp only [up, cpW]
  by_cases ha : a = 3
  · subst ha
    by_cases hb : b = i
    · subst hb; simp
    · by_cases hb2 : b < i
      · simp [hb, hb2, Nat.lt_succ_of_lt hb2]
      · have : ¬ b < i + 1 := by omega
        simp [hb, hb2, this]
  · simp [ha]
theorem cpW_o {w : Wd} {i o : Nat} (h : o ≠ 3) : cpW w i o = w o := by funext b; simp [cpW, h]
section ModelProgram
variable {g : Mg} {d D : Nat} {K : Ou → Wd → Prop} {w : Wd} {T : Nat → Int} {L : Nat}
theorem bad_end {f p : Nat} (hp : p ≤ 4000) (h0 : w 1 0 = (f : Int)) (h1 : w 1 1 = (p : Int)) (h3 : w 3 = T) (h43 : w 0 43 = 0) (h : ∀ w', FMg w w' → w' 3 = T → w' 0 3 = w 0 3 → w' 0 64 = w 0 64 → w' 0 0 = w 0 0 → BadM w' T p → K (.inl (some (vI (wr (-10 - (f : Int)))))) w') : V g LM jMd_program (d + 1) K 144 [(0, vA 0)] [vA 1] w := by
  have lp2 : ∀ (fu i : Nat) (wx : Wd), i + fu = p → wx 1 0 = (f : Int) → wx 1 1 = (p : Int) → wx 3 = T → (∀ w', w' = up wx 0 56 ((lnF T p : Nat) : Int) → K (.inl (some (vI (wr (-10 - (f : Int)))))) w') → V g LM jMd_program (d + 1) K 190 [(0, vA 0), (1, vA 1), (2, vI (i : Int))] [] (up wx 0 56 ((lnF T i : Nat) : Int)) := by
    intro fu
    induction fu with
    | zero =>
      intro i wx hi x0 x1 x3 hk
      have : i = p := by omega
      subst this
      refine s_Md_program_190 ⟨fun _ => ?_, fun z => absurd (by rw [up_o (by decide), x1]; exact Int.le_refl _) z⟩
      rw [up_o (by decide), x0]
      exact hk _ rfl
    | succ fu ih =>
      intro i wx hi x0 x1 x3 hk
      have hl := lnF_le T i
      refine s_Md_program_190 ⟨fun z => ?_, fun _ => ⟨by omega, ?_⟩⟩
      · rw [up_o (by decide), x1] at z
        omega
      rw [toN, up_o (show (3 : Nat) ≠ 0 by decide), x3, up_s, up_up, up_up, wr_n1 (by omega)]
      have e := ih (i + 1) wx (by omega) x0 x1 x3 hk
      rw [lnF] at e
      refine ⟨fun z => ?_, fun z => ?_⟩
      · rw [if_neg z, Nat.add_zero] at e
        rw [Int.add_zero, wr_id (by unfold inI; omega)]
        exact e
      · rw [if_pos z] at e
        rw [wr_n1 (by omega)]
        exact e
  have lp : ∀ (fu i : Nat), i + fu = 5 → V g LM jMd_program (d + 1) K 157 [(0, vA 0), (1, vA 1), (2, vI (i : Int))] [] (fillw (up (up w 0 20 0) 0 31 0) 16 i 0) := by
    intro fu
    induction fu with
    | zero =>
      intro i hi
      have : i = 5 := by omega
      subst this
      refine s_Md_program_157 ⟨fun _ => ?_, fun z => absurd (by decide) z⟩
      have q1 : ∀ o, o ≠ 0 → o ≠ 16 → fillw (up (up w 0 20 0) 0 31 0) 16 5 0 o = w o := fun o p1 p2 => by
        funext b
        rw [fillw_ne p2, up_o p1, up_o p1]
      have q0 : ∀ b, b ≠ 20 → b ≠ 31 → fillw (up (up w 0 20 0) 0 31 0) 16 5 0 0 b = w 0 b := fun b p1 p2 => by rw [fillw_ne (by decide), up_k p2, up_k p1]
      have qa : fillw (up (up w 0 20 0) 0 31 0) 16 5 0 0 20 = 0 := by rw [fillw_ne (by decide), up_k (by decide), up_s]
      have qb : fillw (up (up w 0 20 0) 0 31 0) 16 5 0 0 31 = 0 := by rw [fillw_ne (by decide), up_s]
      have qc : ∀ k, k < 5 → fillw (up (up w 0 20 0) 0 31 0) 16 5 0 16 k = 0 := fun k hk => by rw [fillw_in hk]
      have qf : FMg w (fillw (up (up w 0 20 0) 0 31 0) 16 5 0) := ((FMg.u (Or.inl (by decide))).tr (FMg.u (Or.inl (by decide)))).tr FMg.fill
      generalize fillw (up (up w 0 20 0) 0 31 0) 16 5 0 = w6 at *
      rw [q1 1 (by decide) (by decide), h1]
      have e := lp2 p 0 (up w6 0 55 (p : Int)) (by omega) (by rw [up_o (by decide), q1 1 (by decide) (by decide)]; exact h0) (by rw [up_o (by decide), q1 1 (by decide) (by decide)]; exact h1) (by rw [up_o (by decide), q1 3 (by decide) (by decide)]; exact h3) (fun w' hw' => ?_)
      · exact e
      · subst hw'
        refine h _ ((qf.tr (FMg.u (Or.inl (by decide)))).tr (FMg.u (Or.inl (by decide)))) (by rw [up_o (by decide), up_o (by decide), q1 3 (by decide) (by decide)]; exact h3) (by rw [up_k (by decide), up_k (by decide), q0 3 (by decide) (by decide)]) (by rw [up_k (by decide), up_k (by decide), q0 64 (by decide) (by decide)]) (by rw [up_k (by decide), up_k (by decide), q0 0 (by decide) (by decide)]) ⟨by rw [up_k (by decide), up_k (by decide), q0 43 (by decide) (by decide)]; exact h43, by rw [up_k (by decide), up_k (by decide)]; exact qa, by rw [up_k (by decide), up_k (by decide)]; exact qb, fun k hk => by rw [up_o (by decide), up_o (by decide)]; exact qc k hk, by rw [up_k (by decide), up_s], by rw [up_s]⟩
    | succ fu ih =>
      intro i hi
      refine s_Md_program_157 ⟨fun z => absurd z (by omega), fun _ => ⟨by omega, ?_⟩⟩
      rw [toN, fillw_s, wr_n1 (by omega)]
      exact ih (i + 1) (by omega)
  refine s_Md_program_144 ?_
  have := lp 5 0 (by omega)
  rw [fillw_0] at this
  exact this
theorem PgM.cg {w' : Wd} {r : RT} (h : PgM T L w r) (h20 : w' 0 20 = w 0 20) (h41 : w' 0 41 = w 0 41) (h42 : w' 0 42 = w 0 42) (hr : ∀ o, 10 ≤ o → o ≤ 31 → w' o = w o) : PgM T L w' r := by
  obtain ⟨hT, hPT, hRa, hRb, a41, a42, hWa, hWb, hna, hnb⟩ := h
  exact ⟨hT.cg h20 (fun o p q => hr o p (by omega)), hPT, SR.cgA _ _ _ hWa hRa (fun x _ _ o p q => by rw [hr o (by omega) (by omega)]) (fun x _ _ o p q => by rw [hr o (by omega) (by omega)]), SR.cgA _ _ _ hWb hRb (fun x _ _ o p q => by rw [hr o (by omega) (by omega)]) (fun x _ _ o p q => by rw [hr o (by omega) (by omega)]), by rw [h41]; exact a41, by rw [h42]; exact a42, hWa, hWb, hna, hnb⟩
theorem PgJ.cg {w' : Wd} {r : RT} (hP : PgM T L w r) (h : PgJ T L w r) (hr : ∀ o, o = 24 ∨ o = 32 ∨ o = 33 → w' o = w o) : PgJ T L w' r := by
  obtain ⟨-, -, -, -, -, -, hWa, hWb, -, -⟩ := hP
  exact ⟨JS.congr _ _ _ _ hWa h.1 (fun x _ _ => by rw [hr 24 (by decide)]) (fun x _ _ => ⟨by rw [hr 32 (by decide)], by rw [hr 33 (by decide)]⟩), JS.congr _ _ _ _ hWb h.2 (fun x _ _ => by rw [hr 24 (by decide)]) (fun x _ _ => ⟨by rw [hr 32 (by decide)], by rw [hr 33 (by decide)]⟩)⟩
theorem TxM.cg {w' : Wd} {m : Nat} (h : TxM T L m w) (hr : ∀ o, 3 ≤ o → o ≤ 7 → w' o = w o) : TxM T L m w' := by
  obtain ⟨h1, h2, h3, h4, h5, h6⟩ := h
  refine ⟨?_, h2, h3, h4, by rw [hr 3 (by decide) (by decide)]; exact h5, h6⟩
  unfold MTk at *
  rw [hr 4 (by decide) (by decide), hr 5 (by decide) (by decide), hr 6 (by decide) (by decide), hr 7 (by decide) (by decide)]
  exact h1
/-- program() of the model, when it has read its text and its words -/
theorem sp_prog4 {m : Nat} {w4 : Wd} (hd : 1105 ≤ d) (hM : TxM T L m w4) (hS : MSt w4 0 0 0 0 0) (hT : TD (kdT T L) w4 []) (h43 : w4 0 43 = 0) (h55 : w4 0 55 = -2) (h56 : w4 0 56 = -2) (hky : ∀ r, pMo T L = .ok r → keyM T L r ≠ 100000 → keyM T L r / 8 ≤ 4000) (hlen : ∀ r s, pMo T L = .ok r → keyM T L r = 100000 → pPrg T L = .ok (s, r.1.2) → (prB T L [] (sO s)).length ≤ 5000)
    (h : ∀ w' v, FMg w4 w' → w' 3 = T → w' 0 3 = w4 0 3 → w' 0 64 = w4 0 64 → w' 0 0 = w4 0 0 → ResM T L w' v → K (.inl (some (vI v))) w') :
    Cal g LM jMd_readProgram d [vA 0] w4 (fun o w2 => rVt o (fun b => b = 1 ∧ V g LM jMd_program (d + 1) K 144 [(0, vA 0)] [vA 1] w2) (Cal g LM jMd_judgeProgram d [vA 0] w2 (fun o w3 => rVt o (fun b => b = 1 ∧ V g LM jMd_program (d + 1) K 144 [(0, vA 0)] [vA 1] w3) (Cal g LM jMd_printAll d [vA 0] (up w3 0 43 1) (fun o w4 => rVt o (fun b => b = 1 ∧ V g LM jMd_program (d + 1) K 144 [(0, vA 0)] [vA 1] w4) (K (.inl (some (vI (w4 0 31)))) w4)))))) := by
  have h3 : w4 3 = T := hM.2.2.2.2.1
  have hL4 := hM.2.2.2.2.2
  refine sp_progM (by omega) hM hS hT (fun w5 r hp hF5 hP5 hb5 h31 => ?_) (fun w5 e hp hF5 hE5 => ⟨rfl, ?_⟩)
  · have hr := mo_rd hp
    obtain ⟨s, hs, h2⟩ := prg_ok hp
    have hM5 := hM.fr hF5
    have k43 : w5 0 43 = 0 := by rw [hF5.2 43 (by decide) (by decide) (by decide) (by decide) (by decide) (by decide) (by decide) (by decide)]; exact h43
    have k55 : w5 0 55 = -2 := by rw [hF5.2 55 (by decide) (by decide) (by decide) (by decide) (by decide) (by decide) (by decide) (by decide)]; exact h55
    have k56 : w5 0 56 = -2 := by rw [hF5.2 56 (by decide) (by decide) (by decide) (by decide) (by decide) (by decide) (by decide) (by decide)]; exact h56
    refine sp_judgeProgM (by omega) hM5 hP5 hr hb5 (fun hk w6 hF6 hP6 hJ6 => ?_) (fun hk w6 hF6 q0 q1 => ⟨rfl, ?_⟩)
    · have q6 : ∀ b, b < 46 ∨ 53 < b → w6 0 b = w5 0 b := fun b hb => hF6.2 b (by omega) (by omega) (by omega) (by omega) (by omega) (by omega)
      have hM7 : TxM T L m (up w6 0 43 1) := (hM5.fq hF6).cg (fun o p q => up_o (by omega))
      have hP7 : PgM T L (up w6 0 43 1) r := hP6.cg (up_k (by decide)) (up_k (by decide)) (up_k (by decide)) (fun o p q => up_o (by omega))
      have hJ7 : PgJ T L (up w6 0 43 1) r := hJ6.cg hP6 (fun o p => up_o (by omega))
      refine sp_printAll (by omega) hM7 hP7 hr h2 hb5 (hlen r s hp hk hs) (fun w8 hF8 hP8 => ?_)
      have q8 : ∀ b, b ≠ 58 → b ≠ 43 → (b < 46 ∨ 53 < b) → w8 0 b = w5 0 b := fun b p1 p2 p3 => by rw [hF8.2 b p1, up_k p2, q6 b p3]
      have f8 : FMg w4 w8 := (((FMg.r hF5).tr (FMg.q hF6)).tr (FMg.u (Or.inl (by decide)))).tr (FMg.p hF8)
      rw [q8 31 (by decide) (by decide) (by decide), h31]
      have q5 : ∀ b, b ≠ 11 → b ≠ 20 → b ≠ 31 → b ≠ 40 → b ≠ 41 → b ≠ 42 → b ≠ 44 → b ≠ 45 → w5 0 b = w4 0 b := hF5.2
      refine h w8 _ f8 ?_ ?_ ?_ ?_ ?_
      · rw [hF8.1 3 (by decide), up_o (by decide), hF6.1 3 (by decide), hF5.1 3 (by decide)]; exact h3
      · rw [q8 3 (by decide) (by decide) (by decide), q5 3 (by decide) (by decide) (by decide) (by decide) (by decide) (by decide) (by decide) (by decide)]
      · rw [q8 64 (by decide) (by decide) (by decide), q5 64 (by decide) (by decide) (by decide) (by decide) (by decide) (by decide) (by decide) (by decide)]
      · rw [q8 0 (by decide) (by decide) (by decide), q5 0 (by decide) (by decide) (by decide) (by decide) (by decide) (by decide) (by decide) (by decide)]
      · unfold ResM
        rw [hp]
        refine Or.inl ⟨hk, rfl, ?_, ?_, ⟨m, hM7.fp hF8, hb5⟩, hP7.cg (hF8.2 20 (by decide)) (hF8.2 41 (by decide)) (hF8.2 42 (by decide)) (fun o p q => hF8.1 o (by simp; omega)), hJ7.cg hP7 (fun o p => hF8.1 o (by simp; omega)), ?_, ?_, fun s' hs' => ?_⟩
        · rw [hF8.2 43 (by decide), up_s]
        · rw [q8 31 (by decide) (by decide) (by decide)]; exact h31
        · rw [q8 55 (by decide) (by decide) (by decide)]; exact k55
        · rw [q8 56 (by decide) (by decide) (by decide)]; exact k56
        · rw [hs] at hs'
          cases hs'
          exact hP8
    · have q6 : ∀ b, b < 46 ∨ 53 < b → w6 0 b = w5 0 b := fun b hb => hF6.2 b (by omega) (by omega) (by omega) (by omega) (by omega) (by omega)
      have q5 : ∀ b, b ≠ 11 → b ≠ 20 → b ≠ 31 → b ≠ 40 → b ≠ 41 → b ≠ 42 → b ≠ 44 → b ≠ 45 → w5 0 b = w4 0 b := hF5.2
      refine bad_end (hky r hp hk) q0 q1 (by rw [hF6.1 3 (by decide), hF5.1 3 (by decide)]; exact h3) (by rw [q6 43 (by decide)]; exact k43) (fun w7 f7 c3 c03 c64 c00 hB => h w7 _ (((FMg.r hF5).tr (FMg.q hF6)).tr f7) c3 ?_ ?_ ?_ ?_)
      · rw [c03, q6 3 (by decide), q5 3 (by decide) (by decide) (by decide) (by decide) (by decide) (by decide) (by decide) (by decide)]
      · rw [c64, q6 64 (by decide), q5 64 (by decide) (by decide) (by decide) (by decide) (by decide) (by decide) (by decide) (by decide)]
      · rw [c00, q6 0 (by decide), q5 0 (by decide) (by decide) (by decide) (by decide) (by decide) (by decide) (by decide) (by decide)]
      · unfold ResM
        rw [hp]
        exact Or.inr ⟨hk, rfl, hB⟩
  · have q5 : ∀ b, b ≠ 11 → b ≠ 20 → b ≠ 31 → b ≠ 40 → b ≠ 41 → b ≠ 42 → b ≠ 44 → b ≠ 45 → w5 0 b = w4 0 b := hF5.2
    have hp4 : tAt T L e.2 ≤ 4000 := by
      have := tAt_le T L e.2
      omega
    refine bad_end hp4 hE5.1 hE5.2 (by rw [hF5.1 3 (by decide)]; exact h3) (by rw [q5 43 (by decide) (by decide) (by decide) (by decide) (by decide) (by decide) (by decide) (by decide)]; exact h43) (fun w7 f7 c3 c03 c64 c00 hB => h w7 _ ((FMg.r hF5).tr f7) c3 ?_ ?_ ?_ ?_)
    · rw [c03, q5 3 (by decide) (by decide) (by decide) (by decide) (by decide) (by decide) (by decide) (by decide)]
    · rw [c64, q5 64 (by decide) (by decide) (by decide) (by decide) (by decide) (by decide) (by decide) (by decide)]
    · rw [c00, q5 0 (by decide) (by decide) (by decide) (by decide) (by decide) (by decide) (by decide) (by decide)]
    · unfold ResM
      rw [hp]
      exact ⟨rfl, hB⟩
theorem sp_programM (hD : 1110 ≤ D) (hL : w 0 3 = (L : Int)) (hL4 : L ≤ 4000) (hT : T = fun b => if b < L then w 2 b else w 3 b) (hky : ∀ r, pMo T L = .ok r → keyM T L r ≠ 100000 → keyM T L r / 8 ≤ 4000) (hlen : ∀ r s, pMo T L = .ok r → keyM T L r = 100000 → pPrg T L = .ok (s, r.1.2) → (prB T L [] (sO s)).length ≤ 5000)
    (h : ∀ w' v, FMg w w' → w' 3 = T → w' 0 3 = 0 → w' 0 64 = 0 → w' 0 0 = 0 → ResM T L w' v → K (.inl (some (vI v))) w') : Cal g LM jMd_program D [vA 0] w K := by
  obtain ⟨d, rfl⟩ : ∃ d, D = d + 1 := ⟨D - 1, by omega⟩
  refine Cal.rng (fun hrg _ _ => ?_)
  have hB2 : ∀ k, k < 4020 → -128 ≤ w 2 k ∧ w 2 k ≤ 127 := fun k hk => hrg 2 (by decide) k hk
  have hB : ∀ j, j < L → -128 ≤ T j ∧ T j ≤ 127 := fun j hj => by
    rw [hT]
    show -128 ≤ (if j < L then w 2 j else w 3 j) ∧ (if j < L then w 2 j else w 3 j) ≤ 127
    rw [if_pos hj]
    exact hB2 j (by omega)
  -- behind the clearing
  have go : ∀ w2, FMg w w2 → w2 3 = T → w2 0 3 = 0 → w2 0 64 = 0 → w2 0 0 = 0 → w2 0 5 = (L : Int) → w2 0 43 = 0 → w2 0 20 = 0 → w2 0 31 = 0 → w2 0 40 = 0 → w2 0 44 = 0 → w2 0 45 = 0 → w2 0 11 = 0 → (∀ k, k < 5 → w2 16 k = 0) → V g LM jMd_program (d + 1) K 88 [(0, vA 0), (1, vI 5)] [] w2 := by
    intro w2 f2 a3 a03 a64 a00 a5 a43 a20 a31 a40 a44 a45 a11 a16
    refine s_Md_program_88 ⟨fun _ => ?_, fun z => absurd (by decide) z⟩
    refine sp_findTokens (by omega) a5 hL4 a3 hB (fun w3 m f3 g3 t1 t2 t3 t4 => ?_)
    have q0 : ∀ b, b ≠ 55 → b ≠ 56 → b ≠ 10 → up (up w3 0 55 (-2)) 0 56 (-2) 0 b = w2 0 b := fun b p1 p2 p3 => by rw [up_k p2, up_k p1, g3 b p3]
    have q1 : ∀ o, o ≠ 0 → up (up w3 0 55 (-2)) 0 56 (-2) o = w3 o := fun o p => by rw [up_o p, up_o p]
    have f4 : FMg w2 (up (up w3 0 55 (-2)) 0 56 (-2)) := by
      refine ⟨fun o ho => ?_, fun b p1 p2 => q0 b (by omega) (by omega) (by omega)⟩
      rw [q1 o (fun z => ho (by rw [z]; decide)), f3 o (fun z => ho (by simp at z ⊢; omega))]
    have b55 : up (up w3 0 55 (-2)) 0 56 (-2) 0 55 = -2 := by rw [up_k (by decide), up_s]
    have b56 : up (up w3 0 55 (-2)) 0 56 (-2) 0 56 = -2 := up_s _ _ _ _
    generalize up (up w3 0 55 (-2)) 0 56 (-2) = w4 at *
    have hM4 : TxM T L m w4 := by
      refine ⟨?_, t2, t3, t4, by rw [q1 3 (by decide), f3 3 (by decide)]; exact a3, hL4⟩
      unfold MTk at *
      rw [q1 4 (by decide), q1 5 (by decide), q1 6 (by decide), q1 7 (by decide)]
      exact t1
    refine sp_prog4 (by omega) hM4 ⟨⟨?_, ?_, ?_⟩, ?_, ?_⟩ ⟨?_, fun so hso => ⟨?_, ?_⟩, fun e he => by simp at he, fun k e he => by simp at he⟩ ?_ b55 b56 hky hlen (fun w5 v f5 c3 c03 c64 c00 hR => h w5 v ((f2.tr f4).tr f5) c3 ?_ ?_ ?_ hR)
    · rw [q0 11 (by decide) (by decide) (by decide)]; exact a11
    · rw [q0 40 (by decide) (by decide) (by decide)]; exact a40
    · rw [q0 44 (by decide) (by decide) (by decide)]; exact a44
    · rw [q0 31 (by decide) (by decide) (by decide)]; exact a31
    · rw [q0 45 (by decide) (by decide) (by decide)]; exact a45
    · rw [q0 20 (by decide) (by decide) (by decide)]; exact a20
    · rw [q1 16 (by decide), f3 16 (by decide)]
      exact a16 so hso
    · show (0 : Int) ≤ mostL.getD so 0
      rcases (by omega : so = 0 ∨ so = 1 ∨ so = 2 ∨ so = 3 ∨ so = 4) with rfl | rfl | rfl | rfl | rfl <;> decide
    · rw [q0 43 (by decide) (by decide) (by decide)]; exact a43
    · rw [c03, q0 3 (by decide) (by decide) (by decide)]; exact a03
    · rw [c64, q0 64 (by decide) (by decide) (by decide)]; exact a64
    · rw [c00, q0 0 (by decide) (by decide) (by decide)]; exact a00
  have lp1 : ∀ (w1 : Wd), FMg w w1 → w1 3 = T → w1 0 3 = 0 → w1 0 64 = 0 → w1 0 0 = 0 → w1 0 5 = (L : Int) → w1 0 43 = 0 → w1 0 20 = 0 → w1 0 31 = 0 → w1 0 40 = 0 → w1 0 44 = 0 → w1 0 45 = 0 → w1 0 11 = 0 → ∀ (fu i : Nat), i + fu = 5 → V g LM jMd_program (d + 1) K 88 [(0, vA 0), (1, vI (i : Int))] [] (fillw w1 16 i 0) := by
    intro w1 f1 a3 a03 a64 a00 a5 a43 a20 a31 a40 a44 a45 a11 fu
    induction fu with
    | zero =>
      intro i hi
      have : i = 5 := by omega
      subst this
      have e0 : fillw w1 16 5 0 0 = w1 0 := by funext b; exact fillw_ne (by decide)
      have e3 : fillw w1 16 5 0 3 = w1 3 := by funext b; exact fillw_ne (by decide)
      exact go _ (f1.tr FMg.fill) (by rw [e3]; exact a3) (by rw [e0]; exact a03) (by rw [e0]; exact a64) (by rw [e0]; exact a00) (by rw [e0]; exact a5) (by rw [e0]; exact a43) (by rw [e0]; exact a20) (by rw [e0]; exact a31) (by rw [e0]; exact a40) (by rw [e0]; exact a44) (by rw [e0]; exact a45) (by rw [e0]; exact a11) (fun k hk => fillw_in hk)
    | succ fu ih =>
      intro i hi
      refine s_Md_program_88 ⟨fun z => absurd z (by omega), fun _ => ⟨by omega, ?_⟩⟩
      rw [toN, fillw_s, wr_n1 (by omega)]
      exact ih (i + 1) (by omega)
  have hw0 : ∀ b, b ≠ 0 → b ≠ 5 → up (up w 0 0 0) 0 5 (w 0 3) 0 b = w 0 b := fun b p1 p2 => by rw [up_k p2, up_k p1]
  have lp0 : ∀ (fu i : Nat), i + fu = L → V g LM jMd_program (d + 1) K 15 [(0, vA 0), (1, vI (i : Int))] [] (cpW (up (up w 0 0 0) 0 5 (w 0 3)) i) := by
    intro fu
    induction fu with
    | zero =>
      intro i hi
      have : i = L := by omega
      subst this
      have e0 : cpW (up (up w 0 0 0) 0 5 (w 0 3)) i 0 = up (up w 0 0 0) 0 5 (w 0 3) 0 := cpW_o (by decide)
      have eT : cpW (up (up w 0 0 0) 0 5 (w 0 3)) i 3 = T := by
        rw [hT]
        funext b
        simp [cpW, up]
      have ef : FMg w (cpW (up (up w 0 0 0) 0 5 (w 0 3)) i) := by
        refine ⟨fun o ho => ?_, fun b p1 p2 => by rw [e0, hw0 b (by omega) (by omega)]⟩
        have h0 : o ≠ 0 := fun z => ho (by rw [z]; decide)
        rw [cpW_o (fun z => ho (by rw [z]; decide)), up_o h0, up_o h0]
      refine s_Md_program_15 ⟨fun _ => ?_, fun z => absurd (by rw [e0, hw0 3 (by decide) (by decide), hL]; exact Int.le_refl _) z⟩
      have b5 : cpW (up (up w 0 0 0) 0 5 (w 0 3)) i 0 5 = (i : Int) := by rw [e0, up_s, hL]
      have b0 : cpW (up (up w 0 0 0) 0 5 (w 0 3)) i 0 0 = 0 := by rw [e0, up_k (by decide), up_s]
      generalize cpW (up (up w 0 0 0) 0 5 (w 0 3)) i = wc at *
      have e := lp1 (up (up (up (up (up (up (up (up (up wc 0 3 0) 0 43 0) 0 64 0) 0 20 0) 0 31 0) 0 40 0) 0 44 0) 0 45 0) 0 11 0) (((((((((ef.tr (FMg.u (Or.inl (by decide)))).tr (FMg.u (Or.inl (by decide)))).tr (FMg.u (Or.inr (by decide)))).tr (FMg.u (Or.inl (by decide)))).tr (FMg.u (Or.inl (by decide)))).tr (FMg.u (Or.inl (by decide)))).tr (FMg.u (Or.inl (by decide)))).tr (FMg.u (Or.inl (by decide)))).tr (FMg.u (Or.inl (by decide)))) (by rw [up_o (by decide), up_o (by decide), up_o (by decide), up_o (by decide), up_o (by decide), up_o (by decide), up_o (by decide), up_o (by decide), up_o (by decide)]; exact eT) (by simp [up]) (by simp [up]) (by simp [up, b0]) (by simp [up, b5]) (by simp [up]) (by simp [up]) (by simp [up]) (by simp [up]) (by simp [up]) (by simp [up]) (by simp [up]) 5 0 (by decide)
      rw [fillw_0] at e
      exact e
    | succ fu ih =>
      intro i hi
      have e0 : cpW (up (up w 0 0 0) 0 5 (w 0 3)) i 0 = up (up w 0 0 0) 0 5 (w 0 3) 0 := cpW_o (by decide)
      have e2 : cpW (up (up w 0 0 0) 0 5 (w 0 3)) i 2 = w 2 := by rw [cpW_o (by decide), up_o (by decide), up_o (by decide)]
      refine s_Md_program_15 ⟨fun z => ?_, fun _ => ⟨by omega, by omega, ?_⟩⟩
      · rw [e0, hw0 3 (by decide) (by decide), hL] at z
        omega
      · rw [toN, e2, i2b_by (hB2 i (by omega)), wr_n1 (by omega)]
        have e := ih (i + 1) (by omega)
        rw [← cpW_s, show up (up w 0 0 0) 0 5 (w 0 3) 2 i = w 2 i from by rw [up_o (by decide), up_o (by decide)]] at e
        exact e
  refine Cal.ofV (by decide) rfl (Nat.le_of_ble_eq_true rfl) (s_Md_program ?_)
  have := lp0 L 0 (by omega)
  rw [cpW_0] at this
  exact this
end ModelProgram
