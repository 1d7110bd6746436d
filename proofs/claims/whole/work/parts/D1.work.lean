/-! ===== numbers of TOKENS ===== -/
section TokNum
variable {T : Nat → Int} {L : Nat}
theorem vD_nn : ∀ (n i : Nat) (x : Int), L - i ≤ n → 0 ≤ x → 0 ≤ vD T L x i := by
  intro n
  induction n with
  | zero =>
    intro i x hi hx
    rw [vD, if_pos (by omega)]
    exact hx
  | succ n ih =>
    intro i x hi hx
    rw [vD]
    split
    · exact hx
    · split
      · rename_i h1 h2
        refine ih (i + 1) _ (by omega) ?_
        unfold isD at h2
        split <;> omega
      · exact hx
theorem l2i_id {x : Int} (h : 0 ≤ x ∧ x ≤ 2147483647) : l2iF x = x := by
  unfold l2iF
  rw [Int64.toInt_toInt32, l_to, wrL_id (by unfold inL; omega), show (2 ^ 32 : Nat) = 4294967296 from rfl, bm_wr, wr_id (by unfold inI; omega)]
theorem kd3_val {t : Nat} (h : kdT T L t = 3) : 0 ≤ tVl T L (tAt T L t) ∧ tVl T L (tAt T L t) ≤ 2147483647 := by
  have hl : tAt T L t < L := by
    by_cases q : tAt T L t < L
    · exact q
    · unfold kdT at h; rw [if_neg q] at h; omega
  rw [kdT_at hl] at h
  generalize tAt T L t = i at *
  unfold tKd at h
  unfold tVl
  by_cases h1 : isL (T i)
  · rw [if_pos h1]; omega
  · rw [if_neg h1] at h ⊢
    by_cases h2 : isD (T i)
    · rw [if_pos h2] at h ⊢
      split at h
      · rename_i h3
        have := vD_nn (T := T) (L := L) (L - i) i 0 (Nat.le_refl _) (Int.le_refl _)
        rw [l2i_id (by omega)]
        omega
      · omega
    · rw [if_neg h2]; omega
theorem kd32_val {t : Nat} (h : kdT T L t = 32) : tVl T L (tAt T L t) = 0 := by
  have hl : tAt T L t < L := by
    by_cases q : tAt T L t < L
    · exact q
    · unfold kdT at h; rw [if_neg q] at h; omega
  rw [kdT_at hl] at h
  obtain ⟨-, -, h3⟩ := tKd_text (T := T) (L := L) (i := tAt T L t) (by omega)
  rw [h, mtb_iff] at h3
  have h4 := h3 0 (by decide)
  rw [Nat.add_zero] at h4
  have h5 : T (tAt T L t) = 102 := h4
  unfold tVl
  rw [if_pos (by unfold isL; omega)]
end TokNum
/-! ===== the class's worker does a block; work() ===== -/
section WWork
variable {g : Mg} {d : Nat} {T : Nat → Int} {L : Nat} {X : Xv} {ma mb v na j : Nat} {w0 : Wd}
theorem rns_stop {a : Tr} {b : Bool} {E : List En} {h : Nat} {σ : SS} (ha : a = nl ∨ tg a = 20) (hz : zb σ = true) : rns T L X b a E h σ = .ok σ := by
  cases a with
  | leaf => cases b <;> rfl
  | inner c t q l r =>
    have hc : c = 20 := by
      rcases ha with z | z
      · cases z
      · exact z
    subst hc
    show (if zb σ = true then _ else _) = _
    rw [if_pos hz]
theorem ENb.let_ {E : List En} {t k : Nat} (h : ENb E) (h8 : cntE 4 E < 8) : ENb (E ++ [(t, 4, cntE 4 E, k)]) := by
  intro e he
  rcases List.mem_append.mp he with z | z
  · exact h e z
  · simp at z
    subst z
    refine ⟨Nat.le_refl _, ?_⟩
    show ((cntE 4 E : Nat) : Int) < 8
    omega
theorem slk_0 {a : Tr} (h : a = nl ∨ tg a = 20 ∨ tg a = 21) : slk a = 0 := by
  unfold slk
  rcases h with rfl | h | h
  · rfl
  · rw [h]; rfl
  · rw [h]; rfl
theorem ws_all (h0 : W0 L X ma mb v na w0 d) : ∀ (N : Nat) (a : Tr) (E : List En) (nb : Nat), szT a ≤ N → (a = nl ∨ tg a = 20 ∨ tg a = 21 ∨ stTag a) → WS a → SX (kdT T L) j a → SY (kdT T L) a → OB (kdT T L) (vlT T L) a nb (cntE 4 E) → 100000 ≤ jS T L a E → ENb E → SpSt g d T L X ma v w0 a E nb := by
  intro N
  induction N with
  | zero =>
    intro a E nb hN
    cases a with
    | leaf =>
      intro _ _ _ _ _ _ _ K pc lp h_ n σ w hlp hR hA hzb hcd hsz hpc hn hs hdz hok her
      exact (hok σ rfl hs hdz).1 hzb w n hR hA (fun _ _ => rfl) (by show n + _ ≤ n + _ + 0; omega)
    | inner c t q l r => simp only [szT] at hN; omega
  | succ N ih =>
    intro a E nb hN ha hW hX hY hO hj hE
    cases a with
    | leaf => exact ih .leaf E nb (Nat.zero_le _) ha hW hX hY hO hj hE
    | inner c t q l r =>
      have hsz : szT l ≤ N ∧ szT r ≤ N := by simp only [szT] at hN; omega
      have hWc := hW
      simp only [WS] at hWc
      rcases hWc with ⟨rfl, w1, w2, w3⟩ | ⟨rfl, w1, w2⟩ | ⟨rfl, w1⟩ | ⟨rfl, w1, w2⟩ | ⟨rfl, w1⟩ | rfl | ⟨hc, w1⟩
      · -- a row
        obtain ⟨o1, o2, o3, o4⟩ : stTag l ∧ OB (kdT T L) (vlT T L) l nb (cntE 4 E) ∧ OB (kdT T L) (vlT T L) r nb (cntE 4 E + (if tg l = 12 then 1 else 0)) ∧ (r = nl ∨ tg r = 20) := hO
        obtain ⟨x1, x2⟩ : SX (kdT T L) j l ∧ SX (kdT T L) j r := hX
        obtain ⟨y1, y2⟩ : SY (kdT T L) l ∧ SY (kdT T L) r := hY
        have hjj : jS T L (.inner 20 t q l r) E = min (jS T L l E) (jS T L r (eSt T L E l)) := rfl
        rw [hjj] at hj
        have hsl : slk l = 2 := by
          unfold slk
          cases l with
          | leaf => exact o1.elim
          | inner c' t' q' l' r' => exact if_pos o1
        have hEr : ENb (eSt T L E l) ∧ cntE 4 (eSt T L E l) = cntE 4 E + (if tg l = 12 then 1 else 0) := by
          cases l with
          | leaf => exact ⟨hE, rfl⟩
          | inner c' t' q' l' r' =>
            by_cases h12 : c' = 12
            · subst h12
              have h8 : cntE 4 E < 8 := o2
              refine ⟨hE.let_ h8, ?_⟩
              show cntE 4 (E ++ [(t', 4, cntE 4 E, _)]) = cntE 4 E + 1
              rw [cnt_app]; rfl
            · have e : eSt T L E (.inner c' t' q' l' r') = E := by
                show (if c' = 12 then _ else E) = E
                exact if_neg h12
              rw [e]
              refine ⟨hE, ?_⟩
              show cntE 4 E = cntE 4 E + (if c' = 12 then 1 else 0)
              rw [if_neg h12]; rfl
        have hl := ih l E nb hsz.1 (Or.inr (Or.inr (Or.inr o1))) w1 x1 y1 o2 (by omega) hE
        have hr := ih r (eSt T L E l) nb hsz.2 (by rcases o4 with z | z; exact Or.inl z; exact Or.inr (Or.inl z)) w2 x2 y2 (by rw [hEr.2]; exact o3) (by omega) hEr.1
        intro K pc lp h_ n σ w hlp hR hA hzb hcd hsz' hpc hn hs hdz hok her
        obtain ⟨hL, hd, hX0, hm, hne, h7, hG⟩ := id h0
        have hnK : nK (.inner 20 t q l r) = 1 + nK l + nK r := rfl
        rw [hnK] at hsz' hpc hok
        have hsl0 : slk (.inner 20 t q l r) = 0 := rfl
        have hslr : slk r = 0 := slk_0 (by rcases o4 with z | z; exact Or.inl z; exact Or.inr (Or.inl z))
        rw [hsl0] at hn hok
        have hrn : rns T L X true (.inner 20 t q l r) E h_ σ = bnd (stq (tAt T L (fsS l)) (zs σ)) (fun s1 => bnd (rns T L X true l E (tAt T L (fsS l)) (s1, zd σ, zo σ, zl σ, ze σ, zb σ)) (fun σ' => rns T L X true r (eSt T L E l) h_ σ')) := by
          show (if zb σ = true then _ else _) = _
          rw [if_neg (by rw [hzb]; decide)]
        rw [hrn] at hok her
        obtain ⟨cd1, cdr⟩ := (show CdA w0 pc ([(19, 0, 0, ((tAt T L (fsS l) : Nat) : Int))] ++ (cmS T L l E (pc + 1) lp ((tAt T L (fsS l) : Nat) : Int) ++ cmS T L r (eSt T L E l) (pc + 1 + nK l) lp (h_ : Int))) from hcd).app
        obtain ⟨cd2, cd3⟩ := cdr.app
        rw [cmS_len l _ _ _ _ w1] at cd3
        refine w_stmt (h1 := 0) (by omega) (by omega) (cd1.f2 hR.1) (by rw [hR.1.1 19 (by decide)]; omega) (by omega) hA (fun s1 e1 w1' f1 A1 => ?_) (fun e e1 w1' f1 q1 q2 => her e (by rw [e1]; rfl) w1' (hR.1.fr f1) q1 q2)
        rw [e1, bnd_ok'] at hok her
        obtain ⟨rfl, e3⟩ := stq_ok e1
        refine hl K (pc + 1) lp (tAt T L (fsS l)) (n + 1) (zs σ + 1, zd σ, zo σ, zl σ, ze σ, zb σ) w1' hlp (hR.fr hm f1).sd A1 hzb cd2 (by omega) (by omega) ?_ ?_ ?_ (fun σ' hσ z1 z2 => ?_) (fun e he => her e (by rw [he]; rfl))
        · show n + 1 + 3 * (1001 - (zs σ + 1)) + slk l ≤ 90000; omega
        · show zs σ + 1 ≤ 1000; omega
        · show zd σ ≤ zs σ + 1; omega
        · rw [hσ, bnd_ok'] at hok her
          refine ⟨fun z3 w' n' R' A' c' b' => ?_, fun z3 => ?_⟩
          · have b'' : n' + 3 * (1001 - zs σ') ≤ n + 1 + 3 * (1001 - (zs σ + 1)) + slk l := b'
            refine hr K (pc + 1 + nK l) lp h_ n' σ' w' hlp R' A' z3 cd3 (by omega) (by omega) (by omega) z1 z2 (fun σ2 h2 y1 y2 => ⟨fun y3 w5 n5 R5 A5 c5 b5 => ?_, (hok σ2 h2 y1 y2).2⟩) her
            have := (hok σ2 h2 y1 y2).1 y3 w5 n5 R5
            rw [show pc + (1 + nK l + nK r) = pc + 1 + nK l + nK r by omega] at this
            exact this A5 (fun i hi => by rw [c5 i hi, c' i hi, f1.1 104 (by decide)]) (by omega)
          · exact (hok σ' (rns_stop o4 z3) z1 z2).2 z3
      · exfalso
        rcases ha with z | z | z | z
        · cases z
        · exact absurd z (show (9 : Nat) ≠ 20 by decide)
        · exact absurd z (show (9 : Nat) ≠ 21 by decide)
        · exact absurd z.1 (by decide)
      · -- a block
        obtain ⟨p1, p2, p3⟩ : 1 ≤ nb ∧ OB (kdT T L) (vlT T L) l (nb - 1) (cntE 4 E) ∧ (l = nl ∨ tg l = 20) := hO
        have hl := ih l E (nb - 1) hsz.1 (by rcases p3 with z | z; exact Or.inl z; exact Or.inr (Or.inl z)) w1 hX hY p2 hj hE
        intro K pc lp h_ n σ w hlp hR hA hzb hcd hsz' hpc hn hs hdz hok her
        have hsl : slk l = 0 := slk_0 (by rcases p3 with z | z; exact Or.inl z; exact Or.inr (Or.inl z))
        have hsl0 : slk (.inner 21 t q l r) = 0 := rfl
        rw [hsl0] at hn hok
        exact hl K pc lp h_ n σ w (by omega) hR hA hzb hcd hsz' hpc (by rw [hsl]; exact hn) hs hdz (fun σ' hσ z1 z2 => ⟨fun z3 w' n' R' A' c' b' => (hok σ' hσ z1 z2).1 z3 w' n' R' A' c' (by rw [hsl] at b'; exact b'), (hok σ' hσ z1 z2).2⟩) her
      · -- if
        obtain ⟨p1, p2⟩ : OB (kdT T L) (vlT T L) r nb (cntE 4 E) ∧ tg r = 9 := hO
        obtain ⟨q1, q2⟩ : XO (kdT T L) j l ∧ SX (kdT T L) j r := hX
        obtain ⟨y1, y2⟩ : (K0 (kdT T L) l ∧ skN (kdT T L) l ≤ 50) ∧ SY (kdT T L) r := hY
        cases r with
        | leaf => exact absurd p2 (show (0 : Nat) ≠ 9 by decide)
        | inner c9 t9 q9 b1 b2 =>
          have : c9 = 9 := p2
          subst this
          obtain ⟨u1, u2, u3, u4⟩ : OB (kdT T L) (vlT T L) b1 nb (cntE 4 E) ∧ OB (kdT T L) (vlT T L) b2 nb (cntE 4 E) ∧ tg b1 = 21 ∧ ((q9 = 0 ∧ b2 = nl) ∨ (q9 ≠ 0 ∧ tg b2 = 21)) := p1
          obtain ⟨x1, x2⟩ : SX (kdT T L) j b1 ∧ SX (kdT T L) j b2 := q2
          obtain ⟨s1, s2⟩ : SY (kdT T L) b1 ∧ SY (kdT T L) b2 := y2
          have v : WS b1 ∧ WS b2 := by
            simp only [WS] at w2
            rcases w2 with ⟨z, -⟩ | ⟨-, a1, a2⟩ | ⟨z, -⟩ | ⟨z, -⟩ | ⟨z, -⟩ | z | ⟨z, -⟩
            · omega
            · exact ⟨a1, a2⟩
            all_goals omega
          have hjj : jS T L (.inner 15 t q l (.inner 9 t9 q9 b1 b2)) E = min (min (jkT T L E false l) (dm T L (knT T L E false l) 2 (fst_ l))) (min (jS T L b1 E) (jS T L b2 E)) := rfl
          rw [hjj] at hj
          have hz := hsz.2
          simp only [szT] at hz
          have hb2 : b2 = nl ∨ tg b2 = 20 ∨ tg b2 = 21 := by
            rcases u4 with ⟨-, z⟩ | ⟨-, z⟩
            · exact Or.inl z
            · exact Or.inr (Or.inr z)
          exact wc_if h0 hE w1 q1 y1 (by omega) v.1 (ih b1 E nb (by omega) (Or.inr (Or.inr (Or.inl u3))) v.1 x1 s1 u1 (by omega) hE) (ih b2 E nb (by omega) (by rcases hb2 with z | z | z; exact Or.inl z; exact Or.inr (Or.inl z); exact Or.inr (Or.inr (Or.inl z))) v.2 x2 s2 u2 (by omega) hE) (slk_0 (Or.inr (Or.inr u3))) (slk_0 hb2) (by rcases u4 with z | z; exact Or.inl z; exact Or.inr z.1)
      · -- loop
        obtain ⟨p1, p2, p3, p4⟩ : OB (kdT T L) (vlT T L) l nb (cntE 4 E) ∧ tg l = 21 ∧ kdT T L t = 3 ∧ vlT T L t ≤ 100 := hO
        have hv3 := kd3_val p3
        cases l with
        | leaf => exact absurd p2 (show (0 : Nat) ≠ 21 by decide)
        | inner c9 t9 q9 b1 b2 =>
          have : c9 = 21 := p2
          subst this
          obtain ⟨r1, r2, r3⟩ : 1 ≤ nb ∧ OB (kdT T L) (vlT T L) b1 (nb - 1) (cntE 4 E) ∧ (b1 = nl ∨ tg b1 = 20) := p1
          have wb : WS b1 := by
            simp only [WS] at w1
            rcases w1 with ⟨z, -⟩ | ⟨z, -⟩ | ⟨-, a1⟩ | ⟨z, -⟩ | ⟨z, -⟩ | z | ⟨z, -⟩
            · omega
            · omega
            · exact a1
            all_goals omega
          have hz := hsz.1
          simp only [szT] at hz
          have hl := ih b1 E (nb - 1) (by omega) (by rcases r3 with z | z; exact Or.inl z; exact Or.inr (Or.inl z)) wb hX hY r2 hj hE
          have hsl : slk b1 = 0 := slk_0 (by rcases r3 with z | z; exact Or.inl z; exact Or.inr (Or.inl z))
          have hb : SpSt g d T L X ma v w0 (.inner 21 t9 q9 b1 b2) E (nb - 1) := by
            intro K pc lp h_ n σ w hlp hR hA hzb hcd hsz' hpc hn hs hdz hok her
            have hsl0 : slk (.inner 21 t9 q9 b1 b2) = 0 := rfl
            rw [hsl0] at hn hok
            exact hl K pc lp h_ n σ w hlp hR hA hzb hcd hsz' hpc (by rw [hsl]; exact hn) hs hdz (fun σ' hσ z1 z2 => ⟨fun z3 w' n' R' A' c' b' => (hok σ' hσ z1 z2).1 z3 w' n' R' A' c' (by rw [hsl] at b'; exact b'), (hok σ' hσ z1 z2).2⟩) her
          exact wc_loop h0 w1 hb r1 rfl ⟨hv3.1, p4⟩
      · exact wc_halt h0
      · have xo : XO (kdT T L) j l ∧ t < j := by
          have := hX
          rw [SX, if_neg (by omega), if_neg (by omega), if_neg (by omega), if_neg (by omega)] at this
          exact this
        have yy : K0 (kdT T L) l ∧ skN (kdT T L) l ≤ 50 := by
          have := hY
          rw [SY, if_neg (by omega), if_neg (by omega), if_neg (by omega), if_neg (by omega)] at this
          exact this
        rcases hc with rfl | rfl | rfl | rfl
        · exact wc_set h0 hE w1 xo.1 yy hj
        · exact wc_let h0 hE w1 xo.1 yy hO hj
        · exact wc_send h0 hE w1 xo.1 yy hj
        · exact wc_give h0 hE w1 xo.1 yy hj
end WWork
