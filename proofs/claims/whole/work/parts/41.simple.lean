/-! ===== small steps over worlds ===== -/
theorem up_o {w : Wd} {o k a : Nat} {x : Int} (h : a ≠ o) : up w o k x a = w a := by funext b; exact up_ne w x (fun z => h z.1)
theorem up_s (w : Wd) (o k : Nat) (x : Int) : up w o k x o k = x := up_same w o k x
theorem up_k {w : Wd} {o k b : Nat} {x : Int} (h : b ≠ k) : up w o k x o b = w o b := up_ne w x (fun z => h z.2)
theorem wr_s {x : Int} (h1 : -2147483648 ≤ x) (h2 : x ≤ 2147483647) : wr x = x := wr_id ⟨h1, h2⟩
/-! ===== the tape: feed, end ===== -/
/-- byte j of a number, the highest first -/
def bv (v : Int) (j : Nat) : Int := i2bF (i2bF (iUshr v (24 - 8 * (j : Int))))
/-- number k / 4 of five -/
def pick5 (a b c d e : Int) (k : Nat) : Int := if k < 4 then a else if k < 8 then b else if k < 12 then c else if k < 16 then d else e
section ClassTape
variable {g : Mg} {d : Nat} {K : Ou → Wd → Prop} {w : Wd}
def putj (w : Wd) (n : Nat) (v : Int) (j : Nat) : Wd := fun a b => if a = 1 ∧ n ≤ b ∧ b < n + j then bv v (b - n) else if a = 0 ∧ b = 1 then ((n + j : Nat) : Int) else w a b
theorem putj_len (w : Wd) (n : Nat) (v : Int) (j : Nat) : putj w n v j 0 1 = ((n + j : Nat) : Int) := by simp [putj]
theorem putj_0 {w : Wd} {n : Nat} (v : Int) (h : w 0 1 = (n : Int)) : putj w n v 0 = w := by
  funext a b
  simp only [putj]
  rw [if_neg (by omega)]
  split
  · rename_i hab; rw [hab.1, hab.2, h]; simp
  · rfl
theorem putj_s {w : Wd} {n j : Nat} {v : Int} : up (up (putj w n v j) 1 (n + j) (bv v j)) 0 1 ((n + j + 1 : Nat) : Int) = putj w n v (j + 1) := by
  funext a b
  simp only [up, putj]
  by_cases h1 : a = 0 ∧ b = 1
  · obtain ⟨rfl, rfl⟩ := h1
    simp; omega
  · rw [if_neg h1]
    by_cases h2 : a = 1 ∧ b = n + j
    · obtain ⟨rfl, rfl⟩ := h2
      simp
    · rw [if_neg h2]
      by_cases h3 : a = 1 ∧ n ≤ b ∧ b < n + j
      · rw [if_pos h3, if_pos (by omega)]
      · rw [if_neg h3]
        simp only [h1, if_false]
        rw [if_neg (by omega)]
theorem put_loop {v : Int} {n : Nat} (hb : n + 4 ≤ 4000) (h : K (.inl none) (putj w n v 4)) : ∀ (m j : Nat), j + m = 4 → V g LC jVL_putOnTape d K 3 [(0, vA 0), (1, vI v), (2, vI (24 - 8 * (j : Int)))] [] (putj w n v j) := by
  intro m
  induction m with
  | zero =>
    intro j hj
    have e : j = 4 := by omega
    subst e
    exact s_VL_putOnTape_3 ⟨fun _ => h, fun c => absurd (by decide) c⟩
  | succ m ih =>
    intro j hj
    refine s_VL_putOnTape_3 ⟨fun c => absurd c (by omega), fun _ => ⟨fun c => ?_, fun _ => ⟨?_, ?_⟩⟩⟩
    · rw [putj_len] at c; omega
    · rw [putj_len]; omega
    · rw [putj_len]
      have e1 : wr (24 - 8 * (j : Int) + -8) = 24 - 8 * ((j + 1 : Nat) : Int) := by rw [wr_s (by omega) (by omega)]; omega
      have e2 : wr (((n + j : Nat) : Int) + 1) = ((n + j + 1 : Nat) : Int) := by rw [wr_s (by omega) (by omega)]; omega
      have e3 : (((n + j : Nat) : Int)).toNat = n + j := by omega
      rw [e1, e2, e3]
      have := ih (j + 1) (by omega)
      rw [← putj_s] at this
      exact this
theorem sp_put {v : Int} {n : Nat} (hn : w 0 1 = (n : Int)) (hb : n + 4 ≤ 4000) (h : K (.inl none) (putj w n v 4)) : Cal g LC jVL_putOnTape d [vA 0, vI v] w K := by
  refine Cal.ofV (by decide) rfl (Nat.le_of_ble_eq_true rfl) (s_VL_putOnTape ?_)
  have := put_loop (g := g) (d := d) hb h 4 0 (by omega)
  rw [putj_0 v hn] at this
  exact this
/-- the tape behind feed: n bytes were there -/
def fedC (w : Wd) (n : Nat) (a b c d e : Int) : Wd := fun o k => if o = 1 ∧ n ≤ k ∧ k < n + 20 then bv (pick5 a b c d e (k - n)) ((k - n) % 4) else if o = 0 ∧ k = 1 then ((n + 20 : Nat) : Int) else w o k
theorem fed_eq {w : Wd} {n : Nat} {a b c d e : Int} : putj (putj (putj (putj (putj w n a 4) (n + 4) b 4) (n + 8) c 4) (n + 12) d 4) (n + 16) e 4 = fedC w n a b c d e := by
  funext o k
  simp only [putj, fedC]
  by_cases h0 : o = 0 ∧ k = 1
  · obtain ⟨rfl, rfl⟩ := h0
    simp; omega
  · by_cases h1 : o = 1
    · subst h1
      by_cases hk : n ≤ k ∧ k < n + 20
      · obtain ⟨q, hq⟩ : ∃ q, k = n + q := ⟨k - n, by omega⟩
        subst hq
        have hq20 : q < 20 := by omega
        have e0 : n + q - n = q := by omega
        rw [e0]
        unfold pick5
        by_cases c4 : q < 4
        · rw [if_neg (by omega), if_neg (by omega), if_neg (by omega), if_neg (by omega), if_neg (by omega), if_neg (by omega), if_neg (by omega), if_neg (by omega), if_pos (by omega), if_pos (by omega), if_pos c4]
          congr 1; omega
        · by_cases c8 : q < 8
          · rw [if_neg (by omega), if_neg (by omega), if_neg (by omega), if_neg (by omega), if_neg (by omega), if_neg (by omega), if_pos (by omega), if_pos (by omega), if_neg c4, if_pos c8]
            congr 1; omega
          · by_cases c12 : q < 12
            · rw [if_neg (by omega), if_neg (by omega), if_neg (by omega), if_neg (by omega), if_pos (by omega), if_pos (by omega), if_neg c4, if_neg c8, if_pos c12]
              congr 1; omega
            · by_cases c16 : q < 16
              · rw [if_neg (by omega), if_neg (by omega), if_pos (by omega), if_pos (by omega), if_neg c4, if_neg c8, if_neg c12, if_pos c16]
                congr 1; omega
              · rw [if_pos (by omega), if_pos (by omega), if_neg c4, if_neg c8, if_neg c12, if_neg c16]
                congr 1; omega
      · simp only [show ¬ ((1 : Nat) = 0 ∧ k = 1) from by omega, if_false]
        rw [if_neg (by omega), if_neg (by omega), if_neg (by omega), if_neg (by omega), if_neg (by omega), if_neg (by omega)]
    · simp [h0, h1]
theorem sp_feedC {n : Nat} {p1 p2 p3 p4 p5 : Int} (hn : w 0 1 = (n : Int)) (hb : n + 20 ≤ 4000) (h : K (.inl (some (vI ((n + 20 : Nat) : Int)))) (fedC w n p1 p2 p3 p4 p5)) : Cal g LC jVL_feed (d + 1) [vA 0, vI p1, vI p2, vI p3, vI p4, vI p5] w K := by
  refine Cal.ofV (by decide) rfl (Nat.le_of_ble_eq_true rfl) (s_VL_feed ⟨fun _ => ?_, fun c => ?_⟩)
  · refine sp_put hn (by omega) ?_
    refine sp_put (n := n + 4) (putj_len _ _ _ _) (by omega) ?_
    refine sp_put (n := n + 8) (by rw [putj_len]) (by omega) ?_
    refine sp_put (n := n + 12) (by rw [putj_len]) (by omega) ?_
    refine sp_put (n := n + 16) (by rw [putj_len]) (by omega) ?_
    show K (.inl (some (vI (putj _ _ _ _ 0 1)))) _
    rw [putj_len, fed_eq]
    exact h
  · rw [hn, wr_s (by omega) (by omega)] at c; omega
theorem sp_endC {n : Nat} {p : Int} (hn : w 0 1 = (n : Int)) (hb : n ≤ 4000) (h1 : (p < 0 ∨ 20 < p ∨ n < 20) → K (.inl (some (vI (-1)))) w) (h2 : ∀ q : Nat, p = (q : Int) → q ≤ 20 → 20 ≤ n → K (.inl (some (vI ((n - 20 + q : Nat) : Int)))) (up w 0 1 ((n - 20 + q : Nat) : Int))) : Cal g LC jVL_end d [vA 0, vI p] w K := by
  refine Cal.ofV (by decide) rfl (Nat.le_of_ble_eq_true rfl) (s_VL_end ⟨fun c => h1 (Or.inl c), fun c1 => ⟨fun c => h1 (Or.inr (Or.inl c)), fun c2 => ⟨fun c => ?_, fun c => h1 (Or.inr (Or.inr (by rw [hn] at c; omega)))⟩⟩⟩)
  rw [hn] at c ⊢
  have e : wr (wr ((n : Int) - 20) + p) = ((n - 20 + p.toNat : Nat) : Int) := by unfold wr; omega
  rw [e]
  exact h2 p.toNat (by omega) (by omega) (by omega)
end ClassTape
section ModelTape
variable {g : Mg} {d : Nat} {K : Ou → Wd → Prop} {w : Wd}
/-- in(x, low, high) -/
theorem sp_in {x a b : Int} (hx : inL x) (ha : inL a) (hb : inL b) (h : K (.inl (some (vI (if a ≤ x ∧ x ≤ b then 1 else 0)))) w) : Cal g LM jMd_in d [vL x, vL a, vL b] w K := by
  refine Cal.ofV (by decide) rfl (Nat.le_of_ble_eq_true rfl) (s_Md_in ⟨fun c => ?_, fun c => ⟨fun c2 => ?_, fun c2 => ?_⟩⟩)
  · rw [lCmp_eq hx ha] at c
    have : x < a := by
      by_cases h1 : a < x
      · rw [if_pos h1] at c; omega
      · rw [if_neg h1] at c; split at c <;> omega
    rwa [if_neg (by omega)] at h
  · rw [lCmp_eq hx hb] at c2
    have : b < x := by
      by_cases h1 : b < x
      · exact h1
      · rw [if_neg h1] at c2; split at c2 <;> omega
    rwa [if_neg (by omega)] at h
  · rw [lCmp_eq hx ha] at c
    rw [lCmp_eq hx hb] at c2
    have h1 : a ≤ x := by
      by_cases h1 : a < x
      · omega
      · rw [if_neg h1] at c
        by_cases h2 : x = a
        · omega
        · rw [if_neg h2] at c; omega
    have h2 : x ≤ b := by
      by_cases h3 : b < x
      · rw [if_pos h3] at c2; omega
      · omega
    rwa [if_pos ⟨h1, h2⟩] at h
def fedM (w : Wd) (n : Nat) (a b c d e : Int) (j : Nat) : Wd := fun o k => if o = 2 ∧ n ≤ k ∧ k < n + j then bv (pick5 a b c d e (k - n)) ((k - n) % 4) else w o k
theorem fedM_0 (w : Wd) (n : Nat) (a b c d e : Int) : fedM w n a b c d e 0 = w := by
  funext o k; simp only [fedM]; rw [if_neg (by omega)]
theorem fedM_s {w : Wd} {n j : Nat} {a b c d e : Int} : up (fedM w n a b c d e j) 2 (n + j) (bv (pick5 a b c d e j) (j % 4)) = fedM w n a b c d e (j + 1) := by
  funext o k
  simp only [up, fedM]
  by_cases h2 : o = 2 ∧ k = n + j
  · obtain ⟨rfl, rfl⟩ := h2
    simp
  · rw [if_neg h2]
    by_cases h3 : o = 2 ∧ n ≤ k ∧ k < n + j
    · rw [if_pos h3, if_pos (by omega)]
    · rw [if_neg h3, if_neg (by omega)]
theorem fedM_o {w : Wd} {n j o k : Nat} {a b c d e : Int} (h : o ≠ 2) : fedM w n a b c d e j o k = w o k := by simp [fedM, h]
theorem rem4 : ∀ j : Fin 20, wr (24 - wr (8 * iRem (j.val : Int) 4)) = 24 - 8 * ((j.val % 4 : Nat) : Int) := by decide +kernel
theorem feedM_loop {n : Nat} {a b c e f : Int} (hn : w 0 3 = (n : Int)) (hb : n + 20 ≤ 4000) (h : K (.inl (some (vI ((n + 20 : Nat) : Int)))) (up (fedM w n a b c e f 20) 0 3 ((n + 20 : Nat) : Int))) :
    ∀ (m j : Nat), j + m = 20 → V g LM jMd_feed d K 24 [(0, vA 0), (1, vI a), (2, vI b), (3, vI c), (4, vI e), (5, vI f), (6, vI (j : Int))] [] (fedM w n a b c e f j) := by
  intro m
  induction m with
  | zero =>
    intro j hj
    have e : j = 20 := by omega
    subst e
    refine s_Md_feed_24 ⟨fun _ => ?_, fun z => absurd (by decide) z⟩
    rw [fedM_o (by decide), hn]
    have e : wr ((n : Int) + 20) = ((n + 20 : Nat) : Int) := by rw [wr_s (by omega) (by omega)]; omega
    rw [e]
    exact h
  | succ m ih =>
    intro j hj
    have hr := rem4 ⟨j, by omega⟩
    simp only [] at hr
    have e1 : wr ((n : Int) + (j : Int)) = ((n + j : Nat) : Int) := by rw [wr_s (by omega) (by omega)]; omega
    have e2 : wr ((j : Int) + 1) = ((j + 1 : Nat) : Int) := by rw [wr_s (by omega) (by omega)]; omega
    have e3 : (((n + j : Nat) : Int)).toNat = n + j := by omega
    have key := ih (j + 1) (by omega)
    rw [← fedM_s] at key
    have hbd : (0 : Int) ≤ ((n + j : Nat) : Int) ∧ ((n + j : Nat) : Int) < 4020 := by omega
    refine s_Md_feed_24 ⟨fun z => absurd z (by omega), fun _ => ⟨fun c4 => ⟨fun c8 => ⟨fun c12 => ⟨fun c16 => ?_, fun c16 => ?_⟩, fun c12 => ?_⟩, fun c8 => ?_⟩, fun c4 => ?_⟩⟩
    all_goals rw [fedM_o (by decide), hn, e1, e2, e3, hr]
    · refine ⟨hbd, ?_⟩
      rw [show pick5 a b c e f j = f from by unfold pick5; rw [if_neg (by omega), if_neg (by omega), if_neg (by omega), if_neg (by omega)]] at key
      exact key
    · refine ⟨hbd, ?_⟩
      rw [show pick5 a b c e f j = e from by unfold pick5; rw [if_neg (by omega), if_neg (by omega), if_neg (by omega), if_pos (by omega)]] at key
      exact key
    · refine ⟨hbd, ?_⟩
      rw [show pick5 a b c e f j = c from by unfold pick5; rw [if_neg (by omega), if_neg (by omega), if_pos (by omega)]] at key
      exact key
    · refine ⟨hbd, ?_⟩
      rw [show pick5 a b c e f j = b from by unfold pick5; rw [if_neg (by omega), if_pos (by omega)]] at key
      exact key
    · refine ⟨hbd, ?_⟩
      rw [show pick5 a b c e f j = a from by unfold pick5; rw [if_pos (by omega)]] at key
      exact key
theorem sp_feedM {n : Nat} {p1 p2 p3 p4 p5 : Int} (hn : w 0 3 = (n : Int)) (hb : n + 20 ≤ 4000) (h : K (.inl (some (vI ((n + 20 : Nat) : Int)))) (up (fedM (up w 0 0 0) n p1 p2 p3 p4 p5 20) 0 3 ((n + 20 : Nat) : Int))) : Cal g LM jMd_feed d [vA 0, vI p1, vI p2, vI p3, vI p4, vI p5] w K := by
  refine Cal.ofV (by decide) rfl (Nat.le_of_ble_eq_true rfl) (s_Md_feed ⟨fun _ => ?_, fun c => ?_⟩)
  · have := feedM_loop (g := g) (d := d) (w := up w 0 0 0) (n := n) hn hb h 20 0 (by omega)
    rw [fedM_0] at this
    exact this
  · rw [hn, wr_s (by omega) (by omega)] at c; omega
theorem sp_endM {n : Nat} {p : Int} (hp : inI p) (hn : w 0 3 = (n : Int)) (hb : n ≤ 4000) (h1 : (p < 0 ∨ 20 < p ∨ n < 20) → K (.inl (some (vI (-1)))) (up w 0 0 0)) (h2 : ∀ q : Nat, p = (q : Int) → q ≤ 20 → 20 ≤ n → K (.inl (some (vI ((n - 20 + q : Nat) : Int)))) (up (up w 0 0 0) 0 3 ((n - 20 + q : Nat) : Int))) : Cal g LM jMd_end (d + 1) [vA 0, vI p] w K := by
  refine Cal.ofV (by decide) rfl (Nat.le_of_ble_eq_true rfl) (s_Md_end (sp_in (inI_L hp) (by decide) (by decide) ⟨fun c => ?_, fun c => ⟨fun c2 => ?_, fun c2 => ?_⟩⟩))
  · by_cases hq : 0 ≤ p ∧ p ≤ 20
    · rw [if_pos hq] at c; cases c
    · exact h1 (by omega)
  · have hq : 0 ≤ p ∧ p ≤ 20 := by
      by_cases hq : 0 ≤ p ∧ p ≤ 20
      · exact hq
      · rw [if_neg hq] at c; exact absurd rfl c
    have e0 : up w 0 0 0 0 3 = (n : Int) := hn
    rw [e0] at c2 ⊢
    have e : wr (wr ((n : Int) + p) - 20) = ((n - 20 + p.toNat : Nat) : Int) := by unfold wr; omega
    rw [e]
    exact h2 p.toNat (by omega) (by omega) (by omega)
  · have e0 : up w 0 0 0 0 3 = (n : Int) := hn
    rw [e0] at c2
    exact h1 (Or.inr (Or.inr (by omega)))
end ModelTape
