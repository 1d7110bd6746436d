/-! ===== the class's Text against the pure pieces ===== -/
section ClassText
variable {g : Mg} {D : Nat} {K : Ou → Wd → Prop} {w : Wd}
theorem sp_charAtD {y : Ly} {o : Nat} {i : Int} (hD : 3 ≤ D) (ho : 1001 ≤ o ∧ o < 1060) (hi : 0 ≤ i ∧ i < ((sB (o - 1001)).length : Int)) (h : K (.inl (some (vI ((sB (o - 1001)).getD i.toNat 0)))) w) : Cal g y jSg_charAt D [vA o, vI i] w K := (sp_charAt (d := 0) ho hi h).mono hD
theorem sp_lengthD {y : Ly} {o : Nat} (hD : 1 ≤ D) (ho : 1001 ≤ o ∧ o < 1060) (h : K (.inl (some (vI ((sB (o - 1001)).length : Int)))) w) : Cal g y jSg_length D [vA o] w K := (sp_length (d := 0) ho h).mono hD
theorem sp_isL {c : Int} (h : K (.inl (some (vI (if isL c then 1 else 0)))) w) : Cal g LC jTe_isLetter D [vI c] w K := by
  refine Cal.ofV (by decide) rfl (Nat.le_of_ble_eq_true rfl) (s_Te_isLetter ⟨fun c1 => ⟨fun c2 => ?_, fun c2 => ⟨fun c3 => ?_, fun c3 => ?_⟩⟩, fun c1 => ⟨fun c2 => ?_, fun c2 => ⟨fun c3 => ?_, fun c3 => ⟨fun c4 => ?_, fun c4 => ?_⟩⟩⟩⟩)
  · rwa [if_neg (by omega)] at h
  · rwa [if_neg (by omega)] at h
  · rwa [if_pos (by omega)] at h
  · rwa [if_pos (by omega)] at h
  · rwa [if_neg (by omega)] at h
  · rwa [if_neg (by omega)] at h
  · rwa [if_pos (by omega)] at h
theorem sp_isD {c : Int} (h : K (.inl (some (vI (if isD c then 1 else 0)))) w) : Cal g LC jTe_isDigit D [vI c] w K := by
  refine Cal.ofV (by decide) rfl (Nat.le_of_ble_eq_true rfl) (s_Te_isDigit ⟨fun c1 => ?_, fun c1 => ⟨fun c2 => ?_, fun c2 => ?_⟩⟩)
  · rwa [if_neg (by omega)] at h
  · rwa [if_neg (by omega)] at h
  · rwa [if_pos (by omega)] at h
theorem wr_n1 {i : Nat} (h : i < 2000000000) : wr ((i : Int) + 1) = ((i + 1 : Nat) : Int) := by unfold wr; omega
theorem toN (i : Nat) : ((i : Int)).toNat = i := by omega
theorem pass_loop {L : Nat} (hL : w 2 1 = (L : Int)) (hL4 : L ≤ 4000) : ∀ (n : Nat) (r : Bool) (i : Nat), L - i ≤ n → i < 100000 → K (.inl (some (vI ((sk (w 3) L r i : Nat) : Int)))) w → V g LC jTe_passBlanks D K 4 [(0, vA 2), (2, vI (if r = true then 1 else 0)), (3, vI (i : Int))] [] w := by
  intro n
  induction n with
  | zero =>
    intro r i hn hi h
    rw [sk, if_pos (by omega)] at h
    refine s_Te_passBlanks_4 ⟨fun _ => by rw [hL]; exact h, fun c => ?_⟩
    rw [hL] at c; omega
  | succ n ih =>
    intro r i hn hi h
    refine s_Te_passBlanks_4 ⟨fun c => ?_, fun c => ?_⟩
    · rw [hL] at c ⊢
      rw [sk, if_pos (by omega)] at h
      exact h
    · rw [hL] at c
      rw [toN, wr_n1 (by omega)]
      rw [sk, if_neg (by omega)] at h
      refine ⟨by omega, fun c1 => ⟨fun c2 => ⟨fun c3 => ?_, fun c3 => ⟨fun c4 => ?_, fun c4 => ?_⟩⟩, fun c2 => ?_⟩, fun c1 => ?_⟩
      · rw [if_neg c1, if_neg c2] at h
        cases r with
        | false => exact absurd rfl c3
        | true => exact ih true (i + 1) (by omega) (by omega) h
      · rw [if_neg c1, if_neg c2] at h
        cases r with
        | true => exact absurd c3 (by decide)
        | false =>
          rw [if_neg (by decide), if_pos c4] at h
          exact ih false (i + 1) (by omega) (by omega) h
      · rw [if_neg c1, if_neg c2] at h
        cases r with
        | true => exact absurd c3 (by decide)
        | false =>
          rw [if_neg (by decide), if_neg c4] at h
          exact h
      · rw [if_neg c1, if_pos c2] at h
        exact ih true (i + 1) (by omega) (by omega) h
      · rw [if_pos c1] at h
        exact ih false (i + 1) (by omega) (by omega) h
theorem sp_pass {L i : Nat} (hL : w 2 1 = (L : Int)) (hL4 : L ≤ 4000) (hi : i ≤ 4000) (h : K (.inl (some (vI ((sk (w 3) L false i : Nat) : Int)))) w) : Cal g LC jTe_passBlanks D [vA 2, vI (i : Int)] w K :=
  Cal.ofV (by decide) rfl (Nat.le_of_ble_eq_true rfl) (s_Te_passBlanks (pass_loop hL hL4 (L - i) false i (Nat.le_refl _) (by omega) h))
/-- a TOKEN more -/
def putT (w : Wd) (t : Nat) (k f e v : Int) : Wd := up (up (up (up (up w 4 t k) 5 t f) 6 t e) 7 t v) 2 6 ((t + 1 : Nat) : Int)
theorem sp_putT {t : Nat} {k f e v : Int} (ht : w 2 6 = (t : Int)) (hb : t < 1002) (h : K (.inl none) (putT w t k f e v)) : Cal g LC jTe_put D [vA 2, vI k, vI f, vI e, vI v] w K := by
  refine Cal.ofV (by decide) rfl (Nat.le_of_ble_eq_true rfl) (s_Te_put ⟨fun c => ?_, fun c => ?_⟩)
  · rw [ht] at c; omega
  · rw [ht, toN, wr_n1 (by omega)]
    exact ⟨by omega, by omega, by omega, by omega, h⟩
/-! words -/
def stW : Nat → Nat
  | 0 => 0
  | k + 1 => stW k + (clW k).length + 1
theorem wS : ∀ k, k < 33 → (∀ j, j < (clW k).length → (sB 2).getD (stW k + j) 0 = (clW k).getD j 0 ∧ ¬ (clW k).getD j 0 = 32) ∧ (sB 2).getD (stW k + (clW k).length) 0 = 32 := by decide +kernel
theorem stW_33 : stW 33 = (sB 2).length := by decide +kernel
theorem stW_le : ∀ k, k < 33 → stW k + (clW k).length < 175 := by decide +kernel
theorem sB2_len : (sB 2).length = 175 := by decide +kernel
theorem clW_len : ∀ k, k < 33 → 1 ≤ (clW k).length ∧ (clW k).length ≤ 12 := by decide +kernel
theorem mtb_iff {T : Nat → Int} : ∀ (l : List Int) (i : Nat), mtb T i l = true ↔ ∀ j, j < l.length → T (i + j) = l.getD j 0
  | [], i => by simp [mtb]
  | c :: l, i => by
    simp only [mtb, Bool.and_eq_true, decide_eq_true_eq, mtb_iff l (i + 1)]
    constructor
    · rintro ⟨h1, h2⟩ j hj
      cases j with
      | zero => simpa using h1
      | succ j => have := h2 j (by simpa using hj); rw [show i + (j + 1) = i + 1 + j by omega]; simpa using this
    · intro h
      refine ⟨by simpa using h 0 (by simp), fun j hj => ?_⟩
      have := h (j + 1) (by simpa using hj)
      rw [show i + (j + 1) = i + 1 + j by omega] at this
      simpa using this
theorem wrN {x : Int} {n : Nat} (h : x = (n : Int)) (hn : n < 2147483648) : wr x = (n : Int) := by subst h; unfold wr; omega
theorem isWord_loop {i e s : Nat} {l : List Int} (hD : 3 ≤ D) (hl : l.length = e - i) (hs : s + l.length < 175) (hm : ∀ j, j < l.length → (sB 2).getD (s + j) 0 = l.getD j 0) (hie : i ≤ e) (he : e ≤ 4000) (h1 : mtb (w 3) i l = true → K (.inl (some (vI 1))) w) (h0 : mtb (w 3) i l = false → K (.inl (some (vI 0))) w) :
    ∀ (m j : Nat), j + m = e - i → (∀ q, q < j → w 3 (i + q) = l.getD q 0) → V g LC jTe_isWord (D + 1) K 3 [(0, vA 2), (1, vI (i : Int)), (2, vI (e : Int)), (3, vI (s : Int)), (4, vI ((i + j : Nat) : Int))] [] w := by
  intro m
  induction m with
  | zero =>
    intro j hj hq
    refine s_Te_isWord_3 ⟨fun _ => h1 ?_, fun c => by omega⟩
    rw [mtb_iff]
    intro q hq2
    exact hq q (by omega)
  | succ m ih =>
    intro j hj hq
    refine s_Te_isWord_3 ⟨fun c => by omega, fun c => ⟨by omega, ?_⟩⟩
    have e0 : wr ((s : Int) + ((i + j : Nat) : Int)) = ((s + (i + j) : Nat) : Int) := wrN (by omega) (by omega)
    have e1 : wr (((s + (i + j) : Nat) : Int) - (i : Int)) = ((s + j : Nat) : Int) := wrN (by omega) (by omega)
    rw [e0, e1, toN, wr_n1 (by omega)]
    refine sp_charAtD hD (by decide) (by rw [show 1003 - 1001 = 2 from rfl, sB2_len]; omega) ?_
    rw [show 1003 - 1001 = 2 from rfl, toN, hm j (by omega)]
    refine ⟨fun c2 => ?_, fun c2 => ?_⟩
    · refine ih (j + 1) (by omega) (fun q hq2 => ?_)
      by_cases h3 : q = j
      · subst h3; exact c2
      · exact hq q (by omega)
    · refine h0 ?_
      cases hm : mtb (w 3) i l with
      | false => rfl
      | true => rw [mtb_iff] at hm; exact absurd (hm j (by omega)) c2
theorem sp_isWord {i e s : Nat} {l : List Int} (hD : 4 ≤ D) (hl : l.length = e - i) (hs : s + l.length < 175) (hm : ∀ j, j < l.length → (sB 2).getD (s + j) 0 = l.getD j 0) (hie : i ≤ e) (he : e ≤ 4000) (h1 : mtb (w 3) i l = true → K (.inl (some (vI 1))) w) (h0 : mtb (w 3) i l = false → K (.inl (some (vI 0))) w) : Cal g LC jTe_isWord D [vA 2, vI (i : Int), vI (e : Int), vI (s : Int)] w K := by
  obtain ⟨d, rfl⟩ : ∃ d, D = d + 1 := ⟨D - 1, by omega⟩
  refine Cal.ofV (by decide) rfl (Nat.le_of_ble_eq_true rfl) (s_Te_isWord ?_)
  exact isWord_loop (by omega) hl hs hm hie he h1 h0 (e - i) 0 (by omega) (fun q hq => absurd hq (Nat.not_lt_zero _))
/-- to the end of one word, from place j of it -/
theorem wk_word {i e s k : Nat} {l : List Int} (hD : 4 ≤ D) (hl1 : ∀ j, j < l.length → (sB 2).getD (s + j) 0 = l.getD j 0 ∧ ¬ l.getD j 0 = 32) (hl2 : (sB 2).getD (s + l.length) 0 = 32) (hs : s + l.length < 175) (hk : k < 33) (hie : i ≤ e) (he : e ≤ 4000)
    (hy : l.length = e - i → mtb (w 3) i l = true → K (.inl (some (vI ((27 + k : Nat) : Int)))) w) (hn : ¬ (l.length = e - i ∧ mtb (w 3) i l = true) → V g LC jTe_wordKind (D + 1) K 8 [(0, vA 2), (1, vI (i : Int)), (2, vI (e : Int)), (3, vI ((k + 1 : Nat) : Int)), (4, vI ((s + l.length + 1 : Nat) : Int)), (5, vI ((s + l.length + 1 : Nat) : Int))] [] w) :
    ∀ (m j : Nat), j + m = l.length → V g LC jTe_wordKind (D + 1) K 8 [(0, vA 2), (1, vI (i : Int)), (2, vI (e : Int)), (3, vI (k : Int)), (4, vI (s : Int)), (5, vI ((s + j : Nat) : Int))] [] w := by
  intro m
  induction m with
  | zero =>
    intro j hj
    have hj' : j = l.length := by omega
    subst hj'
    refine s_Te_wordKind_8 (sp_lengthD (by omega) (by decide) ⟨fun c => ?_, fun c => ?_⟩)
    · rw [show 1003 - 1001 = 2 from rfl, sB2_len] at c; omega
    · refine sp_charAtD (by omega) (by decide) (by rw [show 1003 - 1001 = 2 from rfl, sB2_len]; omega) ?_
      rw [show 1003 - 1001 = 2 from rfl, toN, hl2]
      have e1 : wr (((s + l.length : Nat) : Int) - (s : Int)) = ((l.length : Nat) : Int) := wrN (by omega) (by omega)
      have e2 : wr ((e : Int) - (i : Int)) = ((e - i : Nat) : Int) := wrN (by omega) (by omega)
      rw [e1, e2, wr_n1 (by omega), wr_n1 (by omega)]
      refine ⟨fun z => absurd rfl z, fun _ => ⟨fun c2 => ?_, fun c2 => ?_⟩⟩
      · exact hn (fun z => c2 (by rw [z.1]))
      · have hlen : l.length = e - i := by omega
        refine sp_isWord hD hlen hs (fun j hj => (hl1 j hj).1) hie he (fun hm => ⟨fun z => absurd z (by decide), fun _ => ?_⟩) (fun hm => ⟨fun _ => ?_, fun z => absurd rfl z⟩)
        · have e5 : wr (27 + (k : Int)) = ((27 + k : Nat) : Int) := wrN (by omega) (by omega)
          rw [e5]
          exact hy hlen hm
        · exact hn (fun z => by rw [hm] at z; exact absurd z.2 (by decide))
  | succ m ihm =>
    intro j hj
    refine s_Te_wordKind_8 (sp_lengthD (by omega) (by decide) ⟨fun c => ?_, fun c => ?_⟩)
    · rw [show 1003 - 1001 = 2 from rfl, sB2_len] at c; omega
    · refine sp_charAtD (by omega) (by decide) (by rw [show 1003 - 1001 = 2 from rfl, sB2_len]; omega) ?_
      rw [show 1003 - 1001 = 2 from rfl, toN]
      have hwj := hl1 j (by omega)
      rw [hwj.1]
      refine ⟨fun _ => ?_, fun z => absurd z hwj.2⟩
      rw [wr_n1 (by omega)]
      exact ihm (j + 1) (by omega)
theorem wk_loop {i e : Nat} (hD : 4 ≤ D) (hie : i ≤ e) (he : e ≤ 4000) : ∀ (f k : Nat), k + f = 33 → K (.inl (some (vI ((wKd (w 3) i (e - i) f k : Nat) : Int)))) w → V g LC jTe_wordKind (D + 1) K 8 [(0, vA 2), (1, vI (i : Int)), (2, vI (e : Int)), (3, vI (k : Int)), (4, vI (stW k : Int)), (5, vI (stW k : Int))] [] w := by
  intro f
  induction f with
  | zero =>
    intro k hk h
    have hk' : k = 33 := by omega
    subst hk'
    refine s_Te_wordKind_8 (sp_lengthD (by omega) (by decide) ⟨fun _ => h, fun c => absurd ?_ c⟩)
    rw [show 1003 - 1001 = 2 from rfl, ← stW_33]
    exact Int.le_refl _
  | succ f ihf =>
    intro k hk h
    have hk3 : k < 33 := by omega
    have hst := stW_le k hk3
    have hw := wS k hk3
    have hn := ihf (k + 1) (by omega)
    have es : stW (k + 1) = stW k + (clW k).length + 1 := rfl
    rw [es] at hn
    rw [wKd] at h
    generalize stW k = s at *
    generalize clW k = l at *
    clear es
    refine wk_word hD hw.1 hw.2 hst hk3 hie he (fun h1 h2 => ?_) (fun h1 => hn ?_) l.length 0 (by omega)
    · rwa [if_pos ⟨h1, h2⟩] at h
    · rwa [if_neg h1] at h
theorem sp_wordKind {i e : Nat} (hD : 5 ≤ D) (hie : i ≤ e) (he : e ≤ 4000) (h : K (.inl (some (vI ((wKd (w 3) i (e - i) 33 0 : Nat) : Int)))) w) : Cal g LC jTe_wordKind D [vA 2, vI (i : Int), vI (e : Int)] w K := by
  obtain ⟨d, rfl⟩ : ∃ d, D = d + 1 := ⟨D - 1, by omega⟩
  refine Cal.ofV (by decide) rfl (Nat.le_of_ble_eq_true rfl) (s_Te_wordKind ?_)
  exact wk_loop (by omega) hie he 33 0 rfl h
end ClassText
