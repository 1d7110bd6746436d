/-! ===== the model's tokens against the same pieces ===== -/
/-- the kind of TOKEN k; 0 behind the last -/
def kdT (T : Nat → Int) (L k : Nat) : Nat := if tAt T L k < L then tKd T L (tAt T L k) else 0
/-- the word or sign of a kind -/
def sgn (c : Nat) : List Int := if c < 21 then sB (38 + c) else if c < 27 then sB (15 + c) else clW (c - 27)
theorem sgn_inj : ∀ c, c < 60 → ∀ e, e < 60 → 4 ≤ c → 4 ≤ e → sgn c = sgn e → c = e := by decide +kernel
/-- the model's number of a kind -/
def mkd (c : Nat) : Int := if c = 0 then 4 else if c = 1 then 5 else if c = 2 then 0 else if c = 3 then 1 else if c < 27 then 2 else 3
theorem sg_one : ∀ j, j < 17 → sB (42 + j) = [(sB 0).getD j 0] := by decide +kernel
theorem wd_a : ∀ q, q < 33 → ∃ k, k < 33 ∧ clW k = sB (3 + q) := by decide +kernel
theorem wd_b : ∀ k, k < 33 → ∃ q, q < 33 ∧ sB (3 + q) = clW k := by decide +kernel
theorem wKd_cases (T : Nat → Int) (i n : Nat) : ∀ f k, (wKd T i n f k = 2 ∧ ∀ q, k ≤ q → q < k + f → ¬ ((clW q).length = n ∧ mtb T i (clW q) = true)) ∨ ∃ q, k ≤ q ∧ q < k + f ∧ wKd T i n f k = 27 + q ∧ (clW q).length = n ∧ mtb T i (clW q) = true
  | 0, k => Or.inl ⟨rfl, fun q h1 h2 => by omega⟩
  | f + 1, k => by
    rw [wKd]
    split
    · rename_i h
      exact Or.inr ⟨k, Nat.le_refl _, by omega, rfl, h.1, h.2⟩
    · rename_i h
      rcases wKd_cases T i n f (k + 1) with ⟨h1, h2⟩ | ⟨q, h1, h2, h3⟩
      · refine Or.inl ⟨h1, fun q q1 q2 => ?_⟩
        by_cases hq : q = k
        · rw [hq]; exact h
        · exact h2 q (by omega) (by omega)
      · exact Or.inr ⟨q, by omega, by omega, h3⟩
theorem ixF_cases : ∀ (l : List Int) (c : Int) (j : Nat), (ixF l c j = none ∧ ∀ q, q < l.length → ¬ l.getD q 0 = c) ∨ ∃ q, q < l.length ∧ ixF l c j = some (j + q) ∧ l.getD q 0 = c
  | [], c, j => Or.inl ⟨rfl, fun q h => absurd h (Nat.not_lt_zero _)⟩
  | x :: l, c, j => by
    rw [ixF]
    split
    · rename_i h
      exact Or.inr ⟨0, by simp, rfl, h⟩
    · rename_i h
      rcases ixF_cases l c (j + 1) with ⟨h1, h2⟩ | ⟨q, h1, h2, h3⟩
      · refine Or.inl ⟨h1, fun q hq => ?_⟩
        cases q with
        | zero => exact h
        | succ q => simpa using h2 q (by simpa using hq)
      · exact Or.inr ⟨q + 1, by simpa using h1, by rw [h2]; congr 1; omega, by simpa using h3⟩
theorem tKd_text {T : Nat → Int} {L i : Nat} (h4 : 4 ≤ tKd T L i) : tKd T L i < 60 ∧ tEn T L i - i = (sgn (tKd T L i)).length ∧ mtb T i (sgn (tKd T L i)) = true := by
  by_cases h1 : isL (T i)
  · have e : tEn T L i = eW T L i := by unfold tEn; rw [if_pos h1]
    have e2 : tKd T L i = if 12 < eW T L i - i then 1 else wKd T i (eW T L i - i) 33 0 := by unfold tKd; rw [if_pos h1]
    rw [e2] at h4 ⊢
    split at h4
    · omega
    · rename_i hc
      rw [if_neg hc, e]
      rcases wKd_cases T i (eW T L i - i) 33 0 with ⟨h5, h6⟩ | ⟨q, q1, q2, q3, q4, q5⟩
      · rw [h5] at h4; omega
      · rw [q3]
        have e3 : sgn (27 + q) = clW q := by unfold sgn; rw [if_neg (by omega), if_neg (by omega), show 27 + q - 27 = q by omega]
        rw [e3]
        exact ⟨by omega, q4.symm, q5⟩
  · by_cases h2 : isD (T i)
    · have e2 : tKd T L i = if vD T L 0 i < 2147483648 then 3 else 1 := by unfold tKd; rw [if_neg h1, if_pos h2]
      rw [e2] at h4
      split at h4 <;> omega
    · unfold tKd tEn at *
      rw [if_neg h1, if_neg h2] at *
      rw [if_neg h1, if_neg h2]
      by_cases hc : i + 1 < L
      · rw [if_pos hc] at *
        cases hp : pKd (T i) (T (i + 1)) with
        | some k =>
          unfold pKd at hp
          have key : ∀ a b : Int, ∀ q, q < 6 → sB (36 + q) = [a, b] → T i = a ∧ T (i + 1) = b → some q = some k → 21 + k < 60 ∧ i + 2 - i = (sgn (21 + k)).length ∧ mtb T i (sgn (21 + k)) = true := by
            intro a b q hq hs hab hk
            obtain rfl : q = k := Option.some.inj hk
            have e3 : sgn (21 + q) = [a, b] := by unfold sgn; rw [if_neg (by omega), if_pos (by omega), show 15 + (21 + q) = 36 + q by omega, hs]
            rw [e3]
            refine ⟨by omega, by simp only [List.length_cons, List.length_nil]; omega, ?_⟩
            simp [mtb, hab.1, hab.2]
          split at hp
          · rename_i z; exact key _ _ 0 (by omega) rfl z hp
          split at hp
          · rename_i z; exact key _ _ 1 (by omega) rfl z hp
          split at hp
          · rename_i z; exact key _ _ 2 (by omega) rfl z hp
          split at hp
          · rename_i z; exact key _ _ 3 (by omega) rfl z hp
          split at hp
          · rename_i z; exact key _ _ 4 (by omega) rfl z hp
          split at hp
          · rename_i z; exact key _ _ 5 (by omega) rfl z hp
          cases hp
        | none =>
          rw [hp] at h4
          rcases ixF_cases (sB 0) (T i) 0 with ⟨q1, q2⟩ | ⟨q, q1, q2, q3⟩
          · rw [q1] at h4; exact absurd h4 (by decide)
          · rw [q2]
            simp only [Nat.zero_add]
            rw [sB0_len] at q1
            have e3 : sgn (4 + q) = [(sB 0).getD q 0] := by unfold sgn; rw [if_pos (by omega), show 38 + (4 + q) = 42 + q by omega, sg_one q q1]
            rw [e3, q3]
            refine ⟨by omega, by simp only [List.length_cons, List.length_nil]; omega, by simp [mtb]⟩
      · rw [if_neg hc] at *
        simp only at h4 ⊢
        rcases ixF_cases (sB 0) (T i) 0 with ⟨q1, q2⟩ | ⟨q, q1, q2, q3⟩
        · rw [q1] at h4; exact absurd h4 (by decide)
        · rw [q2]
          simp only [Nat.zero_add]
          rw [sB0_len] at q1
          have e3 : sgn (4 + q) = [(sB 0).getD q 0] := by unfold sgn; rw [if_pos (by omega), show 38 + (4 + q) = 42 + q by omega, sg_one q q1]
          rw [e3, q3]
          refine ⟨by omega, by simp only [List.length_cons, List.length_nil]; omega, by simp [mtb]⟩
/-- two rows that the same bytes are -/
theorem mtb_eq {T : Nat → Int} {i : Nat} {l l' : List Int} (h : mtb T i l = true) (h' : mtb T i l' = true) (hl : l.length = l'.length) : l = l' := by
  rw [mtb_iff] at h h'
  refine List.ext_getElem hl (fun n h1 h2 => ?_)
  have a := h n h1
  have b := h' n h2
  rw [List.getD_eq_getElem?_getD, List.getElem?_eq_getElem h1] at a
  rw [List.getD_eq_getElem?_getD, List.getElem?_eq_getElem h2] at b
  exact a.symm.trans b
section ModelLex
variable {g : Mg} {D : Nat} {K : Ou → Wd → Prop} {w : Wd}
theorem sp_isLM {c : Int} (hD : 1 ≤ D) (hc : inI c) (h : K (.inl (some (vI (if isL c then 1 else 0)))) w) : Cal g LM jMd_isLetter D [vI c] w K := by
  obtain ⟨d, rfl⟩ : ∃ d, D = d + 1 := ⟨D - 1, by omega⟩
  refine Cal.ofV (by decide) rfl (Nat.le_of_ble_eq_true rfl) (s_Md_isLetter (sp_in (inI_L hc) (by decide) (by decide) ?_))
  by_cases h1 : 97 ≤ c ∧ c ≤ 122
  · rw [if_pos h1]
    rw [if_pos (Or.inl h1)] at h
    exact ⟨fun _ => h, fun z => absurd z (by decide)⟩
  · rw [if_neg h1]
    refine ⟨fun z => absurd rfl z, fun _ => sp_in (inI_L hc) (by decide) (by decide) ?_⟩
    by_cases h2 : 65 ≤ c ∧ c ≤ 90
    · rw [if_pos h2]
      rw [if_pos (Or.inr h2)] at h
      exact ⟨fun z => absurd z (by decide), fun _ => h⟩
    · rw [if_neg h2]
      rw [if_neg (fun z => z.elim h1 h2)] at h
      exact ⟨fun _ => h, fun z => absurd rfl z⟩
theorem sp_isDM {c : Int} (hD : 1 ≤ D) (hc : inI c) (h : K (.inl (some (vI (if isD c then 1 else 0)))) w) : Cal g LM jMd_isDigit D [vI c] w K := by
  obtain ⟨d, rfl⟩ : ∃ d, D = d + 1 := ⟨D - 1, by omega⟩
  refine Cal.ofV (by decide) rfl (Nat.le_of_ble_eq_true rfl) (s_Md_isDigit (sp_in (inI_L hc) (by decide) (by decide) ⟨?_, h⟩))
  split
  · exact Or.inr rfl
  · exact Or.inl rfl
theorem it_loop {a n o : Nat} (hD : 3 ≤ D) (ho : 1001 ≤ o ∧ o < 1060) (hn : n = (sB (o - 1001)).length) (ha : a + n ≤ 4020) (h1 : mtb (w 3) a (sB (o - 1001)) = true → K (.inl (some (vI 1))) w) (h0 : ¬ mtb (w 3) a (sB (o - 1001)) = true → K (.inl (some (vI 0))) w) :
    ∀ (m j : Nat), j + m = n → (∀ q, q < j → w 3 (a + q) = (sB (o - 1001)).getD q 0) → V g LM jMd_isText (D + 1) K 18 [(0, vA 0), (1, vI (a : Int)), (2, vI (n : Int)), (3, vA o), (4, vI 1), (5, vI (j : Int))] [] w := by
  intro m
  induction m with
  | zero =>
    intro j hj hq
    refine s_Md_isText_18 ⟨fun _ => ⟨Or.inr rfl, h1 ?_⟩, fun c => absurd (by omega) c⟩
    rw [mtb_iff]
    intro q hq2
    exact hq q (by omega)
  | succ m ih =>
    intro j hj hq
    have e0 : wr ((a : Int) + (j : Int)) = ((a + j : Nat) : Int) := wrN (by omega) (by omega)
    refine s_Md_isText_18 ⟨fun c => absurd c (by omega), fun _ => ⟨fun z => absurd z (by decide), fun _ => ?_⟩⟩
    rw [e0, toN, wr_n1 (by omega)]
    refine ⟨by omega, ho, sp_charAtD hD ho (by omega) ?_⟩
    rw [toN]
    refine ⟨fun c => ?_, fun c => ?_⟩
    · have hk : K (.inl (some (vI 0))) w := h0 (fun z => c ((mtb_iff _ _).mp z j (by omega)))
      by_cases hl : j + 1 < n
      · exact s_Md_isText_18 ⟨fun _ => ⟨Or.inl rfl, hk⟩, fun _ => ⟨fun _ => ⟨Or.inl rfl, hk⟩, fun z => absurd rfl z⟩⟩
      · exact s_Md_isText_18 ⟨fun _ => ⟨Or.inl rfl, hk⟩, fun _ => ⟨fun _ => ⟨Or.inl rfl, hk⟩, fun z => absurd rfl z⟩⟩
    · refine ih (j + 1) (by omega) (fun q hq2 => ?_)
      by_cases h3 : q = j
      · rw [h3]; exact c
      · exact hq q (by omega)
theorem sp_isText {a n o : Nat} (hD : 4 ≤ D) (ho : 1001 ≤ o ∧ o < 1060) (ha : a + n ≤ 4020) (h1 : n = (sB (o - 1001)).length → mtb (w 3) a (sB (o - 1001)) = true → K (.inl (some (vI 1))) w) (h0 : ¬ (n = (sB (o - 1001)).length ∧ mtb (w 3) a (sB (o - 1001)) = true) → K (.inl (some (vI 0))) w) : Cal g LM jMd_isText D [vA 0, vI (a : Int), vI (n : Int), vA o] w K := by
  obtain ⟨d, rfl⟩ : ∃ d, D = d + 1 := ⟨D - 1, by omega⟩
  refine Cal.ofV (by decide) rfl (Nat.le_of_ble_eq_true rfl) (s_Md_isText ⟨ho, sp_lengthD (by omega) ho ⟨fun c => ?_, fun c => ?_⟩⟩)
  · have hk : K (.inl (some (vI 0))) w := h0 (fun z => c (by rw [z.1]))
    exact s_Md_isText_18 ⟨fun _ => ⟨Or.inl rfl, hk⟩, fun _ => ⟨fun _ => ⟨Or.inl rfl, hk⟩, fun z => absurd rfl z⟩⟩
  · have hn : n = (sB (o - 1001)).length := by omega
    exact it_loop (by omega) ho hn ha (h1 hn) (fun z => h0 (fun q => z q.2)) n 0 (by omega) (fun q hq => absurd hq (Nat.not_lt_zero _))
/-- a token more in the model -/
def putM (w : Wd) (t : Nat) (k f e v : Int) : Wd := up (up (up (up (up w 4 t k) 5 t f) 6 t e) 7 t v) 0 10 ((t + 1 : Nat) : Int)
theorem sp_token {t : Nat} {k f e v : Int} (ht : w 0 10 = (t : Int)) (hb : t < 4022) (h : K (.inl none) (putM w t k f e v)) : Cal g LM jMd_token D [vA 0, vI k, vI f, vI e, vI v] w K := by
  refine Cal.ofV (by decide) rfl (Nat.le_of_ble_eq_true rfl) (s_Md_token ?_)
  rw [ht, toN, wr_n1 (by omega)]
  exact ⟨by omega, by omega, by omega, by omega, h⟩
end ModelLex
