/-! ===== the model reads: TOKENS, words, the rows of exps ===== -/
/-- the model's TOKENS up to the first that is none (m) -/
def TxM (T : Nat → Int) (L m : Nat) (w : Wd) : Prop := MTk w T L (m + 1) ∧ m ≤ 4000 ∧ (∀ k, k < m → 2 ≤ kdT T L k) ∧ kdT T L m ≤ 1 ∧ w 3 = T ∧ L ≤ 4000
/-- what the model throws -/
def ErM (T : Nat → Int) (L : Nat) (w : Wd) (e : Nat × Nat) : Prop := w 1 0 = (e.1 : Int) ∧ w 1 1 = ((tAt T L e.2 : Nat) : Int)
def MS (w : Wd) (i n dep : Nat) : Prop := w 0 11 = (i : Int) ∧ w 0 40 = (n : Int) ∧ w 0 44 = (dep : Int)
def FMx (w w' : Wd) : Prop := Fx [0, 1, 26, 27, 28, 29, 30, 31, 32, 33] w w' ∧ ∀ b, b ≠ 11 → b ≠ 40 → b ≠ 44 → w' 0 b = w 0 b
def LoX (w w' : Wd) (n : Nat) : Prop := ∀ x, x < n → ∀ o, 26 ≤ o → o ≤ 33 → w' o x = w o x
def nX : Tr → Nat
  | .leaf => 0
  | .inner c _ _ l r => nX l + nX r + (if c = 7 ∨ c = 9 then 0 else 1)
def nXl : Tr → Nat
  | .leaf => 0
  | .inner _ _ _ l _ => nX l
def lf_ : Tr → Tr
  | .leaf => .leaf
  | .inner _ _ _ l _ => l
def rt_ : Tr → Tr
  | .leaf => .leaf
  | .inner _ _ _ _ r => r
def kdM (c : Nat) : Int := if c = 3 then 0 else if c = 2 then 3 else if c = 31 then 1 else if c = 32 then 2 else 6
/-- the rows hold the exp a, its first node at lo -/
def AR (kd : Nat → Nat) (w : Wd) : Tr → Nat → Prop
  | .leaf, _ => True
  | .inner c t _ l r, lo => AR kd w l lo ∧ AR kd w r (lo + nX l) ∧ (nX l ≠ 0 → c ≠ 7 → c ≠ 9 → w 28 (lo + nX l - 1) = ((fst_ l : Nat) : Int)) ∧ (nX r ≠ 0 → c ≠ 4 → c ≠ 7 → c ≠ 9 → w 28 (lo + nX l + nX r - 1) = ((fst_ r : Nat) : Int)) ∧ (c ≠ 7 → c ≠ 9 → w 27 (lo + nX l + nX r) = (t : Int) ∧ w 26 (lo + nX l + nX r) = (if c = 0 then kdM (kd t) else if c = 1 then 4 else if c = 2 then 5 else if c = 3 then 7 else if c = 4 then 8 else if c = 5 then (if kd t = 16 then 9 else 10) else 11)) ∧ (c = 3 ∨ c = 4 ∨ c = 5 ∨ c = 6 → w 29 (lo + nX l + nX r) = ((lo + nX l - 1 : Nat) : Int)) ∧ (c = 6 → w 30 (lo + nX l + nX r) = ((lo + nX l + nX r - 1 : Nat) : Int)) ∧ (c = 4 → w 30 (lo + nX l + nX r) = ((lo + nX l + nXl r - 1 : Nat) : Int) ∧ w 31 (lo + nX l + nX r) = ((lo + nX l + nX r - 1 : Nat) : Int) ∧ (nX l + nXl r ≠ 0 → nXl r ≤ nX r → w 28 (lo + nX l + nXl r - 1) = ((fst_ (lf_ r) : Nat) : Int)) ∧ (nX r ≠ 0 → w 28 (lo + nX l + nX r - 1) = ((fst_ (rt_ r) : Nat) : Int)))
theorem nX_pos : ∀ (a : Tr), WE a → 1 ≤ nX a
  | .leaf, h => h.elim
  | .inner c t q l r, h => by
    have hl := nX_pos l
    have hr := nX_pos r
    simp only [WE] at h
    simp only [nX]
    rcases h with ⟨rfl, rfl, rfl⟩ | ⟨rfl, rfl, rfl⟩ | ⟨rfl, rfl, rfl⟩ | ⟨rfl, h1, rfl⟩ | ⟨rfl, h1, -⟩ | ⟨rfl, h1, -⟩ | ⟨rfl, h1, rfl⟩ | ⟨rfl, h1, -⟩ | ⟨rfl, h1, rfl⟩
    · simp
    · simp
    · simp
    · have := hl h1; omega
    · have := hl h1; omega
    · have := hl h1; omega
    · have := hl h1; omega
    · have := hl h1; omega
    · have := hl h1; omega
theorem nX_nD : ∀ a : Tr, nX a ≤ nD a
  | .leaf => Nat.le_refl _
  | .inner c t q l r => by
    have h1 := nX_nD l
    have h2 := nX_nD r
    simp only [nX, nD]
    by_cases h7 : c = 7
    · simp [h7]; omega
    · simp only [h7, false_or, if_false]
      split <;> omega
theorem AR.congr {kd : Nat → Nat} {w w' : Wd} : ∀ (a : Tr) (lo : Nat), AR kd w a lo → (∀ x, lo ≤ x → x < lo + nX a → ∀ o, 26 ≤ o → o ≤ 31 → (o = 28 → x + 1 < lo + nX a) → w' o x = w o x) → AR kd w' a lo
  | .leaf, lo, h, hx => trivial
  | .inner c t q l r, lo, h, hx => by
    obtain ⟨h1, h2, h3, h4, h5, h6, h7, h8⟩ := h
    have hn : nX (.inner c t q l r) = nX l + nX r + (if c = 7 ∨ c = 9 then 0 else 1) := rfl
    rw [hn] at hx
    have hle : nX l + nX r ≤ nX l + nX r + (if c = 7 ∨ c = 9 then 0 else 1) := Nat.le_add_right _ _
    have he : c ≠ 7 → c ≠ 9 → (if c = 7 ∨ c = 9 then 0 else 1) = 1 := fun z1 z2 => by simp [z1, z2]
    refine ⟨AR.congr l lo h1 (fun x a b o p1 p2 p3 => hx x a (by omega) o p1 p2 (fun z => by have := p3 z; omega)), AR.congr r (lo + nX l) h2 (fun x a b o p1 p2 p3 => hx x (by omega) (by omega) o p1 p2 (fun z => by have := p3 z; omega)), fun z z2 z3 => ?_, fun z z2 z3 z4 => ?_, fun z z2 => ?_, fun z => ?_, fun z => ?_, fun z => ?_⟩
    · have := he z2 z3
      rw [hx _ (by omega) (by omega) 28 (by decide) (by decide) (fun _ => by omega)]; exact h3 z z2 z3
    · have := he z3 z4
      rw [hx _ (by omega) (by omega) 28 (by decide) (by decide) (fun _ => by omega)]; exact h4 z z2 z3 z4
    · have := he z z2
      rw [hx _ (by omega) (by omega) 27 (by decide) (by decide) (fun q => by omega), hx _ (by omega) (by omega) 26 (by decide) (by decide) (fun q => by omega)]; exact h5 z z2
    · have := he (by omega) (by omega)
      rw [hx _ (by omega) (by omega) 29 (by decide) (by decide) (fun q => by omega)]; exact h6 z
    · have := he (by omega) (by omega)
      rw [hx _ (by omega) (by omega) 30 (by decide) (by decide) (fun q => by omega)]; exact h7 z
    · have := he (by omega) (by omega)
      obtain ⟨k1, k2, k3, k4⟩ := h8 z
      refine ⟨?_, ?_, fun q q2 => ?_, fun q => ?_⟩
      · rw [hx _ (by omega) (by omega) 30 (by decide) (by decide) (fun q => by omega)]; exact k1
      · rw [hx _ (by omega) (by omega) 31 (by decide) (by decide) (fun q => by omega)]; exact k2
      · rw [hx _ (by omega) (by omega) 28 (by decide) (by decide) (fun _ => by omega)]; exact k3 q q2
      · rw [hx _ (by omega) (by omega) 28 (by decide) (by decide) (fun _ => by omega)]; exact k4 q
section ModelRead
variable {g : Mg} {D : Nat} {K : Ou → Wd → Prop} {w : Wd} {T : Nat → Int} {L m : Nat}
theorem sp_isM {c o i : Nat} (hD : 5 ≤ D) (hM : TxM T L m w) (hat : w 0 11 = (i : Int)) (hi : i ≤ m) (ho : 1001 ≤ o ∧ o < 1060) (hc : sB (o - 1001) = sgn c ∧ 4 ≤ c ∧ c < 60) (h : K (.inl (some (vI (if kdT T L i = c then 1 else 0)))) w) : Cal g LM jMd_is D [vA 0, vA o] w K := by
  obtain ⟨d, rfl⟩ : ∃ d, D = d + 1 := ⟨D - 1, by omega⟩
  obtain ⟨hk, hm4, -, -, h3, hL4⟩ := hM
  obtain ⟨k4, k5, k6, -⟩ := hk i (by omega)
  have hbd : tAt T L i + tSz T L i ≤ 4020 := by
    unfold tSz
    have := tAt_le T L i
    split
    · rename_i hlt
      have := tEn_gt (T := T) hlt
      omega
    · omega
  have h1 : kdT T L i = c → K (.inl (some (vI 1))) w := fun z => by rw [if_pos z] at h; exact h
  have h0 : ¬ kdT T L i = c → K (.inl (some (vI 0))) w := fun z => by rw [if_neg z] at h; exact h
  have hlt : 4 ≤ kdT T L i → tAt T L i < L := fun z => by
    by_cases q : tAt T L i < L
    · exact q
    · unfold kdT at z; rw [if_neg q] at z; omega
  have htx : 4 ≤ kdT T L i → Cal g LM jMd_isText d [vA 0, vI (w 5 i), vI (w 6 i), vA o] w (fun o w1 => rIt o (fun b => K (.inr b) w1) (fun x2 => (x2 = 0 → (K (.inl (some (vI 0))) w1)) ∧ (¬ x2 = 0 → (K (.inl (some (vI 1))) w1)))) := by
    intro h4
    have hl := hlt h4
    have e1 := kdT_at hl
    rw [e1] at h4
    obtain ⟨t1, t2, t3⟩ := tKd_text h4
    rw [k5, k6]
    refine sp_isText (by omega) ho hbd (fun q1 q2 => ⟨fun z => absurd z (by decide), fun _ => h1 ?_⟩) (fun q => ⟨fun _ => h0 (fun z => q ?_), fun z => absurd rfl z⟩)
    · rw [hc.1] at q1 q2
      rw [h3] at q2
      have hs := tSz_at hl
      have := mtb_eq t3 q2 (by rw [← t2, ← hs, q1])
      rw [e1]
      exact sgn_inj _ t1 _ hc.2.2 h4 hc.2.1 this
    · rw [hc.1, ← z, h3, e1]
      exact ⟨by rw [tSz_at hl, t2], t3⟩
  refine Cal.ofV (by decide) rfl (Nat.le_of_ble_eq_true rfl) (s_Md_is ?_)
  rw [hat, toN, k4]
  have hb : (0 : Int) ≤ (i : Int) ∧ (i : Int) < 4022 := by omega
  have hmk : (4 ≤ kdT T L i ↔ mkd (kdT T L i) = 2 ∨ mkd (kdT T L i) = 3) := by
    unfold mkd
    constructor
    · intro z
      rw [if_neg (by omega), if_neg (by omega), if_neg (by omega), if_neg (by omega)]
      split <;> simp
    · intro z
      by_cases q0 : kdT T L i = 0
      · rw [if_pos q0] at z; omega
      by_cases q1 : kdT T L i = 1
      · rw [if_neg q0, if_pos q1] at z; omega
      by_cases q2 : kdT T L i = 2
      · rw [if_neg q0, if_neg q1, if_pos q2] at z; omega
      by_cases q3 : kdT T L i = 3
      · rw [if_neg q0, if_neg q1, if_neg q2, if_pos q3] at z; omega
      omega
  refine ⟨hb, fun z => ⟨hb, hb, htx (hmk.mpr (Or.inr z))⟩, fun z => ⟨fun z2 => h0 (fun q => ?_), fun z2 => ⟨hb, hb, htx (hmk.mpr (Or.inl z2))⟩⟩⟩
  have : 4 ≤ kdT T L i := by omega
  rcases hmk.mp this with q1 | q1
  · exact z2 q1
  · exact z q1
theorem sp_placeM {i : Nat} (hM : TxM T L m w) (hi : i ≤ m) (h : K (.inl (some (vI ((tAt T L i : Nat) : Int)))) w) : Cal g LM jMd_placeOf D [vA 0, vI (i : Int)] w K := by
  obtain ⟨hk, hm4, -⟩ := hM
  obtain ⟨k4, k5, k6, -⟩ := hk i (by omega)
  refine Cal.ofV (by decide) rfl (Nat.le_of_ble_eq_true rfl) (s_Md_placeOf ?_)
  rw [toN, k5]
  exact ⟨by omega, h⟩
theorem sp_fail {f p : Nat} (h : K (.inr 1) (up (up w 1 0 (f : Int)) 1 1 (p : Int))) : Cal g LM jMd_fail D [vA 0, vI (f : Int), vI (p : Int)] w K :=
  Cal.ofV (by decide) rfl (Nat.le_of_ble_eq_true rfl) (s_Md_fail h)
/-- behind a throw -/
def thW (T : Nat → Int) (L : Nat) (w : Wd) (e : Nat × Nat) : Wd := up (up w 1 0 (e.1 : Int)) 1 1 ((tAt T L e.2 : Nat) : Int)
theorem thW_er (T : Nat → Int) (L : Nat) (w : Wd) (e : Nat × Nat) : ErM T L (thW T L w e) e := ⟨by unfold thW; rw [up_k (by decide), up_s], up_s _ _ _ _⟩
theorem thW_fx (T : Nat → Int) (L : Nat) (w : Wd) (e : Nat × Nat) : Fx [1] w (thW T L w e) := ((Fx.rf _ w).up (by decide)).up (by decide)
/-- past the TOKEN -/
def psM (i : Nat) : PE Nat := if 1000 ≤ i then .error (2, i) else .ok (i + 1)
theorem sp_passM {i : Nat} (hD : 1 ≤ D) (hM : TxM T L m w) (hat : w 0 11 = (i : Int)) (hi : i ≤ m) (hi2 : i ≤ 1000) (h : ∀ j, psM i = .ok j → K (.inl (some (vI (i : Int)))) (up w 0 11 (j : Int))) (he : ∀ e, psM i = .error e → K (.inr 1) (thW T L w e)) : Cal g LM jMd_pass D [vA 0] w K := by
  obtain ⟨d, rfl⟩ : ∃ d, D = d + 1 := ⟨D - 1, by omega⟩
  refine Cal.ofV (by decide) rfl (Nat.le_of_ble_eq_true rfl) (s_Md_pass ⟨fun c => ?_, fun c => ?_⟩)
  · rw [hat] at c ⊢
    have e1 : wr (((i + 1 : Nat) : Int) - 1) = (i : Int) := wrN (by omega) (by omega)
    rw [wr_n1 (by omega), e1]
    exact h (i + 1) (by unfold psM; rw [if_neg (by omega)])
  · rw [hat] at c ⊢
    exact sp_placeM hM hi (sp_fail (f := 2) (he (2, i) (by unfold psM; rw [if_pos (by omega)])))
theorem sp_mustM {c o i : Nat} (hD : 6 ≤ D) (hM : TxM T L m w) (hat : w 0 11 = (i : Int)) (hi : i ≤ m) (hi2 : i ≤ 1000) (ho : 1001 ≤ o ∧ o < 1060) (hc : sB (o - 1001) = sgn c ∧ 4 ≤ c ∧ c < 60) (h : ∀ j, ex (kdT T L) c i = .ok j → K (.inl (some (vI (i : Int)))) (up w 0 11 (j : Int))) (he : ∀ e, ex (kdT T L) c i = .error e → K (.inr 1) (thW T L w e)) : Cal g LM jMd_must D [vA 0, vA o] w K := by
  obtain ⟨d, rfl⟩ : ∃ d, D = d + 1 := ⟨D - 1, by omega⟩
  refine Cal.ofV (by decide) rfl (Nat.le_of_ble_eq_true rfl) (s_Md_must (sp_isM (by omega) hM hat hi ho hc ⟨fun z => ?_, fun z => ?_⟩))
  · have hk : kdT T L i = c := by
      by_cases q : kdT T L i = c
      · exact q
      · rw [if_neg q] at z; exact absurd rfl z
    refine sp_passM (by omega) hM hat hi hi2 (fun j hj => h j ?_) (fun e hj => he e ?_)
    · unfold ex; rw [if_pos hk]; exact hj
    · unfold ex; rw [if_pos hk]; exact hj
  · have hk : ¬ kdT T L i = c := fun q => by rw [if_pos q] at z; exact absurd z (by decide)
    rw [hat]
    exact sp_placeM hM hi (sp_fail (f := 1) (he (1, i) (by unfold ex; rw [if_neg hk])))
theorem sp_mustName {i : Nat} (hD : 1 ≤ D) (hM : TxM T L m w) (hat : w 0 11 = (i : Int)) (hi : i ≤ m) (h : kdT T L i = 2 → K (.inl (some (vI (i : Int)))) w) (he : ¬ kdT T L i = 2 → K (.inr 1) (thW T L w (1, i))) : Cal g LM jMd_mustName D [vA 0] w K := by
  obtain ⟨d, rfl⟩ : ∃ d, D = d + 1 := ⟨D - 1, by omega⟩
  obtain ⟨hk, hm4, -⟩ := id hM
  obtain ⟨k4, k5, k6, -⟩ := hk i (by omega)
  have hmk : mkd (kdT T L i) = 0 ↔ kdT T L i = 2 := by
    unfold mkd
    constructor
    · intro z
      by_cases q0 : kdT T L i = 0
      · rw [if_pos q0] at z; omega
      by_cases q1 : kdT T L i = 1
      · rw [if_neg q0, if_pos q1] at z; omega
      by_cases q2 : kdT T L i = 2
      · exact q2
      by_cases q3 : kdT T L i = 3
      · rw [if_neg q0, if_neg q1, if_neg q2, if_pos q3] at z; omega
      · rw [if_neg q0, if_neg q1, if_neg q2, if_neg q3] at z
        split at z <;> omega
    · intro z
      rw [if_neg (by omega), if_neg (by omega), if_pos z]
  refine Cal.ofV (by decide) rfl (Nat.le_of_ble_eq_true rfl) (s_Md_mustName ?_)
  rw [hat, toN, k4]
  exact ⟨by omega, fun z => h (hmk.mp z), fun z => sp_placeM hM hi (sp_fail (f := 1) (he (fun q => z (hmk.mpr q))))⟩
/-- a node more -/
def exW (w : Wd) (n : Nat) (k t f a b : Int) : Wd := up (up (up (up (up (up (up (up (up w 26 n k) 27 n t) 28 n f) 29 n a) 30 n b) 31 n (-2)) 32 n (-2)) 33 n (-2)) 0 40 ((n + 1 : Nat) : Int)
theorem sp_expM {n : Nat} {k t f a b : Int} (hn : w 0 40 = (n : Int)) (hn2 : n < 2000) (h : K (.inl (some (vI (n : Int)))) (exW w n k t f a b)) : Cal g LM jMd_exp D [vA 0, vI k, vI t, vI f, vI a, vI b] w K := by
  refine Cal.ofV (by decide) rfl (Nat.le_of_ble_eq_true rfl) (s_Md_exp ?_)
  rw [hn, toN, wr_n1 (by omega)]
  exact ⟨by omega, by omega, by omega, by omega, by omega, by omega, by omega, by omega, h⟩
end ModelRead
