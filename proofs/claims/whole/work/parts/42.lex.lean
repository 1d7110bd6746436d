/-! ===== the text's pieces, purely: T the bytes, L how many ===== -/
abbrev isL (c : Int) : Prop := (97 ≤ c ∧ c ≤ 122) ∨ (65 ≤ c ∧ c ≤ 90)
abbrev isD (c : Int) : Prop := 48 ≤ c ∧ c ≤ 57
/-- behind blanks and remarks -/
def sk (T : Nat → Int) (L : Nat) (r : Bool) (i : Nat) : Nat :=
  if L ≤ i then L else if T i = 10 then sk T L false (i + 1) else if T i = 35 then sk T L true (i + 1) else if r = true then sk T L true (i + 1) else if T i = 32 then sk T L false (i + 1) else i
termination_by L - i
/-- the end of a row of letters and digits -/
def eW (T : Nat → Int) (L : Nat) (i : Nat) : Nat := if L ≤ i then i else if isL (T i) ∨ isD (T i) then eW T L (i + 1) else i
termination_by L - i
/-- the end of a row of digits -/
def eD (T : Nat → Int) (L : Nat) (i : Nat) : Nat := if L ≤ i then i else if isD (T i) then eD T L (i + 1) else i
termination_by L - i
/-- a number's value, 2147483648 for what is too great -/
def vD (T : Nat → Int) (L : Nat) (v : Int) (i : Nat) : Int := if L ≤ i then v else if isD (T i) then vD T L (if 2147483648 < v * 10 + (T i - 48) then 2147483648 else v * 10 + (T i - 48)) (i + 1) else v
termination_by L - i
theorem sk_le (T : Nat → Int) (L : Nat) : ∀ (n : Nat) (r : Bool) (i : Nat), L - i ≤ n → i ≤ sk T L r i ∨ L ≤ i := by
  intro n
  induction n with
  | zero => intro r i h; exact Or.inr (by omega)
  | succ n ih =>
    intro r i h
    by_cases hi : L ≤ i
    · exact Or.inr hi
    · left
      have step : ∀ r', i ≤ sk T L r' (i + 1) := by
        intro r'
        rcases ih r' (i + 1) (by omega) with h1 | h1
        · omega
        · rw [sk, if_pos h1]; omega
      rw [sk, if_neg hi]
      split
      · exact step _
      · split
        · exact step _
        · split
          · exact step _
          · split
            · exact step _
            · exact Nat.le_refl _
theorem sk_ge {T : Nat → Int} {L : Nat} {r : Bool} {i : Nat} (h : i ≤ L) : i ≤ sk T L r i := by
  rcases sk_le T L (L - i) r i (Nat.le_refl _) with h1 | h1
  · exact h1
  · rw [sk, if_pos h1]; exact h
theorem sk_L (T : Nat → Int) (L : Nat) : ∀ (n : Nat) (r : Bool) (i : Nat), L - i ≤ n → sk T L r i ≤ L := by
  intro n
  induction n with
  | zero => intro r i h; rw [sk, if_pos (by omega)]; exact Nat.le_refl _
  | succ n ih =>
    intro r i h
    by_cases hi : L ≤ i
    · rw [sk, if_pos hi]; exact Nat.le_refl _
    · rw [sk, if_neg hi]
      have step : ∀ r', sk T L r' (i + 1) ≤ L := fun r' => ih r' (i + 1) (by omega)
      split
      · exact step _
      · split
        · exact step _
        · split
          · exact step _
          · split
            · exact step _
            · omega
theorem sk_lt {T : Nat → Int} {L : Nat} {r : Bool} {i : Nat} : sk T L r i ≤ L := sk_L T L (L - i) r i (Nat.le_refl _)
theorem eW_ge (T : Nat → Int) (L : Nat) : ∀ (n i : Nat), L - i ≤ n → i ≤ eW T L i ∧ (i ≤ L → eW T L i ≤ L) := by
  intro n
  induction n with
  | zero => intro i h; rw [eW, if_pos (by omega)]; exact ⟨Nat.le_refl _, id⟩
  | succ n ih =>
    intro i h
    rw [eW]
    split
    · exact ⟨Nat.le_refl _, id⟩
    · split
      · have := ih (i + 1) (by omega); exact ⟨by omega, fun _ => this.2 (by omega)⟩
      · exact ⟨Nat.le_refl _, id⟩
theorem eD_ge (T : Nat → Int) (L : Nat) : ∀ (n i : Nat), L - i ≤ n → i ≤ eD T L i ∧ (i ≤ L → eD T L i ≤ L) := by
  intro n
  induction n with
  | zero => intro i h; rw [eD, if_pos (by omega)]; exact ⟨Nat.le_refl _, id⟩
  | succ n ih =>
    intro i h
    rw [eD]
    split
    · exact ⟨Nat.le_refl _, id⟩
    · split
      · have := ih (i + 1) (by omega); exact ⟨by omega, fun _ => this.2 (by omega)⟩
      · exact ⟨Nat.le_refl _, id⟩
/-- the words in the class's order -/
def clW (k : Nat) : List Int := match k with
  | 0 => sB 5 | 1 => sB 6 | 2 => sB 9 | 3 => sB 10 | 4 => sB 11 | 5 => sB 12 | 6 => sB 7 | 7 => sB 8 | 8 => sB 13 | 9 => sB 14 | 10 => sB 15 | 11 => sB 16 | 12 => sB 17 | 13 => sB 18 | 14 => sB 3 | 15 => sB 4 | 16 => sB 19 | 17 => sB 20 | 18 => sB 21 | 19 => sB 22 | 20 => sB 23 | 21 => sB 24 | 22 => sB 25 | 23 => sB 26 | 24 => sB 27 | 25 => sB 28 | 26 => sB 29 | 27 => sB 30 | 28 => sB 31 | 29 => sB 32 | 30 => sB 33 | 31 => sB 34 | 32 => sB 35 | _ => []
/-- the bytes from i on are this row -/
def mtb (T : Nat → Int) (i : Nat) : List Int → Bool
  | [] => true
  | c :: l => decide (T i = c) && mtb T (i + 1) l
/-- words k .. 32: the first that the n bytes from i on are, as the class counts kinds (27 the first word, 2 a NAME) -/
def wKd (T : Nat → Int) (i n : Nat) : Nat → Nat → Nat
  | 0, _ => 2
  | f + 1, k => if (clW k).length = n ∧ mtb T i (clW k) = true then 27 + k else wKd T i n f (k + 1)
/-- the signs of two: which one stands at i; the signs of one -/
def pKd (a b : Int) : Option Nat := if a = 61 ∧ b = 61 then some 0 else if a = 33 ∧ b = 61 then some 1 else if a = 60 ∧ b = 61 then some 2 else if a = 62 ∧ b = 61 then some 3 else if a = 38 ∧ b = 38 then some 4 else if a = 124 ∧ b = 124 then some 5 else none
def ixF : List Int → Int → Nat → Option Nat
  | [], _, _ => none
  | x :: l, c, k => if x = c then some k else ixF l c (k + 1)
/-- a TOKEN at i (no blank there): its kind as the class counts, its end, its value -/
def tKd (T : Nat → Int) (L i : Nat) : Nat :=
  if isL (T i) then (if 12 < eW T L i - i then 1 else wKd T i (eW T L i - i) 33 0)
  else if isD (T i) then (if vD T L 0 i < 2147483648 then 3 else 1)
  else match (if i + 1 < L then pKd (T i) (T (i + 1)) else none) with
    | some k => 21 + k
    | none => match ixF (sB 0) (T i) 0 with
      | some k => 4 + k
      | none => 1
def tEn (T : Nat → Int) (L i : Nat) : Nat :=
  if isL (T i) then eW T L i else if isD (T i) then eD T L i
  else match (if i + 1 < L then pKd (T i) (T (i + 1)) else none) with
    | some _ => i + 2
    | none => i + 1
def tVl (T : Nat → Int) (L i : Nat) : Int := if isL (T i) then 0 else if isD (T i) then l2iF (vD T L 0 i) else 0
/-- the place of TOKEN k (L where there is none) -/
def tAt (T : Nat → Int) (L : Nat) : Nat → Nat
  | 0 => sk T L false 0
  | k + 1 => if tAt T L k < L then sk T L false (tEn T L (tAt T L k)) else L
theorem tEn_gt {T : Nat → Int} {L i : Nat} (h : i < L) : i < tEn T L i ∧ tEn T L i ≤ L := by
  unfold tEn
  split
  · rename_i h1
    have h2 := eW_ge T L (L - (i + 1)) (i + 1) (Nat.le_refl _)
    rw [eW, if_neg (by omega), if_pos (Or.inl h1)]
    exact ⟨by omega, h2.2 (by omega)⟩
  · split
    · rename_i h1
      have h2 := eD_ge T L (L - (i + 1)) (i + 1) (Nat.le_refl _)
      rw [eD, if_neg (by omega), if_pos h1]
      exact ⟨by omega, h2.2 (by omega)⟩
    · by_cases h3 : i + 1 < L
      · rw [if_pos h3]
        split <;> omega
      · rw [if_neg h3]
        simp only []
        omega
theorem tAt_le (T : Nat → Int) (L k : Nat) : tAt T L k ≤ L := by
  cases k with
  | zero => exact sk_lt
  | succ k =>
    rw [tAt]
    split
    · exact sk_lt
    · exact Nat.le_refl _
theorem tAt_mono {T : Nat → Int} {L k : Nat} (h : tAt T L k < L) : tAt T L k < tAt T L (k + 1) := by
  rw [tAt.eq_2, if_pos h]
  have h1 := tEn_gt (T := T) h
  have h2 := sk_ge (T := T) (r := false) h1.2
  omega
