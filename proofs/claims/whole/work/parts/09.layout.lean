/-! ===== the layouts: the class (cells 0 .. 104), the model (0 .. 53) ===== -/
def lyLC : List (Nat × Nat) := [(11, 7), (101, 4000), (9, 7), (101, 4000), (100, 1002), (100, 1002), (100, 1002), (100, 1002), (7, 11), (100, 8), (100, 4), (100, 4), (101, 5000), (4, 7), (100, 28), (100, 28), (100, 28), (100, 28), (100, 5), (0, 6), (100, 1024), (100, 1024), (100, 1024), (100, 1024), (8, 7), (1, 6), (2, 9), (100, 1002), (100, 1002), (100, 1002), (102, 1002), (3, 13), (100, 120), (100, 120), (100, 480), (100, 40), (100, 40), (100, 40), (100, 40), (100, 120), (100, 40), (100, 40), (100, 120), (5, 13), (103, 8), (6, 8), (100, 320), (102, 40), (100, 160), (100, 160), (100, 4), (100, 4), (6, 8), (100, 320), (102, 40), (100, 160), (100, 160), (100, 4), (100, 4), (6, 8), (100, 320), (102, 40), (100, 160), (100, 160), (100, 4), (100, 4), (6, 8), (100, 320), (102, 40), (100, 160), (100, 160), (100, 4), (100, 4), (6, 8), (100, 320), (102, 40), (100, 160), (100, 160), (100, 4), (100, 4), (6, 8), (100, 320), (102, 40), (100, 160), (100, 160), (100, 4), (100, 4), (6, 8), (100, 320), (102, 40), (100, 160), (100, 160), (100, 4), (100, 4), (6, 8), (100, 320), (102, 40), (100, 160), (100, 160), (100, 4), (100, 4), (10, 18), (100, 64), (100, 8), (100, 16)]
def lyLM : List (Nat × Nat) := [(13, 93), (12, 2), (101, 4020), (101, 4020), (100, 4022), (100, 4022), (100, 4022), (100, 4022), (104, 33), (104, 23), (100, 30), (100, 30), (100, 30), (100, 30), (100, 30), (100, 30), (100, 5), (100, 130), (100, 130), (100, 130), (100, 130), (100, 130), (100, 130), (100, 130), (100, 130), (102, 130), (100, 2000), (100, 2000), (100, 2000), (100, 2000), (100, 2000), (100, 2000), (100, 2000), (100, 2000), (100, 130), (100, 130), (102, 30), (101, 12000), (100, 120), (100, 120), (100, 480), (100, 320), (102, 40), (100, 160), (100, 160), (100, 4), (100, 4), (100, 160), (100, 160), (100, 4), (100, 4), (100, 4200), (100, 700), (100, 130)]
def rfLC : List (Nat × Nat × Nat) := [(0, 0, 1), (0, 2, 2), (0, 3, 8), (0, 4, 24), (0, 5, 31), (0, 6, 43), (2, 0, 3), (2, 2, 4), (2, 3, 5), (2, 4, 6), (2, 5, 7), (8, 0, 13), (8, 1, 19), (8, 6, 9), (8, 7, 10), (8, 8, 11), (8, 9, 12), (13, 0, 2), (13, 1, 14), (13, 2, 15), (13, 3, 16), (13, 4, 17), (13, 5, 18), (19, 0, 20), (19, 1, 21), (19, 2, 22), (19, 3, 23), (24, 0, 2), (24, 1, 8), (24, 2, 13), (24, 3, 19), (24, 4, 25), (24, 5, 26), (25, 0, 2), (26, 0, 2), (26, 1, 25), (26, 2, 13), (26, 3, 19), (26, 5, 27), (26, 6, 28), (26, 7, 29), (26, 8, 30), (31, 2, 32), (31, 3, 33), (31, 4, 34), (31, 5, 35), (31, 6, 36), (31, 7, 37), (31, 8, 38), (31, 9, 39), (31, 10, 40), (31, 11, 41), (31, 12, 42), (43, 0, 8), (43, 1, 31), (43, 2, 101), (43, 3, 44), (101, 0, 8), (101, 1, 19), (101, 2, 31), (101, 3, 102), (101, 4, 103), (101, 5, 104)]
def rfLM : List (Nat × Nat × Nat) := [(0, 1, 1), (0, 2, 2), (0, 4, 3), (0, 6, 4), (0, 7, 5), (0, 8, 6), (0, 9, 7), (0, 12, 8), (0, 13, 9), (0, 14, 10), (0, 15, 11), (0, 16, 12), (0, 17, 13), (0, 18, 14), (0, 19, 15), (0, 21, 16), (0, 22, 17), (0, 23, 18), (0, 24, 19), (0, 25, 20), (0, 26, 21), (0, 27, 22), (0, 28, 23), (0, 29, 24), (0, 30, 25), (0, 32, 26), (0, 33, 27), (0, 34, 28), (0, 35, 29), (0, 36, 30), (0, 37, 31), (0, 38, 32), (0, 39, 33), (0, 48, 34), (0, 49, 35), (0, 54, 36), (0, 57, 37), (0, 61, 38), (0, 62, 39), (0, 63, 40), (0, 67, 41), (0, 68, 42), (0, 69, 43), (0, 70, 44), (0, 71, 45), (0, 72, 46), (0, 73, 47), (0, 74, 48), (0, 75, 49), (0, 76, 50), (0, 77, 51), (0, 79, 52), (0, 92, 53)]
def rfF (l : List (Nat × Nat × Nat)) (o k : Nat) : Option Nat := match l with
  | [] => none
  | q :: r => if q.1 = o ∧ q.2.1 = k then some q.2.2 else rfF r o k
theorem rfF_none {o : Nat} (k : Nat) : ∀ (l : List (Nat × Nat × Nat)), l.all (fun q => !(q.1 == o)) = true → rfF l o k = none
  | [], _ => rfl
  | q :: r, h => by
    simp only [List.all_cons, Bool.and_eq_true] at h
    have h1 : ¬ q.1 = o := by simpa using h.1
    rw [rfF, if_neg (fun z => h1 z.1)]
    exact rfF_none k r h.2
def rfC (o k : Nat) : Option Nat := if o = 44 then (if k < 8 then some (45 + 7 * k) else none) else if 45 ≤ o ∧ o < 101 then (if (o - 45) % 7 = 0 ∧ 2 ≤ k ∧ k < 8 then some (o + k - 1) else none) else rfF rfLC o k
def rfM (o k : Nat) : Option Nat := if o = 8 then (if k < 33 then some (1004 + k) else none) else if o = 9 then (if k < 23 then some (1037 + k) else none) else rfF rfLM o k
def LC : Ly := (fun o => lyLC.getD o (999, 0), rfC, 105)
def LM : Ly := (fun o => lyLM.getD o (999, 0), rfM, 54)
/-- the moments' cells -/
def isMo (q : Nat) : Prop := ∃ k, k < 8 ∧ q = 45 + 7 * k
theorem mo_cases {P : Nat → Prop} (h0 : P 45) (h1 : P 52) (h2 : P 59) (h3 : P 66) (h4 : P 73) (h5 : P 80) (h6 : P 87) (h7 : P 94) {q : Nat} (h : isMo q) : P q := by
  obtain ⟨k, hk, rfl⟩ := h
  rcases (by omega : k = 0 ∨ k = 1 ∨ k = 2 ∨ k = 3 ∨ k = 4 ∨ k = 5 ∨ k = 6 ∨ k = 7) with rfl | rfl | rfl | rfl | rfl | rfl | rfl | rfl <;> assumption
theorem mo_0 {q : Nat} (h : isMo q) : q < LC.nn ∧ LC.ly q = (6, 8) := mo_cases (P := fun q => q < LC.nn ∧ LC.ly q = (6, 8)) (by decide) (by decide) (by decide) (by decide) (by decide) (by decide) (by decide) (by decide) h

theorem mo_1 {q : Nat} (h : isMo q) : q + 1 < LC.nn ∧ LC.ly (q + 1) = (100, 320) := mo_cases (P := fun q => q + 1 < LC.nn ∧ LC.ly (q + 1) = (100, 320)) (by decide) (by decide) (by decide) (by decide) (by decide) (by decide) (by decide) (by decide) h
theorem mo_2 {q : Nat} (h : isMo q) : q + 2 < LC.nn ∧ LC.ly (q + 2) = (102, 40) := mo_cases (P := fun q => q + 2 < LC.nn ∧ LC.ly (q + 2) = (102, 40)) (by decide) (by decide) (by decide) (by decide) (by decide) (by decide) (by decide) (by decide) h
theorem mo_3 {q : Nat} (h : isMo q) : q + 3 < LC.nn ∧ LC.ly (q + 3) = (100, 160) := mo_cases (P := fun q => q + 3 < LC.nn ∧ LC.ly (q + 3) = (100, 160)) (by decide) (by decide) (by decide) (by decide) (by decide) (by decide) (by decide) (by decide) h
theorem mo_4 {q : Nat} (h : isMo q) : q + 4 < LC.nn ∧ LC.ly (q + 4) = (100, 160) := mo_cases (P := fun q => q + 4 < LC.nn ∧ LC.ly (q + 4) = (100, 160)) (by decide) (by decide) (by decide) (by decide) (by decide) (by decide) (by decide) (by decide) h
theorem mo_5 {q : Nat} (h : isMo q) : q + 5 < LC.nn ∧ LC.ly (q + 5) = (100, 4) := mo_cases (P := fun q => q + 5 < LC.nn ∧ LC.ly (q + 5) = (100, 4)) (by decide) (by decide) (by decide) (by decide) (by decide) (by decide) (by decide) (by decide) h
theorem mo_6 {q : Nat} (h : isMo q) : q + 6 < LC.nn ∧ LC.ly (q + 6) = (100, 4) := mo_cases (P := fun q => q + 6 < LC.nn ∧ LC.ly (q + 6) = (100, 4)) (by decide) (by decide) (by decide) (by decide) (by decide) (by decide) (by decide) (by decide) h
theorem mor_2 {q : Nat} (h : isMo q) : LC.rf q 2 = some (q + 1) := mo_cases (P := fun q => LC.rf q 2 = some (q + 1)) (by decide) (by decide) (by decide) (by decide) (by decide) (by decide) (by decide) (by decide) h
theorem mor_3 {q : Nat} (h : isMo q) : LC.rf q 3 = some (q + 2) := mo_cases (P := fun q => LC.rf q 3 = some (q + 2)) (by decide) (by decide) (by decide) (by decide) (by decide) (by decide) (by decide) (by decide) h
theorem mor_4 {q : Nat} (h : isMo q) : LC.rf q 4 = some (q + 3) := mo_cases (P := fun q => LC.rf q 4 = some (q + 3)) (by decide) (by decide) (by decide) (by decide) (by decide) (by decide) (by decide) (by decide) h
theorem mor_5 {q : Nat} (h : isMo q) : LC.rf q 5 = some (q + 4) := mo_cases (P := fun q => LC.rf q 5 = some (q + 4)) (by decide) (by decide) (by decide) (by decide) (by decide) (by decide) (by decide) (by decide) h
theorem mor_6 {q : Nat} (h : isMo q) : LC.rf q 6 = some (q + 5) := mo_cases (P := fun q => LC.rf q 6 = some (q + 5)) (by decide) (by decide) (by decide) (by decide) (by decide) (by decide) (by decide) (by decide) h
theorem mor_7 {q : Nat} (h : isMo q) : LC.rf q 7 = some (q + 6) := mo_cases (P := fun q => LC.rf q 7 = some (q + 6)) (by decide) (by decide) (by decide) (by decide) (by decide) (by decide) (by decide) (by decide) h
theorem mon_0 {q : Nat} (h : isMo q) : LC.rf q 0 = none := mo_cases (P := fun q => LC.rf q 0 = none) (by decide) (by decide) (by decide) (by decide) (by decide) (by decide) (by decide) (by decide) h
theorem mon_1 {q : Nat} (h : isMo q) : LC.rf q 1 = none := mo_cases (P := fun q => LC.rf q 1 = none) (by decide) (by decide) (by decide) (by decide) (by decide) (by decide) (by decide) (by decide) h
theorem moa_1 {q : Nat} (h : isMo q) (k : Nat) : LC.rf (q + 1) k = none := by
  obtain ⟨i, hi, rfl⟩ := h
  show rfC _ _ = none
  unfold rfC
  rw [if_neg (by omega), if_pos (by omega), if_neg (by omega)]
theorem moa_2 {q : Nat} (h : isMo q) (k : Nat) : LC.rf (q + 2) k = none := by
  obtain ⟨i, hi, rfl⟩ := h
  show rfC _ _ = none
  unfold rfC
  rw [if_neg (by omega), if_pos (by omega), if_neg (by omega)]
theorem moa_3 {q : Nat} (h : isMo q) (k : Nat) : LC.rf (q + 3) k = none := by
  obtain ⟨i, hi, rfl⟩ := h
  show rfC _ _ = none
  unfold rfC
  rw [if_neg (by omega), if_pos (by omega), if_neg (by omega)]
theorem moa_4 {q : Nat} (h : isMo q) (k : Nat) : LC.rf (q + 4) k = none := by
  obtain ⟨i, hi, rfl⟩ := h
  show rfC _ _ = none
  unfold rfC
  rw [if_neg (by omega), if_pos (by omega), if_neg (by omega)]
theorem moa_5 {q : Nat} (h : isMo q) (k : Nat) : LC.rf (q + 5) k = none := by
  obtain ⟨i, hi, rfl⟩ := h
  show rfC _ _ = none
  unfold rfC
  rw [if_neg (by omega), if_pos (by omega), if_neg (by omega)]
theorem moa_6 {q : Nat} (h : isMo q) (k : Nat) : LC.rf (q + 6) k = none := by
  obtain ⟨i, hi, rfl⟩ := h
  show rfC _ _ = none
  unfold rfC
  rw [if_neg (by omega), if_pos (by omega), if_neg (by omega)]
theorem rc_mom {k : Nat} (h : k < 8) : LC.rf 44 k = some (45 + 7 * k) := by show rfC 44 k = _; unfold rfC; rw [if_pos rfl, if_pos h]
theorem rm_words {k : Nat} (h : k < 33) : LM.rf 8 k = some (1004 + k) := by show rfM 8 k = _; unfold rfM; rw [if_pos rfl, if_pos h]
theorem rm_signs {k : Nat} (h : k < 23) : LM.rf 9 k = some (1037 + k) := by show rfM 9 k = _; unfold rfM; rw [if_neg (by decide), if_pos rfl, if_pos h]
theorem cC_0 : 0 < LC.nn ∧ LC.ly 0 = (11, 7) := by decide
theorem cC_1 : 1 < LC.nn ∧ LC.ly 1 = (101, 4000) := by decide
theorem aC_1 (k : Nat) : LC.rf 1 k = none := by
  show rfC 1 k = none
  unfold rfC
  rw [if_neg (by decide), if_neg (by decide)]
  exact rfF_none k _ (by decide)
theorem cC_2 : 2 < LC.nn ∧ LC.ly 2 = (9, 7) := by decide
theorem cC_3 : 3 < LC.nn ∧ LC.ly 3 = (101, 4000) := by decide
theorem aC_3 (k : Nat) : LC.rf 3 k = none := by
  show rfC 3 k = none
  unfold rfC
  rw [if_neg (by decide), if_neg (by decide)]
  exact rfF_none k _ (by decide)
theorem cC_4 : 4 < LC.nn ∧ LC.ly 4 = (100, 1002) := by decide
theorem aC_4 (k : Nat) : LC.rf 4 k = none := by
  show rfC 4 k = none
  unfold rfC
  rw [if_neg (by decide), if_neg (by decide)]
  exact rfF_none k _ (by decide)
theorem cC_5 : 5 < LC.nn ∧ LC.ly 5 = (100, 1002) := by decide
theorem aC_5 (k : Nat) : LC.rf 5 k = none := by
  show rfC 5 k = none
  unfold rfC
  rw [if_neg (by decide), if_neg (by decide)]
  exact rfF_none k _ (by decide)
theorem cC_6 : 6 < LC.nn ∧ LC.ly 6 = (100, 1002) := by decide
theorem aC_6 (k : Nat) : LC.rf 6 k = none := by
  show rfC 6 k = none
  unfold rfC
  rw [if_neg (by decide), if_neg (by decide)]
  exact rfF_none k _ (by decide)
theorem cC_7 : 7 < LC.nn ∧ LC.ly 7 = (100, 1002) := by decide
theorem aC_7 (k : Nat) : LC.rf 7 k = none := by
  show rfC 7 k = none
  unfold rfC
  rw [if_neg (by decide), if_neg (by decide)]
  exact rfF_none k _ (by decide)
theorem cC_8 : 8 < LC.nn ∧ LC.ly 8 = (7, 11) := by decide
theorem cC_9 : 9 < LC.nn ∧ LC.ly 9 = (100, 8) := by decide
theorem aC_9 (k : Nat) : LC.rf 9 k = none := by
  show rfC 9 k = none
  unfold rfC
  rw [if_neg (by decide), if_neg (by decide)]
  exact rfF_none k _ (by decide)
theorem cC_10 : 10 < LC.nn ∧ LC.ly 10 = (100, 4) := by decide
theorem aC_10 (k : Nat) : LC.rf 10 k = none := by
  show rfC 10 k = none
  unfold rfC
  rw [if_neg (by decide), if_neg (by decide)]
  exact rfF_none k _ (by decide)
theorem cC_11 : 11 < LC.nn ∧ LC.ly 11 = (100, 4) := by decide
theorem aC_11 (k : Nat) : LC.rf 11 k = none := by
  show rfC 11 k = none
  unfold rfC
  rw [if_neg (by decide), if_neg (by decide)]
  exact rfF_none k _ (by decide)
theorem cC_12 : 12 < LC.nn ∧ LC.ly 12 = (101, 5000) := by decide
theorem aC_12 (k : Nat) : LC.rf 12 k = none := by
  show rfC 12 k = none
  unfold rfC
  rw [if_neg (by decide), if_neg (by decide)]
  exact rfF_none k _ (by decide)
theorem cC_13 : 13 < LC.nn ∧ LC.ly 13 = (4, 7) := by decide
theorem cC_14 : 14 < LC.nn ∧ LC.ly 14 = (100, 28) := by decide
theorem aC_14 (k : Nat) : LC.rf 14 k = none := by
  show rfC 14 k = none
  unfold rfC
  rw [if_neg (by decide), if_neg (by decide)]
  exact rfF_none k _ (by decide)
theorem cC_15 : 15 < LC.nn ∧ LC.ly 15 = (100, 28) := by decide
theorem aC_15 (k : Nat) : LC.rf 15 k = none := by
  show rfC 15 k = none
  unfold rfC
  rw [if_neg (by decide), if_neg (by decide)]
  exact rfF_none k _ (by decide)
theorem cC_16 : 16 < LC.nn ∧ LC.ly 16 = (100, 28) := by decide
theorem aC_16 (k : Nat) : LC.rf 16 k = none := by
  show rfC 16 k = none
  unfold rfC
  rw [if_neg (by decide), if_neg (by decide)]
  exact rfF_none k _ (by decide)
theorem cC_17 : 17 < LC.nn ∧ LC.ly 17 = (100, 28) := by decide
theorem aC_17 (k : Nat) : LC.rf 17 k = none := by
  show rfC 17 k = none
  unfold rfC
  rw [if_neg (by decide), if_neg (by decide)]
  exact rfF_none k _ (by decide)
theorem cC_18 : 18 < LC.nn ∧ LC.ly 18 = (100, 5) := by decide
theorem aC_18 (k : Nat) : LC.rf 18 k = none := by
  show rfC 18 k = none
  unfold rfC
  rw [if_neg (by decide), if_neg (by decide)]
  exact rfF_none k _ (by decide)
theorem cC_19 : 19 < LC.nn ∧ LC.ly 19 = (0, 6) := by decide
theorem cC_20 : 20 < LC.nn ∧ LC.ly 20 = (100, 1024) := by decide
theorem aC_20 (k : Nat) : LC.rf 20 k = none := by
  show rfC 20 k = none
  unfold rfC
  rw [if_neg (by decide), if_neg (by decide)]
  exact rfF_none k _ (by decide)
theorem cC_21 : 21 < LC.nn ∧ LC.ly 21 = (100, 1024) := by decide
theorem aC_21 (k : Nat) : LC.rf 21 k = none := by
  show rfC 21 k = none
  unfold rfC
  rw [if_neg (by decide), if_neg (by decide)]
  exact rfF_none k _ (by decide)
theorem cC_22 : 22 < LC.nn ∧ LC.ly 22 = (100, 1024) := by decide
theorem aC_22 (k : Nat) : LC.rf 22 k = none := by
  show rfC 22 k = none
  unfold rfC
  rw [if_neg (by decide), if_neg (by decide)]
  exact rfF_none k _ (by decide)
theorem cC_23 : 23 < LC.nn ∧ LC.ly 23 = (100, 1024) := by decide
theorem aC_23 (k : Nat) : LC.rf 23 k = none := by
  show rfC 23 k = none
  unfold rfC
  rw [if_neg (by decide), if_neg (by decide)]
  exact rfF_none k _ (by decide)
theorem cC_24 : 24 < LC.nn ∧ LC.ly 24 = (8, 7) := by decide
theorem cC_25 : 25 < LC.nn ∧ LC.ly 25 = (1, 6) := by decide
theorem cC_26 : 26 < LC.nn ∧ LC.ly 26 = (2, 9) := by decide
theorem cC_27 : 27 < LC.nn ∧ LC.ly 27 = (100, 1002) := by decide
theorem aC_27 (k : Nat) : LC.rf 27 k = none := by
  show rfC 27 k = none
  unfold rfC
  rw [if_neg (by decide), if_neg (by decide)]
  exact rfF_none k _ (by decide)
theorem cC_28 : 28 < LC.nn ∧ LC.ly 28 = (100, 1002) := by decide
theorem aC_28 (k : Nat) : LC.rf 28 k = none := by
  show rfC 28 k = none
  unfold rfC
  rw [if_neg (by decide), if_neg (by decide)]
  exact rfF_none k _ (by decide)
theorem cC_29 : 29 < LC.nn ∧ LC.ly 29 = (100, 1002) := by decide
theorem aC_29 (k : Nat) : LC.rf 29 k = none := by
  show rfC 29 k = none
  unfold rfC
  rw [if_neg (by decide), if_neg (by decide)]
  exact rfF_none k _ (by decide)
theorem cC_30 : 30 < LC.nn ∧ LC.ly 30 = (102, 1002) := by decide
theorem aC_30 (k : Nat) : LC.rf 30 k = none := by
  show rfC 30 k = none
  unfold rfC
  rw [if_neg (by decide), if_neg (by decide)]
  exact rfF_none k _ (by decide)
theorem cC_31 : 31 < LC.nn ∧ LC.ly 31 = (3, 13) := by decide
theorem cC_32 : 32 < LC.nn ∧ LC.ly 32 = (100, 120) := by decide
theorem aC_32 (k : Nat) : LC.rf 32 k = none := by
  show rfC 32 k = none
  unfold rfC
  rw [if_neg (by decide), if_neg (by decide)]
  exact rfF_none k _ (by decide)
theorem cC_33 : 33 < LC.nn ∧ LC.ly 33 = (100, 120) := by decide
theorem aC_33 (k : Nat) : LC.rf 33 k = none := by
  show rfC 33 k = none
  unfold rfC
  rw [if_neg (by decide), if_neg (by decide)]
  exact rfF_none k _ (by decide)
theorem cC_34 : 34 < LC.nn ∧ LC.ly 34 = (100, 480) := by decide
theorem aC_34 (k : Nat) : LC.rf 34 k = none := by
  show rfC 34 k = none
  unfold rfC
  rw [if_neg (by decide), if_neg (by decide)]
  exact rfF_none k _ (by decide)
theorem cC_35 : 35 < LC.nn ∧ LC.ly 35 = (100, 40) := by decide
theorem aC_35 (k : Nat) : LC.rf 35 k = none := by
  show rfC 35 k = none
  unfold rfC
  rw [if_neg (by decide), if_neg (by decide)]
  exact rfF_none k _ (by decide)
theorem cC_36 : 36 < LC.nn ∧ LC.ly 36 = (100, 40) := by decide
theorem aC_36 (k : Nat) : LC.rf 36 k = none := by
  show rfC 36 k = none
  unfold rfC
  rw [if_neg (by decide), if_neg (by decide)]
  exact rfF_none k _ (by decide)
theorem cC_37 : 37 < LC.nn ∧ LC.ly 37 = (100, 40) := by decide
theorem aC_37 (k : Nat) : LC.rf 37 k = none := by
  show rfC 37 k = none
  unfold rfC
  rw [if_neg (by decide), if_neg (by decide)]
  exact rfF_none k _ (by decide)
theorem cC_38 : 38 < LC.nn ∧ LC.ly 38 = (100, 40) := by decide
theorem aC_38 (k : Nat) : LC.rf 38 k = none := by
  show rfC 38 k = none
  unfold rfC
  rw [if_neg (by decide), if_neg (by decide)]
  exact rfF_none k _ (by decide)
theorem cC_39 : 39 < LC.nn ∧ LC.ly 39 = (100, 120) := by decide
theorem aC_39 (k : Nat) : LC.rf 39 k = none := by
  show rfC 39 k = none
  unfold rfC
  rw [if_neg (by decide), if_neg (by decide)]
  exact rfF_none k _ (by decide)
theorem cC_40 : 40 < LC.nn ∧ LC.ly 40 = (100, 40) := by decide
theorem aC_40 (k : Nat) : LC.rf 40 k = none := by
  show rfC 40 k = none
  unfold rfC
  rw [if_neg (by decide), if_neg (by decide)]
  exact rfF_none k _ (by decide)
theorem cC_41 : 41 < LC.nn ∧ LC.ly 41 = (100, 40) := by decide
theorem aC_41 (k : Nat) : LC.rf 41 k = none := by
  show rfC 41 k = none
  unfold rfC
  rw [if_neg (by decide), if_neg (by decide)]
  exact rfF_none k _ (by decide)
theorem cC_42 : 42 < LC.nn ∧ LC.ly 42 = (100, 120) := by decide
theorem aC_42 (k : Nat) : LC.rf 42 k = none := by
  show rfC 42 k = none
  unfold rfC
  rw [if_neg (by decide), if_neg (by decide)]
  exact rfF_none k _ (by decide)
theorem cC_43 : 43 < LC.nn ∧ LC.ly 43 = (5, 13) := by decide
theorem cC_44 : 44 < LC.nn ∧ LC.ly 44 = (103, 8) := by decide
theorem cC_101 : 101 < LC.nn ∧ LC.ly 101 = (10, 18) := by decide
theorem cC_102 : 102 < LC.nn ∧ LC.ly 102 = (100, 64) := by decide
theorem aC_102 (k : Nat) : LC.rf 102 k = none := by
  show rfC 102 k = none
  unfold rfC
  rw [if_neg (by decide), if_neg (by decide)]
  exact rfF_none k _ (by decide)
theorem cC_103 : 103 < LC.nn ∧ LC.ly 103 = (100, 8) := by decide
theorem aC_103 (k : Nat) : LC.rf 103 k = none := by
  show rfC 103 k = none
  unfold rfC
  rw [if_neg (by decide), if_neg (by decide)]
  exact rfF_none k _ (by decide)
theorem cC_104 : 104 < LC.nn ∧ LC.ly 104 = (100, 16) := by decide
theorem aC_104 (k : Nat) : LC.rf 104 k = none := by
  show rfC 104 k = none
  unfold rfC
  rw [if_neg (by decide), if_neg (by decide)]
  exact rfF_none k _ (by decide)
theorem rC_0_0 : LC.rf 0 0 = some 1 := by decide
theorem rC_0_2 : LC.rf 0 2 = some 2 := by decide
theorem rC_0_3 : LC.rf 0 3 = some 8 := by decide
theorem rC_0_4 : LC.rf 0 4 = some 24 := by decide
theorem rC_0_5 : LC.rf 0 5 = some 31 := by decide
theorem rC_0_6 : LC.rf 0 6 = some 43 := by decide
theorem rC_2_0 : LC.rf 2 0 = some 3 := by decide
theorem rC_2_2 : LC.rf 2 2 = some 4 := by decide
theorem rC_2_3 : LC.rf 2 3 = some 5 := by decide
theorem rC_2_4 : LC.rf 2 4 = some 6 := by decide
theorem rC_2_5 : LC.rf 2 5 = some 7 := by decide
theorem rC_8_0 : LC.rf 8 0 = some 13 := by decide
theorem rC_8_1 : LC.rf 8 1 = some 19 := by decide
theorem rC_8_6 : LC.rf 8 6 = some 9 := by decide
theorem rC_8_7 : LC.rf 8 7 = some 10 := by decide
theorem rC_8_8 : LC.rf 8 8 = some 11 := by decide
theorem rC_8_9 : LC.rf 8 9 = some 12 := by decide
theorem rC_13_0 : LC.rf 13 0 = some 2 := by decide
theorem rC_13_1 : LC.rf 13 1 = some 14 := by decide
theorem rC_13_2 : LC.rf 13 2 = some 15 := by decide
theorem rC_13_3 : LC.rf 13 3 = some 16 := by decide
theorem rC_13_4 : LC.rf 13 4 = some 17 := by decide
theorem rC_13_5 : LC.rf 13 5 = some 18 := by decide
theorem rC_19_0 : LC.rf 19 0 = some 20 := by decide
theorem rC_19_1 : LC.rf 19 1 = some 21 := by decide
theorem rC_19_2 : LC.rf 19 2 = some 22 := by decide
theorem rC_19_3 : LC.rf 19 3 = some 23 := by decide
theorem rC_24_0 : LC.rf 24 0 = some 2 := by decide
theorem rC_24_1 : LC.rf 24 1 = some 8 := by decide
theorem rC_24_2 : LC.rf 24 2 = some 13 := by decide
theorem rC_24_3 : LC.rf 24 3 = some 19 := by decide
theorem rC_24_4 : LC.rf 24 4 = some 25 := by decide
theorem rC_24_5 : LC.rf 24 5 = some 26 := by decide
theorem rC_25_0 : LC.rf 25 0 = some 2 := by decide
theorem rC_26_0 : LC.rf 26 0 = some 2 := by decide
theorem rC_26_1 : LC.rf 26 1 = some 25 := by decide
theorem rC_26_2 : LC.rf 26 2 = some 13 := by decide
theorem rC_26_3 : LC.rf 26 3 = some 19 := by decide
theorem rC_26_5 : LC.rf 26 5 = some 27 := by decide
theorem rC_26_6 : LC.rf 26 6 = some 28 := by decide
theorem rC_26_7 : LC.rf 26 7 = some 29 := by decide
theorem rC_26_8 : LC.rf 26 8 = some 30 := by decide
theorem rC_31_2 : LC.rf 31 2 = some 32 := by decide
theorem rC_31_3 : LC.rf 31 3 = some 33 := by decide
theorem rC_31_4 : LC.rf 31 4 = some 34 := by decide
theorem rC_31_5 : LC.rf 31 5 = some 35 := by decide
theorem rC_31_6 : LC.rf 31 6 = some 36 := by decide
theorem rC_31_7 : LC.rf 31 7 = some 37 := by decide
theorem rC_31_8 : LC.rf 31 8 = some 38 := by decide
theorem rC_31_9 : LC.rf 31 9 = some 39 := by decide
theorem rC_31_10 : LC.rf 31 10 = some 40 := by decide
theorem rC_31_11 : LC.rf 31 11 = some 41 := by decide
theorem rC_31_12 : LC.rf 31 12 = some 42 := by decide
theorem rC_43_0 : LC.rf 43 0 = some 8 := by decide
theorem rC_43_1 : LC.rf 43 1 = some 31 := by decide
theorem rC_43_2 : LC.rf 43 2 = some 101 := by decide
theorem rC_43_3 : LC.rf 43 3 = some 44 := by decide
theorem rC_101_0 : LC.rf 101 0 = some 8 := by decide
theorem rC_101_1 : LC.rf 101 1 = some 19 := by decide
theorem rC_101_2 : LC.rf 101 2 = some 31 := by decide
theorem rC_101_3 : LC.rf 101 3 = some 102 := by decide
theorem rC_101_4 : LC.rf 101 4 = some 103 := by decide
theorem rC_101_5 : LC.rf 101 5 = some 104 := by decide
theorem cM_0 : 0 < LM.nn ∧ LM.ly 0 = (13, 93) := by decide
theorem cM_1 : 1 < LM.nn ∧ LM.ly 1 = (12, 2) := by decide
theorem cM_2 : 2 < LM.nn ∧ LM.ly 2 = (101, 4020) := by decide
theorem aM_2 (k : Nat) : LM.rf 2 k = none := by
  show rfM 2 k = none
  unfold rfM
  rw [if_neg (by decide), if_neg (by decide)]
  exact rfF_none k _ (by decide)
theorem cM_3 : 3 < LM.nn ∧ LM.ly 3 = (101, 4020) := by decide
theorem aM_3 (k : Nat) : LM.rf 3 k = none := by
  show rfM 3 k = none
  unfold rfM
  rw [if_neg (by decide), if_neg (by decide)]
  exact rfF_none k _ (by decide)
theorem cM_4 : 4 < LM.nn ∧ LM.ly 4 = (100, 4022) := by decide
theorem aM_4 (k : Nat) : LM.rf 4 k = none := by
  show rfM 4 k = none
  unfold rfM
  rw [if_neg (by decide), if_neg (by decide)]
  exact rfF_none k _ (by decide)
theorem cM_5 : 5 < LM.nn ∧ LM.ly 5 = (100, 4022) := by decide
theorem aM_5 (k : Nat) : LM.rf 5 k = none := by
  show rfM 5 k = none
  unfold rfM
  rw [if_neg (by decide), if_neg (by decide)]
  exact rfF_none k _ (by decide)
theorem cM_6 : 6 < LM.nn ∧ LM.ly 6 = (100, 4022) := by decide
theorem aM_6 (k : Nat) : LM.rf 6 k = none := by
  show rfM 6 k = none
  unfold rfM
  rw [if_neg (by decide), if_neg (by decide)]
  exact rfF_none k _ (by decide)
theorem cM_7 : 7 < LM.nn ∧ LM.ly 7 = (100, 4022) := by decide
theorem aM_7 (k : Nat) : LM.rf 7 k = none := by
  show rfM 7 k = none
  unfold rfM
  rw [if_neg (by decide), if_neg (by decide)]
  exact rfF_none k _ (by decide)
theorem cM_8 : 8 < LM.nn ∧ LM.ly 8 = (104, 33) := by decide
theorem cM_9 : 9 < LM.nn ∧ LM.ly 9 = (104, 23) := by decide
theorem cM_10 : 10 < LM.nn ∧ LM.ly 10 = (100, 30) := by decide
theorem aM_10 (k : Nat) : LM.rf 10 k = none := by
  show rfM 10 k = none
  unfold rfM
  rw [if_neg (by decide), if_neg (by decide)]
  exact rfF_none k _ (by decide)
theorem cM_11 : 11 < LM.nn ∧ LM.ly 11 = (100, 30) := by decide
theorem aM_11 (k : Nat) : LM.rf 11 k = none := by
  show rfM 11 k = none
  unfold rfM
  rw [if_neg (by decide), if_neg (by decide)]
  exact rfF_none k _ (by decide)
theorem cM_12 : 12 < LM.nn ∧ LM.ly 12 = (100, 30) := by decide
theorem aM_12 (k : Nat) : LM.rf 12 k = none := by
  show rfM 12 k = none
  unfold rfM
  rw [if_neg (by decide), if_neg (by decide)]
  exact rfF_none k _ (by decide)
theorem cM_13 : 13 < LM.nn ∧ LM.ly 13 = (100, 30) := by decide
theorem aM_13 (k : Nat) : LM.rf 13 k = none := by
  show rfM 13 k = none
  unfold rfM
  rw [if_neg (by decide), if_neg (by decide)]
  exact rfF_none k _ (by decide)
theorem cM_14 : 14 < LM.nn ∧ LM.ly 14 = (100, 30) := by decide
theorem aM_14 (k : Nat) : LM.rf 14 k = none := by
  show rfM 14 k = none
  unfold rfM
  rw [if_neg (by decide), if_neg (by decide)]
  exact rfF_none k _ (by decide)
theorem cM_15 : 15 < LM.nn ∧ LM.ly 15 = (100, 30) := by decide
theorem aM_15 (k : Nat) : LM.rf 15 k = none := by
  show rfM 15 k = none
  unfold rfM
  rw [if_neg (by decide), if_neg (by decide)]
  exact rfF_none k _ (by decide)
theorem cM_16 : 16 < LM.nn ∧ LM.ly 16 = (100, 5) := by decide
theorem aM_16 (k : Nat) : LM.rf 16 k = none := by
  show rfM 16 k = none
  unfold rfM
  rw [if_neg (by decide), if_neg (by decide)]
  exact rfF_none k _ (by decide)
theorem cM_17 : 17 < LM.nn ∧ LM.ly 17 = (100, 130) := by decide
theorem aM_17 (k : Nat) : LM.rf 17 k = none := by
  show rfM 17 k = none
  unfold rfM
  rw [if_neg (by decide), if_neg (by decide)]
  exact rfF_none k _ (by decide)
theorem cM_18 : 18 < LM.nn ∧ LM.ly 18 = (100, 130) := by decide
theorem aM_18 (k : Nat) : LM.rf 18 k = none := by
  show rfM 18 k = none
  unfold rfM
  rw [if_neg (by decide), if_neg (by decide)]
  exact rfF_none k _ (by decide)
theorem cM_19 : 19 < LM.nn ∧ LM.ly 19 = (100, 130) := by decide
theorem aM_19 (k : Nat) : LM.rf 19 k = none := by
  show rfM 19 k = none
  unfold rfM
  rw [if_neg (by decide), if_neg (by decide)]
  exact rfF_none k _ (by decide)
theorem cM_20 : 20 < LM.nn ∧ LM.ly 20 = (100, 130) := by decide
theorem aM_20 (k : Nat) : LM.rf 20 k = none := by
  show rfM 20 k = none
  unfold rfM
  rw [if_neg (by decide), if_neg (by decide)]
  exact rfF_none k _ (by decide)
theorem cM_21 : 21 < LM.nn ∧ LM.ly 21 = (100, 130) := by decide
theorem aM_21 (k : Nat) : LM.rf 21 k = none := by
  show rfM 21 k = none
  unfold rfM
  rw [if_neg (by decide), if_neg (by decide)]
  exact rfF_none k _ (by decide)
theorem cM_22 : 22 < LM.nn ∧ LM.ly 22 = (100, 130) := by decide
theorem aM_22 (k : Nat) : LM.rf 22 k = none := by
  show rfM 22 k = none
  unfold rfM
  rw [if_neg (by decide), if_neg (by decide)]
  exact rfF_none k _ (by decide)
theorem cM_23 : 23 < LM.nn ∧ LM.ly 23 = (100, 130) := by decide
theorem aM_23 (k : Nat) : LM.rf 23 k = none := by
  show rfM 23 k = none
  unfold rfM
  rw [if_neg (by decide), if_neg (by decide)]
  exact rfF_none k _ (by decide)
theorem cM_24 : 24 < LM.nn ∧ LM.ly 24 = (100, 130) := by decide
theorem aM_24 (k : Nat) : LM.rf 24 k = none := by
  show rfM 24 k = none
  unfold rfM
  rw [if_neg (by decide), if_neg (by decide)]
  exact rfF_none k _ (by decide)
theorem cM_25 : 25 < LM.nn ∧ LM.ly 25 = (102, 130) := by decide
theorem aM_25 (k : Nat) : LM.rf 25 k = none := by
  show rfM 25 k = none
  unfold rfM
  rw [if_neg (by decide), if_neg (by decide)]
  exact rfF_none k _ (by decide)
theorem cM_26 : 26 < LM.nn ∧ LM.ly 26 = (100, 2000) := by decide
theorem aM_26 (k : Nat) : LM.rf 26 k = none := by
  show rfM 26 k = none
  unfold rfM
  rw [if_neg (by decide), if_neg (by decide)]
  exact rfF_none k _ (by decide)
theorem cM_27 : 27 < LM.nn ∧ LM.ly 27 = (100, 2000) := by decide
theorem aM_27 (k : Nat) : LM.rf 27 k = none := by
  show rfM 27 k = none
  unfold rfM
  rw [if_neg (by decide), if_neg (by decide)]
  exact rfF_none k _ (by decide)
theorem cM_28 : 28 < LM.nn ∧ LM.ly 28 = (100, 2000) := by decide
theorem aM_28 (k : Nat) : LM.rf 28 k = none := by
  show rfM 28 k = none
  unfold rfM
  rw [if_neg (by decide), if_neg (by decide)]
  exact rfF_none k _ (by decide)
theorem cM_29 : 29 < LM.nn ∧ LM.ly 29 = (100, 2000) := by decide
theorem aM_29 (k : Nat) : LM.rf 29 k = none := by
  show rfM 29 k = none
  unfold rfM
  rw [if_neg (by decide), if_neg (by decide)]
  exact rfF_none k _ (by decide)
theorem cM_30 : 30 < LM.nn ∧ LM.ly 30 = (100, 2000) := by decide
theorem aM_30 (k : Nat) : LM.rf 30 k = none := by
  show rfM 30 k = none
  unfold rfM
  rw [if_neg (by decide), if_neg (by decide)]
  exact rfF_none k _ (by decide)
theorem cM_31 : 31 < LM.nn ∧ LM.ly 31 = (100, 2000) := by decide
theorem aM_31 (k : Nat) : LM.rf 31 k = none := by
  show rfM 31 k = none
  unfold rfM
  rw [if_neg (by decide), if_neg (by decide)]
  exact rfF_none k _ (by decide)
theorem cM_32 : 32 < LM.nn ∧ LM.ly 32 = (100, 2000) := by decide
theorem aM_32 (k : Nat) : LM.rf 32 k = none := by
  show rfM 32 k = none
  unfold rfM
  rw [if_neg (by decide), if_neg (by decide)]
  exact rfF_none k _ (by decide)
theorem cM_33 : 33 < LM.nn ∧ LM.ly 33 = (100, 2000) := by decide
theorem aM_33 (k : Nat) : LM.rf 33 k = none := by
  show rfM 33 k = none
  unfold rfM
  rw [if_neg (by decide), if_neg (by decide)]
  exact rfF_none k _ (by decide)
theorem cM_34 : 34 < LM.nn ∧ LM.ly 34 = (100, 130) := by decide
theorem aM_34 (k : Nat) : LM.rf 34 k = none := by
  show rfM 34 k = none
  unfold rfM
  rw [if_neg (by decide), if_neg (by decide)]
  exact rfF_none k _ (by decide)
theorem cM_35 : 35 < LM.nn ∧ LM.ly 35 = (100, 130) := by decide
theorem aM_35 (k : Nat) : LM.rf 35 k = none := by
  show rfM 35 k = none
  unfold rfM
  rw [if_neg (by decide), if_neg (by decide)]
  exact rfF_none k _ (by decide)
theorem cM_36 : 36 < LM.nn ∧ LM.ly 36 = (102, 30) := by decide
theorem aM_36 (k : Nat) : LM.rf 36 k = none := by
  show rfM 36 k = none
  unfold rfM
  rw [if_neg (by decide), if_neg (by decide)]
  exact rfF_none k _ (by decide)
theorem cM_37 : 37 < LM.nn ∧ LM.ly 37 = (101, 12000) := by decide
theorem aM_37 (k : Nat) : LM.rf 37 k = none := by
  show rfM 37 k = none
  unfold rfM
  rw [if_neg (by decide), if_neg (by decide)]
  exact rfF_none k _ (by decide)
theorem cM_38 : 38 < LM.nn ∧ LM.ly 38 = (100, 120) := by decide
theorem aM_38 (k : Nat) : LM.rf 38 k = none := by
  show rfM 38 k = none
  unfold rfM
  rw [if_neg (by decide), if_neg (by decide)]
  exact rfF_none k _ (by decide)
theorem cM_39 : 39 < LM.nn ∧ LM.ly 39 = (100, 120) := by decide
theorem aM_39 (k : Nat) : LM.rf 39 k = none := by
  show rfM 39 k = none
  unfold rfM
  rw [if_neg (by decide), if_neg (by decide)]
  exact rfF_none k _ (by decide)
theorem cM_40 : 40 < LM.nn ∧ LM.ly 40 = (100, 480) := by decide
theorem aM_40 (k : Nat) : LM.rf 40 k = none := by
  show rfM 40 k = none
  unfold rfM
  rw [if_neg (by decide), if_neg (by decide)]
  exact rfF_none k _ (by decide)
theorem cM_41 : 41 < LM.nn ∧ LM.ly 41 = (100, 320) := by decide
theorem aM_41 (k : Nat) : LM.rf 41 k = none := by
  show rfM 41 k = none
  unfold rfM
  rw [if_neg (by decide), if_neg (by decide)]
  exact rfF_none k _ (by decide)
theorem cM_42 : 42 < LM.nn ∧ LM.ly 42 = (102, 40) := by decide
theorem aM_42 (k : Nat) : LM.rf 42 k = none := by
  show rfM 42 k = none
  unfold rfM
  rw [if_neg (by decide), if_neg (by decide)]
  exact rfF_none k _ (by decide)
theorem cM_43 : 43 < LM.nn ∧ LM.ly 43 = (100, 160) := by decide
theorem aM_43 (k : Nat) : LM.rf 43 k = none := by
  show rfM 43 k = none
  unfold rfM
  rw [if_neg (by decide), if_neg (by decide)]
  exact rfF_none k _ (by decide)
theorem cM_44 : 44 < LM.nn ∧ LM.ly 44 = (100, 160) := by decide
theorem aM_44 (k : Nat) : LM.rf 44 k = none := by
  show rfM 44 k = none
  unfold rfM
  rw [if_neg (by decide), if_neg (by decide)]
  exact rfF_none k _ (by decide)
theorem cM_45 : 45 < LM.nn ∧ LM.ly 45 = (100, 4) := by decide
theorem aM_45 (k : Nat) : LM.rf 45 k = none := by
  show rfM 45 k = none
  unfold rfM
  rw [if_neg (by decide), if_neg (by decide)]
  exact rfF_none k _ (by decide)
theorem cM_46 : 46 < LM.nn ∧ LM.ly 46 = (100, 4) := by decide
theorem aM_46 (k : Nat) : LM.rf 46 k = none := by
  show rfM 46 k = none
  unfold rfM
  rw [if_neg (by decide), if_neg (by decide)]
  exact rfF_none k _ (by decide)
theorem cM_47 : 47 < LM.nn ∧ LM.ly 47 = (100, 160) := by decide
theorem aM_47 (k : Nat) : LM.rf 47 k = none := by
  show rfM 47 k = none
  unfold rfM
  rw [if_neg (by decide), if_neg (by decide)]
  exact rfF_none k _ (by decide)
theorem cM_48 : 48 < LM.nn ∧ LM.ly 48 = (100, 160) := by decide
theorem aM_48 (k : Nat) : LM.rf 48 k = none := by
  show rfM 48 k = none
  unfold rfM
  rw [if_neg (by decide), if_neg (by decide)]
  exact rfF_none k _ (by decide)
theorem cM_49 : 49 < LM.nn ∧ LM.ly 49 = (100, 4) := by decide
theorem aM_49 (k : Nat) : LM.rf 49 k = none := by
  show rfM 49 k = none
  unfold rfM
  rw [if_neg (by decide), if_neg (by decide)]
  exact rfF_none k _ (by decide)
theorem cM_50 : 50 < LM.nn ∧ LM.ly 50 = (100, 4) := by decide
theorem aM_50 (k : Nat) : LM.rf 50 k = none := by
  show rfM 50 k = none
  unfold rfM
  rw [if_neg (by decide), if_neg (by decide)]
  exact rfF_none k _ (by decide)
theorem cM_51 : 51 < LM.nn ∧ LM.ly 51 = (100, 4200) := by decide
theorem aM_51 (k : Nat) : LM.rf 51 k = none := by
  show rfM 51 k = none
  unfold rfM
  rw [if_neg (by decide), if_neg (by decide)]
  exact rfF_none k _ (by decide)
theorem cM_52 : 52 < LM.nn ∧ LM.ly 52 = (100, 700) := by decide
theorem aM_52 (k : Nat) : LM.rf 52 k = none := by
  show rfM 52 k = none
  unfold rfM
  rw [if_neg (by decide), if_neg (by decide)]
  exact rfF_none k _ (by decide)
theorem cM_53 : 53 < LM.nn ∧ LM.ly 53 = (100, 130) := by decide
theorem aM_53 (k : Nat) : LM.rf 53 k = none := by
  show rfM 53 k = none
  unfold rfM
  rw [if_neg (by decide), if_neg (by decide)]
  exact rfF_none k _ (by decide)
theorem rM_0_1 : LM.rf 0 1 = some 1 := by decide
theorem rM_0_2 : LM.rf 0 2 = some 2 := by decide
theorem rM_0_4 : LM.rf 0 4 = some 3 := by decide
theorem rM_0_6 : LM.rf 0 6 = some 4 := by decide
theorem rM_0_7 : LM.rf 0 7 = some 5 := by decide
theorem rM_0_8 : LM.rf 0 8 = some 6 := by decide
theorem rM_0_9 : LM.rf 0 9 = some 7 := by decide
theorem rM_0_12 : LM.rf 0 12 = some 8 := by decide
theorem rM_0_13 : LM.rf 0 13 = some 9 := by decide
theorem rM_0_14 : LM.rf 0 14 = some 10 := by decide
theorem rM_0_15 : LM.rf 0 15 = some 11 := by decide
theorem rM_0_16 : LM.rf 0 16 = some 12 := by decide
theorem rM_0_17 : LM.rf 0 17 = some 13 := by decide
theorem rM_0_18 : LM.rf 0 18 = some 14 := by decide
theorem rM_0_19 : LM.rf 0 19 = some 15 := by decide
theorem rM_0_21 : LM.rf 0 21 = some 16 := by decide
theorem rM_0_22 : LM.rf 0 22 = some 17 := by decide
theorem rM_0_23 : LM.rf 0 23 = some 18 := by decide
theorem rM_0_24 : LM.rf 0 24 = some 19 := by decide
theorem rM_0_25 : LM.rf 0 25 = some 20 := by decide
theorem rM_0_26 : LM.rf 0 26 = some 21 := by decide
theorem rM_0_27 : LM.rf 0 27 = some 22 := by decide
theorem rM_0_28 : LM.rf 0 28 = some 23 := by decide
theorem rM_0_29 : LM.rf 0 29 = some 24 := by decide
theorem rM_0_30 : LM.rf 0 30 = some 25 := by decide
theorem rM_0_32 : LM.rf 0 32 = some 26 := by decide
theorem rM_0_33 : LM.rf 0 33 = some 27 := by decide
theorem rM_0_34 : LM.rf 0 34 = some 28 := by decide
theorem rM_0_35 : LM.rf 0 35 = some 29 := by decide
theorem rM_0_36 : LM.rf 0 36 = some 30 := by decide
theorem rM_0_37 : LM.rf 0 37 = some 31 := by decide
theorem rM_0_38 : LM.rf 0 38 = some 32 := by decide
theorem rM_0_39 : LM.rf 0 39 = some 33 := by decide
theorem rM_0_48 : LM.rf 0 48 = some 34 := by decide
theorem rM_0_49 : LM.rf 0 49 = some 35 := by decide
theorem rM_0_54 : LM.rf 0 54 = some 36 := by decide
theorem rM_0_57 : LM.rf 0 57 = some 37 := by decide
theorem rM_0_61 : LM.rf 0 61 = some 38 := by decide
theorem rM_0_62 : LM.rf 0 62 = some 39 := by decide
theorem rM_0_63 : LM.rf 0 63 = some 40 := by decide
theorem rM_0_67 : LM.rf 0 67 = some 41 := by decide
theorem rM_0_68 : LM.rf 0 68 = some 42 := by decide
theorem rM_0_69 : LM.rf 0 69 = some 43 := by decide
theorem rM_0_70 : LM.rf 0 70 = some 44 := by decide
theorem rM_0_71 : LM.rf 0 71 = some 45 := by decide
theorem rM_0_72 : LM.rf 0 72 = some 46 := by decide
theorem rM_0_73 : LM.rf 0 73 = some 47 := by decide
theorem rM_0_74 : LM.rf 0 74 = some 48 := by decide
theorem rM_0_75 : LM.rf 0 75 = some 49 := by decide
theorem rM_0_76 : LM.rf 0 76 = some 50 := by decide
theorem rM_0_77 : LM.rf 0 77 = some 51 := by decide
theorem rM_0_79 : LM.rf 0 79 = some 52 := by decide
theorem rM_0_92 : LM.rf 0 92 = some 53 := by decide
