/-! ===== the first worlds: their references, Inv ===== -/
set_option maxRecDepth 20000 in
theorem wC0_l : ∀ q ∈ rfLC, wC0 q.1 q.2.1 = (q.2.2 : Int) := by decide +kernel
set_option maxRecDepth 20000 in
theorem wC0_q : ∀ k, k < 8 → wC0 44 k = ((45 + 7 * k : Nat) : Int) := by decide +kernel
set_option maxRecDepth 20000 in
theorem wC0_m : ∀ o, o < 101 → 45 ≤ o → (o - 45) % 7 = 0 → ∀ k, k < 8 → 2 ≤ k → wC0 o k = ((o + k - 1 : Nat) : Int) := by decide +kernel
theorem wC0_rf : ∀ o k r, LC.rf o k = some r → wC0 o k = (r : Int) := by
  intro o k r h
  have h : rfC o k = some r := h
  unfold rfC at h
  by_cases h1 : o = 44
  · subst h1
    rw [if_pos rfl] at h
    by_cases h2 : k < 8
    · rw [if_pos h2] at h
      cases h
      exact wC0_q k h2
    · rw [if_neg h2] at h; cases h
  · rw [if_neg h1] at h
    by_cases h2 : 45 ≤ o ∧ o < 101
    · rw [if_pos h2] at h
      by_cases h3 : (o - 45) % 7 = 0 ∧ 2 ≤ k ∧ k < 8
      · rw [if_pos h3] at h
        cases h
        exact wC0_m o h2.2 h2.1 h3.1 k h3.2.2 h3.2.1
      · rw [if_neg h3] at h; cases h
    · rw [if_neg h2] at h
      exact wC0_l _ (rfF_mem rfLC h)
set_option maxRecDepth 20000 in
theorem wM0_l : ∀ q ∈ rfLM, wM0 q.1 q.2.1 = (q.2.2 : Int) := by decide +kernel
set_option maxRecDepth 20000 in
theorem wM0_8 : ∀ k, k < 33 → wM0 8 k = ((1004 + k : Nat) : Int) := by decide +kernel
set_option maxRecDepth 20000 in
theorem wM0_9 : ∀ k, k < 23 → wM0 9 k = ((1037 + k : Nat) : Int) := by decide +kernel
theorem wM0_rf : ∀ o k r, LM.rf o k = some r → wM0 o k = (r : Int) := by
  intro o k r h
  have h : rfM o k = some r := h
  unfold rfM at h
  by_cases h1 : o = 8
  · subst h1
    rw [if_pos rfl] at h
    by_cases h2 : k < 33
    · rw [if_pos h2] at h
      cases h
      exact wM0_8 k h2
    · rw [if_neg h2] at h; cases h
  · rw [if_neg h1] at h
    by_cases h2 : o = 9
    · subst h2
      rw [if_pos rfl] at h
      by_cases h2 : k < 23
      · rw [if_pos h2] at h
        cases h
        exact wM0_9 k h2
      · rw [if_neg h2] at h; cases h
    · rw [if_neg h2] at h
      exact wM0_l _ (rfF_mem rfLM h)
set_option maxRecDepth 20000 in
theorem wC0_3 : wC0 3 = fun _ => 0 := by funext x; rfl
set_option maxRecDepth 20000 in
theorem wM0_3 : wM0 3 = fun _ => 0 := by funext x; rfl
set_option maxRecDepth 20000 in
theorem wM0_16 (x : Nat) : wM0 16 x = 0 := rfl
set_option maxRecDepth 20000 in
theorem wC0_29 (x : Nat) : wC0 29 x = 0 := rfl
set_option maxRecDepth 20000 in
theorem wC0_34 (x : Nat) : wC0 34 x = if 34 = 34 ∧ x < 480 then 0 else 0 := rfl
set_option maxRecDepth 20000 in
theorem wC0_35 (x : Nat) : wC0 35 x = if 35 = 35 ∧ x < 40 then 0 else 0 := rfl
set_option maxRecDepth 20000 in
theorem wC0_36 (x : Nat) : wC0 36 x = if 36 = 36 ∧ x < 40 then 0 else 0 := rfl
set_option maxRecDepth 20000 in
theorem wC0_37 (x : Nat) : wC0 37 x = if 37 = 37 ∧ x < 40 then -1 else 0 := rfl
set_option maxRecDepth 20000 in
theorem wC0_40 (x : Nat) : wC0 40 x = if 40 = 40 ∧ x < 40 then -1 else 0 := rfl
set_option maxRecDepth 20000 in
theorem inv_w0 : Inv wC0 wM0 :=
  inv_0 (by decide +kernel) (by decide +kernel) (by rw [wC0_3, wM0_3]) (by decide +kernel) (by decide +kernel) (by decide +kernel) (fun x _ => wC0_29 x) (by decide +kernel) (by decide +kernel) (fun x hx => by rw [wC0_34, if_pos ⟨rfl, hx⟩]) (fun x hx => by rw [wC0_35, if_pos ⟨rfl, hx⟩]) (fun x hx => by rw [wC0_36, if_pos ⟨rfl, hx⟩]) (fun x hx => by rw [wC0_37, if_pos ⟨rfl, hx⟩]) (fun x hx => by rw [wC0_40, if_pos ⟨rfl, hx⟩]) (by decide +kernel) (by decide +kernel) (by decide +kernel) (by decide +kernel) (by decide +kernel) (by decide +kernel) (by decide +kernel) (by decide +kernel) (by decide +kernel) (by decide +kernel) (fun k _ => wM0_16 k)
