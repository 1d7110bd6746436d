/-! ===== statements that are judged ===== -/
/-- rows stand though the slots of rows other than if change -/
theorem SR.cgJ {kd : Nat → Nat} {w w' : Wd} : ∀ (a : Tr) (s lo : Nat), WS a → SR kd w a s lo → (∀ x, s ≤ x → x < s + nT a → (∀ o, 17 ≤ o → o ≤ 25 → o ≠ 24 → w' o x = w o x) ∧ (w 17 x = 4 → w' 24 x = w 24 x)) → (∀ x, lo ≤ x → x < lo + nE a → ∀ o, 26 ≤ o → o ≤ 31 → w' o x = w o x) → SR kd w' a s lo
  | .leaf, s, lo, hw, h, h1, h2 => trivial
  | .inner c t q l r, s, lo, hw, h, h1, h2 => by
    simp only [WS] at hw
    rcases hw with ⟨rfl, hl, hr, ht⟩ | ⟨rfl, hl, hr⟩ | ⟨rfl, hl⟩ | ⟨rfl, hl, hr⟩ | ⟨rfl, hl⟩ | rfl | ⟨hc, hl⟩
    · have e1 : nT (.inner 20 t q l r) = nT l + nT r := rfl
      have e2 : nE (.inner 20 t q l r) = nE l + nE r := rfl
      rw [e1] at h1
      rw [e2] at h2
      have hp := nT_tag hl ht
      obtain ⟨k1, k2, k3⟩ : SR kd w l s lo ∧ SR kd w r (s + nT l) (lo + nE l) ∧ w 23 s = nx_ r (s + nT l) := h
      exact ⟨SR.cgJ l s lo hl k1 (fun x a b => h1 x a (by omega)) (fun x a b => h2 x a (by omega)), SR.cgJ r _ _ hr k2 (fun x a b => h1 x (by omega) (by omega)) (fun x a b => h2 x (by omega) (by omega)), by rw [(h1 s (Nat.le_refl _) (by omega)).1 23 (by decide) (by decide) (by decide)]; exact k3⟩
    · have e1 : nT (.inner 9 t q l r) = nT l + nT r := rfl
      have e2 : nE (.inner 9 t q l r) = nE l + nE r := rfl
      rw [e1] at h1
      rw [e2] at h2
      obtain ⟨k1, k2⟩ : SR kd w l s lo ∧ SR kd w r (s + nT l) (lo + nE l) := h
      exact ⟨SR.cgJ l s lo hl k1 (fun x a b => h1 x a (by omega)) (fun x a b => h2 x a (by omega)), SR.cgJ r _ _ hr k2 (fun x a b => h1 x (by omega) (by omega)) (fun x a b => h2 x (by omega) (by omega))⟩
    · exact SR.cgJ l s lo hl h h1 h2
    · have e1 : nT (.inner 15 t q l r) = 1 + nT r := rfl
      have e2 : nE (.inner 15 t q l r) = nX l + nE r := rfl
      rw [e1] at h1
      rw [e2] at h2
      have hp := nX_pos l hl
      have h' : SR kd w (nd 15 t q l r) s lo := h
      rw [SR15] at h'
      obtain ⟨k1, k2, k3, k4, k5, k6, k7, k8⟩ := h'
      obtain ⟨g, g24⟩ := h1 s (Nat.le_refl _) (by omega)
      show SR kd w' (nd 15 t q l r) s lo
      rw [SR15]
      exact ⟨by rw [g 17 (by decide) (by decide) (by decide)]; exact k1, by rw [g 18 (by decide) (by decide) (by decide)]; exact k2, by rw [g 20 (by decide) (by decide) (by decide)]; exact k3, k4.congr hp (fun x a b => h2 x a (by omega)), SR.cgJ r _ _ hr k5 (fun x a b => h1 x (by omega) (by omega)) (fun x a b => h2 x (by omega) (by omega)), by rw [g 21 (by decide) (by decide) (by decide)]; exact k6, by rw [g 22 (by decide) (by decide) (by decide)]; exact k7, by rw [g24 k1]; exact k8⟩
    · have e1 : nT (.inner 16 t q l r) = 1 + nT l := rfl
      have e2 : nE (.inner 16 t q l r) = nE l := rfl
      rw [e1] at h1
      rw [e2] at h2
      have h' : SR kd w (nd 16 t q l r) s lo := h
      rw [SR16] at h'
      obtain ⟨k1, k2, k3, k4, k5⟩ := h'
      obtain ⟨g, -⟩ := h1 s (Nat.le_refl _) (by omega)
      show SR kd w' (nd 16 t q l r) s lo
      rw [SR16]
      exact ⟨by rw [g 17 (by decide) (by decide) (by decide)]; exact k1, by rw [g 18 (by decide) (by decide) (by decide)]; exact k2, by rw [g 19 (by decide) (by decide) (by decide)]; exact k3, by rw [g 21 (by decide) (by decide) (by decide)]; exact k4, SR.cgJ l _ _ hl k5 (fun x a b => h1 x (by omega) (by omega)) h2⟩
    · have e1 : nT (.inner 17 t q l r) = 1 := rfl
      rw [e1] at h1
      obtain ⟨g, -⟩ := h1 s (Nat.le_refl _) (by omega)
      have h' : SR kd w (nd 17 t q l r) s lo := h
      rw [SR17] at h'
      show SR kd w' (nd 17 t q l r) s lo
      rw [SR17]
      exact ⟨by rw [g 17 (by decide) (by decide) (by decide)]; exact h'.1, by rw [g 18 (by decide) (by decide) (by decide)]; exact h'.2⟩
    · have e1 : nT (.inner c t q l r) = 1 := nT11 (by omega)
      have e2 : nE (.inner c t q l r) = nX l := nE11 hc
      rw [e1] at h1
      rw [e2] at h2
      have hp := nX_pos l hl
      obtain ⟨g, -⟩ := h1 s (Nat.le_refl _) (by omega)
      have h' : SR kd w (nd c t q l r) s lo := h
      rw [SR11 hc] at h'
      obtain ⟨k1, k2, k3, k4, k5, k6⟩ := h'
      show SR kd w' (nd c t q l r) s lo
      rw [SR11 hc]
      exact ⟨by rw [g 17 (by decide) (by decide) (by decide)]; exact k1, by rw [g 18 (by decide) (by decide) (by decide)]; exact k2, by rw [g 19 (by decide) (by decide) (by decide)]; exact k3, by rw [g 20 (by decide) (by decide) (by decide)]; exact k4, k5.congr hp h2, fun z => by rw [g 25 (by decide) (by decide) (by decide)]; exact k6 z⟩
/-- the rows of statements hold the slots, those of exps what they name -/
def JS (T : Nat → Int) (L : Nat) (w : Wd) : Tr → List En → Nat → Nat → Prop
  | .leaf, _, _, _ => True
  | .inner c t _ l r, E, s, lo =>
    if c = 20 then JS T L w l E s lo ∧ JS T L w r (eSt T L E l) (s + nT l) (lo + nE l)
    else if c = 9 then JS T L w l E s lo ∧ JS T L w r E (s + nT l) (lo + nE l)
    else if c = 21 then JS T L w l E s lo
    else if c = 15 then JR T L E false w l lo ∧ JS T L w r E (s + 1) (lo + nX l)
    else if c = 16 then JS T L w l E (s + 1) lo
    else if c = 17 then True
    else if c = 12 then JR T L E false w l lo ∧ w 24 s = ((cntE 4 E : Nat) : Int)
    else if c = 11 then JR T L E false w l lo ∧ ∀ e, fnd T L E t = some e → (e.2.1 = 1 → w 24 s = (e.2.2.1 : Int)) ∧ (e.2.1 = 4 → w 24 s = ((100 + e.2.2.1 : Nat) : Int))
    else if c = 13 then JR T L E true w l lo ∧ ∀ e, fnd T L E t = some e → e.2.1 = 2 → w 24 s = (e.2.2.1 : Int)
    else JR T L E false w l lo ∧ ∀ e, fnd T L E t = some e → e.2.1 = 3 → w 24 s = (e.2.2.1 : Int)
