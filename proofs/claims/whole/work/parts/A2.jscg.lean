/-! ===== judged statements: congruence ===== -/
section JSrows
variable {T : Nat → Int} {L : Nat} {w : Wd} {t q s lo : Nat} {l r : Tr} {E : List En}
theorem JS11 : JS T L w (nd 11 t q l r) E s lo = (JR T L E false w l lo ∧ ∀ e, fnd T L E t = some e → (e.2.1 = 1 → w 24 s = (e.2.2.1 : Int)) ∧ (e.2.1 = 4 → w 24 s = ((100 + e.2.2.1 : Nat) : Int))) := rfl
theorem JS12 : JS T L w (nd 12 t q l r) E s lo = (JR T L E false w l lo ∧ w 24 s = ((cntE 4 E : Nat) : Int)) := rfl
theorem JS13 : JS T L w (nd 13 t q l r) E s lo = (JR T L E true w l lo ∧ ∀ e, fnd T L E t = some e → e.2.1 = 2 → w 24 s = (e.2.2.1 : Int)) := rfl
theorem JS14 : JS T L w (nd 14 t q l r) E s lo = (JR T L E false w l lo ∧ ∀ e, fnd T L E t = some e → e.2.1 = 3 → w 24 s = (e.2.2.1 : Int)) := rfl
end JSrows
theorem JS.congr {T : Nat → Int} {L : Nat} {w w' : Wd} : ∀ (a : Tr) (E : List En) (s lo : Nat), WS a → JS T L w a E s lo → (∀ x, s ≤ x → x < s + nT a → w' 24 x = w 24 x) → (∀ x, lo ≤ x → x < lo + nE a → w' 32 x = w 32 x ∧ w' 33 x = w 33 x) → JS T L w' a E s lo
  | .leaf, E, s, lo, hw, h, h1, h2 => trivial
  | .inner c t q l r, E, s, lo, hw, h, h1, h2 => by
    simp only [WS] at hw
    rcases hw with ⟨rfl, hl, hr, ht⟩ | ⟨rfl, hl, hr⟩ | ⟨rfl, hl⟩ | ⟨rfl, hl, hr⟩ | ⟨rfl, hl⟩ | rfl | ⟨hc, hl⟩
    · have e1 : nT (.inner 20 t q l r) = nT l + nT r := rfl
      have e2 : nE (.inner 20 t q l r) = nE l + nE r := rfl
      rw [e1] at h1
      rw [e2] at h2
      obtain ⟨k1, k2⟩ : JS T L w l E s lo ∧ JS T L w r (eSt T L E l) (s + nT l) (lo + nE l) := h
      exact ⟨JS.congr l _ s lo hl k1 (fun x a b => h1 x a (by omega)) (fun x a b => h2 x a (by omega)), JS.congr r _ _ _ hr k2 (fun x a b => h1 x (by omega) (by omega)) (fun x a b => h2 x (by omega) (by omega))⟩
    · have e1 : nT (.inner 9 t q l r) = nT l + nT r := rfl
      have e2 : nE (.inner 9 t q l r) = nE l + nE r := rfl
      rw [e1] at h1
      rw [e2] at h2
      obtain ⟨k1, k2⟩ : JS T L w l E s lo ∧ JS T L w r E (s + nT l) (lo + nE l) := h
      exact ⟨JS.congr l _ s lo hl k1 (fun x a b => h1 x a (by omega)) (fun x a b => h2 x a (by omega)), JS.congr r _ _ _ hr k2 (fun x a b => h1 x (by omega) (by omega)) (fun x a b => h2 x (by omega) (by omega))⟩
    · exact JS.congr l E s lo hl h h1 h2
    · have e1 : nT (.inner 15 t q l r) = 1 + nT r := rfl
      have e2 : nE (.inner 15 t q l r) = nX l + nE r := rfl
      rw [e1] at h1
      rw [e2] at h2
      obtain ⟨k1, k2⟩ : JR T L E false w l lo ∧ JS T L w r E (s + 1) (lo + nX l) := h
      exact ⟨JR.congr l lo k1 (fun x a b => h2 x a (by omega)), JS.congr r _ _ _ hr k2 (fun x a b => h1 x (by omega) (by omega)) (fun x a b => h2 x (by omega) (by omega))⟩
    · have e1 : nT (.inner 16 t q l r) = 1 + nT l := rfl
      have e2 : nE (.inner 16 t q l r) = nE l := rfl
      rw [e1] at h1
      rw [e2] at h2
      have k : JS T L w l E (s + 1) lo := h
      exact JS.congr l _ _ _ hl k (fun x a b => h1 x (by omega) (by omega)) h2
    · trivial
    · have e1 : nT (.inner c t q l r) = 1 := nT11 (by omega)
      have e2 : nE (.inner c t q l r) = nX l := nE11 hc
      rw [e1] at h1
      rw [e2] at h2
      have g := h1 s (Nat.le_refl _) (by omega)
      rcases hc with rfl | rfl | rfl | rfl
      · have h' : JS T L w (nd 11 t q l r) E s lo := h
        rw [JS11] at h'
        show JS T L w' (nd 11 t q l r) E s lo
        rw [JS11, g]
        exact ⟨JR.congr l lo h'.1 h2, h'.2⟩
      · have h' : JS T L w (nd 12 t q l r) E s lo := h
        rw [JS12] at h'
        show JS T L w' (nd 12 t q l r) E s lo
        rw [JS12, g]
        exact ⟨JR.congr l lo h'.1 h2, h'.2⟩
      · have h' : JS T L w (nd 13 t q l r) E s lo := h
        rw [JS13] at h'
        show JS T L w' (nd 13 t q l r) E s lo
        rw [JS13, g]
        exact ⟨JR.congr l lo h'.1 h2, h'.2⟩
      · have h' : JS T L w (nd 14 t q l r) E s lo := h
        rw [JS14] at h'
        show JS T L w' (nd 14 t q l r) E s lo
        rw [JS14, g]
        exact ⟨JR.congr l lo h'.1 h2, h'.2⟩
