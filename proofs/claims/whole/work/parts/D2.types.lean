/-! ===== kinds of values ===== -/
abbrev b01 (x : Int) : Prop := x = 0 ∨ x = 1
def EK (E : List En) : Prop := ∀ e ∈ E, e.2.2.2 = 1 ∨ e.2.2.2 = 2
def TyX (E : List En) (own lets : Nat → Int) (X : Xv) : Prop := ∀ e ∈ E, e.2.2.2 = 2 → (e.2.1 = 1 → b01 (own e.2.2.1)) ∧ (e.2.1 = 4 → b01 (lets e.2.2.1)) ∧ (e.2.1 = 2 → b01 (X 1 e.2.2.1)) ∧ (e.2.1 = 3 → b01 (X 3 e.2.2.1))
section Types
variable {T : Nat → Int} {L : Nat} {X : Xv} {E : List En} {own lets : Nat → Int} {h_ arc : Nat} {bb : Bool}
theorem kn_12 (hL : L ≤ 4000) (hE : ENb E) (hK : EK E) : ∀ (a : Tr), WE a → 100000 ≤ jkT T L E bb a → knT T L E bb a = 1 ∨ knT T L E bb a = 2
  | .leaf, h, _ => h.elim
  | .inner c t q l r, hW, hj => by
    have ihl := kn_12 hL hE hK l
    have ihr := kn_12 hL hE hK r
    simp only [WE] at hW
    rcases hW with ⟨rfl, rfl, rfl⟩ | ⟨rfl, rfl, rfl⟩ | ⟨rfl, rfl, rfl⟩ | ⟨rfl, hl, rfl⟩ | ⟨rfl, hl, t9, q9, x, y, rfl, hxy⟩ | ⟨rfl, hl, hr⟩ | ⟨rfl, hl, rfl⟩ | ⟨rfl, hl, hr⟩ | ⟨rfl, hl, rfl⟩
    · have e : knT T L E bb (.inner 0 t q .leaf .leaf) = (if kdT T L t = 3 then 1 else if kdT T L t = 31 ∨ kdT T L t = 32 then 2 else if kdT T L t = 2 then nmK (fnd T L E t) else 1) := rfl
      rw [e]
      split
      · exact Or.inl rfl
      · split
        · exact Or.inr rfl
        · split
          · rename_i k2
            obtain ⟨e', hf, hso⟩ := nm_ok (bb := bb) hL hE k2 hj
            have hk := hK e' (fnd_mem _ hf)
            unfold nmK
            rw [hf]
            have : ¬ rdD (eSo (some e')) < 0 := by
              show ¬ rdD (e'.2.1 : Int) < 0
              rcases hso with z | z | z | z <;> rw [z] <;> decide
            rw [if_neg this]
            show (e'.2.2.2 : Int) = 1 ∨ (e'.2.2.2 : Int) = 2
            omega
          · exact Or.inl rfl
    · obtain ⟨hb, e', hf, hs⟩ := arc_ok (bb := bb) hL hj
      have e : knT T L E bb (.inner 1 t q .leaf .leaf) = (if bb = true ∧ eSo (fnd T L E t) = 0 then 1 else 0) := rfl
      rw [e, if_pos ⟨hb, by rw [hf]; show (e'.2.1 : Int) = 0; omega⟩]
      exact Or.inl rfl
    · obtain ⟨e', hf, hs⟩ := has_ok (bb := bb) hL hj
      have e : knT T L E bb (.inner 2 t q .leaf .leaf) = (if eSo (fnd T L E t) = 2 then 2 else 0) := rfl
      rw [e, if_pos (by rw [hf]; show (e'.2.1 : Int) = 2; omega)]
      exact Or.inr rfl
    · exact Or.inl rfl
    · have hjj : jkT T L E bb (.inner 4 t q l (nd 9 t9 q9 x y)) = min (min (jkT T L E bb l) (dm T L (knT T L E bb l) 2 (fst_ l))) (jkT T L E bb (nd 9 t9 q9 x y)) := rfl
      rw [hjj] at hj
      exact ihr hxy (by omega)
    · have hjj : jkT T L E bb (.inner 9 t q l r) = min (min (jkT T L E bb l) (jkT T L E bb r)) (dm T L (knT T L E bb r) (knT T L E bb l) (fst_ r)) := rfl
      rw [hjj] at hj
      have e : knT T L E bb (.inner 9 t q l r) = (if knT T L E bb l = 0 then knT T L E bb r else knT T L E bb l) := rfl
      have h1 := ihl hl (by omega)
      rw [e, if_neg (by omega)]
      exact h1
    · have e : knT T L E bb (.inner 5 t q l .leaf) = (if kdT T L t = 16 then 1 else 2) := rfl
      rw [e]
      split
      · exact Or.inl rfl
      · exact Or.inr rfl
    · have e : knT T L E bb (.inner 6 t q l r) = (if lnO (kdT T L t) ≤ 3 then 2 else 1) := rfl
      rw [e]
      split
      · exact Or.inr rfl
      · exact Or.inl rfl
    · exact ihl hl hj
theorem bnv_b {k : Nat} {a b : Int} (h : k = 21 ∨ k = 22 ∨ k = 13 ∨ k = 23 ∨ k = 14 ∨ k = 24) : b01 (bnv k a b) := by
  rcases h with rfl | rfl | rfl | rfl | rfl | rfl
  · show b01 (if a = b then 1 else 0); split <;> first | exact Or.inl rfl | exact Or.inr rfl
  · show b01 (if a = b then 0 else 1); split <;> first | exact Or.inl rfl | exact Or.inr rfl
  · show b01 (if a < b then 1 else 0); split <;> first | exact Or.inl rfl | exact Or.inr rfl
  · show b01 (if a ≤ b then 1 else 0); split <;> first | exact Or.inl rfl | exact Or.inr rfl
  · show b01 (if b < a then 1 else 0); split <;> first | exact Or.inl rfl | exact Or.inr rfl
  · show b01 (if b ≤ a then 1 else 0); split <;> first | exact Or.inl rfl | exact Or.inr rfl
theorem ev_ty (hL : L ≤ 4000) (hE : ENb E) (hK : EK E) (hT : TyX E own lets X) : ∀ (a : Tr) (b : Bool) (s d : Nat) (q : Int × Nat × Nat), WE a → (∃ j, tkB (kdT T L) j a) → 100000 ≤ jkT T L E bb a → evx T L X h_ E own lets arc b a s d = .ok q → knT T L E bb a = 2 → b01 q.1
  | .leaf, _, _, _, _, h, _, _, _, _ => h.elim
  | .inner c t qq l r, b, s, d, q, hW, ⟨j, hk⟩, hj, he, hkn => by
    have ihl := ev_ty hL hE hK hT l
    have ihr := ev_ty hL hE hK hT r
    have hkl : ∃ j, tkB (kdT T L) j l := ⟨j, hk.1⟩
    have hkr : ∃ j, tkB (kdT T L) j r := ⟨j, hk.2.1⟩
    have hk12l := kn_12 (T := T) (bb := bb) hL hE hK l
    have hk12r := kn_12 (T := T) (bb := bb) hL hE hK r
    simp only [WE] at hW
    rcases hW with ⟨rfl, rfl, rfl⟩ | ⟨rfl, rfl, rfl⟩ | ⟨rfl, rfl, rfl⟩ | ⟨rfl, hl, rfl⟩ | ⟨rfl, hl, t9, q9, x, y, rfl, hxy⟩ | ⟨rfl, hl, hr⟩ | ⟨rfl, hl, rfl⟩ | ⟨rfl, hl, hr⟩ | ⟨rfl, hl, rfl⟩
    · rw [show evx T L X h_ E own lets arc b (.inner 0 t qq .leaf .leaf) s d = _ from evx0 (Or.inl rfl)] at he
      obtain ⟨s1, -, he⟩ := bnd_ok he
      cases he
      show b01 (opv T L X E own lets arc 0 t)
      have e : knT T L E bb (.inner 0 t qq .leaf .leaf) = (if kdT T L t = 3 then 1 else if kdT T L t = 31 ∨ kdT T L t = 32 then 2 else if kdT T L t = 2 then nmK (fnd T L E t) else 1) := rfl
      rw [e] at hkn
      unfold opv
      rw [if_neg (by decide), if_neg (by decide)]
      by_cases k3 : kdT T L t = 3
      · rw [if_pos k3] at hkn; omega
      rw [if_neg k3] at hkn
      by_cases k32 : kdT T L t = 32
      · rw [if_pos (Or.inr k32), kd32_val k32]; exact Or.inl rfl
      rw [if_neg (by omega)]
      by_cases k31 : kdT T L t = 31
      · rw [if_pos k31]; exact Or.inr rfl
      rw [if_neg k31]
      rw [if_neg (by omega)] at hkn
      by_cases k2 : kdT T L t = 2
      · rw [if_pos k2] at hkn ⊢
        obtain ⟨e', hf, hso⟩ := nm_ok (bb := bb) hL hE k2 hj
        obtain ⟨n1, n2, n3, n4⟩ := fnd_nb hE hf
        have : ¬ rdD (eSo (fnd T L E t)) < 0 := by
          rw [n3]
          rcases hso with z | z | z | z <;> rw [z] <;> decide
        unfold nmK at hkn
        rw [if_neg this, hf] at hkn
        have hk2 : e'.2.2.2 = 2 := by have : (e'.2.2.2 : Int) = 2 := hkn; omega
        obtain ⟨t1, t4, t2, t3⟩ := hT e' (fnd_mem _ hf) hk2
        rw [n3, n1]
        rcases hso with z | z | z | z
        · rw [z, if_pos (by rfl)]; exact t1 z
        · rw [z, if_neg (by decide), if_neg (by decide), if_pos (by rfl)]; exact t2 z
        · rw [z, if_neg (by decide), if_neg (by decide), if_neg (by decide)]; exact t3 z
        · rw [z, if_neg (by decide), if_pos (by rfl)]; exact t4 z
      · rw [if_neg k2] at hkn; omega
    · have e : knT T L E bb (.inner 1 t qq .leaf .leaf) = (if bb = true ∧ eSo (fnd T L E t) = 0 then 1 else 0) := rfl
      rw [e] at hkn
      split at hkn <;> omega
    · rw [show evx T L X h_ E own lets arc b (.inner 2 t qq .leaf .leaf) s d = _ from evx0 (Or.inr (Or.inr rfl))] at he
      obtain ⟨s1, -, he⟩ := bnd_ok he
      cases he
      show b01 (if X 2 (nmN T L E t) ≤ 0 then 0 else 1)
      split
      · exact Or.inl rfl
      · exact Or.inr rfl
    · have e : knT T L E bb (.inner 3 t qq l .leaf) = 1 := rfl
      rw [e] at hkn; omega
    · have hjj : jkT T L E bb (.inner 4 t qq l (nd 9 t9 q9 x y)) = min (min (jkT T L E bb l) (dm T L (knT T L E bb l) 2 (fst_ l))) (jkT T L E bb (nd 9 t9 q9 x y)) := rfl
      rw [hjj] at hj
      rw [show evx T L X h_ E own lets arc b (.inner 4 t qq l (nd 9 t9 q9 x y)) s d = _ from evx4] at he
      obtain ⟨p, hp, he⟩ := bnd_ok he
      obtain ⟨s1, -, he⟩ := bnd_ok he
      exact ihr _ _ _ q hxy hkr (by omega) he hkn
    · have hjj : jkT T L E bb (.inner 9 t qq l r) = min (min (jkT T L E bb l) (jkT T L E bb r)) (dm T L (knT T L E bb r) (knT T L E bb l) (fst_ r)) := rfl
      rw [hjj] at hj
      have e : knT T L E bb (.inner 9 t qq l r) = (if knT T L E bb l = 0 then knT T L E bb r else knT T L E bb l) := rfl
      have h1 := hk12l hl (by omega)
      have h2 := hk12r hr (by omega)
      rw [e, if_neg (by omega)] at hkn
      have hdm := dm_ge (T := T) hL (show 100000 ≤ dm T L (knT T L E bb r) (knT T L E bb l) (fst_ r) by omega)
      rw [show evx T L X h_ E own lets arc b (.inner 9 t qq l r) s d = _ from evx9] at he
      split at he
      · exact ihl _ _ _ q hl hkl (by omega) he hkn
      · exact ihr _ _ _ q hr hkr (by omega) he (by omega)
    · have hjj : jkT T L E bb (.inner 5 t qq l .leaf) = min (jkT T L E bb l) (dm T L (knT T L E bb l) (if kdT T L t = 16 then 1 else 2) (fst_ l)) := rfl
      rw [hjj] at hj
      have e : knT T L E bb (.inner 5 t qq l .leaf) = (if kdT T L t = 16 then 1 else 2) := rfl
      rw [e] at hkn
      have k16 : ¬ kdT T L t = 16 := fun z => by rw [if_pos z] at hkn; omega
      rw [if_neg k16] at hj
      have h1 := hk12l hl (by omega)
      have hdm := dm_ge (T := T) hL (show 100000 ≤ dm T L (knT T L E bb l) 2 (fst_ l) by omega)
      rw [show evx T L X h_ E own lets arc b (.inner 5 t qq l .leaf) s d = _ from evx5] at he
      obtain ⟨p, hp, he⟩ := bnd_ok he
      obtain ⟨s1, -, he⟩ := bnd_ok he
      cases he
      have h2 := ihl _ _ _ p hl hkl (by omega) hp (by omega)
      show b01 (if kdT T L t = 16 then wr (-p.1) else wr (1 - p.1))
      rw [if_neg k16]
      rcases h2 with z | z <;> rw [z]
      · exact Or.inr (by decide)
      · exact Or.inl (by decide)
    · have hjl : 100000 ≤ jkT T L E bb l ∧ 100000 ≤ jkT T L E bb r ∧ (lnO (kdT T L t) ≤ 2 → 100000 ≤ dm T L (knT T L E bb l) 2 (fst_ l) ∧ 100000 ≤ dm T L (knT T L E bb r) 2 (fst_ r)) := by
        have hjj : jkT T L E bb (.inner 6 t qq l r) = (if kdT T L t = 21 ∨ kdT T L t = 22 then min (min (jkT T L E bb l) (jkT T L E bb r)) (dm T L (knT T L E bb r) (knT T L E bb l) (fst_ r)) else min (min (jkT T L E bb l) (jkT T L E bb r)) (min (dm T L (knT T L E bb l) (if lnO (kdT T L t) ≤ 2 then 2 else 1) (fst_ l)) (dm T L (knT T L E bb r) (if lnO (kdT T L t) ≤ 2 then 2 else 1) (fst_ r)))) := rfl
        rw [hjj] at hj
        split at hj
        · rename_i hz
          refine ⟨by omega, by omega, fun z => ?_⟩
          exfalso
          rcases hz with hz | hz <;> rw [hz] at z <;> exact absurd z (by decide)
        · refine ⟨by omega, by omega, fun z => ?_⟩
          rw [if_pos z] at hj
          omega
      have h1 := hk12l hl hjl.1
      have h2 := hk12r hr hjl.2.1
      rw [show evx T L X h_ E own lets arc b (.inner 6 t qq l r) s d = _ from evx6] at he
      by_cases hln : lnO (kdT T L t) ≤ 2
      · rw [if_pos hln] at he
        obtain ⟨p, hp, he⟩ := bnd_ok he
        obtain ⟨s1, -, he⟩ := bnd_ok he
        obtain ⟨d1, d2⟩ := hjl.2.2 hln
        have g1 := dm_ge (T := T) hL d1
        have g2 := dm_ge (T := T) hL d2
        by_cases hz : p.1 = (if lnO (kdT T L t) = 2 then 0 else 1)
        · rw [if_pos hz] at he
          cases he
          exact ihl _ _ _ p hl hkl hjl.1 hp (by omega)
        · rw [if_neg hz] at he
          exact ihr _ _ _ q hr hkr hjl.2.1 he (by omega)
      · rw [if_neg hln] at he
        obtain ⟨p, hp, he⟩ := bnd_ok he
        obtain ⟨p2, hp2, he⟩ := bnd_ok he
        obtain ⟨s1, -, he⟩ := bnd_ok he
        split at he
        · cases he
        · cases he
          have e : knT T L E bb (.inner 6 t qq l r) = (if lnO (kdT T L t) ≤ 3 then 2 else 1) := rfl
          rw [e] at hkn
          have h3 : lnO (kdT T L t) ≤ 3 := by
            by_cases z : lnO (kdT T L t) ≤ 3
            · exact z
            · rw [if_neg z] at hkn; omega
          have hc := ln_cases (kdT T L t) (hk.2.2.2.1 rfl)
          exact bnv_b (by omega)
    · rw [show evx T L X h_ E own lets arc b (.inner 7 t qq l .leaf) s d = _ from evx7] at he
      exact ihl _ _ _ q hl hkl hj he hkn
end Types
