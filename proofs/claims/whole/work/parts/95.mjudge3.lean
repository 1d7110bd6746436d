/-! ===== the model judges exps: arc, has, unary ===== -/
section ModelJudge3
variable {g : Mg} {d D : Nat} {K : Ou → Wd → Prop} {w w' : Wd} {T : Nat → Int} {L m : Nat} {E1 E2 : List En} {b : Bool}
theorem KyM.u {k o n : Nat} {v : Int} (h : KyM w k) (ho : o ≠ 0) : KyM (up w o n v) k := by
  unfold KyM at *
  rw [up_o (show (0 : Nat) ≠ o by omega)]
  exact h
theorem eSo_n {e : En} {n : Nat} : eSo (some e) = (n : Int) ↔ e.2.1 = n := by
  show (e.2.1 : Int) = (n : Int) ↔ _
  omega
theorem jd_1 {t q lo : Nat} (hD : 5 ≤ D) (ht : t ≤ m) (hlo : lo < 2000) : SpJ g D T L m E1 E2 b (nd 1 t q nl nl) lo := by
  intro K w k hM hE hA hK h
  obtain ⟨d, rfl⟩ : ∃ d, D = d + 1 := ⟨D - 1, by omega⟩
  have hn : lo + nX (nd 1 t q nl nl) = lo + 1 := rfl
  rw [hn] at h ⊢
  rw [Nat.add_sub_cancel]
  obtain ⟨-, -, -, -, h5, -⟩ := hA
  obtain ⟨h27, h26⟩ := h5 (by decide) (by decide)
  have h27 : w 27 lo = (t : Int) := h27
  have h26 : w 26 lo = 4 := h26
  have hb : (0 : Int) ≤ (lo : Int) ∧ (lo : Int) < 2000 := by omega
  have hj : jkT T L (E1 ++ E2) b (nd 1 t q nl nl) = (if b = true ∧ eSo (fnd T L (E1 ++ E2) t) = 0 then 100000 else tAt T L t * 8 + 4) := rfl
  have hkn : knT T L (E1 ++ E2) b (nd 1 t q nl nl) = (if b = true ∧ eSo (fnd T L (E1 ++ E2) t) = 0 then 1 else 0) := rfl
  have hfl : ∀ w1, FMj w w1 lo (lo + 1) → w1 27 = w 27 → KyM w1 k → ¬ (b = true ∧ eSo (fnd T L (E1 ++ E2) t) = 0) → Cal g LM jMd_blame d [vA 0, vI 4, vI (w1 27 lo)] w1 (fun o w3 => rVt o (fun b => K (.inr b) w3) (K (.inl (some (vI 2))) w3)) := by
    intro w1 hf1 h1 hK1 hneg
    rw [h1, h27]
    refine sp_blameM (f := 4) (by omega) (hM.fj hf1) ht (by decide) hK1 (fun w3 p q r => ?_)
    have := h w3 (hf1.tr (FMj.bl ⟨p, q⟩)) (by rw [hj, if_neg hneg]; exact r) ⟨trivial, trivial, fun z => absurd z (by decide), fun _ hb e he h0 => absurd ⟨hb, by rw [he]; exact eSo_n.mpr h0⟩ hneg, fun z => absurd z (by decide)⟩
    rw [hkn, if_neg hneg] at this
    exact this
  refine Cal.ofV (by decide) rfl (Nat.le_of_ble_eq_true rfl) (s_Md_judge ⟨hb, hb, hb, ?_⟩)
  rw [toN, h26]
  refine ⟨fun z => absurd z (by decide), fun z => absurd z (by decide), fun z => absurd z (by decide), fun z => absurd z (by decide), fun _ => ⟨fun z => ⟨hb, ?_⟩, fun z => ⟨hb, ?_⟩⟩, fun z => absurd z (by decide), fun z => absurd z (by decide), fun z => absurd z (by decide), fun z => absurd z (by decide), fun z => absurd z (by decide), fun z => absurd z (by decide), fun z => absurd z (by decide)⟩
  · exact hfl w (FMj.rf w) rfl hK (fun q => by rw [q.1] at z; exact absurd z (by decide))
  · have hbt : b = true := by
      cases b with
      | true => rfl
      | false => exact absurd rfl z
    rw [h27]
    refine sp_findM (by omega) hM hE ht (fun w1 hF1 => ⟨fun z => ⟨hb, hfl w1 (FMj.fn hF1) (hF1.1 27 (by decide)) (hK.fn hF1) ?_⟩, fun z => ⟨fun z2 => ⟨hb, ?_⟩, fun z2 => ⟨hb, hfl w1 (FMj.fn hF1) (hF1.1 27 (by decide)) (hK.fn hF1) ?_⟩⟩⟩)
    · rw [nn_none z]; exact fun q => absurd q.2 (by decide)
    · obtain ⟨e, he⟩ := nn_some z
      obtain ⟨f1, f2, f3⟩ := hF1.2.2 e he
      rw [f1] at z2
      have hyes : b = true ∧ eSo (fnd T L (E1 ++ E2) t) = 0 := ⟨hbt, by rw [he]; exact z2⟩
      have hf1 : FMj w w1 lo (lo + 1) := FMj.fn hF1
      rw [f2]
      have := h (up w1 33 lo (e.2.2.1 : Int)) (hf1.tr (FMj.u (Or.inr rfl) ⟨Nat.le_refl _, Nat.lt_succ_self _⟩)) (by rw [hj, if_pos hyes, hK.big]; exact (hK.fn hF1).u (by decide)) ⟨trivial, trivial, fun z => absurd z (by decide), fun _ _ e' he' _ => ?_, fun z => absurd z (by decide)⟩
      · rw [hkn, if_pos hyes] at this
        exact this
      · rw [he] at he'
        cases he'
        exact up_s _ _ _ _
    · obtain ⟨e, he⟩ := nn_some z
      obtain ⟨f1, f2, f3⟩ := hF1.2.2 e he
      rw [f1] at z2
      rw [he]
      exact fun q => z2 q.2
theorem jd_2 {t q lo : Nat} (hD : 5 ≤ D) (ht : t ≤ m) (hlo : lo < 2000) : SpJ g D T L m E1 E2 b (nd 2 t q nl nl) lo := by
  intro K w k hM hE hA hK h
  obtain ⟨d, rfl⟩ : ∃ d, D = d + 1 := ⟨D - 1, by omega⟩
  have hn : lo + nX (nd 2 t q nl nl) = lo + 1 := rfl
  rw [hn] at h ⊢
  rw [Nat.add_sub_cancel]
  obtain ⟨-, -, -, -, h5, -⟩ := hA
  obtain ⟨h27, h26⟩ := h5 (by decide) (by decide)
  have h27 : w 27 lo = (t : Int) := h27
  have h26 : w 26 lo = 5 := h26
  have hb : (0 : Int) ≤ (lo : Int) ∧ (lo : Int) < 2000 := by omega
  have hj : jkT T L (E1 ++ E2) b (nd 2 t q nl nl) = (if eSo (fnd T L (E1 ++ E2) t) = 2 then 100000 else tAt T L t * 8 + 4) := rfl
  have hkn : knT T L (E1 ++ E2) b (nd 2 t q nl nl) = (if eSo (fnd T L (E1 ++ E2) t) = 2 then 2 else 0) := rfl
  have hfl : ∀ w1, FMj w w1 lo (lo + 1) → w1 27 = w 27 → KyM w1 k → ¬ eSo (fnd T L (E1 ++ E2) t) = 2 → Cal g LM jMd_blame d [vA 0, vI 4, vI (w1 27 lo)] w1 (fun o w3 => rVt o (fun b => K (.inr b) w3) (K (.inl (some (vI 2))) w3)) := by
    intro w1 hf1 h1 hK1 hneg
    rw [h1, h27]
    refine sp_blameM (f := 4) (by omega) (hM.fj hf1) ht (by decide) hK1 (fun w3 p q r => ?_)
    have := h w3 (hf1.tr (FMj.bl ⟨p, q⟩)) (by rw [hj, if_neg hneg]; exact r) ⟨trivial, trivial, fun z => absurd z (by decide), fun z => absurd z (by decide), fun _ e he h0 => absurd (by rw [he]; exact eSo_n.mpr h0) hneg⟩
    rw [hkn, if_neg hneg] at this
    exact this
  refine Cal.ofV (by decide) rfl (Nat.le_of_ble_eq_true rfl) (s_Md_judge ⟨hb, hb, hb, ?_⟩)
  rw [toN, h26]
  refine ⟨fun z => absurd z (by decide), fun z => absurd z (by decide), fun z => absurd z (by decide), fun z => absurd z (by decide), fun z => absurd z (by decide), fun _ => ⟨hb, ?_⟩, fun z => absurd z (by decide), fun z => absurd z (by decide), fun z => absurd z (by decide), fun z => absurd z (by decide), fun z => absurd z (by decide), fun z => absurd z (by decide)⟩
  rw [h27]
  refine sp_findM (by omega) hM hE ht (fun w1 hF1 => ⟨fun z => ⟨hb, hfl w1 (FMj.fn hF1) (hF1.1 27 (by decide)) (hK.fn hF1) ?_⟩, fun z => ⟨fun z2 => ⟨hb, ?_⟩, fun z2 => ⟨hb, hfl w1 (FMj.fn hF1) (hF1.1 27 (by decide)) (hK.fn hF1) ?_⟩⟩⟩)
  · rw [nn_none z]; decide
  · obtain ⟨e, he⟩ := nn_some z
    obtain ⟨f1, f2, f3⟩ := hF1.2.2 e he
    rw [f1] at z2
    have hyes : eSo (fnd T L (E1 ++ E2) t) = 2 := by rw [he]; exact z2
    have hf1 : FMj w w1 lo (lo + 1) := FMj.fn hF1
    rw [f2]
    have := h (up w1 33 lo (e.2.2.1 : Int)) (hf1.tr (FMj.u (Or.inr rfl) ⟨Nat.le_refl _, Nat.lt_succ_self _⟩)) (by rw [hj, if_pos hyes, hK.big]; exact (hK.fn hF1).u (by decide)) ⟨trivial, trivial, fun z => absurd z (by decide), fun z => absurd z (by decide), fun _ e' he' _ => ?_⟩
    · rw [hkn, if_pos hyes] at this
      exact this
    · rw [he] at he'
      cases he'
      exact up_s _ _ _ _
  · obtain ⟨e, he⟩ := nn_some z
    obtain ⟨f1, f2, f3⟩ := hF1.2.2 e he
    rw [f1] at z2
    rw [he]
    exact z2
end ModelJudge3
