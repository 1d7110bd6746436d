/-! ===== fault ===== -/
section Fault
variable {g gm : Mg} {d : Nat} {K : Ou → Wd → Prop} {w wc wm : Wd} {p : Int}
theorem sp_lineF {q L : Nat} (hL : w 2 1 = (L : Int)) (hL4 : L ≤ 4000) (hq : q ≤ L) (h : K (.inl (some (vI ((lnF (w 3) q : Nat) : Int)))) w) : Cal g LC jTe_lineOf d [vA 2, vI (q : Int)] w K := by
  have lp : ∀ (f i : Nat), i + f = q → V g LC jTe_lineOf d K 4 [(0, vA 2), (1, vI (q : Int)), (2, vI ((lnF (w 3) i : Nat) : Int)), (3, vI (i : Int))] [] w := by
    intro f
    induction f with
    | zero =>
      intro i hi
      have : i = q := by omega
      subst this
      exact s_Te_lineOf_4 ⟨fun _ => h, fun z => absurd (Int.le_refl _) z⟩
    | succ f ih =>
      intro i hi
      have hgo := ih (i + 1) (by omega)
      have hle := lnF_le (w 3) i
      rw [lnF] at hgo
      refine s_Te_lineOf_4 ⟨fun z => absurd z (by omega), fun _ => ⟨fun z => absurd z (by rw [hL]; omega), fun _ => ⟨by omega, fun z => ?_, fun z => ?_⟩⟩⟩
      · rw [toN] at z
        rw [if_neg z, Nat.add_zero] at hgo
        rw [wr_n1 (by omega)]
        exact hgo
      · rw [toN] at z
        rw [if_pos z] at hgo
        rw [wr_n1 (by omega), wr_n1 (by omega)]
        exact hgo
  exact Cal.ofV (by decide) rfl (Nat.le_of_ble_eq_true rfl) (s_Te_lineOf (lp q 0 (by omega)))
theorem sp_fpNo (hd : 1 ≤ d) (h2 : w 25 2 = 0) (h4 : w 25 4 = 0) (h : K (.inl (some (vI (-1)))) w) : Cal g LC jRe_faultPlace d [vA 24] w K := by
  obtain ⟨d, rfl⟩ : ∃ d', d = d' + 1 := ⟨d - 1, by omega⟩
  exact Cal.ofV (by decide) rfl (Nat.le_of_ble_eq_true rfl) (s_Re_faultPlace (Cal.ofV (by decide) rfl (Nat.le_of_ble_eq_true rfl) (s_Cu_worst ⟨fun _ => ⟨fun z => absurd h4 z, fun _ => h⟩, fun z => absurd h2 z⟩)))
theorem sp_fpYes {q : Nat} (hd : 1 ≤ d) (hf : (w 25 2 ≠ 0 ∧ w 25 3 = (q : Int)) ∨ (w 25 2 = 0 ∧ w 25 4 ≠ 0 ∧ w 25 5 = (q : Int))) (h : K (.inl (some (vI (q : Int)))) w) : Cal g LC jRe_faultPlace d [vA 24] w K := by
  obtain ⟨d, rfl⟩ : ∃ d', d = d' + 1 := ⟨d - 1, by omega⟩
  refine Cal.ofV (by decide) rfl (Nat.le_of_ble_eq_true rfl) (s_Re_faultPlace (Cal.ofV (by decide) rfl (Nat.le_of_ble_eq_true rfl) (s_Cu_worst ?_)))
  rcases hf with ⟨h2, h3⟩ | ⟨h2, h4, h5⟩
  · refine ⟨fun z => absurd z h2, fun _ => ⟨fun _ => Cal.ofV (by decide) rfl (Nat.le_of_ble_eq_true rfl) (s_Cu_worstPlace ⟨fun z => absurd z h2, fun _ => ?_⟩), fun z => absurd z h2⟩⟩
    rw [h3]; exact h
  · refine ⟨fun _ => ⟨fun _ => Cal.ofV (by decide) rfl (Nat.le_of_ble_eq_true rfl) (s_Cu_worstPlace ⟨fun _ => ?_, fun z => absurd h2 z⟩), fun z => absurd z h4⟩, fun z => absurd h2 z⟩
    rw [h5]; exact h
theorem b_fault (hd : 4 ≤ d) (hI : Inv wc wm) (h : ∀ x wc', Bo jMd_fault [vA 0, vI p] wm wc' x → K (.inl (some (vI x))) wc') : Cal g LC jVL_fault d [vA 0, vI p] wc K := by
  obtain ⟨d, rfl⟩ : ∃ d', d = d' + 1 := ⟨d - 1, by omega⟩
  have md : ∀ x, (p = 0 → x = wm 0 55) → (p = 1 → x = wm 0 56) → (¬ p = 0 → ¬ p = 1 → x = -1) → K (.inl (some (vI x))) wc := by
    intro x y0 y1 y2
    refine h x wc (Bo.same hI (fun gm dM Kx hdM hK => Cal.ofV (by decide) rfl (Nat.le_of_ble_eq_true rfl) (s_Md_fault ⟨fun z0 => ⟨fun z1 => ?_, fun z1 => ?_⟩, fun z0 => ?_⟩)))
    · rw [y2 z0 z1] at hK; exact hK
    · rw [y1 z1] at hK; exact hK
    · rw [y0 z0] at hK; exact hK
  obtain ⟨L, l1, l2, l3⟩ := hI.1.2.2.2
  rcases l3 with ⟨f1, f2, f3, f4⟩ | ⟨q, q1, q2, q3, q4⟩
  · refine Cal.ofV (by decide) rfl (Nat.le_of_ble_eq_true rfl) (s_VL_fault ⟨fun z => sp_fpNo (by omega) f1 f2 ⟨fun y => absurd y (by decide), fun _ => md _ (fun _ => f3.symm) (fun y => by omega) (fun y => absurd z y)⟩, fun z => ⟨fun z1 => sp_fpNo (by omega) f1 f2 ⟨fun y => absurd y (by decide), fun _ => md _ (fun y => absurd y z) (fun _ => f4.symm) (fun _ y => absurd z1 y)⟩, fun z1 => md _ (fun y => absurd y z) (fun y => absurd y z1) (fun _ _ => rfl)⟩⟩)
  · refine Cal.ofV (by decide) rfl (Nat.le_of_ble_eq_true rfl) (s_VL_fault ⟨fun z => sp_fpYes (by omega) q2 ⟨fun _ => ⟨fun y => absurd z y, fun _ => sp_fpYes (by omega) q2 (md _ (fun _ => q3.symm) (fun y => by omega) (fun y => absurd z y))⟩, fun y => absurd (by omega) y⟩, fun z => ⟨fun z1 => sp_fpYes (by omega) q2 ⟨fun _ => ⟨fun _ => sp_fpYes (by omega) q2 (sp_lineF l2 l1 q1 (md _ (fun y => absurd y z) (fun _ => q4.symm) (fun _ y => absurd z1 y))), fun y => absurd y z⟩, fun y => absurd (by omega) y⟩, fun z1 => md _ (fun y => absurd y z) (fun y => absurd y z1) (fun _ _ => rfl)⟩⟩)
end Fault
