/-! ===== message, messages, global, halted ===== -/
section Reads2
variable {g gm : Mg} {d n : Nat} {K : Ou → Wd → Prop} {w wc wm : Wd} {p p1 p2 : Int}
theorem sp_nothingM (h : K (.inl (some (vI (nthM p)))) w) : Cal gm LM jMd_nothing d [vI p] w K := by
  unfold nthM at h
  refine Cal.ofV (by decide) rfl (Nat.le_of_ble_eq_true rfl) (s_Md_nothing ⟨fun z1 => ⟨fun z2 => ⟨fun z3 => ?_, fun z3 => ?_⟩, fun z2 => ?_⟩, fun z1 => ?_⟩)
  · rw [if_neg z1, if_neg z2, if_neg z3] at h; exact h
  · rw [if_neg z1, if_neg z2, if_pos z3] at h; exact h
  · rw [if_neg z1, if_pos z2] at h; exact h
  · rw [if_pos z1] at h; exact h
/-- noFold() where a RUN is -/
theorem sp_noFold {c2 : Nat} (hd : 1 ≤ d) (hp1 : inI p1) (hp2 : inI p2) (hn : n ≤ 40) (hc : c2 ≤ 4) (h64 : w 0 64 = 1) (h59 : w 0 59 = (n : Int)) (h16 : w 16 2 = (c2 : Int)) (h0 : (0 ≤ p1 ∧ p1 < (n : Int)) → (0 ≤ p2 ∧ p2 < (c2 : Int)) → K (.inl (some (vI 0))) w) (h1 : ¬ ((0 ≤ p1 ∧ p1 < (n : Int)) ∧ (0 ≤ p2 ∧ p2 < (c2 : Int))) → K (.inl (some (vI 1))) w) : Cal gm LM jMd_noFold d [vA 0, vI p1, vI p2] w K := by
  obtain ⟨d, rfl⟩ : ∃ d', d = d' + 1 := ⟨d - 1, by omega⟩
  refine Cal.ofV (by decide) rfl (Nat.le_of_ble_eq_true rfl) (s_Md_noFold ⟨fun y => absurd y (by rw [h64]; decide), fun _ => sp_in0 (n := n) hp1 (by omega) (by rw [h59]) (fun a => ⟨fun y => absurd y (by decide), fun _ => sp_in0 (n := c2) hp2 (by omega) (by rw [h16]) (fun b => ⟨fun _ => h0 a b, fun y => absurd y (by decide)⟩) (fun b => ⟨fun y => absurd rfl y, fun _ => h1 (fun q => b q.2)⟩)⟩) (fun a => ⟨fun _ => h1 (fun q => a q.1), fun y => absurd rfl y⟩)⟩)
theorem sp_noFold0 (hd : 1 ≤ d) (h64 : w 0 64 = 0) (h1 : K (.inl (some (vI 1))) w) : Cal gm LM jMd_noFold d [vA 0, vI p1, vI p2] w K := by
  obtain ⟨d, rfl⟩ : ∃ d', d = d' + 1 := ⟨d - 1, by omega⟩
  exact Cal.ofV (by decide) rfl (Nat.le_of_ble_eq_true rfl) (s_Md_noFold ⟨fun _ => h1, fun y => absurd h64 y⟩)
theorem b_messages (hp1 : inI p1) (hp2 : inI p2) (hd : 3 ≤ d) (hI : Inv wc wm) (h : ∀ x wc', Bo jMd_messages [vA 0, vI p1, vI p2] wm wc' x → K (.inl (some (vI x))) wc') : Cal g LC jVL_messages d [vA 0, vI p1, vI p2] wc K := by
  obtain ⟨d, rfl⟩ : ∃ d', d = d' + 1 := ⟨d - 1, by omega⟩
  have no : (∀ (gm : Mg) (dM : Nat) (K' : Ou → Wd → Prop), 1111 ≤ dM → K' (.inl (some (vI 1))) (up wm 0 0 0) → Cal gm LM jMd_noFold dM [vA 0, vI p1, vI p2] (up wm 0 0 0) K') → K (.inl (some (vI (-1)))) wc := fun hq => h (-1) wc (Bo.same hI (fun gm dM Kx hdM hK => by
    obtain ⟨dM, rfl⟩ : ∃ d', dM = d' + 1 := ⟨dM - 1, by omega⟩
    exact Cal.ofV (by decide) rfl (Nat.le_of_ble_eq_true rfl) (s_Md_messages (hq gm dM _ (by omega) ⟨fun y => absurd y (by decide), fun _ => hK⟩))))
  rcases inv_run hI with ⟨r1, r2⟩ | ⟨r1, r2, T, L, m, D, a0, a1, s1, l1, n, na, k, kq, hG, hGr, hR⟩
  · refine Cal.ofV (by decide) rfl (Nat.le_of_ble_eq_true rfl) (s_VL_messages (sp_runsOn (by omega) (fun z => absurd r1 z) (fun _ => ⟨fun _ => no (fun gm dM K' hdM hK => sp_noFold0 (by omega) (by rw [up_k (by decide)]; exact r2) hK), fun z => absurd rfl z⟩)))
  · obtain ⟨d1, d2, d3, d4, d5, -⟩ := id hG
    obtain ⟨⟨c4, c1, c2, c3⟩, -⟩ := d1.2.2
    obtain ⟨⟨g1, g2, g3, g4, -⟩, q2, -⟩ := id hGr
    obtain ⟨x1, x2, x3, x4, x5, x6, x7, x8, x9, x10, -⟩ := id hR
    have t16 : up wm 0 0 0 16 2 = ((cntE 2 (enD D) : Nat) : Int) := by rw [up_o (by decide)]; exact (d2.2.1.2.1 2 (by decide)).1
    have t64 : up wm 0 0 0 0 64 = 1 := by rw [up_k (by decide)]; exact r2
    have t59 : up wm 0 0 0 0 59 = (n : Int) := by rw [up_k (by decide)]; exact q2
    have bad : ¬ ((0 ≤ p1 ∧ p1 < (n : Int)) ∧ (0 ≤ p2 ∧ p2 < ((cntE 2 (enD D) : Nat) : Int))) → K (.inl (some (vI (-1)))) wc := fun z => no (fun gm dM K' hdM hK => sp_noFold (by omega) hp1 hp2 g4 c2 t64 t59 t16 (fun a b => absurd ⟨a, b⟩ z) (fun _ => hK))
    refine Cal.ofV (by decide) rfl (Nat.le_of_ble_eq_true rfl) (s_VL_messages (sp_runsOn (by omega) (fun _ y1 y2 => ⟨fun q => absurd q (by decide), fun _ => ⟨fun z => bad (by omega), fun z => sp_howManyC (s := 2) (by omega) (by decide) d3 ⟨fun z2 => sp_nowB x1 x3 ⟨moB_mo, ?_⟩, fun z2 => bad (by rw [d5 2 (by decide)] at z2; omega)⟩⟩⟩) (fun z => ⟨fun _ => bad (fun q => ?_), fun q => absurd rfl q⟩)))
    · rw [g1] at y2
      rw [d5 2 (by decide)] at z2
      obtain ⟨v, hv, rfl⟩ := nat_of ⟨y1, y2⟩
      obtain ⟨i, hi, rfl⟩ := nat_of (x := p2) ⟨by omega, z2⟩
      rw [ix4_ (by omega) (by omega), toN]
      refine ⟨by omega, h _ wc (Bo.same hI (fun gm dM Kx hdM hK => ?_))⟩
      obtain ⟨dM, rfl⟩ : ∃ d', dM = d' + 1 := ⟨dM - 1, by omega⟩
      refine Cal.ofV (by decide) rfl (Nat.le_of_ble_eq_true rfl) (s_Md_messages (sp_noFold (by omega) hp1 hp2 g4 c2 t64 t59 t16 (fun _ _ => ⟨fun _ => ?_, fun q => absurd rfl q⟩) (fun z => absurd ⟨⟨by omega, by omega⟩, by omega, by omega⟩ z)))
      rw [ix4m (by omega) (by omega), toN, up_o (by decide), ← svF_2 (w := wm) (by omega), ← (x10.2.2.1 (4 * v + i) (by omega)).1]
      exact ⟨by omega, hK⟩
    · rcases z with z | z
      · rw [r1] at z; exact absurd z (by decide)
      · rw [g1] at z; exact z q.1
theorem b_message (hp1 : inI p1) (hp2 : inI p2) (hd : 3 ≤ d) (hI : Inv wc wm) (h : ∀ x wc', Bo jMd_message [vA 0, vI p1, vI p2] wm wc' x → K (.inl (some (vI x))) wc') : Cal g LC jVL_message d [vA 0, vI p1, vI p2] wc K := by
  obtain ⟨d, rfl⟩ : ∃ d', d = d' + 1 := ⟨d - 1, by omega⟩
  have no : (∀ (gm : Mg) (dM : Nat) (K' : Ou → Wd → Prop), 1111 ≤ dM → K' (.inl (some (vI 1))) (up wm 0 0 0) → Cal gm LM jMd_noFold dM [vA 0, vI p1, vI p2] (up wm 0 0 0) K') → K (.inl (some (vI 0))) wc := fun hq => h 0 wc (Bo.same hI (fun gm dM Kx hdM hK => by
    obtain ⟨dM, rfl⟩ : ∃ d', dM = d' + 1 := ⟨dM - 1, by omega⟩
    exact Cal.ofV (by decide) rfl (Nat.le_of_ble_eq_true rfl) (s_Md_message (hq gm dM _ (by omega) ⟨fun y => absurd y (by decide), fun _ => hK⟩))))
  rcases inv_run hI with ⟨r1, r2⟩ | ⟨r1, r2, T, L, m, D, a0, a1, s1, l1, n, na, k, kq, hG, hGr, hR⟩
  · refine Cal.ofV (by decide) rfl (Nat.le_of_ble_eq_true rfl) (s_VL_message (sp_runsOn (by omega) (fun z => absurd r1 z) (fun _ => ⟨fun _ => no (fun gm dM K' hdM hK => sp_noFold0 (by omega) (by rw [up_k (by decide)]; exact r2) hK), fun z => absurd rfl z⟩)))
  · obtain ⟨d1, d2, d3, d4, d5, -⟩ := id hG
    obtain ⟨⟨c4, c1, c2, c3⟩, -⟩ := d1.2.2
    obtain ⟨⟨g1, g2, g3, g4, -⟩, q2, -⟩ := id hGr
    obtain ⟨x1, x2, x3, x4, x5, x6, x7, x8, x9, x10, -⟩ := id hR
    have t16 : up wm 0 0 0 16 2 = ((cntE 2 (enD D) : Nat) : Int) := by rw [up_o (by decide)]; exact (d2.2.1.2.1 2 (by decide)).1
    have t64 : up wm 0 0 0 0 64 = 1 := by rw [up_k (by decide)]; exact r2
    have t59 : up wm 0 0 0 0 59 = (n : Int) := by rw [up_k (by decide)]; exact q2
    have tD : TD (kdT T L) (up wm 0 0 0) D := d2.2.1.cg (up_k (by decide)) (fun o p _ => up_o (by omega))
    have bad : ¬ ((0 ≤ p1 ∧ p1 < (n : Int)) ∧ (0 ≤ p2 ∧ p2 < ((cntE 2 (enD D) : Nat) : Int))) → K (.inl (some (vI 0))) wc := fun z => no (fun gm dM K' hdM hK => sp_noFold (by omega) hp1 hp2 g4 c2 t64 t59 t16 (fun a b => absurd ⟨a, b⟩ z) (fun _ => hK))
    refine Cal.ofV (by decide) rfl (Nat.le_of_ble_eq_true rfl) (s_VL_message (sp_runsOn (by omega) (fun _ y1 y2 => ⟨fun q => absurd q (by decide), fun _ => ⟨fun z => bad (by omega), fun z => sp_howManyC (s := 2) (by omega) (by decide) d3 ⟨fun z2 => sp_nowB x1 x3 ⟨moB_mo, ?_⟩, fun z2 => bad (by rw [d5 2 (by decide)] at z2; omega)⟩⟩⟩) (fun z => ⟨fun _ => bad (fun q => ?_), fun q => absurd rfl q⟩)))
    · rw [g1] at y2
      rw [d5 2 (by decide)] at z2
      obtain ⟨v, hv, rfl⟩ := nat_of ⟨y1, y2⟩
      obtain ⟨i, hi, rfl⟩ := nat_of (x := p2) ⟨by omega, z2⟩
      have hval := x10.2.2.2.2.1 v i (by omega) hi
      rw [svF_2 (by omega), svF_3 (by omega)] at hval
      rw [ix4_ (by omega) (by omega), toN]
      refine ⟨by omega, h _ wc (Bo.same hI (fun gm dM Kx hdM hK => ?_))⟩
      obtain ⟨dM, rfl⟩ : ∃ d', dM = d' + 1 := ⟨dM - 1, by omega⟩
      refine Cal.ofV (by decide) rfl (Nat.le_of_ble_eq_true rfl) (s_Md_message (sp_noFold (by omega) hp1 hp2 g4 c2 t64 t59 t16 (fun _ _ => ⟨fun _ => ?_, fun q => absurd rfl q⟩) (fun z => absurd ⟨⟨by omega, by omega⟩, by omega, by omega⟩ z)))
      rw [hval] at hK
      rw [ix4m (by omega) (by omega), toN]
      refine ⟨by omega, fun z0 => sp_wayM (so := 2) (by omega) (by decide) tD d1.2.1.2.2 hi (sp_nothingM ?_), fun z0 => ⟨by omega, ?_⟩⟩
      · rw [up_o (by decide)] at z0
        rw [if_pos z0] at hK
        exact hK
      · rw [up_o (by decide)] at z0 ⊢
        rw [if_neg z0] at hK
        exact hK
    · rcases z with z | z
      · rw [r1] at z; exact absurd z (by decide)
      · rw [g1] at z; exact z q.1
end Reads2
