/-! ===== feed, end, print ===== -/
section Tape
variable {g gm : Mg} {d n na : Nat} {K : Ou → Wd → Prop} {w wc wc' wm wm' : Wd} {p p1 p2 p3 p4 p5 : Int}
/-- the tape is another; all else is as it was -/
theorem inv_tape (hI : Inv wc wm) (hc : ∀ o, 2 ≤ o → wc' o = wc o) (hm : ∀ o, o ≠ 0 → o ≠ 2 → wm' o = wm o) (h0 : ∀ b, b ≠ 0 → b ≠ 3 → wm' 0 b = wm 0 b) (hT : TpI wc' wm') : Inv wc' wm' := by
  obtain ⟨⟨b1, b2, b3, b4⟩, n, na, hGr, h3⟩ := hI
  have hn : n ≤ 40 := hGr.1.2.2.2.1
  refine ⟨⟨hT, by rw [hc 3 (by decide), hm 3 (by decide) (by decide)]; exact b2, ?_, b4.f (hc 2 (by decide)) (hc 3 (by decide)) (hc 25 (by decide)) (h0 55 (by decide) (by decide)) (h0 56 (by decide) (by decide))⟩, n, na, ?_, ?_⟩
  · unfold ClB at *
    rw [hc 29 (by decide)]; exact b3
  · obtain ⟨u1, u2, u3, u4, u5⟩ := hGr
    refine ⟨u1.fr (fun o p q => hc o (by omega)), by rw [h0 59 (by decide) (by decide)]; exact u2, by rw [h0 60 (by decide) (by decide)]; exact u3, ?_, by rw [hc 34 (by decide)]; exact u5⟩
    rw [hm 38 (by decide) (by decide), hm 39 (by decide) (by decide), hm 40 (by decide) (by decide), hc 32 (by decide), hc 33 (by decide), hc 34 (by decide)]
    exact u4
  · rw [hc 43 (by decide), h0 64 (by decide) (by decide)]
    rcases h3 with ⟨a, b⟩ | ⟨T, L, m, D, a0, a1, s1, l1, a, b⟩
    · refine Or.inl ⟨?_, b⟩
      unfold BdI at *
      rw [hc 8 (by decide), h0 43 (by decide) (by decide), h0 20 (by decide) (by decide), h0 31 (by decide) (by decide), hm 16 (by decide) (by decide)]
      exact a
    · refine Or.inr ⟨T, L, m, D, a0, a1, s1, l1, a.fr (fun o p _ => hc o p) (fun o p q => hm o (by omega) (by omega)) (fun b hb => h0 b (by omega) (by omega)), ?_⟩
      rcases b with b | ⟨x1, x2, k, kq, x3⟩
      · exact Or.inl b
      · obtain ⟨⟨c4, c1, c2, c3⟩, -⟩ := a.1.2.2
        exact Or.inr ⟨x1, x2, k, kq, (x3.cm (fun o p _ => hm o (by omega) (by omega)) (fun b p _ => h0 b (by omega) (by omega))).cc hn c1 c2 c3 (fun o p _ => hc o (by omega))⟩
theorem b_feed (hd : 3 ≤ d) (hI : Inv wc wm) (h : ∀ x wc', Bo jMd_feed [vA 0, vI p1, vI p2, vI p3, vI p4, vI p5] wm wc' x → K (.inl (some (vI x))) wc') : Cal g LC jVL_feed d [vA 0, vI p1, vI p2, vI p3, vI p4, vI p5] wc K := by
  obtain ⟨d, rfl⟩ : ∃ d', d = d' + 1 := ⟨d - 1, by omega⟩
  obtain ⟨t, t1, t2, t3, t4⟩ := id hI.1.1
  by_cases hb : t + 20 ≤ 4000
  · refine sp_feedC t2 hb (h _ _ (fun gm dM Kx hdM hK => sp_feedM t3 hb (hK _ ?_)))
    refine inv_tape hI (fun o ho => ?_) (fun o h0 h2 => ?_) (fun b h0 h3 => ?_) ⟨t + 20, hb, ?_, up_s _ _ _ _, fun i hi => ?_⟩
    · funext k
      unfold fedC
      rw [if_neg (by omega), if_neg (by omega)]
    · rw [up_o h0]
      funext k
      rw [fedM_o h2, up_o h0]
    · rw [up_k h3, fedM_o (by decide), up_k h0]
    · unfold fedC
      rw [if_neg (by omega), if_pos (by decide)]
    · rw [up_o (by decide)]
      unfold fedC fedM
      by_cases z : t ≤ i
      · rw [if_pos ⟨rfl, z, hi⟩, if_pos ⟨rfl, z, hi⟩]
      · rw [if_neg (by omega), if_neg (by omega), if_neg (by omega), up_o (by decide)]
        exact t4 i (by omega)
  · have ec : ¬ wr (wc 0 1 + 20) ≤ 4000 := by rw [t2, wr_id (by unfold inI; omega)]; omega
    have em : ¬ wr (wm 0 3 + 20) ≤ 4000 := by rw [t3, wr_id (by unfold inI; omega)]; omega
    exact Cal.ofV (by decide) rfl (Nat.le_of_ble_eq_true rfl) (s_VL_feed ⟨fun z => absurd z ec, fun _ => h _ _ (Bo.same hI (fun gm dM Kx hdM hK => Cal.ofV (by decide) rfl (Nat.le_of_ble_eq_true rfl) (s_Md_feed ⟨fun z => absurd z em, fun _ => hK⟩)))⟩)
theorem b_end (hp : inI p) (hI : Inv wc wm) (h : ∀ x wc', Bo jMd_end [vA 0, vI p] wm wc' x → K (.inl (some (vI x))) wc') : Cal g LC jVL_end d [vA 0, vI p] wc K := by
  obtain ⟨t, t1, t2, t3, t4⟩ := id hI.1.1
  refine sp_endC t2 t1 (fun z => h _ _ (Bo.same hI (fun gm dM Kx hdM hK => ?_))) (fun q hq h1 h2 => h _ _ (fun gm dM Kx hdM hK => ?_))
  · obtain ⟨dM, rfl⟩ : ∃ d', dM = d' + 1 := ⟨dM - 1, by omega⟩
    exact sp_endM hp t3 t1 (fun _ => hK) (fun q hq h1 h2 => by omega)
  · obtain ⟨dM, rfl⟩ : ∃ d', dM = d' + 1 := ⟨dM - 1, by omega⟩
    refine sp_endM hp t3 t1 (fun z => by omega) (fun q' hq' h1' h2' => ?_)
    have : q' = q := by omega
    subst this
    refine hK _ (inv_tape hI (fun o ho => up_o (by omega)) (fun o h0 h2 => by rw [up_o h0, up_o h0]) (fun b h0 h3 => by rw [up_k h3, up_k h0]) ⟨t - 20 + q', by omega, up_s _ _ _ _, up_s _ _ _ _, fun i hi => ?_⟩)
    rw [up_o (by decide), up_o (by decide), up_o (by decide)]
    exact t4 i (by omega)
theorem b_print (hI : Inv wc wm) (h : ∀ x wc', Bo jMd_print [vA 0, vI p] wm wc' x → K (.inl (some (vI x))) wc') : Cal g LC jVL_print d [vA 0, vI p] wc K := by
  have mo : ∀ x, (∀ (gm : Mg) (dM : Nat) (Kx : Ou → Wd → Prop), Kx (.inl (some (vI x))) (up wm 0 0 0) → V gm LM jMd_print dM Kx 0 [(0, vA 0), (1, vI p)] [] wm) → K (.inl (some (vI x))) wc := fun x hq => h x wc (Bo.same hI (fun gm dM Kx hdM hK => Cal.ofV (by decide) rfl (Nat.le_of_ble_eq_true rfl) (hq gm dM Kx hK)))
  obtain ⟨-, n, na, -, hP⟩ := id hI
  rcases hP with ⟨⟨b1, b2, b3⟩, -⟩ | ⟨T, L, m, D, a0, a1, s1, l1, hG, -⟩
  · exact Cal.ofV (by decide) rfl (Nat.le_of_ble_eq_true rfl) (s_VL_print ⟨fun _ => mo _ (fun gm dM Kx hK => s_Md_print ⟨fun _ => hK, fun z => absurd b2 z⟩), fun z => absurd b1 z⟩)
  · obtain ⟨d1, d2, d3, d4, d5, d6, ⟨P, ⟨c1, c2, c3⟩, m1, m2⟩, -⟩ := hG
    have n8 : ¬ wc 8 2 = 0 := by rw [d3]; decide
    have n43 : ¬ wm 0 43 = 0 := by rw [d4]; decide
    have bad : (p < -1 ∨ (P.length : Int) ≤ p) → K (.inl (some (vI (-1)))) wc := fun z => mo _ (fun gm dM Kx hK => s_Md_print ⟨fun y => absurd y n43, fun _ => ⟨fun _ => hK, fun y => ⟨fun y2 => absurd y2 (by rw [m1]; omega), fun _ => hK⟩⟩⟩)
    refine Cal.ofV (by decide) rfl (Nat.le_of_ble_eq_true rfl) (s_VL_print ⟨fun z => absurd z n8, fun _ => ⟨fun z => bad (Or.inl z), fun z1 => ⟨fun z2 => ⟨fun z3 => ?_, fun z3 => ?_⟩, fun z => bad (Or.inr (by rw [c1] at z; omega))⟩⟩⟩)
    · rw [c1] at z2
      obtain ⟨i, hi, rfl⟩ := nat_of (x := p) (n := P.length) ⟨by omega, z2⟩
      rw [toN, c3 i hi, ← m2 i hi]
      refine ⟨by omega, mo _ (fun gm dM Kx hK => s_Md_print ⟨fun y => absurd y n43, fun _ => ⟨fun y => absurd y (by omega), fun _ => ⟨fun _ => ⟨fun _ => ?_, fun y => absurd (by omega) y⟩, fun y => absurd (by rw [m1]; exact z2) y⟩⟩⟩)⟩
      rw [toN]
      exact ⟨by omega, hK⟩
    · rw [c1] at z2 ⊢
      rw [← m1]
      exact mo _ (fun gm dM Kx hK => s_Md_print ⟨fun y => absurd y n43, fun _ => ⟨fun y => absurd y z1, fun _ => ⟨fun _ => ⟨fun y => absurd y (by omega), fun _ => hK⟩, fun y => absurd (by rw [m1]; exact z2) y⟩⟩⟩)
end Tape
