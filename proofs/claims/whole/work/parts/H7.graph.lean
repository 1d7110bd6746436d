/-! ===== nodes, arc, weight, count ===== -/
theorem up_fn {w : Wd} {o k : Nat} {x : Int} : up w o k x o = upf (w o) k x := by
  funext b
  unfold upf
  by_cases h : b = k
  · subst h; rw [up_s, if_pos rfl]
  · rw [up_k h, if_neg h]
section Graph
variable {g gm : Mg} {d n na : Nat} {K : Ou → Wd → Prop} {w wc wc' wm wm' : Wd} {p p1 p2 p3 : Int} {T : Nat → Int} {L m : Nat} {D : DE} {a0 a1 : Tr} {s1 l1 : Nat}
/-- a graph that is another: the RUN is gone -/
theorem inv_graph (hI : Inv wc wm) (hc : ∀ o, o < 31 → wc' o = wc o) (hm : ∀ o, o ≠ 0 → o < 38 → wm' o = wm o) (h0 : ∀ b, b ≠ 0 → b < 59 → wm' 0 b = wm 0 b) (hr : wc' 43 11 = 0) (hr2 : wm' 0 64 = 0) (hG : GrR wc' wm' n na) : Inv wc' wm' := by
  obtain ⟨⟨b1, b2, b3, b4⟩, n0, na0, -, h3⟩ := hI
  refine ⟨⟨b1.f (hc 0 (by decide)) (hc 1 (by decide)) (h0 3 (by decide) (by decide)) (hm 2 (by decide) (by decide)), by rw [hc 3 (by decide), hm 3 (by decide) (by decide)]; exact b2, ?_, b4.f (hc 2 (by decide)) (hc 3 (by decide)) (hc 25 (by decide)) (h0 55 (by decide) (by decide)) (h0 56 (by decide) (by decide))⟩, n, na, hG, ?_⟩
  · unfold ClB at *
    rw [hc 29 (by decide)]; exact b3
  · rcases h3 with ⟨a, -⟩ | ⟨T, L, m, D, a0, a1, s1, l1, a, -⟩
    · refine Or.inl ⟨?_, hr, hr2⟩
      unfold BdI at *
      rw [hc 8 (by decide), h0 43 (by decide) (by decide), h0 20 (by decide) (by decide), h0 31 (by decide) (by decide), hm 16 (by decide) (by decide)]
      exact a
    · exact Or.inr ⟨T, L, m, D, a0, a1, s1, l1, a.fr (fun o _ q => hc o q) (fun o p q => hm o (by omega) (by omega)) (fun b hb => h0 b (by omega) (by omega)), Or.inl ⟨hr, hr2⟩⟩
theorem b_nodes (hp : inI p) (hd : 3 ≤ d) (hI : Inv wc wm) (h : ∀ x wc', Bo jMd_nodes [vA 0, vI p] wm wc' x → K (.inl (some (vI x))) wc') : Cal g LC jVL_nodes d [vA 0, vI p] wc K := by
  obtain ⟨d, rfl⟩ : ∃ d', d = d' + 2 := ⟨d - 2, by omega⟩
  obtain ⟨-, n, na, hGr, -⟩ := id hI
  obtain ⟨⟨g1, g2, g3, g4, g5, -⟩, q2, q3, -⟩ := id hGr
  have bad : ¬ (1 ≤ p ∧ p ≤ 40) → K (.inl (some (vI (-1)))) wc := fun z => h _ _ (Bo.same hI (fun gm dM Kx hdM hK => by
    obtain ⟨dM, rfl⟩ : ∃ d', dM = d' + 1 := ⟨dM - 1, by omega⟩
    refine Cal.ofV (by decide) rfl (Nat.le_of_ble_eq_true rfl) (s_Md_nodes (sp_in (inI_L hp) (by decide) (by decide) ?_))
    rw [if_neg z]
    exact ⟨fun y => absurd rfl y, fun _ => hK⟩))
  refine Cal.ofV (by decide) rfl (Nat.le_of_ble_eq_true rfl) (s_VL_nodes ⟨fun z => bad (by omega), fun z1 => ⟨fun z2 => ?_, fun z => bad (by omega)⟩⟩)
  obtain ⟨N, rfl⟩ : ∃ N : Nat, p = (N : Int) := ⟨p.toNat, by omega⟩
  have rf : ∀ o, (o = 34 ∨ o = 35 ∨ o = 36 ∨ o = 37 ∨ o = 40) → ∀ k, LC.rf o k = none := fun o ho k => by
    rcases ho with rfl | rfl | rfl | rfl | rfl
    · exact aC_34 k
    · exact aC_35 k
    · exact aC_36 k
    · exact aC_37 k
    · exact aC_40 k
  refine Cal.ofV (by decide) rfl (Nat.le_of_ble_eq_true rfl) (s_Gr_clear (sp_fill (by decide) rfl (rf 34 (by decide)) (by decide) (sp_fill (by decide) rfl (rf 35 (by decide)) (by decide) (sp_fill (by decide) rfl (rf 36 (by decide)) (by decide) (sp_fill (by decide) rfl (rf 37 (by decide)) (by decide) (sp_fill (by decide) rfl (rf 40 (by decide)) (by decide) ?_))))))
  obtain ⟨w5, hw5⟩ : ∃ w5, w5 = fillw (fillw (fillw (fillw (fillw (up (up (up wc 43 11 0) 31 0 (N : Int)) 31 1 0) 34 480 0) 35 40 0) 36 40 0) 37 40 (-1)) 40 40 (-1) := ⟨_, rfl⟩
  show K (.inl (some (vI (wc 31 0)))) (fillw (fillw (fillw (fillw (fillw (up (up (up wc 43 11 0) 31 0 (N : Int)) 31 1 0) 34 480 0) 35 40 0) 36 40 0) 37 40 (-1)) 40 40 (-1))
  rw [← hw5]
  have o5 : ∀ o, o ≠ 31 → o ≠ 34 → o ≠ 35 → o ≠ 36 → o ≠ 37 → o ≠ 40 → o ≠ 43 → w5 o = wc o := fun o h1 h2 h3 h4 h5 h6 h7 => by rw [hw5, fillw_o h6, fillw_o h5, fillw_o h4, fillw_o h3, fillw_o h2, up_o h1, up_o h1, up_o h7]
  have e43 : w5 43 11 = 0 := by rw [hw5, fillw_o (by decide), fillw_o (by decide), fillw_o (by decide), fillw_o (by decide), fillw_o (by decide), up_o (by decide), up_o (by decide), up_s]
  have e310 : w5 31 0 = (N : Int) := by rw [hw5, fillw_o (by decide), fillw_o (by decide), fillw_o (by decide), fillw_o (by decide), fillw_o (by decide), up_k (by decide), up_s]
  have e311 : w5 31 1 = 0 := by rw [hw5, fillw_o (by decide), fillw_o (by decide), fillw_o (by decide), fillw_o (by decide), fillw_o (by decide), up_s]
  have e34 : ∀ x, x < 480 → w5 34 x = 0 := fun x hx => by rw [hw5, fillw_o (by decide), fillw_o (by decide), fillw_o (by decide), fillw_o (by decide), fillw_in hx]
  have e35 : ∀ x, x < 40 → w5 35 x = 0 := fun x hx => by rw [hw5, fillw_o (by decide), fillw_o (by decide), fillw_o (by decide), fillw_in hx]
  have e36 : ∀ x, x < 40 → w5 36 x = 0 := fun x hx => by rw [hw5, fillw_o (by decide), fillw_o (by decide), fillw_in hx]
  have e37 : ∀ x, x < 40 → w5 37 x = -1 := fun x hx => by rw [hw5, fillw_o (by decide), fillw_in hx]
  have e40 : ∀ x, x < 40 → w5 40 x = -1 := fun x hx => by rw [hw5, fillw_in hx]
  clear hw5
  refine h _ w5 (fun gm dM Kx hdM hK => ?_)
  obtain ⟨dM, rfl⟩ : ∃ d', dM = d' + 1 := ⟨dM - 1, by omega⟩
  refine Cal.ofV (by decide) rfl (Nat.le_of_ble_eq_true rfl) (s_Md_nodes (sp_in (inI_L hp) (by decide) (by decide) ?_))
  rw [if_pos (by omega)]
  refine ⟨fun _ => ?_, fun y => absurd y (by decide)⟩
  have e59 : up wm 0 0 0 0 59 = wc 31 0 := by rw [up_k (by decide), q2, g1]
  rw [e59]
  refine hK _ (inv_graph (n := N) (na := 0) hI (fun o ho => o5 o (by omega) (by omega) (by omega) (by omega) (by omega) (by omega) (by omega)) (fun o h1 h2 => by rw [up_o h1, up_o h1, up_o h1, up_o h1]) (fun b h1 h2 => by rw [up_k (by omega), up_k (by omega), up_k (by omega), up_k h1]) e43 (up_s _ _ _ _) ?_)
  refine ⟨⟨e310, e311, by omega, by omega, by decide, fun i hi => by omega, fun v hv => ⟨e35 v hv, e36 v hv⟩, fun v hv => ⟨e37 v hv, e40 v hv⟩, fun i hi => by omega, fun v hv => ⟨fun z => absurd rfl z, fun z => absurd rfl z⟩⟩, by rw [up_k (by decide), up_k (by decide), up_s], by rw [up_k (by decide), up_s]; rfl, fun i hi => by omega, fun x _ hx => e34 x hx⟩
theorem b_count (hd : 3 ≤ d) (hI : Inv wc wm) (h : ∀ x wc', Bo jMd_count [vA 0, vI p] wm wc' x → K (.inl (some (vI x))) wc') : Cal g LC jVL_count d [vA 0, vI p] wc K := by
  obtain ⟨d, rfl⟩ : ∃ d', d = d' + 2 := ⟨d - 2, by omega⟩
  obtain ⟨-, n, na, hGr, hP⟩ := id hI
  obtain ⟨⟨g1, g2, g3, g4, g5, -⟩, q2, q3, -⟩ := id hGr
  have md : ∀ x, ((p < 0 ∨ 6 < p) → x = -1) → (p = 0 → x = wm 16 0) → (p = 1 → x = wm 16 1) → (p = 2 → x = wm 16 2) → (p = 3 → x = wm 16 3) → (p = 4 → x = wm 0 31) → (p = 5 → x = wm 0 59) → (p = 6 → x = wm 0 60) → K (.inl (some (vI x))) wc := by
    intro x y_ y0 y1 y2 y3 y4 y5 y6
    refine h x wc (Bo.same hI (fun gm dM Kx hdM hK => ?_))
    refine Cal.ofV (by decide) rfl (Nat.le_of_ble_eq_true rfl) (s_Md_count ⟨fun z => ?_, fun z => ?_, fun z => ?_, fun z => ?_, fun z => ?_, fun z => ?_, fun z => ?_, fun z => ?_⟩)
    · rw [y_ z] at hK; exact hK
    · rw [y0 z] at hK; exact hK
    · rw [y1 z] at hK; exact hK
    · rw [y2 z] at hK; exact hK
    · rw [y3 z] at hK; exact hK
    · rw [y4 z] at hK; exact hK
    · rw [y5 z] at hK; exact hK
    · rw [y6 z] at hK; exact hK
  -- how many of a sort
  have hm : ∀ s : Nat, s < 4 → p = (s : Int) → (∀ x, x = wm 16 s → K (.inl (some (vI x))) wc) → Cal g LC jPr_howMany (d + 1) [vA 8, vI p] wc (fun o w1 => rI o (fun x2 => K (.inl (some (vI x2))) w1)) := by
    intro s hs hps hk
    subst hps
    rcases hP with ⟨⟨b1, b2, b3, b4, b5⟩, -⟩ | ⟨T, L, m, D, a0, a1, s1, l1, hG, -⟩
    · exact Cal.ofV (by decide) rfl (Nat.le_of_ble_eq_true rfl) (s_Pr_howMany ⟨fun _ => hk 0 (by rw [b5 s (by omega)]), fun z => absurd b1 z⟩)
    · obtain ⟨d1, d2, d3, d4, d5, -⟩ := hG
      refine sp_howManyC (by omega) (by omega) d3 (hk _ ?_)
      rw [d5 s hs]
      exact ((d2.2.1.2.1 s (by omega)).1).symm
  have h4 : (wc 8 2 = 0 → (0 : Int) = wm 0 31) ∧ (¬ wc 8 2 = 0 → wc 8 3 = wm 0 31) := by
    rcases hP with ⟨⟨b1, b2, b3, b4, b5⟩, -⟩ | ⟨T, L, m, D, a0, a1, s1, l1, hG, -⟩
    · exact ⟨fun _ => b4.symm, fun z => absurd b1 z⟩
    · obtain ⟨d1, d2, d3, d4, d5, d6, -⟩ := hG
      exact ⟨fun z => absurd z (by rw [d3]; decide), fun _ => d6⟩
  refine Cal.ofV (by decide) rfl (Nat.le_of_ble_eq_true rfl) (s_VL_count ⟨fun z => ?_, fun z => hm 0 (by decide) z (fun x hx => ?_), fun z => hm 1 (by decide) z (fun x hx => ?_), fun z => hm 2 (by decide) z (fun x hx => ?_), fun z => hm 3 (by decide) z (fun x hx => ?_), fun z => ⟨fun y => ?_, fun y => ?_⟩, fun z => ?_, fun z => ?_⟩)
  · exact md _ (fun _ => rfl) (fun q => by omega) (fun q => by omega) (fun q => by omega) (fun q => by omega) (fun q => by omega) (fun q => by omega) (fun q => by omega)
  · exact md _ (fun q => by omega) (fun _ => hx) (fun q => by omega) (fun q => by omega) (fun q => by omega) (fun q => by omega) (fun q => by omega) (fun q => by omega)
  · exact md _ (fun q => by omega) (fun q => by omega) (fun _ => hx) (fun q => by omega) (fun q => by omega) (fun q => by omega) (fun q => by omega) (fun q => by omega)
  · exact md _ (fun q => by omega) (fun q => by omega) (fun q => by omega) (fun _ => hx) (fun q => by omega) (fun q => by omega) (fun q => by omega) (fun q => by omega)
  · exact md _ (fun q => by omega) (fun q => by omega) (fun q => by omega) (fun q => by omega) (fun _ => hx) (fun q => by omega) (fun q => by omega) (fun q => by omega)
  · exact md _ (fun q => by omega) (fun q => by omega) (fun q => by omega) (fun q => by omega) (fun q => by omega) (fun _ => h4.1 y) (fun q => by omega) (fun q => by omega)
  · exact md _ (fun q => by omega) (fun q => by omega) (fun q => by omega) (fun q => by omega) (fun q => by omega) (fun _ => h4.2 y) (fun q => by omega) (fun q => by omega)
  · exact md _ (fun q => by omega) (fun q => by omega) (fun q => by omega) (fun q => by omega) (fun q => by omega) (fun q => by omega) (fun _ => by rw [g1, q2]) (fun q => by omega)
  · exact md _ (fun q => by omega) (fun q => by omega) (fun q => by omega) (fun q => by omega) (fun q => by omega) (fun q => by omega) (fun q => by omega) (fun _ => by rw [g2, q3])
end Graph
