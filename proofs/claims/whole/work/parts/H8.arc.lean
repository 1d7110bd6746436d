/-! ===== weight, arc ===== -/
section Arc
variable {g gm : Mg} {d n na : Nat} {K : Ou → Wd → Prop} {w wc wc' wm wm' : Wd} {p p1 p2 p3 : Int}
/-- the weights of the graph are others; all else is as it was -/
theorem inv_keep (hI : Inv wc wm) (hc : ∀ o, o < 31 ∨ 43 ≤ o → wc' o = wc o) (hm : ∀ o, o ≠ 0 → o ≠ 40 → wm' o = wm o) (h0 : ∀ b, b ≠ 0 → wm' 0 b = wm 0 b) (hG : ∀ n na, GrR wc wm n na → GrR wc' wm' n na) : Inv wc' wm' := by
  obtain ⟨⟨b1, b2, b3, b4⟩, n, na, hGr, h3⟩ := hI
  have hn : n ≤ 40 := hGr.1.2.2.2.1
  refine ⟨⟨b1.f (hc 0 (by decide)) (hc 1 (by decide)) (h0 3 (by decide)) (hm 2 (by decide) (by decide)), by rw [hc 3 (by decide), hm 3 (by decide) (by decide)]; exact b2, ?_, b4.f (hc 2 (by decide)) (hc 3 (by decide)) (hc 25 (by decide)) (h0 55 (by decide)) (h0 56 (by decide))⟩, n, na, hG n na hGr, ?_⟩
  · unfold ClB at *
    rw [hc 29 (by decide)]; exact b3
  · rw [hc 43 (by decide), h0 64 (by decide)]
    rcases h3 with ⟨a, b⟩ | ⟨T, L, m, D, a0, a1, s1, l1, a, b⟩
    · refine Or.inl ⟨?_, b⟩
      unfold BdI at *
      rw [hc 8 (by decide), h0 43 (by decide), h0 20 (by decide), h0 31 (by decide), hm 16 (by decide) (by decide)]
      exact a
    · refine Or.inr ⟨T, L, m, D, a0, a1, s1, l1, a.fr (fun o _ q => hc o (Or.inl q)) (fun o p q => hm o (by omega) (by omega)) (fun b hb => h0 b (by omega)), ?_⟩
      rcases b with b | ⟨x1, x2, k, kq, x3⟩
      · exact Or.inl b
      · obtain ⟨⟨c4, c1, c2, c3⟩, -⟩ := a.1.2.2
        exact Or.inr ⟨x1, x2, k, kq, (x3.cm (fun o p _ => hm o (by omega) (by omega)) (fun b p _ => h0 b (by omega))).cc hn c1 c2 c3 (fun o p _ => hc o (by omega))⟩
theorem ix4w {a c : Nat} (ha : a < 120) (hc : c < 4) : wr (wr ((a : Int) * 4) + (c : Int)) = ((4 * a + c : Nat) : Int) := by
  rw [wr_id (x := (a : Int) * 4) (by unfold inI; omega), wr_id (by unfold inI; omega)]; omega
theorem ix4v {a c : Nat} (ha : a < 120) (hc : c < 4) : wr (wr (4 * (a : Int)) + (c : Int)) = ((4 * a + c : Nat) : Int) := by
  rw [wr_id (x := 4 * (a : Int)) (by unfold inI; omega), wr_id (by unfold inI; omega)]; omega
theorem wt_b {a c : Nat} (ha : a < 120) (hc : c < 4) : (0 : Int) ≤ ((4 * a + c : Nat) : Int) ∧ ((4 * a + c : Nat) : Int) < 480 := by omega
theorem b_weight (hp1 : inI p1) (hp2 : inI p2) (hd : 3 ≤ d) (hI : Inv wc wm) (h : ∀ x wc', Bo jMd_weight [vA 0, vI p1, vI p2, vI p3] wm wc' x → K (.inl (some (vI x))) wc') : Cal g LC jVL_weight d [vA 0, vI p1, vI p2, vI p3] wc K := by
  obtain ⟨d, rfl⟩ : ∃ d', d = d' + 2 := ⟨d - 2, by omega⟩
  obtain ⟨-, n, na, hGr, -⟩ := id hI
  obtain ⟨⟨g1, g2, g3, g4, g5, -⟩, q2, q3, q4, -⟩ := id hGr
  have e60 : wr (wm 0 60 - 1) = wr ((na : Int) - 1) := by rw [q3]
  have bad : ¬ ((0 ≤ p1 ∧ p1 < (na : Int)) ∧ 0 ≤ p2 ∧ p2 ≤ 3) → K (.inl (some (vI 0))) wc := fun z => h _ _ (Bo.same hI (fun gm dM Kx hdM hK => by
    obtain ⟨dM, rfl⟩ : ∃ d', dM = d' + 1 := ⟨dM - 1, by omega⟩
    refine Cal.ofV (by decide) rfl (Nat.le_of_ble_eq_true rfl) (s_Md_weight (sp_in0 hp1 (by omega) e60 (fun a => ⟨fun y => absurd y (by decide), fun _ => sp_in (inI_L hp2) (by decide) (by decide) ?_⟩) (fun a => ⟨fun _ => hK, fun y => absurd rfl y⟩)))
    rw [if_neg (fun q => z ⟨a, q⟩)]
    exact ⟨fun y => absurd rfl y, fun _ => hK⟩))
  refine Cal.ofV (by decide) rfl (Nat.le_of_ble_eq_true rfl) (s_VL_weight ⟨fun z => bad (by omega), fun z1 => ⟨fun z => bad (by rw [g2] at z; omega), fun z2 => ⟨fun z => bad (by omega), fun z3 => ⟨fun z4 => ?_, fun z => bad (by omega)⟩⟩⟩⟩)
  rw [g2] at z2
  obtain ⟨a, ha, rfl⟩ := nat_of (x := p1) (n := na) ⟨by omega, by omega⟩
  obtain ⟨c, hc, rfl⟩ := nat_of (x := p2) (n := 4) ⟨by omega, by omega⟩
  have ha' : a < 120 := Nat.lt_of_lt_of_le ha g5
  refine Cal.ofV (by decide) rfl (Nat.le_of_ble_eq_true rfl) (s_Gr_setWeight (Cal.ofV (by decide) rfl (Nat.le_of_ble_eq_true rfl) (s_Gr_weightOf ?_)))
  rw [ix4w ha' hc, toN]
  refine ⟨wt_b ha' hc, wt_b ha' hc, h _ _ (fun gm dM Kx hdM hK => ?_)⟩
  obtain ⟨dM, rfl⟩ : ∃ d', dM = d' + 1 := ⟨dM - 1, by omega⟩
  refine Cal.ofV (by decide) rfl (Nat.le_of_ble_eq_true rfl) (s_Md_weight (sp_in0 hp1 (by omega) e60 (fun _ => ⟨fun y => absurd y (by decide), fun _ => sp_in (inI_L hp2) (by decide) (by decide) ?_⟩) (fun y => absurd (by omega) y)))
  rw [if_pos (by omega)]
  refine ⟨fun _ => ?_, fun y => absurd y (by decide)⟩
  rw [ix4v ha' hc, toN, up_o (by decide), (q4 a ha).2.2 c hc]
  refine ⟨wt_b ha' hc, wt_b ha' hc, hK _ (inv_keep hI (fun o ho => up_o (by omega)) (fun o h1 h2 => by rw [up_o h2, up_o h1]) (fun b hb => by rw [up_o (by decide), up_k hb]) (fun n' na' hG' => ?_))⟩
  obtain ⟨u1, u2, u3, u4, u5⟩ := hG'
  have ena : na' = na := by have := u3.symm.trans q3; omega
  subst ena
  refine ⟨?_, by rw [up_o (by decide), up_k (by decide)]; exact u2, by rw [up_o (by decide), up_k (by decide)]; exact u3, fun i hi => ?_, fun x h1 h2 => ?_⟩
  · unfold GrK at *
    rw [up_o (by decide), up_o (by decide), up_o (by decide), up_o (by decide), up_o (by decide), up_o (by decide), up_o (by decide), up_o (by decide), up_o (by decide), up_o (by decide), up_o (by decide)]
    exact u1
  · rw [up_o (by decide), up_o (by decide), up_o (by decide), up_o (by decide), up_o (by decide), up_o (by decide)]
    obtain ⟨y1, y2, y3⟩ := u4 i hi
    refine ⟨y1, y2, fun c' hc' => ?_⟩
    by_cases z : 4 * i + c' = 4 * a + c
    · rw [z, up_s, up_s]
    · rw [up_k z, up_k z, up_o (by decide)]; exact y3 c' hc'
  · rw [up_k (by omega)]; exact u5 x h1 h2
/-- an arc is hung -/
theorem sp_hang {o3 o4 o5 na v : Nat} {f f' : Nat → Int} (ho3 : o3 < LC.nn ∧ LC.ly o3 = (100, 40)) (hr3 : ∀ k, LC.rf o3 k = none) (ho4 : o4 < LC.nn ∧ LC.ly o4 = (100, 40)) (hr4 : ∀ k, LC.rf o4 k = none) (ho5 : o5 < LC.nn ∧ LC.ly o5 = (100, 120)) (hr5 : ∀ k, LC.rf o5 k = none) (n34 : o3 ≠ o4) (n35 : o3 ≠ o5) (n45 : o4 ≠ o5) (hna : na < 120) (hv : v < 40) (hH : HgI f na (w o3) (w o4) (w o5)) (hc : ∀ x, x < na → f' x = f x) (hn : f' na = (v : Int)) (h : ∀ w', Fx [o3, o4, o5] w w' → HgI f' (na + 1) (w' o3) (w' o4) (w' o5) → K (.inl none) w') : Cal g LC jGr_hang d [vI (na : Int), vI (v : Int), vA o3, vA o4, vA o5] w K := by
  obtain ⟨hA, hB⟩ := hg_add hH hc hv hn
  refine Cal.ofV (by decide) rfl (Nat.le_of_ble_eq_true rfl) (s_Gr_hang ho3 hr3 ho4 hr4 ho5 hr5 ⟨by omega, fun z => ?_, fun z => ?_⟩)
  · rw [toN] at z ⊢
    obtain ⟨i, i1, i2, i3⟩ := hA z
    rw [i2, toN i, toN na]
    refine ⟨by omega, by omega, by omega, by omega, h _ (fun a ha => ?_) ?_⟩
    · have q5 : a ≠ o5 := fun z => ha (by simp [z])
      have q4 : a ≠ o4 := fun z => ha (by simp [z])
      rw [up_o q5, up_o q4, up_o q5]
    · have e3 : up (up (up w o5 i (na : Int)) o4 v (na : Int)) o5 na (-1) o3 = w o3 := by rw [up_o n35, up_o n34, up_o n35]
      have e4 : up (up (up w o5 i (na : Int)) o4 v (na : Int)) o5 na (-1) o4 = upf (w o4) v (na : Int) := by rw [up_o n45, up_fn, up_o n45]
      have e5 : up (up (up w o5 i (na : Int)) o4 v (na : Int)) o5 na (-1) o5 = upf (upf (w o5) i (na : Int)) na (-1) := by rw [up_fn, up_o n45.symm, up_fn]
      rw [e3, e4, e5]
      exact i3
  · rw [toN] at z ⊢
    rw [toN na]
    refine ⟨by omega, by omega, by omega, h _ (fun a ha => ?_) ?_⟩
    · have q5 : a ≠ o5 := fun z => ha (by simp [z])
      have q4 : a ≠ o4 := fun z => ha (by simp [z])
      have q3 : a ≠ o3 := fun z => ha (by simp [z])
      rw [up_o q5, up_o q4, up_o q3]
    · have e3 : up (up (up w o3 v (na : Int)) o4 v (na : Int)) o5 na (-1) o3 = upf (w o3) v (na : Int) := by rw [up_o n35, up_o n34, up_fn]
      have e4 : up (up (up w o3 v (na : Int)) o4 v (na : Int)) o5 na (-1) o4 = upf (w o4) v (na : Int) := by rw [up_o n45, up_fn, up_o n34.symm]
      have e5 : up (up (up w o3 v (na : Int)) o4 v (na : Int)) o5 na (-1) o5 = upf (w o5) na (-1) := by rw [up_fn, up_o n45.symm, up_o n35.symm]
      rw [e3, e4, e5]
      exact hB z
theorem GrK.hg (h : GrK w n na) : HgI (w 32) na (w 37) (w 38) (w 39) ∧ HgI (w 33) na (w 40) (w 41) (w 42) := by
  obtain ⟨g1, g2, g3, g4, g5, g6, g7, g8, g9, g10⟩ := h
  exact ⟨⟨fun v hv => (g8 v hv).1, fun v hv => (g10 v hv).1, fun i hi => (g9 i hi).1⟩, ⟨fun v hv => (g8 v hv).2, fun v hv => (g10 v hv).2, fun i hi => (g9 i hi).2⟩⟩
end Arc
