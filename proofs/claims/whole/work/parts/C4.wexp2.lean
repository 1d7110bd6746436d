/-! ===== the class's worker does any exp ===== -/
section WExp2
variable {g : Mg} {d D n : Nat} {K : Ou → Wd → Prop} {w : Wd} {T : Nat → Int} {L : Nat} {X : Xv} {E : List En} {own lets : Nat → Int} {mb ma v pc s dr h_ : Nat} {st : List Int}
theorem CdA.one {a b c e : Int} (h : CdA w pc [(a, b, c, e)]) : w 20 pc = a ∧ w 21 pc = b ∧ w 22 pc = c ∧ w 23 pc = e := h 0 (a, b, c, e) rfl
theorem sp_combinedW {k : Nat} {a b : Int} (hk : k = 15 ∨ k = 16 ∨ k = 17 ∨ k = 21 ∨ k = 22 ∨ k = 13 ∨ k = 23 ∨ k = 14 ∨ k = 24) (h : K (.inl (some (vI (bnv k a b)))) w) : Cal g LC jWo_combined D [vI (k : Int), vI a, vI b] w K := by
  refine Cal.ofV (by decide) rfl (Nat.le_of_ble_eq_true rfl) (s_Wo_combined ?_)
  rcases hk with rfl | rfl | rfl | rfl | rfl | rfl | rfl | rfl | rfl
  · exact ⟨fun z => absurd z (by decide), fun z => absurd z (by decide), fun z => absurd z (by decide), fun _ => h, fun z => absurd z (by decide), fun z => absurd z (by decide), fun z => absurd z (by decide), fun z => absurd z (by decide), fun z => absurd z (by decide), fun z => absurd z (by decide), fun z => absurd z (by decide), fun z => absurd z (by decide)⟩
  · exact ⟨fun z => absurd z (by decide), fun z => absurd z (by decide), fun z => absurd z (by decide), fun z => absurd z (by decide), fun _ => h, fun z => absurd z (by decide), fun z => absurd z (by decide), fun z => absurd z (by decide), fun z => absurd z (by decide), fun z => absurd z (by decide), fun z => absurd z (by decide), fun z => absurd z (by decide)⟩
  · exact ⟨fun z => absurd z (by decide), fun z => absurd z (by decide), fun z => absurd z (by decide), fun z => absurd z (by decide), fun z => absurd z (by decide), fun _ => h, fun z => absurd z (by decide), fun z => absurd z (by decide), fun z => absurd z (by decide), fun z => absurd z (by decide), fun z => absurd z (by decide), fun z => absurd z (by decide)⟩
  · have h : K (.inl (some (vI (if a = b then 1 else 0)))) w := h
    exact ⟨fun z => absurd z (by decide), fun z => absurd z (by decide), fun z => absurd z (by decide), fun z => absurd z (by decide), fun z => absurd z (by decide), fun z => absurd z (by decide), fun z => absurd z (by decide), fun z => absurd z (by decide), fun z => absurd z (by decide), fun _ => ⟨fun z => by rw [if_neg z] at h; exact h, fun z => by rw [if_pos z] at h; exact h⟩, fun z => absurd z (by decide), fun z => absurd z (by decide)⟩
  · have h : K (.inl (some (vI (if a = b then 0 else 1)))) w := h
    exact ⟨fun z => absurd z (by decide), fun z => absurd z (by decide), fun z => absurd z (by decide), fun z => absurd z (by decide), fun z => absurd z (by decide), fun z => absurd z (by decide), fun z => absurd z (by decide), fun z => absurd z (by decide), fun z => absurd z (by decide), fun z => absurd z (by decide), fun _ => ⟨fun z => by rw [if_pos z] at h; exact h, fun z => by rw [if_neg z] at h; exact h⟩, fun z => absurd z (by decide)⟩
  · have h : K (.inl (some (vI (if a < b then 1 else 0)))) w := h
    exact ⟨fun z => absurd z (by decide), fun _ => ⟨fun z => by rw [if_neg (by omega)] at h; exact h, fun z => by rw [if_pos (by omega)] at h; exact h⟩, fun z => absurd z (by decide), fun z => absurd z (by decide), fun z => absurd z (by decide), fun z => absurd z (by decide), fun z => absurd z (by decide), fun z => absurd z (by decide), fun z => absurd z (by decide), fun z => absurd z (by decide), fun z => absurd z (by decide), fun z => absurd z (by decide)⟩
  · have h : K (.inl (some (vI (if a ≤ b then 1 else 0)))) w := h
    exact ⟨fun z => absurd z (by decide), fun z => absurd z (by decide), fun z => absurd z (by decide), fun z => absurd z (by decide), fun z => absurd z (by decide), fun z => absurd z (by decide), fun z => absurd z (by decide), fun z => absurd z (by decide), fun z => absurd z (by decide), fun z => absurd z (by decide), fun z => absurd z (by decide), fun _ => ⟨fun z => by rw [if_neg (by omega)] at h; exact h, fun z => by rw [if_pos (by omega)] at h; exact h⟩⟩
  · have h : K (.inl (some (vI (if b < a then 1 else 0)))) w := h
    exact ⟨fun z => absurd z (by decide), fun z => absurd z (by decide), fun _ => ⟨fun z => by rw [if_neg (by omega)] at h; exact h, fun z => by rw [if_pos (by omega)] at h; exact h⟩, fun z => absurd z (by decide), fun z => absurd z (by decide), fun z => absurd z (by decide), fun z => absurd z (by decide), fun z => absurd z (by decide), fun z => absurd z (by decide), fun z => absurd z (by decide), fun z => absurd z (by decide), fun z => absurd z (by decide)⟩
  · have h : K (.inl (some (vI (if b ≤ a then 1 else 0)))) w := h
    exact ⟨fun _ => ⟨fun z => by rw [if_neg (by omega)] at h; exact h, fun z => by rw [if_pos (by omega)] at h; exact h⟩, fun z => absurd z (by decide), fun z => absurd z (by decide), fun z => absurd z (by decide), fun z => absurd z (by decide), fun z => absurd z (by decide), fun z => absurd z (by decide), fun z => absurd z (by decide), fun z => absurd z (by decide), fun z => absurd z (by decide), fun z => absurd z (by decide), fun z => absurd z (by decide)⟩
theorem sp_binaryW {k m np : Nat} {a b : Int} (hD : 2 ≤ D) (hpc : pc < 1024) (h21 : w 21 pc = (k : Int)) (h22 : w 22 pc = (m : Int)) (hk : k = 15 ∨ k = 16 ∨ k = 17 ∨ k = 18 ∨ k = 19 ∨ k = 21 ∨ k = 22 ∨ k = 13 ∨ k = 23 ∨ k = 14 ∨ k = 24) (hA : At w np st s dr) (hl : st.length < 64) (h : ¬ ((k = 18 ∨ k = 19) ∧ b = 0) → ∀ w', FrX w w' → At w' np (bnv k a b :: st) s dr → K (.inl none) w') (he : (k = 18 ∨ k = 19) ∧ b = 0 → ∀ w', FrX w w' → w' 101 11 = -1 → w' 101 16 = ((1 : Nat) : Int) → w' 101 17 = (m : Int) → K (.inl none) w') : Cal g LC jWo_binary D [vA 101, vI (pc : Int), vI a, vI b] w K := by
  obtain ⟨d, rfl⟩ : ∃ d, D = d + 1 := ⟨D - 1, by omega⟩
  have hb := ibd hpc
  refine Cal.ofV (by decide) rfl (Nat.le_of_ble_eq_true rfl) (s_Wo_binary ?_)
  rw [toN, h21, h22]
  by_cases k18 : k = 18
  · subst k18
    refine ⟨hb, fun _ => ⟨fun b0 => ⟨fun z => absurd rfl z, fun _ => ⟨b0, sp_push hA hl (h (fun z => b0 z.2))⟩⟩, fun b0 => ⟨hb, sp_wfail (f := 1) (he ⟨Or.inl rfl, b0⟩)⟩⟩, fun z => absurd rfl z⟩
  by_cases k19 : k = 19
  · subst k19
    refine ⟨hb, fun z => absurd z (by decide), fun _ => ⟨fun z => absurd rfl z, fun _ => ⟨fun b0 => ⟨fun _ => ⟨fun z => absurd rfl z, fun _ => ⟨b0, sp_push hA hl (h (fun z => b0 z.2))⟩⟩, fun z => absurd z (by decide)⟩, fun b0 => ⟨hb, sp_wfail (f := 1) (he ⟨Or.inr rfl, b0⟩)⟩⟩⟩⟩
  · have n18 : ¬ (k : Int) = 18 := by omega
    have n19 : ¬ (k : Int) = 19 := by omega
    refine ⟨hb, fun z => absurd z n18, fun _ => ⟨fun _ => ⟨fun _ => ⟨fun _ => sp_combinedW (by omega) (sp_push hA hl (h (fun z => by omega))), fun z => absurd z n19⟩, fun z => absurd z n18⟩, fun z => absurd z n19⟩⟩
theorem ln_3 {k : Nat} (h : lnO k ≠ 0) (h2 : ¬ lnO k ≤ 2) : k = 15 ∨ k = 16 ∨ k = 17 ∨ k = 18 ∨ k = 19 ∨ k = 21 ∨ k = 22 ∨ k = 13 ∨ k = 23 ∨ k = 14 ∨ k = 24 := by
  have := ln_cases k h
  omega
/-- code of cells that do not change -/
theorem FrX.cd {w' : Wd} (h : FrX w w') (o : Nat) (ho : o < 101) : w' o = w o := h.1 o (by simp; omega)
theorem CdA.fr {w' : Wd} {l : List Hd} (h : CdA w pc l) (hf : FrX w w') : CdA w' pc l := h.fx (fun o p q => hf.cd o (by omega))
abbrev KO (g : Mg) (d : Nat) (K : Ou → Wd → Prop) (n : Nat) (w : Wd) (pc : Nat) (st : List Int) (v : Int) (s dr : Nat) : Prop := ∀ w', FrX w w' → At w' pc (v :: st) s dr → WH g d K n w'
/-- a failure -/
abbrev KF (K : Ou → Wd → Prop) (w : Wd) (e : Nat × Nat) : Prop := ∀ w', FrX w w' → w' 101 16 = (e.1 : Int) → w' 101 17 = (e.2 : Int) → K (.inl none) w'
theorem KF.fr {w' : Wd} {e : Nat × Nat} (h : KF K w e) (hf : FrX w w') : KF K w' e := fun x f => h x (hf.tr f)
theorem w_opd {c t arc : Nat} {bb : Bool} (hL : L ≤ 4000) (hd : 4 ≤ d) (hn : n < 999999) (hc : c = 0 ∨ c = 1 ∨ c = 2) (hk : c = 0 → kdT T L t = 2 ∨ kdT T L t = 3 ∨ kdT T L t = 31 ∨ kdT T L t = 32 ∨ (54 ≤ kdT T L t ∧ kdT T L t ≤ 58)) (hE : ENb E) (hj : 100000 ≤ jkT T L E bb (nd c t 0 nl nl)) (hX : XCl X w mb v) (hO : OwC w ma v own lets) (ha : bb = true → w 101 12 = (arc : Int) ∧ arc < 120) (hcd : CdA w pc [((deO T L E c t).1, (deO T L E c t).2, 0, (h_ : Int))]) (hsz : (pc : Int) < w 19 4) (hpc : pc < 1024) (hA : At w pc st s dr) (hl : st.length < 64) (h : ∀ s1, stq h_ s = .ok s1 → KO g d K (n + 1) w (pc + 1) st (opv T L X E own lets arc c t) s1 dr) (he : ∀ e, stq h_ s = .error e → KF K w e) : WH g d K n w := by
  obtain ⟨c1, c2, c3, c4⟩ := hcd.one
  obtain ⟨d2, rfl⟩ : ∃ d2, d = d2 + 1 := ⟨d - 1, by omega⟩
  have hde := deO_le (E := E) hc hk
  refine wh_one hn hA hsz hpc c1 (fun w1 f1 A1 => wp_step (by omega) (by omega) hpc A1 (by rw [f1.cd 23 (by decide)]; exact c4) (fun w2 s1 e1 f2 A2 => ⟨fun z => absurd z (by omega), fun _ => ⟨ibd hpc, ?_⟩⟩) (fun w2 e e1 f2 q1 q2 q3 => wh_stop q1 (he e e1 w2 (f1.tr f2) q2 q3)))
  have f12 := f1.tr f2
  rw [f12.cd 21 (by decide), c2]
  refine sp_operandW hL (by omega) hc hk hE hj (hX.fr f12) (hO.fr f12) (fun z => ?_) (sp_push A2 hl (fun w3 f3 A3 => h s1 e1 w3 (f12.tr f3) A3))
  rw [f12.2 12 (by decide) (by decide) (by decide) (by decide) (by decide) (by decide)]
  exact ha z
/-- - and ! -/
theorem w_un {dd : Int} {a : Int} (hdd : dd = 12 ∨ dd = 13) (hd : 5 ≤ d) (hn : n < 999999) (hcd : CdA w pc [(dd, 0, 0, (h_ : Int))]) (hsz : (pc : Int) < w 19 4) (hpc : pc < 1024) (hA : At w pc (a :: st) s dr) (hl : st.length < 64) (h : ∀ s1, stq h_ s = .ok s1 → KO g d K (n + 1) w (pc + 1) st (if dd = 12 then wr (-a) else wr (1 - a)) s1 dr) (he : ∀ e, stq h_ s = .error e → KF K w e) : WH g d K n w := by
  obtain ⟨c1, c2, c3, c4⟩ := hcd.one
  obtain ⟨d2, rfl⟩ : ∃ d2, d = d2 + 2 := ⟨d - 2, by omega⟩
  refine wh_one hn hA hsz hpc c1 (fun w1 f1 A1 => wp_step (by omega) (by omega) hpc A1 (by rw [f1.cd 23 (by decide)]; exact c4) (fun w2 s1 e1 f2 A2 => ⟨fun _ => ⟨fun z => absurd z (by omega), fun _ => ?_⟩, fun z => absurd (by omega) z⟩) (fun w2 e e1 f2 q1 q2 q3 => wh_stop q1 (he e e1 w2 (f1.tr f2) q2 q3)))
  have f12 := f1.tr f2
  show Cal g LC jWo_operate (d2 + 1) _ _ _
  refine Cal.ofV (by decide) rfl (Nat.le_of_ble_eq_true rfl) (s_Wo_operate (sp_pop A2 hl (fun w3 f3 A3 => ?_)))
  rcases hdd with rfl | rfl
  · exact ⟨fun z => absurd z (by decide), fun _ => sp_push A3 hl (fun w4 f4 A4 => h s1 e1 w4 ((f12.tr f3).tr f4) A4), fun z => absurd z (by decide), fun z => absurd z (by decide)⟩
  · exact ⟨fun z => absurd z (by decide), fun z => absurd z (by decide), fun _ => sp_push A3 hl (fun w4 f4 A4 => h s1 e1 w4 ((f12.tr f3).tr f4) A4), fun z => absurd z (by decide)⟩
theorem At.gd {w' : Wd} (hA : At w pc st s dr) (hw : w' = up w 101 14 ((dr + 1 : Nat) : Int)) : At w' pc st s (dr + 1) := by
  subst hw
  obtain ⟨a1, a2, a3, a4, a5⟩ := hA
  exact ⟨by rw [up_k (by decide)]; exact a1, a2.same (up_k (by decide)) (up_o (by decide)), by rw [up_k (by decide)]; exact a3, up_s _ _ _ _, by rw [up_k (by decide)]; exact a5⟩
theorem sp_mixedW {a b : Int} (h : K (.inl (some (vI (mxd a b)))) w) : Cal g LC jWo_mixed D [vI a, vI b] w K := Cal.ofV (by decide) rfl (Nat.le_of_ble_eq_true rfl) (s_Wo_mixed h)
theorem w_draw {a : Int} {m : Nat} (hd : 6 ≤ d) (hn : n < 999999) (hdr : dr < 1000000) (hX : XCl X w mb v) (hcd : CdA w pc [(14, 0, (m : Int), (h_ : Int))]) (hsz : (pc : Int) < w 19 4) (hpc : pc < 1024) (hA : At w pc (a :: st) s dr) (hl : st.length < 64) (h : ∀ s1, stq h_ s = .ok s1 → ¬ a < 1 → KO g d K (n + 1) w (pc + 1) st (drw X dr a) s1 (dr + 1)) (he : ∀ e, stq h_ s = .error e → KF K w e) (he2 : ∀ s1, stq h_ s = .ok s1 → a < 1 → KF K w (2, m)) : WH g d K n w := by
  obtain ⟨c1, c2, c3, c4⟩ := hcd.one
  obtain ⟨d2, rfl⟩ : ∃ d2, d = d2 + 3 := ⟨d - 3, by omega⟩
  refine wh_one hn hA hsz hpc c1 (fun w1 f1 A1 => wp_step (by omega) (by decide) hpc A1 (by rw [f1.cd 23 (by decide)]; exact c4) (fun w2 s1 e1 f2 A2 => ⟨fun _ => ⟨fun z => absurd z (by decide), fun _ => ?_⟩, fun z => absurd (by decide) z⟩) (fun w2 e e1 f2 q1 q2 q3 => wh_stop q1 (he e e1 w2 (f1.tr f2) q2 q3)))
  have f12 := f1.tr f2
  show Cal g LC jWo_operate (d2 + 1 + 1) _ _ _
  refine Cal.ofV (by decide) rfl (Nat.le_of_ble_eq_true rfl) (s_Wo_operate (sp_pop A2 hl (fun w3 f3 A3 => ?_)))
  have f13 := f12.tr f3
  obtain ⟨x1, x2, x3, x4, x5, x6, x7, -⟩ := hX.fr f13
  refine ⟨fun z => absurd z (by decide), fun z => absurd z (by decide), fun z => absurd z (by decide), fun _ => ⟨fun z => ?_, fun z => ⟨ibd hpc, ?_⟩⟩⟩
  · refine Cal.ofV (by decide) rfl (Nat.le_of_ble_eq_true rfl) (s_Wo_draw (sp_mixedW ⟨mb, x1, x2, sp_mixedW (sp_mixedW ⟨by omega, ?_⟩)⟩))
    rw [A3.2.2.2.1, wr_n1 (by omega), x7, x3, ← x5, x6]
    refine sp_push (A3.gd rfl) hl (fun w4 f4 A4 => h s1 e1 (by omega) w4 ((f13.tr (FrX.u (by decide))).tr f4) A4)
  · rw [toN, f13.cd 22 (by decide), c3]
    exact sp_wfail (f := 2) (fun w4 f4 q1 q2 q3 => wh_stop q1 (he2 s1 e1 (by omega) w4 (f13.tr f4) q2 q3))
theorem w_bin {a b : Int} {k m : Nat} (hd : 6 ≤ d) (hn : n < 999999) (hk : k = 15 ∨ k = 16 ∨ k = 17 ∨ k = 18 ∨ k = 19 ∨ k = 21 ∨ k = 22 ∨ k = 13 ∨ k = 23 ∨ k = 14 ∨ k = 24) (hcd : CdA w pc [(15, (k : Int), (m : Int), (h_ : Int))]) (hsz : (pc : Int) < w 19 4) (hpc : pc < 1024) (hA : At w pc (b :: a :: st) s dr) (hl : st.length < 63) (h : ∀ s1, stq h_ s = .ok s1 → ¬ ((k = 18 ∨ k = 19) ∧ b = 0) → KO g d K (n + 1) w (pc + 1) st (bnv k a b) s1 dr) (he : ∀ e, stq h_ s = .error e → KF K w e) (he2 : ∀ s1, stq h_ s = .ok s1 → (k = 18 ∨ k = 19) ∧ b = 0 → KF K w (1, m)) : WH g d K n w := by
  obtain ⟨c1, c2, c3, c4⟩ := hcd.one
  obtain ⟨d2, rfl⟩ : ∃ d2, d = d2 + 3 := ⟨d - 3, by omega⟩
  refine wh_one hn hA hsz hpc c1 (fun w1 f1 A1 => wp_step (by omega) (by decide) hpc A1 (by rw [f1.cd 23 (by decide)]; exact c4) (fun w2 s1 e1 f2 A2 => ⟨fun _ => ⟨fun z => absurd z (by decide), fun _ => ?_⟩, fun z => absurd (by decide) z⟩) (fun w2 e e1 f2 q1 q2 q3 => wh_stop q1 (he e e1 w2 (f1.tr f2) q2 q3)))
  have f12 := f1.tr f2
  show Cal g LC jWo_operate (d2 + 1 + 1) _ _ _
  refine Cal.ofV (by decide) rfl (Nat.le_of_ble_eq_true rfl) (s_Wo_operate (sp_pop A2 (by show st.length + 1 < 64; omega) (fun w3 f3 A3 => ?_)))
  refine ⟨fun _ => sp_pop A3 (by omega) (fun w4 f4 A4 => ?_), fun z => absurd z (by decide), fun z => absurd z (by decide), fun z => absurd z (by decide)⟩
  have f14 := (f12.tr f3).tr f4
  exact sp_binaryW (by omega) hpc (by rw [f14.cd 21 (by decide)]; exact c2) (by rw [f14.cd 22 (by decide)]; exact c3) hk A4 (by omega) (fun z w5 f5 A5 => h s1 e1 z w5 (f14.tr f5) A5) (fun z w5 f5 q1 q2 q3 => wh_stop q1 (he2 s1 e1 z w5 (f14.tr f5) q2 q3))
theorem At.go {w' : Wd} {p : Nat} (hA : At w pc st s dr) (hw : w' = up w 101 11 (p : Int)) : At w' p st s dr := by
  subst hw
  obtain ⟨a1, a2, a3, a4, a5⟩ := hA
  exact ⟨up_s _ _ _ _, a2.same (up_k (by decide)) (up_o (by decide)), by rw [up_k (by decide)]; exact a3, by rw [up_k (by decide)]; exact a4, by rw [up_k (by decide)]; exact a5⟩
/-- && (16, settled by 0), || (17, by 1) -/
theorem w_and {dd a se : Int} {to : Nat} (hdd : (dd = 16 ∧ se = 0) ∨ (dd = 17 ∧ se = 1)) (hd : 6 ≤ d) (hn : n < 999999) (hcd : CdA w pc [(dd, (to : Int), 0, (h_ : Int))]) (hsz : (pc : Int) < w 19 4) (hpc : pc < 1024) (hA : At w pc (a :: st) s dr) (hl : st.length < 64) (h1 : ∀ s1, stq h_ s = .ok s1 → a = se → KO g d K (n + 1) w to st a s1 dr) (h2 : ∀ s1, stq h_ s = .ok s1 → ¬ a = se → ∀ w', FrX w w' → At w' (pc + 1) st s1 dr → WH g d K (n + 1) w') (he : ∀ e, stq h_ s = .error e → KF K w e) : WH g d K n w := by
  obtain ⟨c1, c2, c3, c4⟩ := hcd.one
  obtain ⟨d2, rfl⟩ : ∃ d2, d = d2 + 3 := ⟨d - 3, by omega⟩
  refine wh_one hn hA hsz hpc c1 (fun w1 f1 A1 => wp_step (by omega) (by omega) hpc A1 (by rw [f1.cd 23 (by decide)]; exact c4) (fun w2 s1 e1 f2 A2 => ⟨fun _ => ⟨fun _ => ⟨fun z => absurd z (by omega), fun _ => ?_⟩, fun z => absurd (by omega) z⟩, fun z => absurd (by omega) z⟩) (fun w2 e e1 f2 q1 q2 q3 => wh_stop q1 (he e e1 w2 (f1.tr f2) q2 q3)))
  have f12 := f1.tr f2
  show Cal g LC jWo_flow (d2 + 1 + 1) _ _ _
  have hkd : Cal g LC jWo_keepOrDrop (d2 + 1) [vA 101, vI se, vI (to : Int)] w2 (fun o w1 => rV o (WH g (d2 + 3) K (n + 1) w1)) := by
    refine Cal.ofV (by decide) rfl (Nat.le_of_ble_eq_true rfl) (s_Wo_keepOrDrop (sp_pop A2 hl (fun w3 f3 A3 => ⟨fun z => h2 s1 e1 z w3 (f12.tr f3) A3, fun z => sp_push A3 hl (fun w4 f4 A4 => ?_)⟩)))
    exact h1 s1 e1 z _ (((f12.tr f3).tr f4).tr (FrX.u (by decide))) (A4.go rfl)
  refine Cal.ofV (by decide) rfl (Nat.le_of_ble_eq_true rfl) (s_Wo_flow ⟨ibd hpc, ?_⟩)
  rw [toN, f12.cd 21 (by decide), c2]
  rcases hdd with ⟨rfl, rfl⟩ | ⟨rfl, rfl⟩
  · exact ⟨fun z => absurd z (by decide), fun _ => hkd, fun z => absurd z (by decide), fun z => absurd z (by decide), fun z => absurd z (by decide), fun z => absurd z (by decide), fun z => absurd z (by decide), fun z => absurd z (by decide), fun z => absurd z (by decide), fun z => absurd z (by decide), fun z => absurd z (by decide)⟩
  · exact ⟨fun z => absurd z (by decide), fun z => absurd z (by decide), fun _ => hkd, fun z => absurd z (by decide), fun z => absurd z (by decide), fun z => absurd z (by decide), fun z => absurd z (by decide), fun z => absurd z (by decide), fun z => absurd z (by decide), fun z => absurd z (by decide), fun z => absurd z (by decide)⟩
theorem w_choose {a : Int} {to : Nat} (hd : 6 ≤ d) (hn : n < 999999) (hcd : CdA w pc [(18, (to : Int), 0, (h_ : Int))]) (hsz : (pc : Int) < w 19 4) (hpc : pc < 1024) (hA : At w pc (a :: st) s dr) (hl : st.length < 64) (h : ∀ s1, stq h_ s = .ok s1 → ∀ w', FrX w w' → At w' (if a = 0 then to else pc + 1) st s1 dr → WH g d K (n + 1) w') (he : ∀ e, stq h_ s = .error e → KF K w e) : WH g d K n w := by
  obtain ⟨c1, c2, c3, c4⟩ := hcd.one
  obtain ⟨d2, rfl⟩ : ∃ d2, d = d2 + 3 := ⟨d - 3, by omega⟩
  refine wh_one hn hA hsz hpc c1 (fun w1 f1 A1 => wp_step (by omega) (by decide) hpc A1 (by rw [f1.cd 23 (by decide)]; exact c4) (fun w2 s1 e1 f2 A2 => ⟨fun _ => ⟨fun _ => ⟨fun z => absurd z (by decide), fun _ => ?_⟩, fun z => absurd (by decide) z⟩, fun z => absurd (by decide) z⟩) (fun w2 e e1 f2 q1 q2 q3 => wh_stop q1 (he e e1 w2 (f1.tr f2) q2 q3)))
  have f12 := f1.tr f2
  show Cal g LC jWo_flow (d2 + 1 + 1) _ _ _
  refine Cal.ofV (by decide) rfl (Nat.le_of_ble_eq_true rfl) (s_Wo_flow ⟨ibd hpc, ?_⟩)
  rw [toN, f12.cd 21 (by decide), c2]
  refine ⟨fun z => absurd z (by decide), fun z => absurd z (by decide), fun z => absurd z (by decide), fun _ => sp_pop A2 hl (fun w3 f3 A3 => ⟨fun z => ?_, fun z => ?_⟩), fun z => absurd z (by decide), fun z => absurd z (by decide), fun z => absurd z (by decide), fun z => absurd z (by decide), fun z => absurd z (by decide), fun z => absurd z (by decide), fun z => absurd z (by decide)⟩
  · exact h s1 e1 w3 (f12.tr f3) (by rw [if_neg z]; exact A3)
  · exact h s1 e1 _ ((f12.tr f3).tr (FrX.u (by decide))) (by rw [if_pos z]; exact A3.go rfl)
/-- a deed that counts no STEP -/
theorem wp_no {dd : Int} (hD : 1 ≤ D) (hdd : 19 < dd) (h : (25 < dd → ((0 ≤ (pc : Int) ∧ (pc : Int) < 1024) ∧ (Cal g LC jWo_act (D - 1) [vA 101, vI dd, vI (w 21 pc)] w (fun o w1 => rV o (K (.inl none) w1))))) ∧ (¬ 25 < dd → (Cal g LC jWo_flow (D - 1) [vA 101, vI (pc : Int), vI dd] w (fun o w2 => rV o (K (.inl none) w2))))) : Cal g LC jWo_perform D [vA 101, vI (pc : Int), vI dd] w K := by
  obtain ⟨d, rfl⟩ : ∃ d, D = d + 1 := ⟨D - 1, by omega⟩
  rw [Nat.add_sub_cancel] at h
  refine Cal.ofV (by decide) rfl (Nat.le_of_ble_eq_true rfl) (s_Wo_perform ?_)
  rw [toN]
  exact ⟨fun _ => ⟨fun _ => ⟨fun _ => h, fun z => absurd (by omega) z⟩, fun z => absurd (by omega) z⟩, fun z => absurd hdd z⟩
theorem w_jump {to : Nat} {x : Int} (hd : 6 ≤ d) (hn : n < 999999) (hcd : CdA w pc [(21, (to : Int), x, (h_ : Int))]) (hsz : (pc : Int) < w 19 4) (hpc : pc < 1024) (hA : At w pc st s dr) (h : ∀ w', FrX w w' → At w' to st s dr → WH g d K (n + 1) w') : WH g d K n w := by
  obtain ⟨c1, c2, c3, c4⟩ := hcd.one
  obtain ⟨d2, rfl⟩ : ∃ d2, d = d2 + 3 := ⟨d - 3, by omega⟩
  refine wh_one hn hA hsz hpc c1 (fun w1 f1 A1 => wp_no (by omega) (by decide) ⟨fun z => absurd z (by decide), fun _ => ?_⟩)
  show Cal g LC jWo_flow (d2 + 1 + 1) _ _ _
  refine Cal.ofV (by decide) rfl (Nat.le_of_ble_eq_true rfl) (s_Wo_flow ⟨ibd hpc, ?_⟩)
  rw [toN, f1.cd 21 (by decide), c2]
  exact ⟨fun z => absurd z (by decide), fun z => absurd z (by decide), fun z => absurd z (by decide), fun z => absurd z (by decide), fun z => absurd z (by decide), fun z => absurd z (by decide), fun _ => h _ (f1.tr (FrX.u (by decide))) (A1.go rfl), fun z => absurd z (by decide), fun z => absurd z (by decide), fun z => absurd z (by decide), fun z => absurd z (by decide)⟩
end WExp2
