/-! ===== the class's worker does statements: what it holds ===== -/
/-- folding, as the class does it -/
def fldC (way bef tim v : Int) : Int := if way = 35 then wr (bef + v) else if way = 36 then (if v < bef then v else bef) else if way = 37 then (if bef < v then v else bef) else if way = 38 then (if tim = 0 then v else bef) else if way = 39 then iAnd bef v else iOr bef v
/-- something is sent or given -/
def evW (ma : Nat) (w : Wd) (e : Nat × Nat × Int) : Wd :=
  if e.1 = 0 then up (up w (ma + 5) e.2.1 (fldC (w 11 e.2.1) (w (ma + 5) e.2.1) (w (ma + 6) e.2.1) e.2.2)) (ma + 6) e.2.1 (wr (w (ma + 6) e.2.1 + 1))
  else up (up (up w (ma + 3) (4 * (e.1 - 1) + e.2.1) (fldC (w 10 e.2.1) (w (ma + 3) (4 * (e.1 - 1) + e.2.1)) (w (ma + 4) (4 * (e.1 - 1) + e.2.1)) e.2.2)) (ma + 4) (4 * (e.1 - 1) + e.2.1) (wr (w (ma + 4) (4 * (e.1 - 1) + e.2.1) + 1))) ma 1 (wr (w ma 1 + 1))
def FW2 (ma : Nat) (w0 w : Wd) : Prop := (∀ o, o < 45 → w o = w0 o) ∧ (∀ o, 45 ≤ o → o ≤ 100 → ¬ (ma ≤ o ∧ o ≤ ma + 6) → w o = w0 o) ∧ ∀ b, b < 10 → w 101 b = w0 101 b
/-- the cells of the moment that is made -/
def MvC (ma v : Nat) (w0 w : Wd) (σ : SS) : Prop := (∀ k, k < 8 → w (ma + 1) (8 * v + k) = zo σ k) ∧ (∀ x, (x < 8 * v ∨ 8 * v + 8 ≤ x) → w (ma + 1) x = w0 (ma + 1) x) ∧ (∀ k, k < 8 → w 103 k = zl σ k) ∧ (∀ o, (o = ma ∨ o = ma + 3 ∨ o = ma + 4 ∨ o = ma + 5 ∨ o = ma + 6) → w o = ((ze σ).foldl (evW ma) w0) o)
def RS (ma v : Nat) (w0 w : Wd) (σ : SS) : Prop := FW2 ma w0 w ∧ MvC ma v w0 w σ ∧ w (ma + 2) = w0 (ma + 2)
theorem FW2.rf (ma : Nat) (w : Wd) : FW2 ma w w := ⟨fun _ _ => rfl, fun _ _ _ _ => rfl, fun _ _ => rfl⟩
theorem FW2.fr {ma : Nat} {w0 w w' : Wd} (h : FW2 ma w0 w) (hf : FrX w w') : FW2 ma w0 w' := ⟨fun o ho => by rw [hf.cd o (by omega)]; exact h.1 o ho, fun o p q r => by rw [hf.cd o (by omega)]; exact h.2.1 o p q r, fun b hb => by rw [hf.2 b (by omega) (by omega) (by omega) (by omega) (by omega) (by omega)]; exact h.2.2 b hb⟩
theorem MvC.fr {ma v : Nat} {w0 w w' : Wd} {σ : SS} (hm : isMo ma) (h : MvC ma v w0 w σ) (hf : FrX w w') : MvC ma v w0 w' σ := by
  have := mo_rng hm
  obtain ⟨h1, h2, h3, h4⟩ := h
  refine ⟨?_, ?_, ?_, fun o ho => ?_⟩
  · rw [hf.cd (ma + 1) (by omega)]; exact h1
  · rw [hf.cd (ma + 1) (by omega)]; exact h2
  · rw [hf.1 103 (by decide)]; exact h3
  · rw [hf.cd o (by omega)]; exact h4 o ho
theorem RS.fr {ma v : Nat} {w0 w w' : Wd} {σ : SS} (hm : isMo ma) (h : RS ma v w0 w σ) (hf : FrX w w') : RS ma v w0 w' σ := by
  have := mo_rng hm
  exact ⟨h.1.fr hf, h.2.1.fr hm hf, by rw [hf.cd (ma + 2) (by omega)]; exact h.2.2⟩
/-- the STEPS and draws are no matter of it -/
theorem MvC.sd {ma v : Nat} {w0 w : Wd} {σ : SS} {s d : Nat} {b : Bool} (h : MvC ma v w0 w σ) : MvC ma v w0 w (s, d, zo σ, zl σ, ze σ, b) := h
theorem RS.sd {ma v : Nat} {w0 w : Wd} {σ : SS} {s d : Nat} {b : Bool} (h : RS ma v w0 w σ) : RS ma v w0 w (s, d, zo σ, zl σ, ze σ, b) := h
theorem mo_ne {a b : Nat} (ha : isMo a) (hb : isMo b) (h : a ≠ b) : a + 7 ≤ b ∨ b + 7 ≤ a := by
  obtain ⟨k, hk, rfl⟩ := ha
  obtain ⟨k', hk', rfl⟩ := hb
  omega
theorem XCl.f2 {X : Xv} {w0 w : Wd} {ma mb v : Nat} (h : XCl X w0 mb v) (hm : isMo ma) (hne : ma ≠ mb) (hf : FW2 ma w0 w) : XCl X w mb v := by
  obtain ⟨h1, h2, h3, h4, h5, h6, h7, h8, h9, h10, h11, h12⟩ := h
  have hr := mo_rng h2
  have hn := mo_ne hm h2 hne
  have q : ∀ i, i ≤ 6 → w (mb + i) = w0 (mb + i) := fun i hi => hf.2.1 (mb + i) (by omega) (by omega) (by omega)
  refine ⟨by rw [hf.2.2 6 (by decide)]; exact h1, h2, by rw [hf.2.2 9 (by decide)]; exact h3, h4, h5, by rw [show w mb = w0 mb from q 0 (by decide)]; exact h6, by rw [hf.2.2 8 (by decide)]; exact h7, by rw [hf.1 31 (by decide)]; exact h8, by rw [hf.1 35 (by decide)]; exact h9, by rw [hf.1 36 (by decide)]; exact h10, ?_, by rw [hf.1 34 (by decide)]; exact h12⟩
  rw [q 3 (by decide), q 4 (by decide), q 5 (by decide)]
  exact h11
/-- a deed done: the world w1 is w with other numbers of the worker, then one cell of the moment -/
theorem upM_at {w : Wd} {o k pc s dr : Nat} {x : Int} {st : List Int} (h : At w pc st s dr) (h1 : o ≠ 101) (h2 : o ≠ 102) : At (up w o k x) pc st s dr := by
  obtain ⟨a1, a2, a3, a4, a5⟩ := h
  have e : up w o k x 101 = w 101 := up_o (fun z => h1 z.symm)
  have e2 : up w o k x 102 = w 102 := up_o (fun z => h2 z.symm)
  exact ⟨by rw [e]; exact a1, a2.same (by rw [e]) e2, by rw [e]; exact a3, by rw [e]; exact a4, by rw [e]; exact a5⟩
section WStm
variable {g : Mg} {d n : Nat} {K : Ou → Wd → Prop} {w : Wd} {pc s dr h_ : Nat} {st : List Int} {ma v : Nat}
/-- the beginning of a statement -/
theorem w_stmt {h1 : Int} (hd : 6 ≤ d) (hn : n < 999999) (hcd : CdA w pc [(19, 0, 0, (h_ : Int))]) (hsz : (pc : Int) < w 19 4) (hpc : pc < 1024) (hA : At w pc st s dr) (h : ∀ s1, stq h_ s = .ok s1 → ∀ w', FrX w w' → At w' (pc + 1) st s1 dr → WH g d K (n + 1) w') (he : ∀ e, stq h_ s = .error e → KF K w e) : WH g d K n w := by
  obtain ⟨c1, c2, c3, c4⟩ := hcd.one
  obtain ⟨d2, rfl⟩ : ∃ d2, d = d2 + 3 := ⟨d - 3, by omega⟩
  refine wh_one hn hA hsz hpc c1 (fun w1 f1 A1 => wp_step (by omega) (by decide) hpc A1 (by rw [f1.cd 23 (by decide)]; exact c4) (fun w2 s1 e1 f2 A2 => ⟨fun _ => ⟨fun _ => ⟨fun z => absurd z (by decide), fun _ => ?_⟩, fun z => absurd (by decide) z⟩, fun z => absurd (by decide) z⟩) (fun w2 e e1 f2 q1 q2 q3 => wh_stop q1 (he e e1 w2 (f1.tr f2) q2 q3)))
  show Cal g LC jWo_flow (d2 + 1 + 1) _ _ _
  exact Cal.ofV (by decide) rfl (Nat.le_of_ble_eq_true rfl) (s_Wo_flow ⟨ibd hpc, fun z => absurd z (by decide), fun z => absurd z (by decide), fun z => absurd z (by decide), fun z => absurd z (by decide), fun _ => h s1 e1 w2 (f1.tr f2) A2, fun z => absurd z (by decide), fun z => absurd z (by decide), fun z => absurd z (by decide), fun z => absurd z (by decide), fun z => absurd z (by decide), fun z => absurd z (by decide)⟩)
/-- an act: 26 .. 30 -/
theorem w_actC {dd arg : Int} (hdd : 26 ≤ dd) (hd : 6 ≤ d) (hn : n < 999999) (hcd : CdA w pc [(dd, arg, 0, (h_ : Int))]) (hsz : (pc : Int) < w 19 4) (hpc : pc < 1024) (hA : At w pc st s dr) (h : ∀ w1, FrX w w1 → At w1 (pc + 1) st s dr → Cal g LC jWo_act (d - 1) [vA 101, vI dd, vI arg] w1 (fun o w1 => rV o (WH g d K (n + 1) w1))) : WH g d K n w := by
  obtain ⟨c1, c2, c3, c4⟩ := hcd.one
  refine wh_one hn hA hsz hpc c1 (fun w1 f1 A1 => wp_no (by omega) (by omega) ⟨fun _ => ⟨ibd hpc, ?_⟩, fun z => absurd (by omega) z⟩)
  rw [f1.cd 21 (by decide), c2]
  exact h w1 f1 A1
theorem w_setS {x : Int} {k : Nat} (hd : 6 ≤ d) (hn : n < 999999) (hv : v < 40) (hk : k < 8) (h9 : w 101 9 = (v : Int)) (h7 : w 101 7 = (ma : Int)) (hm : isMo ma) (hcd : CdA w pc [(26, (k : Int), 0, (h_ : Int))]) (hsz : (pc : Int) < w 19 4) (hpc : pc < 1024) (hA : At w pc (x :: st) s dr) (hl : st.length < 64) (h : ∀ w1, FrX w w1 → At (up w1 (ma + 1) (8 * v + k) x) (pc + 1) st s dr → WH g d K (n + 1) (up w1 (ma + 1) (8 * v + k) x)) : WH g d K n w := by
  have hr := mo_rng hm
  refine w_actC (by decide) hd hn hcd hsz hpc hA (fun w1 f1 A1 => ?_)
  obtain ⟨d2, rfl⟩ : ∃ d2, d = d2 + 2 := ⟨d - 2, by omega⟩
  show Cal g LC jWo_act (d2 + 1) _ _ _
  have b9 : w1 101 9 = (v : Int) := by rw [f1.2 9 (by decide) (by decide) (by decide) (by decide) (by decide) (by decide)]; exact h9
  have b7 : w1 101 7 = (ma : Int) := by rw [f1.2 7 (by decide) (by decide) (by decide) (by decide) (by decide) (by decide)]; exact h7
  refine Cal.ofV (by decide) rfl (Nat.le_of_ble_eq_true rfl) (s_Wo_act ⟨fun z => absurd z (by decide), fun _ => ⟨ma, b7, hm, sp_pop A1 hl (fun w2 f2 A2 => ?_)⟩, fun z => absurd z (by decide), fun z => absurd z (by decide), fun z => absurd z (by decide), fun z => absurd z (by decide)⟩)
  rw [b9, ix8 hv hk, toN]
  exact ⟨ib8 hv hk, h w2 (f1.tr f2) (upM_at A2 (by omega) (by omega))⟩
theorem w_setL {x : Int} {k : Nat} (hd : 6 ≤ d) (hn : n < 999999) (hk : k < 8) (hcd : CdA w pc [(27, (k : Int), 0, (h_ : Int))]) (hsz : (pc : Int) < w 19 4) (hpc : pc < 1024) (hA : At w pc (x :: st) s dr) (hl : st.length < 64) (h : ∀ w1, FrX w w1 → At (up w1 103 k x) (pc + 1) st s dr → WH g d K (n + 1) (up w1 103 k x)) : WH g d K n w := by
  refine w_actC (by decide) hd hn hcd hsz hpc hA (fun w1 f1 A1 => ?_)
  obtain ⟨d2, rfl⟩ : ∃ d2, d = d2 + 2 := ⟨d - 2, by omega⟩
  show Cal g LC jWo_act (d2 + 1) _ _ _
  refine Cal.ofV (by decide) rfl (Nat.le_of_ble_eq_true rfl) (s_Wo_act ⟨fun z => absurd z (by decide), fun z => absurd z (by decide), fun _ => sp_pop A1 hl (fun w2 f2 A2 => ?_), fun z => absurd z (by decide), fun z => absurd z (by decide), fun z => absurd z (by decide)⟩)
  rw [toN]
  exact ⟨ibd hk, h w2 (f1.tr f2) (upM_at A2 (by decide) (by decide))⟩
theorem sp_foldC {D : Nat} {way bef tim x : Int} (hD : 1 ≤ D) (h : K (.inl (some (vI (fldC way bef tim x)))) w) : Cal g LC jPr_folded D [vI way, vI bef, vI tim, vI x] w K := by
  obtain ⟨d, rfl⟩ : ∃ d, D = d + 1 := ⟨D - 1, by omega⟩
  unfold fldC at h
  refine Cal.ofV (by decide) rfl (Nat.le_of_ble_eq_true rfl) (s_Pr_folded ⟨fun z => ?_, fun z => ?_, fun z => sp_min ?_, fun z => sp_max ?_, fun z => ⟨fun q => ?_, fun q => ?_⟩, fun z => ?_⟩)
  · rw [if_neg (by omega), if_neg (by omega), if_neg (by omega), if_neg (by omega), if_neg (by omega)] at h; exact h
  · rw [if_pos z] at h; exact h
  · rw [if_neg (by omega), if_pos z] at h; exact h
  · rw [if_neg (by omega), if_neg (by omega), if_pos z] at h; exact h
  · rw [if_neg (by omega), if_neg (by omega), if_neg (by omega), if_pos z, if_neg q] at h; exact h
  · rw [if_neg (by omega), if_neg (by omega), if_neg (by omega), if_pos z, if_pos q] at h; exact h
  · rw [if_neg (by omega), if_neg (by omega), if_neg (by omega), if_neg (by omega), if_pos z] at h; exact h
/-- what evW does, on any world -/
theorem evW_g {k : Nat} {x : Int} : evW ma w (0, k, x) = up (up w (ma + 5) k (fldC (w 11 k) (w (ma + 5) k) (w (ma + 6) k) x)) (ma + 6) k (wr (w (ma + 6) k + 1)) := rfl
theorem evW_d {to k : Nat} {x : Int} : evW ma w (to + 1, k, x) = up (up (up w (ma + 3) (4 * to + k) (fldC (w 10 k) (w (ma + 3) (4 * to + k)) (w (ma + 4) (4 * to + k)) x)) (ma + 4) (4 * to + k) (wr (w (ma + 4) (4 * to + k) + 1))) ma 1 (wr (w ma 1 + 1)) := by
  unfold evW
  rw [if_neg (by show ¬ to + 1 = 0; omega)]
  rfl
theorem sp_giveC {D k : Nat} {x : Int} (hD : 2 ≤ D) (hm : isMo ma) (hk : k < 4) (h : K (.inl none) (evW ma w (0, k, x))) : Cal g LC jMo_give D [vA ma, vA 8, vI (k : Int), vI x] w K := by
  obtain ⟨d, rfl⟩ : ∃ d, D = d + 1 := ⟨D - 1, by omega⟩
  rw [evW_g] at h
  refine Cal.ofV (by decide) rfl (Nat.le_of_ble_eq_true rfl) (s_Mo_give hm ?_)
  rw [toN]
  refine ⟨ibd hk, ibd hk, ibd hk, sp_foldC (by omega) ⟨ibd hk, ibd hk, ibd hk, ?_⟩⟩
  rw [up_o (show ma + 6 ≠ ma + 5 by omega)]
  exact h
theorem sp_deliverC {D to k : Nat} {x : Int} (hD : 2 ≤ D) (hm : isMo ma) (ht : to < 40) (hk : k < 4) (h : K (.inl none) (evW ma w (to + 1, k, x))) : Cal g LC jMo_deliver D [vA ma, vA 8, vI (to : Int), vI (k : Int), vI x] w K := by
  obtain ⟨d, rfl⟩ : ∃ d, D = d + 1 := ⟨D - 1, by omega⟩
  rw [evW_d] at h
  refine Cal.ofV (by decide) rfl (Nat.le_of_ble_eq_true rfl) (s_Mo_deliver hm ?_)
  rw [ix4 ht hk, toN, toN]
  refine ⟨ibd hk, ib4 ht hk, ib4 ht hk, sp_foldC (by omega) ⟨ib4 ht hk, ib4 ht hk, ib4 ht hk, ?_⟩⟩
  rw [up_o (show ma + 4 ≠ ma + 3 by omega), up_o (show ma ≠ ma + 4 by omega), up_o (show ma ≠ ma + 3 by omega)]
  exact h
theorem evW_at {e : Nat × Nat × Int} (hm : isMo ma) (h : At w pc st s dr) : At (evW ma w e) pc st s dr := by
  have hr := mo_rng hm
  unfold evW
  split
  · exact upM_at (upM_at h (by omega) (by omega)) (by omega) (by omega)
  · exact upM_at (upM_at (upM_at h (by omega) (by omega)) (by omega) (by omega)) (by omega) (by omega)
theorem w_give {x : Int} {k : Nat} (hd : 6 ≤ d) (hn : n < 999999) (hk : k < 4) (h7 : w 101 7 = (ma : Int)) (hm : isMo ma) (hcd : CdA w pc [(29, (k : Int), 0, (h_ : Int))]) (hsz : (pc : Int) < w 19 4) (hpc : pc < 1024) (hA : At w pc (x :: st) s dr) (hl : st.length < 64) (h : ∀ w1, FrX w w1 → At (evW ma w1 (0, k, x)) (pc + 1) st s dr → WH g d K (n + 1) (evW ma w1 (0, k, x))) : WH g d K n w := by
  refine w_actC (by decide) hd hn hcd hsz hpc hA (fun w1 f1 A1 => ?_)
  obtain ⟨d2, rfl⟩ : ∃ d2, d = d2 + 4 := ⟨d - 4, by omega⟩
  show Cal g LC jWo_act (d2 + 2 + 1) _ _ _
  have b7 : w1 101 7 = (ma : Int) := by rw [f1.2 7 (by decide) (by decide) (by decide) (by decide) (by decide) (by decide)]; exact h7
  exact Cal.ofV (by decide) rfl (Nat.le_of_ble_eq_true rfl) (s_Wo_act ⟨fun z => absurd z (by decide), fun z => absurd z (by decide), fun z => absurd z (by decide), fun z => absurd z (by decide), fun _ => ⟨ma, b7, hm, sp_pop A1 hl (fun w2 f2 A2 => sp_giveC (by omega) hm hk (h w2 (f1.tr f2) (evW_at hm A2)))⟩, fun z => absurd z (by decide)⟩)
theorem w_sendD {x : Int} {k arc to ag : Nat} (hd : 6 ≤ d) (hn : n < 999999) (hk : k < 4) (ha : arc < 120) (ht : to < 40) (h12 : w 101 12 = (arc : Int)) (h13 : w 101 13 = (ag : Int)) (hto : (if ag = 0 then w 33 arc else w 32 arc) = (to : Int)) (h7 : w 101 7 = (ma : Int)) (hm : isMo ma) (hcd : CdA w pc [(28, (k : Int), 0, (h_ : Int))]) (hsz : (pc : Int) < w 19 4) (hpc : pc < 1024) (hA : At w pc (x :: st) s dr) (hl : st.length < 64) (h : ∀ w1, FrX w w1 → At (evW ma w1 (to + 1, k, x)) (pc + 1) st s dr → WH g d K (n + 1) (evW ma w1 (to + 1, k, x))) : WH g d K n w := by
  refine w_actC (by decide) hd hn hcd hsz hpc hA (fun w1 f1 A1 => ?_)
  obtain ⟨d2, rfl⟩ : ∃ d2, d = d2 + 4 := ⟨d - 4, by omega⟩
  show Cal g LC jWo_act (d2 + 2 + 1) _ _ _
  have b7 : w1 101 7 = (ma : Int) := by rw [f1.2 7 (by decide) (by decide) (by decide) (by decide) (by decide) (by decide)]; exact h7
  have b12 : w1 101 12 = (arc : Int) := by rw [f1.2 12 (by decide) (by decide) (by decide) (by decide) (by decide) (by decide)]; exact h12
  have b13 : w1 101 13 = (ag : Int) := by rw [f1.2 13 (by decide) (by decide) (by decide) (by decide) (by decide) (by decide)]; exact h13
  refine Cal.ofV (by decide) rfl (Nat.le_of_ble_eq_true rfl) (s_Wo_act ⟨fun z => absurd z (by decide), fun z => absurd z (by decide), fun z => absurd z (by decide), fun _ => ⟨ma, b7, hm, Cal.ofV (by decide) rfl (Nat.le_of_ble_eq_true rfl) (s_Gr_otherEnd ?_)⟩, fun z => absurd z (by decide), fun z => absurd z (by decide)⟩)
  rw [b12, b13, toN]
  have go : Cal g LC jWo_pop (d2 + 2) [vA 101] w1 (fun o w9 => rI o (fun x10 => Cal g LC jMo_deliver (d2 + 2) [vA ma, vA 8, vI (to : Int), vI (k : Int), vI x10] w9 (fun o w11 => rV o (WH g (d2 + 4) K (n + 1) w11)))) := sp_pop A1 hl (fun w2 f2 A2 => sp_deliverC (by omega) hm ht hk (h w2 (f1.tr f2) (evW_at hm A2)))
  refine ⟨fun z => ⟨ibd ha, ?_⟩, fun z => ⟨ibd ha, ?_⟩⟩
  · rw [if_pos (by omega)] at hto
    rw [f1.cd 33 (by decide), hto]
    exact go
  · rw [if_neg (by omega)] at hto
    rw [f1.cd 32 (by decide), hto]
    exact go
theorem w_haltD (hd : 6 ≤ d) (hn : n < 999999) (hv : v < 40) (h9 : w 101 9 = (v : Int)) (h7 : w 101 7 = (ma : Int)) (hm : isMo ma) (hcd : CdA w pc [(30, 0, 0, (h_ : Int))]) (hsz : (pc : Int) < w 19 4) (hpc : pc < 1024) (hA : At w pc st s dr) (h : ∀ w1, FrX w w1 → At w1 (pc + 1) st s dr → K (.inl none) (up (up w1 (ma + 2) v 1) 101 11 (-1))) : WH g d K n w := by
  refine w_actC (by decide) hd hn hcd hsz hpc hA (fun w1 f1 A1 => ?_)
  obtain ⟨d2, rfl⟩ : ∃ d2, d = d2 + 2 := ⟨d - 2, by omega⟩
  show Cal g LC jWo_act (d2 + 1) _ _ _
  have b9 : w1 101 9 = (v : Int) := by rw [f1.2 9 (by decide) (by decide) (by decide) (by decide) (by decide) (by decide)]; exact h9
  have b7 : w1 101 7 = (ma : Int) := by rw [f1.2 7 (by decide) (by decide) (by decide) (by decide) (by decide) (by decide)]; exact h7
  refine Cal.ofV (by decide) rfl (Nat.le_of_ble_eq_true rfl) (s_Wo_act ⟨fun z => absurd z (by decide), fun z => absurd z (by decide), fun z => absurd z (by decide), fun z => absurd z (by decide), fun z => absurd z (by decide), fun _ => ⟨ma, b7, hm, ?_⟩⟩)
  rw [b9, toN]
  exact ⟨ibd hv, wh_stop (up_s _ _ _ _) (h w1 f1 A1)⟩
theorem w_endD (hd : 6 ≤ d) (hn : n < 999999) (hcd : CdA w pc [(31, 0, 0, (h_ : Int))]) (hsz : (pc : Int) < w 19 4) (hpc : pc < 1024) (hA : At w pc st s dr) (h : ∀ w1, FrX w w1 → w1 101 15 = (s : Int) → w1 101 16 = 0 → K (.inl none) w1) : WH g d K n w := by
  refine w_actC (by decide) hd hn hcd hsz hpc hA (fun w1 f1 A1 => ?_)
  obtain ⟨d2, rfl⟩ : ∃ d2, d = d2 + 2 := ⟨d - 2, by omega⟩
  show Cal g LC jWo_act (d2 + 1) _ _ _
  refine Cal.ofV (by decide) rfl (Nat.le_of_ble_eq_true rfl) (s_Wo_act ⟨fun _ => wh_stop (up_s _ _ _ _) (h _ (f1.tr (FrX.u (by decide))) ?_ ?_), fun z => absurd z (by decide), fun z => absurd z (by decide), fun z => absurd z (by decide), fun z => absurd z (by decide), fun z => absurd z (by decide)⟩)
  · rw [up_k (by decide)]; exact A1.2.2.1
  · rw [up_k (by decide)]; exact A1.2.2.2.2
end WStm
