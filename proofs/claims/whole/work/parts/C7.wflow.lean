/-! ===== the class's worker: if, loop, send ===== -/
def FrY (w w' : Wd) : Prop := Fx [101, 102, 104] w w' ∧ ∀ b, b < 10 → w' 101 b = w 101 b
theorem FrY.x {w w' : Wd} (h : FrX w w') : FrY w w' := ⟨h.1.mono (by decide), fun b hb => h.2 b (by omega) (by omega) (by omega) (by omega) (by omega) (by omega)⟩
theorem FrY.rf (w : Wd) : FrY w w := ⟨Fx.rf _ w, fun _ _ => rfl⟩
theorem FrY.tr {a b c : Wd} (h1 : FrY a b) (h2 : FrY b c) : FrY a c := ⟨h1.1.tr h2.1, fun x p => (h2.2 x p).trans (h1.2 x p)⟩
theorem FrY.u {w : Wd} {b : Nat} {v : Int} (h : 10 ≤ b) : FrY w (up w 101 b v) := ⟨(Fx.rf _ w).up (by decide), fun x p => up_k (by omega)⟩
theorem FrY.r {w : Wd} {b : Nat} {v : Int} : FrY w (up w 104 b v) := ⟨(Fx.rf _ w).up (by decide), fun x p => by rw [up_o (by decide)]⟩
theorem FrY.cd {w w' : Wd} (h : FrY w w') (o : Nat) (ho : o < 101) : w' o = w o := h.1 o (by simp; omega)
theorem FW2.fy {ma : Nat} {w0 w w' : Wd} (h : FW2 ma w0 w) (hf : FrY w w') : FW2 ma w0 w' := ⟨fun o ho => by rw [hf.cd o (by omega)]; exact h.1 o ho, fun o p q r => by rw [hf.cd o (by omega)]; exact h.2.1 o p q r, fun b hb => by rw [hf.2 b hb]; exact h.2.2 b hb⟩
theorem RS.fy {ma v : Nat} {w0 w w' : Wd} {σ : SS} (hm : isMo ma) (h : RS ma v w0 w σ) (hf : FrY w w') : RS ma v w0 w' σ := by
  have := mo_rng hm
  obtain ⟨h0, ⟨h1, h2, h3, h4⟩, h5⟩ := h
  refine ⟨h0.fy hf, ⟨?_, ?_, ?_, fun o ho => ?_⟩, by rw [hf.cd (ma + 2) (by omega)]; exact h5⟩
  · rw [hf.cd (ma + 1) (by omega)]; exact h1
  · rw [hf.cd (ma + 1) (by omega)]; exact h2
  · rw [hf.1 103 (by decide)]; exact h3
  · rw [hf.cd o (by omega)]; exact h4 o ho
section WFlow
variable {g : Mg} {d n : Nat} {K : Ou → Wd → Prop} {w : Wd} {pc s dr h_ to : Nat} {st : List Int}
theorem At.u12 {x : Int} {b : Nat} (hb : b = 12 ∨ b = 13) (hA : At w pc st s dr) : At (up w 101 b x) pc st s dr := by
  obtain ⟨a1, a2, a3, a4, a5⟩ := hA
  exact ⟨by rw [up_k (by omega)]; exact a1, a2.same (up_k (by omega)) (up_o (by decide)), by rw [up_k (by omega)]; exact a3, by rw [up_k (by omega)]; exact a4, by rw [up_k (by omega)]; exact a5⟩
/-- a deed of flow without a STEP of its own -/
theorem w_flowC {dd arg mk : Int} (hdd : 20 ≤ dd ∧ dd ≤ 25) (hd : 6 ≤ d) (hn : n < 999999) (hcd : CdA w pc [(dd, arg, mk, (h_ : Int))]) (hsz : (pc : Int) < w 19 4) (hpc : pc < 1024) (hA : At w pc st s dr) (h : ∀ w1, FrX w w1 → At w1 (pc + 1) st s dr → w1 21 pc = arg → w1 22 pc = mk → w1 23 pc = (h_ : Int) → Cal g LC jWo_flow (d - 1) [vA 101, vI (pc : Int), vI dd] w1 (fun o w1 => rV o (WH g d K (n + 1) w1))) : WH g d K n w := by
  obtain ⟨c1, c2, c3, c4⟩ := hcd.one
  refine wh_one hn hA hsz hpc c1 (fun w1 f1 A1 => wp_no (by omega) (by omega) ⟨fun z => absurd z (by omega), fun _ => ?_⟩)
  exact h w1 f1 A1 (by rw [f1.cd 21 (by decide)]; exact c2) (by rw [f1.cd 22 (by decide)]; exact c3) (by rw [f1.cd 23 (by decide)]; exact c4)
theorem w_unless {a : Int} (hd : 6 ≤ d) (hn : n < 999999) (hcd : CdA w pc [(20, (to : Int), 0, (h_ : Int))]) (hsz : (pc : Int) < w 19 4) (hpc : pc < 1024) (hA : At w pc (a :: st) s dr) (hl : st.length < 64) (h : ∀ w', FrX w w' → At w' (if a = 0 then to else pc + 1) st s dr → WH g d K (n + 1) w') : WH g d K n w := by
  refine w_flowC (by decide) hd hn hcd hsz hpc hA (fun w1 f1 A1 e21 e22 _ => ?_)
  obtain ⟨d2, rfl⟩ : ∃ d2, d = d2 + 2 := ⟨d - 2, by omega⟩
  show Cal g LC jWo_flow (d2 + 1) _ _ _
  refine Cal.ofV (by decide) rfl (Nat.le_of_ble_eq_true rfl) (s_Wo_flow ⟨ibd hpc, ?_⟩)
  rw [toN, e21]
  refine ⟨fun z => absurd z (by decide), fun z => absurd z (by decide), fun z => absurd z (by decide), fun z => absurd z (by decide), fun z => absurd z (by decide), fun _ => sp_pop A1 hl (fun w3 f3 A3 => ⟨fun z => ?_, fun z => ?_⟩), fun z => absurd z (by decide), fun z => absurd z (by decide), fun z => absurd z (by decide), fun z => absurd z (by decide), fun z => absurd z (by decide)⟩
  · exact h w3 (f1.tr f3) (by rw [if_neg z]; exact A3)
  · exact h _ ((f1.tr f3).tr (FrX.u (by decide))) (by rw [if_pos z]; exact A3.go rfl)
theorem w_loopD {lp : Nat} {tm : Int} (hd : 6 ≤ d) (hn : n < 999999) (hlp : lp < 16) (hcd : CdA w pc [(22, tm, (lp : Int), (h_ : Int))]) (hsz : (pc : Int) < w 19 4) (hpc : pc < 1024) (hA : At w pc st s dr) (h : ∀ w1, FrX w w1 → At (up w1 104 lp tm) (pc + 1) st s dr → WH g d K (n + 1) (up w1 104 lp tm)) : WH g d K n w := by
  refine w_flowC (by decide) hd hn hcd hsz hpc hA (fun w1 f1 A1 e21 e22 _ => ?_)
  obtain ⟨d2, rfl⟩ : ∃ d2, d = d2 + 2 := ⟨d - 2, by omega⟩
  show Cal g LC jWo_flow (d2 + 1) _ _ _
  refine Cal.ofV (by decide) rfl (Nat.le_of_ble_eq_true rfl) (s_Wo_flow ⟨ibd hpc, ?_⟩)
  rw [toN, e21, e22]
  refine ⟨fun z => absurd z (by decide), fun z => absurd z (by decide), fun z => absurd z (by decide), fun z => absurd z (by decide), fun z => absurd z (by decide), fun z => absurd z (by decide), fun z => absurd z (by decide), fun _ => ⟨ibd hpc, Cal.ofV (by decide) rfl (Nat.le_of_ble_eq_true rfl) (s_Wo_setRepeats ⟨fun z => absurd z (by omega), fun _ => ⟨fun z => absurd z (by omega), fun _ => ⟨by omega, ?_⟩⟩⟩)⟩, fun z => absurd z (by decide), fun z => absurd z (by decide), fun z => absurd z (by decide)⟩
  rw [toN]
  exact h w1 f1 (upM_at A1 (by decide) (by decide))
/-- again, or behind the loop -/
theorem w_repeat {lp m : Nat} (hd : 7 ≤ d) (hn : n < 999999) (hlp : lp < 16) (hm : m ≤ 1000) (h104 : w 104 lp = (m : Int)) (hcd : CdA w pc [(23, (to : Int), (lp : Int), (h_ : Int))]) (hsz : (pc : Int) < w 19 4) (hpc : pc < 1024) (hA : At w pc st s dr) (h0 : m = 0 → ∀ w1, FrX w w1 → At w1 to st s dr → WH g d K (n + 1) w1) (h1 : ∀ m', m = m' + 1 → ∀ s1, stq h_ s = .ok s1 → ∀ w1, FrX w w1 → At (up w1 104 lp (m' : Int)) (pc + 1) st s1 dr → WH g d K (n + 1) (up w1 104 lp (m' : Int))) (he : ∀ m', m = m' + 1 → ∀ e, stq h_ s = .error e → KF K w e) : WH g d K n w := by
  refine w_flowC (by decide) (by omega) hn hcd hsz hpc hA (fun w1 f1 A1 e21 e22 e23 => ?_)
  obtain ⟨d2, rfl⟩ : ∃ d2, d = d2 + 4 := ⟨d - 4, by omega⟩
  show Cal g LC jWo_flow (d2 + 2 + 1) _ _ _
  refine Cal.ofV (by decide) rfl (Nat.le_of_ble_eq_true rfl) (s_Wo_flow ⟨ibd hpc, ?_⟩)
  rw [toN, e21, e22]
  have b104 : w1 104 lp = (m : Int) := by rw [f1.1 104 (by decide)]; exact h104
  refine ⟨fun z => absurd z (by decide), fun z => absurd z (by decide), fun z => absurd z (by decide), fun z => absurd z (by decide), fun z => absurd z (by decide), fun z => absurd z (by decide), fun z => absurd z (by decide), fun z => absurd z (by decide), fun _ => ⟨ibd hpc, Cal.ofV (by decide) rfl (Nat.le_of_ble_eq_true rfl) (s_Wo_repeat ⟨fun z => absurd z (by omega), fun _ => ⟨fun z => absurd z (by omega), fun _ => ⟨by omega, ?_⟩⟩⟩)⟩, fun z => absurd z (by decide), fun z => absurd z (by decide)⟩
  rw [toN, b104]
  refine ⟨fun z => ?_, fun z => ?_⟩
  · obtain ⟨m', rfl⟩ : ∃ m', m = m' + 1 := ⟨m - 1, by omega⟩
    refine sp_count rfl hpc (by omega) A1 e23 (fun w2 s1 e1 f2 A2 => ⟨fun z => absurd z (by decide), fun _ => ⟨by omega, by omega, ?_⟩⟩) (fun w2 e e1 f2 q1 q2 q3 => ⟨fun _ => wh_stop q1 (he m' rfl e e1 w2 (f1.tr f2) q2 q3), fun z => absurd rfl z⟩)
    have c104 : w2 104 lp = ((m' + 1 : Nat) : Int) := by rw [f2.1 104 (by decide)]; exact b104
    rw [c104, show wr (((m' + 1 : Nat) : Int) - 1) = (m' : Int) from wrN (by omega) (by omega)]
    exact h1 m' rfl s1 e1 w2 (f1.tr f2) (upM_at A2 (by decide) (by decide))
  · exact h0 (by omega) _ (f1.tr (FrX.u (by decide))) (A1.go rfl)
/-- the first arc, if there is one -/
theorem w_first {v ag : Nat} {fa : Int} (hd : 7 ≤ d) (hn : n < 999999) (hv : v < 40) (hag : ag ≤ 1) (h9 : w 101 9 = (v : Int)) (hfa : (if ag = 0 then w 37 v else w 40 v) = fa) (hcd : CdA w pc [(24, (to : Int), (ag : Int), (h_ : Int))]) (hsz : (pc : Int) < w 19 4) (hpc : pc < 1024) (hA : At w pc st s dr) (h0 : fa < 0 → ∀ w1, FrY w w1 → w1 104 = w 104 → At w1 to st s dr → WH g d K (n + 1) w1) (h1 : 0 ≤ fa → ∀ s1, stq h_ s = .ok s1 → ∀ w1, FrY w w1 → w1 104 = w 104 → w1 101 12 = fa → w1 101 13 = (ag : Int) → At w1 (pc + 1) st s1 dr → WH g d K (n + 1) w1) (he : 0 ≤ fa → ∀ e, stq h_ s = .error e → ∀ w1, FrY w w1 → w1 101 16 = (e.1 : Int) → w1 101 17 = (e.2 : Int) → K (.inl none) w1) : WH g d K n w := by
  refine w_flowC (by decide) (by omega) hn hcd hsz hpc hA (fun w1 f1 A1 e21 e22 e23 => ?_)
  obtain ⟨d2, rfl⟩ : ∃ d2, d = d2 + 4 := ⟨d - 4, by omega⟩
  show Cal g LC jWo_flow (d2 + 2 + 1) _ _ _
  refine Cal.ofV (by decide) rfl (Nat.le_of_ble_eq_true rfl) (s_Wo_flow ⟨ibd hpc, ?_⟩)
  have b9 : w1 101 9 = (v : Int) := by rw [f1.2 9 (by decide) (by decide) (by decide) (by decide) (by decide) (by decide)]; exact h9
  rw [toN, e21, e22, b9]
  have e4 : w1 104 = w 104 := f1.1 104 (by decide)
  -- behind the look
  have go : ∀ wa : Wd, wa = up w1 101 13 (ag : Int) → (0 ≤ fa → Cal g LC jWo_countStep (d2 + 2) [vA 101, vI (pc : Int)] (up wa 101 12 fa) (fun o w11 => rI o (fun x12 => WH g (d2 + 4) K (n + 1) w11))) ∧ (¬ 0 ≤ fa → WH g (d2 + 4) K (n + 1) (up (up wa 101 12 fa) 101 11 (to : Int))) := by
    intro wa hwa
    subst hwa
    have A2 : At (up (up w1 101 13 (ag : Int)) 101 12 fa) (pc + 1) st s dr := (A1.u12 (Or.inr rfl)).u12 (Or.inl rfl)
    have fy : FrY w (up (up w1 101 13 (ag : Int)) 101 12 fa) := ((FrY.x f1).tr (FrY.u (by decide))).tr (FrY.u (by decide))
    have e4' : up (up w1 101 13 (ag : Int)) 101 12 fa 104 = w 104 := by rw [up_o (by decide), up_o (by decide)]; exact e4
    have e12 : up (up w1 101 13 (ag : Int)) 101 12 fa 101 12 = fa := up_s _ _ _ _
    have e13 : up (up w1 101 13 (ag : Int)) 101 12 fa 101 13 = (ag : Int) := by rw [up_k (by decide), up_s]
    have e23' : up (up w1 101 13 (ag : Int)) 101 12 fa 23 pc = (h_ : Int) := by rw [up_o (by decide), up_o (by decide)]; exact e23
    generalize up (up w1 101 13 (ag : Int)) 101 12 fa = wb at *
    refine ⟨fun z => sp_count rfl hpc (by omega) A2 e23' (fun w2 s1 e1 f2 B2 => ?_) (fun w2 e e1 f2 q1 q2 q3 => wh_stop q1 (he z e e1 w2 (fy.tr (FrY.x f2)) q2 q3)), fun z => ?_⟩
    · exact h1 z s1 e1 w2 (fy.tr (FrY.x f2)) (by rw [f2.1 104 (by decide)]; exact e4') (by rw [f2.2 12 (by decide) (by decide) (by decide) (by decide) (by decide) (by decide)]; exact e12) (by rw [f2.2 13 (by decide) (by decide) (by decide) (by decide) (by decide) (by decide)]; exact e13) B2
    · exact h0 (by omega) _ (fy.tr (FrY.u (by decide))) (by rw [up_o (by decide)]; exact e4') (A2.go rfl)
  refine ⟨fun z => absurd z (by decide), fun z => absurd z (by decide), fun z => absurd z (by decide), fun z => absurd z (by decide), fun z => absurd z (by decide), fun z => absurd z (by decide), fun z => absurd z (by decide), fun z => absurd z (by decide), fun z => absurd z (by decide), fun _ => ⟨ibd hpc, fun z => Cal.ofV (by decide) rfl (Nat.le_of_ble_eq_true rfl) (s_Gr_firstArc ⟨fun _ => ⟨ibd hv, ?_⟩, fun q => absurd rfl q⟩), fun z => Cal.ofV (by decide) rfl (Nat.le_of_ble_eq_true rfl) (s_Gr_firstArc ⟨fun q => absurd q (by decide), fun _ => ⟨ibd hv, ?_⟩⟩)⟩, fun z => absurd z (by decide)⟩
  · have ag0 : ag = 0 := by omega
    subst ag0
    rw [if_pos rfl] at hfa
    rw [toN, up_o (by decide), f1.cd 37 (by decide), hfa]
    exact go _ rfl
  · have ag1 : ag = 1 := by omega
    subst ag1
    rw [if_neg (by decide)] at hfa
    rw [toN, up_o (by decide), f1.cd 40 (by decide), hfa]
    exact go _ rfl
/-- the next arc, if there is one -/
theorem w_next {arc ag : Nat} {fa : Int} (hd : 7 ≤ d) (hn : n < 999999) (ha : arc < 120) (hag : ag ≤ 1) (h12 : w 101 12 = (arc : Int)) (h13 : w 101 13 = (ag : Int)) (hfa : (if ag = 0 then w 39 arc else w 42 arc) = fa) (hcd : CdA w pc [(25, (to : Int), 0, (h_ : Int))]) (hsz : (pc : Int) < w 19 4) (hpc : pc < 1024) (hA : At w pc st s dr) (h0 : fa < 0 → ∀ w1, FrY w w1 → w1 104 = w 104 → At w1 (pc + 1) st s dr → WH g d K (n + 1) w1) (h1 : 0 ≤ fa → ∀ s1, stq h_ s = .ok s1 → ∀ w1, FrY w w1 → w1 104 = w 104 → w1 101 12 = fa → w1 101 13 = (ag : Int) → At w1 to st s1 dr → WH g d K (n + 1) w1) (he : 0 ≤ fa → ∀ e, stq h_ s = .error e → ∀ w1, FrY w w1 → w1 101 16 = (e.1 : Int) → w1 101 17 = (e.2 : Int) → K (.inl none) w1) : WH g d K n w := by
  refine w_flowC (by decide) (by omega) hn hcd hsz hpc hA (fun w1 f1 A1 e21 e22 e23 => ?_)
  obtain ⟨d2, rfl⟩ : ∃ d2, d = d2 + 4 := ⟨d - 4, by omega⟩
  show Cal g LC jWo_flow (d2 + 2 + 1) _ _ _
  refine Cal.ofV (by decide) rfl (Nat.le_of_ble_eq_true rfl) (s_Wo_flow ⟨ibd hpc, ?_⟩)
  have b12 : w1 101 12 = (arc : Int) := by rw [f1.2 12 (by decide) (by decide) (by decide) (by decide) (by decide) (by decide)]; exact h12
  have b13 : w1 101 13 = (ag : Int) := by rw [f1.2 13 (by decide) (by decide) (by decide) (by decide) (by decide) (by decide)]; exact h13
  rw [toN, e21, b12, b13]
  have e4 : w1 104 = w 104 := f1.1 104 (by decide)
  have A2 : At (up w1 101 12 fa) (pc + 1) st s dr := A1.u12 (Or.inl rfl)
  have fy : FrY w (up w1 101 12 fa) := (FrY.x f1).tr (FrY.u (by decide))
  have e4' : up w1 101 12 fa 104 = w 104 := by rw [up_o (by decide)]; exact e4
  have e12 : up w1 101 12 fa 101 12 = fa := up_s _ _ _ _
  have e13 : up w1 101 12 fa 101 13 = (ag : Int) := by rw [up_k (by decide)]; exact b13
  have e23' : up w1 101 12 fa 23 pc = (h_ : Int) := by rw [up_o (by decide)]; exact e23
  have go : (fa < 0 → WH g (d2 + 4) K (n + 1) (up w1 101 12 fa)) ∧ (¬ fa < 0 → Cal g LC jWo_countStep (d2 + 2) [vA 101, vI (pc : Int)] (up w1 101 12 fa) (fun o w19 => rI o (fun x20 => (x20 = 0 → WH g (d2 + 4) K (n + 1) w19) ∧ (¬ x20 = 0 → WH g (d2 + 4) K (n + 1) (up w19 101 11 (to : Int)))))) := by
    generalize up w1 101 12 fa = wb at *
    refine ⟨fun z => h0 z wb fy e4' A2, fun z => sp_count rfl hpc (by omega) A2 e23' (fun w2 s1 e1 f2 B2 => ⟨fun q => absurd q (by decide), fun _ => ?_⟩) (fun w2 e e1 f2 q1 q2 q3 => ⟨fun _ => wh_stop q1 (he (by omega) e e1 w2 (fy.tr (FrY.x f2)) q2 q3), fun q => absurd rfl q⟩)⟩
    exact h1 (by omega) s1 e1 _ ((fy.tr (FrY.x f2)).tr (FrY.u (by decide))) (by rw [up_o (by decide), f2.1 104 (by decide)]; exact e4') (by rw [up_k (by decide), f2.2 12 (by decide) (by decide) (by decide) (by decide) (by decide) (by decide)]; exact e12) (by rw [up_k (by decide), f2.2 13 (by decide) (by decide) (by decide) (by decide) (by decide) (by decide)]; exact e13) (B2.go rfl)
  refine ⟨fun z => absurd z (by decide), fun z => absurd z (by decide), fun z => absurd z (by decide), fun z => absurd z (by decide), fun z => absurd z (by decide), fun z => absurd z (by decide), fun z => absurd z (by decide), fun z => absurd z (by decide), fun z => absurd z (by decide), fun z => absurd z (by decide), fun _ => Cal.ofV (by decide) rfl (Nat.le_of_ble_eq_true rfl) (s_Gr_nextArc ⟨fun q => ⟨ibd ha, ?_⟩, fun q => ⟨ibd ha, ?_⟩⟩)⟩
  · rw [if_pos (by omega)] at hfa
    rw [toN, f1.cd 39 (by decide), hfa]
    exact go
  · rw [if_neg (by omega)] at hfa
    rw [toN, f1.cd 42 (by decide), hfa]
    exact go
end WFlow
