/-! ===== the class's worker: stack, STEPS ===== -/
def FrX (w w' : Wd) : Prop := Fx [101, 102] w w' ∧ ∀ b, b ≠ 10 → b ≠ 11 → b ≠ 14 → b ≠ 15 → b ≠ 16 → b ≠ 17 → w' 101 b = w 101 b
theorem FrX.rf (w : Wd) : FrX w w := ⟨Fx.rf _ w, fun _ _ _ _ _ _ _ => rfl⟩
theorem FrX.tr {a b c : Wd} (h1 : FrX a b) (h2 : FrX b c) : FrX a c := ⟨h1.1.tr h2.1, fun x p1 p2 p3 p4 p5 p6 => (h2.2 x p1 p2 p3 p4 p5 p6).trans (h1.2 x p1 p2 p3 p4 p5 p6)⟩
theorem FrX.u {w : Wd} {b : Nat} {v : Int} (h : b = 10 ∨ b = 11 ∨ b = 14 ∨ b = 15 ∨ b = 16 ∨ b = 17) : FrX w (up w 101 b v) := ⟨(Fx.rf _ w).up (by decide), fun x _ _ _ _ _ _ => up_k (by omega)⟩
theorem FrX.s {w : Wd} {k : Nat} {v : Int} : FrX w (up w 102 k v) := ⟨(Fx.rf _ w).up (by decide), fun x _ _ _ _ _ _ => by rw [up_o (by decide)]⟩
/-- the stack -/
def Sk (w : Wd) (st : List Int) : Prop := w 101 10 = (st.length : Int) ∧ ∀ i v, st[i]? = some v → w 102 (st.length - 1 - i) = v
/-- where the worker is: deed, stack, STEPS, draws; nothing has failed -/
def At (w : Wd) (pc : Nat) (st : List Int) (s d : Nat) : Prop := w 101 11 = (pc : Int) ∧ Sk w st ∧ w 101 15 = (s : Int) ∧ w 101 14 = (d : Int) ∧ w 101 16 = 0
/-- deeds at pc -/
def CdA (w : Wd) (pc : Nat) (l : List Hd) : Prop := ∀ i e, l[i]? = some e → w 20 (pc + i) = e.1 ∧ w 21 (pc + i) = e.2.1 ∧ w 22 (pc + i) = e.2.2.1 ∧ w 23 (pc + i) = e.2.2.2
theorem CdA.app {w : Wd} {pc : Nat} {l l' : List Hd} (h : CdA w pc (l ++ l')) : CdA w pc l ∧ CdA w (pc + l.length) l' := by
  refine ⟨fun i e he => h i e ?_, fun i e he => ?_⟩
  · rw [List.getElem?_append_left (List.getElem?_eq_some_iff.mp he).1]; exact he
  · have := h (l.length + i) e (by rw [List.getElem?_append_right (by omega), Nat.add_sub_cancel_left]; exact he)
    rw [← Nat.add_assoc] at this
    exact this
theorem CdA.cons {w : Wd} {pc : Nat} {e : Hd} {l : List Hd} (h : CdA w pc (e :: l)) : (w 20 pc = e.1 ∧ w 21 pc = e.2.1 ∧ w 22 pc = e.2.2.1 ∧ w 23 pc = e.2.2.2) ∧ CdA w (pc + 1) l := by
  refine ⟨h 0 e rfl, fun i x hx => ?_⟩
  have := h (i + 1) x hx
  rw [show pc + (i + 1) = pc + 1 + i by omega] at this
  exact this
theorem CdA.fx {w w' : Wd} {pc : Nat} {l : List Hd} (h : CdA w pc l) (h1 : ∀ o, 20 ≤ o → o ≤ 23 → w' o = w o) : CdA w' pc l := by
  intro i e he
  rw [h1 20 (by decide) (by decide), h1 21 (by decide) (by decide), h1 22 (by decide) (by decide), h1 23 (by decide) (by decide)]
  exact h i e he
section WStep
variable {g : Mg} {d D n : Nat} {K : Ou → Wd → Prop} {w : Wd} {pc s dr : Nat} {st : List Int}
theorem Sk.pop {v : Int} (h : Sk w (v :: st)) : Sk (up w 101 10 (st.length : Int)) st := by
  refine ⟨up_s _ _ _ _, fun i x hx => ?_⟩
  have hi := (List.getElem?_eq_some_iff.mp hx).1
  have := h.2 (i + 1) x hx
  rw [List.length_cons, show st.length + 1 - 1 - (i + 1) = st.length - 1 - i by omega] at this
  rw [up_o (by decide)]; exact this
theorem Sk.push {v : Int} (h : Sk w st) : Sk (up (up w 102 st.length v) 101 10 ((st.length + 1 : Nat) : Int)) (v :: st) := by
  refine ⟨by rw [up_s]; rfl, fun i x hx => ?_⟩
  rw [up_o (by decide)]
  cases i with
  | zero =>
    cases hx
    rw [List.length_cons, Nat.add_sub_cancel, Nat.sub_zero, up_s]
  | succ i =>
    have hx' : st[i]? = some x := hx
    have hi := (List.getElem?_eq_some_iff.mp hx').1
    rw [List.length_cons, show st.length + 1 - 1 - (i + 1) = st.length - 1 - i by omega, up_k (by omega)]
    exact h.2 i x hx'
theorem Sk.same {w' : Wd} (h : Sk w st) (h1 : w' 101 10 = w 101 10) (h2 : w' 102 = w 102) : Sk w' st := by
  unfold Sk at *
  rw [h1, h2]; exact h
theorem sp_push {v : Int} (hA : At w pc st s dr) (hl : st.length < 64) (h : ∀ w', FrX w w' → At w' pc (v :: st) s dr → K (.inl none) w') : Cal g LC jWo_push D [vA 101, vI v] w K := by
  obtain ⟨a1, a2, a3, a4, a5⟩ := hA
  refine Cal.ofV (by decide) rfl (Nat.le_of_ble_eq_true rfl) (s_Wo_push ?_)
  rw [a2.1, toN, wr_n1 (by omega)]
  exact ⟨fun z => absurd z (by omega), fun _ => ⟨by omega, h _ (FrX.s.tr (FrX.u (by decide))) ⟨by rw [up_k (by decide), up_o (by decide)]; exact a1, a2.push, by rw [up_k (by decide), up_o (by decide)]; exact a3, by rw [up_k (by decide), up_o (by decide)]; exact a4, by rw [up_k (by decide), up_o (by decide)]; exact a5⟩⟩⟩
theorem sp_pop {v : Int} (hA : At w pc (v :: st) s dr) (hl : st.length < 64) (h : ∀ w', FrX w w' → At w' pc st s dr → K (.inl (some (vI v))) w') : Cal g LC jWo_pop D [vA 101] w K := by
  obtain ⟨a1, a2, a3, a4, a5⟩ := hA
  have h0 := a2.2 0 v rfl
  rw [List.length_cons, Nat.add_sub_cancel, Nat.sub_zero] at h0
  have hlen : w 101 10 = ((st.length + 1 : Nat) : Int) := a2.1
  refine Cal.ofV (by decide) rfl (Nat.le_of_ble_eq_true rfl) (s_Wo_pop ?_)
  rw [hlen, show wr (((st.length + 1 : Nat) : Int) - 1) = (st.length : Int) from wrN (by omega) (by omega), toN, h0]
  exact ⟨fun _ => ⟨by omega, h _ (FrX.u (by decide)) ⟨by rw [up_k (by decide)]; exact a1, a2.pop, by rw [up_k (by decide)]; exact a3, by rw [up_k (by decide)]; exact a4, by rw [up_k (by decide)]; exact a5⟩⟩, fun z => absurd (by omega) z⟩
/-- countStep: on, or the failure -/
theorem sp_count {h_ : Nat} {p : Int} (hp : p = (pc : Int)) (hpc : pc < 1024) (hD : 1 ≤ D) (hA : At w n st s dr) (h23 : w 23 pc = (h_ : Int)) (h : ∀ w' s1, stq h_ s = .ok s1 → FrX w w' → At w' n st s1 dr → K (.inl (some (vI 1))) w') (he : ∀ w' e, stq h_ s = .error e → FrX w w' → w' 101 11 = -1 → w' 101 16 = (e.1 : Int) → w' 101 17 = (e.2 : Int) → K (.inl (some (vI 0))) w') : Cal g LC jWo_countStep D [vA 101, vI p] w K := by
  subst hp
  obtain ⟨d, rfl⟩ : ∃ d, D = d + 1 := ⟨D - 1, by omega⟩
  obtain ⟨a1, a2, a3, a4, a5⟩ := hA
  refine Cal.ofV (by decide) rfl (Nat.le_of_ble_eq_true rfl) (s_Wo_countStep ?_)
  rw [a3]
  refine ⟨fun z => ?_, fun z => ⟨by omega, Cal.ofV (by decide) rfl (Nat.le_of_ble_eq_true rfl) (s_Wo_fail ?_)⟩⟩
  · rw [wr_n1 (by omega)]
    exact h _ (s + 1) (by unfold stq; rw [if_neg (by omega)]) (FrX.u (by decide)) ⟨by rw [up_k (by decide)]; exact a1, a2.same (up_k (by decide)) (up_o (by decide)), up_s _ _ _ _, by rw [up_k (by decide)]; exact a4, by rw [up_k (by decide)]; exact a5⟩
  · rw [toN, h23]
    exact he _ (3, h_) (by unfold stq; rw [if_pos (by omega)]) (((FrX.u (by decide)).tr (FrX.u (by decide))).tr (FrX.u (by decide))) (up_s _ _ _ _) (by rw [up_k (by decide), up_k (by decide), up_s]; rfl) (by rw [up_k (by decide), up_s])
/-- fail -/
theorem sp_wfail {f : Nat} {p : Int} (h : ∀ w', FrX w w' → w' 101 11 = -1 → w' 101 16 = (f : Int) → w' 101 17 = p → K (.inl none) w') : Cal g LC jWo_fail D [vA 101, vI (f : Int), vI p] w K :=
  Cal.ofV (by decide) rfl (Nat.le_of_ble_eq_true rfl) (s_Wo_fail (h _ (((FrX.u (by decide)).tr (FrX.u (by decide))).tr (FrX.u (by decide))) (up_s _ _ _ _) (by rw [up_k (by decide), up_k (by decide), up_s]) (by rw [up_k (by decide), up_s])))
/-- the head of the loop -/
abbrev WH (g : Mg) (d : Nat) (K : Ou → Wd → Prop) (n : Nat) (w : Wd) : Prop := V g LC jWo_work (d + 1) K 58 [(0, vA 101), (2, vI (n : Int))] [] w
theorem wh_stop (h11 : w 101 11 = -1) (h : K (.inl none) w) : WH g d K n w := s_Wo_work_58 ⟨fun _ => h, fun _ => ⟨fun _ => h, fun z => absurd (by rw [h11]; decide) z⟩⟩
/-- one deed -/
theorem wh_one {dd : Int} (hn : n < 999999) (hA : At w pc st s dr) (hsz : (pc : Int) < w 19 4) (hpc : pc < 1024) (h20 : w 20 pc = dd) (h : ∀ w1, FrX w w1 → At w1 (pc + 1) st s dr → Cal g LC jWo_perform d [vA 101, vI (pc : Int), vI dd] w1 (fun o w2 => rV o (WH g d K (n + 1) w2))) : WH g d K n w := by
  obtain ⟨a1, a2, a3, a4, a5⟩ := hA
  refine s_Wo_work_58 ⟨fun z => absurd z (by omega), fun _ => ⟨fun z => absurd z (by rw [a1]; omega), fun _ => ⟨fun z => absurd z (by rw [a1]; omega), fun _ => ?_⟩⟩⟩
  rw [a1, toN, h20, wr_n1 (by omega), wr_n1 (by omega)]
  exact ⟨by omega, h _ (FrX.u (by decide)) ⟨up_s _ _ _ _, a2.same (up_k (by decide)) (up_o (by decide)), by rw [up_k (by decide)]; exact a3, by rw [up_k (by decide)]; exact a4, by rw [up_k (by decide)]; exact a5⟩⟩
/-- what becomes of a deed that counts a STEP -/
theorem wp_step {h_ : Nat} {dd : Int} (hD : 2 ≤ D) (hdd : dd ≤ 19) (hpc : pc < 1024) (hA : At w (pc + 1) st s dr) (h23 : w 23 pc = (h_ : Int)) (h : ∀ w' s1, stq h_ s = .ok s1 → FrX w w' → At w' (pc + 1) st s1 dr → (11 < dd → ((15 < dd → ((25 < dd → ((0 ≤ (pc : Int) ∧ (pc : Int) < 1024) ∧ (Cal g LC jWo_act (D - 1) [vA 101, vI dd, vI (w' 21 pc)] w' (fun o w9 => rV o (K (.inl none) w9))))) ∧ (¬ 25 < dd → (Cal g LC jWo_flow (D - 1) [vA 101, vI (pc : Int), vI dd] w' (fun o w10 => rV o (K (.inl none) w10)))))) ∧ (¬ 15 < dd → (Cal g LC jWo_operate (D - 1) [vA 101, vI (pc : Int), vI dd] w' (fun o w11 => rV o (K (.inl none) w11)))))) ∧ (¬ 11 < dd → ((0 ≤ (pc : Int) ∧ (pc : Int) < 1024) ∧ (Cal g LC jWo_operand (D - 1) [vA 101, vI dd, vI (w' 21 pc)] w' (fun o w12 => rI o (fun x13 => Cal g LC jWo_push (D - 1) [vA 101, vI x13] w12 (fun o w14 => rV o (K (.inl none) w14)))))))) (he : ∀ w' e, stq h_ s = .error e → FrX w w' → w' 101 11 = -1 → w' 101 16 = (e.1 : Int) → w' 101 17 = (e.2 : Int) → K (.inl none) w') : Cal g LC jWo_perform D [vA 101, vI (pc : Int), vI dd] w K := by
  obtain ⟨d, rfl⟩ : ∃ d, D = d + 1 := ⟨D - 1, by omega⟩
  rw [Nat.add_sub_cancel] at h
  refine Cal.ofV (by decide) rfl (Nat.le_of_ble_eq_true rfl) (s_Wo_perform ⟨fun z => absurd z (by omega), fun _ => ?_⟩)
  refine sp_count rfl hpc (by omega) hA h23 (fun w' s1 e1 f1 A1 => ?_) (fun w' e e1 f1 q1 q2 q3 => ⟨fun z => absurd rfl z, fun _ => he w' e e1 f1 q1 q2 q3⟩)
  have hh := h w' s1 e1 f1 A1
  rw [toN]
  exact ⟨fun _ => hh, fun z => absurd z (by decide)⟩
end WStep
