/-! ===== arc in both ===== -/
section Arc2
variable {g gm : Mg} {d n na : Nat} {K : Ou → Wd → Prop} {w wc wc' wm wm' : Wd} {p p1 p2 p3 : Int}
/-- the class's graph with one arc more -/
def AdC (na a b : Nat) (w w' : Wd) : Prop := Fx [31, 32, 33, 35, 36, 37, 38, 39, 40, 41, 42] w w' ∧ w' 31 0 = w 31 0 ∧ w' 31 1 = ((na + 1 : Nat) : Int) ∧ w' 32 = upf (w 32) na (a : Int) ∧ w' 33 = upf (w 33) na (b : Int) ∧ w' 35 = upf (w 35) a (w 35 a + 1) ∧ w' 36 = upf (w 36) b (w 36 b + 1) ∧ HgI (w' 32) (na + 1) (w' 37) (w' 38) (w' 39) ∧ HgI (w' 33) (na + 1) (w' 40) (w' 41) (w' 42)
theorem sp_add {a b : Nat} (hd : 1 ≤ d) (hG : GrK w n na) (hna : na < 120) (ha : a < n) (hb : b < n) (h : ∀ w', AdC na a b w w' → K (.inl (some (vI (na : Int)))) w') : Cal g LC jGr_add d [vA 31, vI (a : Int), vI (b : Int)] w K := by
  obtain ⟨d, rfl⟩ : ∃ d', d = d' + 1 := ⟨d - 1, by omega⟩
  obtain ⟨hg1, hg2⟩ := hG.hg
  obtain ⟨g1, g2, g3, g4, g5, g6, g7, -⟩ := hG
  have ha40 : a < 40 := Nat.lt_of_lt_of_le ha g4
  have hb40 : b < 40 := Nat.lt_of_lt_of_le hb g4
  have l35 : w 35 a ≤ 120 ∧ 0 ≤ w 35 a := by
    rw [(g7 a ha40).1]
    have : ∀ (m i : Nat), (fltA (w 32) (a : Int) m i).length ≤ m := by
      intro m
      induction m with
      | zero => intro i; exact Nat.le_refl _
      | succ m ih => intro i; rw [fltA_s]; have := ih i; split <;> omega
    have := this na 0
    omega
  have l36 : w 36 b ≤ 120 ∧ 0 ≤ w 36 b := by
    rw [(g7 b hb40).2]
    have : ∀ (m i : Nat), (fltA (w 33) (b : Int) m i).length ≤ m := by
      intro m
      induction m with
      | zero => intro i; exact Nat.le_refl _
      | succ m ih => intro i; rw [fltA_s]; have := ih i; split <;> omega
    have := this na 0
    omega
  refine Cal.ofV (by decide) rfl (Nat.le_of_ble_eq_true rfl) (s_Gr_add ?_)
  rw [g2, toN na]
  refine ⟨by omega, by omega, ?_⟩
  obtain ⟨w0, hw0⟩ : ∃ w0, w0 = up (up w 32 na (a : Int)) 33 na (b : Int) := ⟨_, rfl⟩
  rw [← hw0]
  have e32 : w0 32 = upf (w 32) na (a : Int) := by rw [hw0, up_o (by decide), up_fn]
  have e33 : w0 33 = upf (w 33) na (b : Int) := by rw [hw0, up_fn, up_o (by decide)]
  have eo : ∀ o, o ≠ 32 → o ≠ 33 → w0 o = w o := fun o h1 h2 => by rw [hw0, up_o h2, up_o h1]
  clear hw0
  refine sp_hang (o3 := 37) (o4 := 38) (o5 := 39) (f := w 32) (f' := upf (w 32) na (a : Int)) ⟨by decide, rfl⟩ aC_37 ⟨by decide, rfl⟩ aC_38 ⟨by decide, rfl⟩ aC_39 (by decide) (by decide) (by decide) hna ha40 (by rw [eo 37 (by decide) (by decide), eo 38 (by decide) (by decide), eo 39 (by decide) (by decide)]; exact hg1) (fun x hx => by unfold upf; rw [if_neg (by omega)]) (by unfold upf; rw [if_pos rfl]) (fun w1 f1 h1 => ?_)
  refine sp_hang (o3 := 40) (o4 := 41) (o5 := 42) (f := w 33) (f' := upf (w 33) na (b : Int)) ⟨by decide, rfl⟩ aC_40 ⟨by decide, rfl⟩ aC_41 ⟨by decide, rfl⟩ aC_42 (by decide) (by decide) (by decide) hna hb40 (by rw [f1 40 (by decide), f1 41 (by decide), f1 42 (by decide), eo 40 (by decide) (by decide), eo 41 (by decide) (by decide), eo 42 (by decide) (by decide)]; exact hg2) (fun x hx => by unfold upf; rw [if_neg (by omega)]) (by unfold upf; rw [if_pos rfl]) (fun w2 f2 h2 => ?_)
  have q : ∀ o, o ≠ 32 → o ≠ 33 → o ≠ 37 → o ≠ 38 → o ≠ 39 → o ≠ 40 → o ≠ 41 → o ≠ 42 → w2 o = w o := fun o h1 h2 h3 h4 h5 h6 h7 h8 => by rw [f2 o (by simp; omega), f1 o (by simp; omega), eo o h1 h2]
  have q32 : w2 32 = upf (w 32) na (a : Int) := by rw [f2 32 (by decide), f1 32 (by decide), e32]
  have q33 : w2 33 = upf (w 33) na (b : Int) := by rw [f2 33 (by decide), f1 33 (by decide), e33]
  have q35 : w2 35 = w 35 := q 35 (by decide) (by decide) (by decide) (by decide) (by decide) (by decide) (by decide) (by decide)
  have q36 : w2 36 = w 36 := q 36 (by decide) (by decide) (by decide) (by decide) (by decide) (by decide) (by decide) (by decide)
  have q31 : w2 31 = w 31 := q 31 (by decide) (by decide) (by decide) (by decide) (by decide) (by decide) (by decide) (by decide)
  show _ ∧ _
  rw [toN a, toN b, q35, q36, q31, g2, wr_n1 (by omega), wr_id (x := w 35 a + 1) (by unfold inI; omega), wr_id (x := w 36 b + 1) (by unfold inI; omega)]
  refine ⟨by omega, by omega, by omega, by omega, h _ ⟨fun o ho => ?_, ?_, ?_, ?_, ?_, ?_, ?_, ?_, ?_⟩⟩
  · rw [up_o (fun z => ho (by simp [z])), up_o (fun z => ho (by simp [z])), up_o (fun z => ho (by simp [z]))]
    exact q o (fun z => ho (by simp [z])) (fun z => ho (by simp [z])) (fun z => ho (by simp [z])) (fun z => ho (by simp [z])) (fun z => ho (by simp [z])) (fun z => ho (by simp [z])) (fun z => ho (by simp [z])) (fun z => ho (by simp [z]))
  · rw [up_k (by decide), up_o (by decide), up_o (by decide), q31]
  · rw [up_s]
  · rw [up_o (by decide), up_o (by decide), up_o (by decide), q32]
  · rw [up_o (by decide), up_o (by decide), up_o (by decide), q33]
  · rw [up_o (by decide), up_o (by decide), up_fn, q35]
  · rw [up_o (by decide), up_fn, up_o (by decide), q36]
  · rw [up_o (by decide), up_o (by decide), up_o (by decide), up_o (by decide), up_o (by decide), up_o (by decide), up_o (by decide), up_o (by decide), up_o (by decide), up_o (by decide), up_o (by decide), up_o (by decide), q32, f2 37 (by decide), f2 38 (by decide), f2 39 (by decide)]
    exact h1
  · rw [up_o (by decide), up_o (by decide), up_o (by decide), up_o (by decide), up_o (by decide), up_o (by decide), up_o (by decide), up_o (by decide), up_o (by decide), up_o (by decide), up_o (by decide), up_o (by decide), q33]
    exact h2
theorem GrK.add {a b : Nat} (h : GrK w n na) (hna : na < 120) (ha : a < n) (hb : b < n) (hA : AdC na a b w wc') : GrK wc' n (na + 1) := by
  obtain ⟨g1, g2, g3, g4, g5, g6, g7, -⟩ := h
  obtain ⟨f1, f2, f3, f4, f5, f6, f7, ⟨i1, i2, i3⟩, j1, j2, j3⟩ := hA
  have c32 : ∀ x, x < na → wc' 32 x = w 32 x := fun x hx => by rw [f4]; unfold upf; rw [if_neg (by omega)]
  have c33 : ∀ x, x < na → wc' 33 x = w 33 x := fun x hx => by rw [f5]; unfold upf; rw [if_neg (by omega)]
  have e32 : wc' 32 na = (a : Int) := by rw [f4]; unfold upf; rw [if_pos rfl]
  have e33 : wc' 33 na = (b : Int) := by rw [f5]; unfold upf; rw [if_pos rfl]
  refine ⟨by rw [f2]; exact g1, f3, g3, g4, by omega, fun i hi => ?_, fun v hv => ⟨?_, ?_⟩, fun v hv => ⟨i1 v hv, j1 v hv⟩, fun i hi => ⟨i3 i hi, j3 i hi⟩, fun v hv => ⟨i2 v hv, j2 v hv⟩⟩
  · by_cases z : i = na
    · subst z; rw [e32, e33]; omega
    · rw [c32 i (by omega), c33 i (by omega)]; exact g6 i (by omega)
  · rw [fltA_s, Nat.zero_add, e32, fltA_cg na 0 (fun x _ hx => c32 x (by omega)), f6]
    unfold upf
    by_cases z : v = a
    · subst z; rw [if_pos rfl, if_pos rfl, (g7 v hv).1]; omega
    · rw [if_neg z, if_neg (by omega), (g7 v hv).1]; rfl
  · rw [fltA_s, Nat.zero_add, e33, fltA_cg na 0 (fun x _ hx => c33 x (by omega)), f7]
    unfold upf
    by_cases z : v = b
    · subst z; rw [if_pos rfl, if_pos rfl, (g7 v hv).2]; omega
    · rw [if_neg z, if_neg (by omega), (g7 v hv).2]; rfl
theorem b_arc (hp1 : inI p1) (hp2 : inI p2) (hd : 4 ≤ d) (hI : Inv wc wm) (h : ∀ x wc', Bo jMd_arc [vA 0, vI p1, vI p2] wm wc' x → K (.inl (some (vI x))) wc') : Cal g LC jVL_arc d [vA 0, vI p1, vI p2] wc K := by
  obtain ⟨d, rfl⟩ : ∃ d', d = d' + 1 := ⟨d - 1, by omega⟩
  obtain ⟨-, n, na, hGr, -⟩ := id hI
  obtain ⟨⟨g1, g2, g3, g4, g5, -⟩, q2, q3, q4, q5⟩ := id hGr
  have e59 : wr (wm 0 59 - 1) = wr ((n : Int) - 1) := by rw [q2]
  have e59' : wr (up wm 0 0 0 0 59 - 1) = wr ((n : Int) - 1) := by rw [up_k (by decide), q2]
  have bad : ¬ ((0 ≤ p1 ∧ p1 < (n : Int)) ∧ (0 ≤ p2 ∧ p2 < (n : Int))) → K (.inl (some (vI (-1)))) wc := fun z => h _ _ (Bo.same hI (fun gm dM Kx hdM hK => by
    obtain ⟨dM, rfl⟩ : ∃ d', dM = d' + 1 := ⟨dM - 1, by omega⟩
    exact Cal.ofV (by decide) rfl (Nat.le_of_ble_eq_true rfl) (s_Md_arc (sp_in0 hp1 (by omega) e59 (fun a => ⟨fun y => absurd y (by decide), fun _ => sp_in0 hp2 (by omega) e59' (fun b => absurd ⟨a, b⟩ z) (fun b => ⟨fun y => absurd rfl y, fun _ => hK⟩)⟩) (fun a => ⟨fun _ => hK, fun y => absurd rfl y⟩)))))
  have hn : ∀ (p : Int) (K' : Ou → Wd → Prop), ((0 ≤ p ∧ p < (n : Int)) → K' (.inl (some (vI 1))) wc) → (¬ (0 ≤ p ∧ p < (n : Int)) → K' (.inl (some (vI 0))) wc) → Cal g LC jGr_hasNode d [vA 31, vI p] wc K' := fun p K' h1 h0 => Cal.ofV (by decide) rfl (Nat.le_of_ble_eq_true rfl) (s_Gr_hasNode ⟨fun z => h0 (by omega), fun z => ⟨fun y => h0 (by rw [g1] at y; omega), fun y => h1 (by rw [g1] at y; omega)⟩⟩)
  refine Cal.ofV (by decide) rfl (Nat.le_of_ble_eq_true rfl) (s_VL_arc (hn p1 _ (fun z1 => ⟨fun y => absurd y (by decide), fun _ => hn p2 _ (fun z2 => ⟨fun _ => ⟨fun z3 => ?_, fun z3 => ?_⟩, fun y => absurd y (by decide)⟩) (fun z2 => ⟨fun y => absurd rfl y, fun _ => bad (fun q => z2 q.2)⟩)⟩) (fun z1 => ⟨fun _ => bad (fun q => z1 q.1), fun y => absurd rfl y⟩)))
  · rw [g2] at z3
    have hna : na < 120 := by omega
    obtain ⟨a, ha, rfl⟩ := nat_of z1
    obtain ⟨b, hb, rfl⟩ := nat_of z2
    have hG0 : GrK (up wc 43 11 0) n na := hGr.1.fr (fun o p q => up_o (by omega))
    refine sp_add (by omega) hG0 hna ha hb (fun w2 hA => h _ w2 (fun gm dM Kx hdM hK => ?_))
    have hGK := hG0.add hna ha hb hA
    obtain ⟨f1, f2, f3, f4, f5, -⟩ := hA
    obtain ⟨dM, rfl⟩ : ∃ d', dM = d' + 1 := ⟨dM - 1, by omega⟩
    refine Cal.ofV (by decide) rfl (Nat.le_of_ble_eq_true rfl) (s_Md_arc (sp_in0 hp1 (by omega) e59 (fun _ => ⟨fun y => absurd y (by decide), fun _ => sp_in0 hp2 (by omega) e59' (fun _ => ⟨fun _ => ⟨fun z => ?_, fun z => absurd z (by rw [up_k (by decide), q3]; omega)⟩, fun y => absurd y (by decide)⟩) (fun y => absurd z2 y)⟩) (fun y => absurd z1 y)))
    have e60 : up wm 0 0 0 0 60 = (na : Int) := by rw [up_k (by decide)]; exact q3
    rw [e60, toN na]
    refine ⟨by omega, by omega, ?_⟩
    obtain ⟨w3, hw3⟩ : ∃ w3, w3 = up (up (up wm 0 0 0) 38 na (a : Int)) 39 na (b : Int) := ⟨_, rfl⟩
    rw [← hw3]
    have m38 : w3 38 = upf (wm 38) na (a : Int) := by rw [hw3, up_o (by decide), up_fn, up_o (by decide)]
    have m39 : w3 39 = upf (wm 39) na (b : Int) := by rw [hw3, up_fn, up_o (by decide), up_o (by decide)]
    have mo : ∀ o, o ≠ 0 → o ≠ 38 → o ≠ 39 → w3 o = wm o := fun o h0 h1 h2 => by rw [hw3, up_o h2, up_o h1, up_o h0]
    have m0 : ∀ b, b ≠ 0 → w3 0 b = wm 0 b := fun b h0 => by rw [hw3, up_o (by decide), up_o (by decide), up_k h0]
    clear hw3
    have lp : ∀ (f k : Nat) (w' : Wd), k + f = 4 → Fx [40] w3 w' → (∀ x, x < 4 * na → w' 40 x = wm 40 x) → (∀ c, c < k → w' 40 (4 * na + c) = 0) → V gm LM jMd_arc (dM + 1) Kx 73 [(0, vA 0), (3, vI (k : Int))] [] w' := by
      intro f
      induction f with
      | zero =>
        intro k w' hk f0 a1 a2
        have : k = 4 := by omega
        subst this
        have e60' : w' 0 60 = (na : Int) := by rw [f0 0 (by decide), m0 60 (by decide)]; exact q3
        refine s_Md_arc_73 ⟨fun _ => ?_, fun z => absurd (by decide) z⟩
        rw [e60', wr_n1 (by omega), show wr (((na + 1 : Nat) : Int) - 1) = (na : Int) by rw [wr_id (by unfold inI; omega)]; omega]
        have k0 : ∀ b, b ≠ 0 → b ≠ 60 → b ≠ 64 → up (up w' 0 60 ((na + 1 : Nat) : Int)) 0 64 0 0 b = wm 0 b := fun b h0 h1 h2 => by rw [up_k h2, up_k h1, f0 0 (by decide), m0 b h0]
        have ko : ∀ o, o ≠ 0 → o ≠ 40 → up (up w' 0 60 ((na + 1 : Nat) : Int)) 0 64 0 o = w3 o := fun o h0 h1 => by rw [up_o h0, up_o h0, f0 o (by simp [h1])]
        have k40 : up (up w' 0 60 ((na + 1 : Nat) : Int)) 0 64 0 40 = w' 40 := by rw [up_o (by decide), up_o (by decide)]
        have w34 : w2 34 = wc 34 := by rw [f1 34 (by decide), up_o (by decide)]
        refine hK _ (inv_graph (n := n) (na := na + 1) hI (fun o ho => by rw [f1 o (by simp; omega), up_o (by omega)]) (fun o h1 h2 => by rw [ko o h1 (by omega), mo o h1 (by omega) (by omega)]) (fun b h1 h2 => k0 b h1 (by omega) (by omega)) (by rw [f1 43 (by decide), up_s]) (up_s _ _ _ _) ⟨hGK, by rw [k0 59 (by decide) (by decide) (by decide)]; exact q2, by rw [up_k (by decide), up_s], fun i hi => ?_, fun x h1 h2 => by rw [w34]; exact q5 x (by omega) h2⟩)
        rw [ko 38 (by decide) (by decide), ko 39 (by decide) (by decide), k40, m38, m39, f4, f5, w34, up_o (w := wc) (a := 32) (by decide), up_o (w := wc) (a := 33) (by decide)]
        unfold upf
        by_cases z : i = na
        · subst z
          rw [if_pos rfl, if_pos rfl, if_pos rfl, if_pos rfl]
          exact ⟨rfl, rfl, fun c hc => by rw [a2 c hc, q5 _ (by omega) (by omega)]⟩
        · rw [if_neg z, if_neg z, if_neg z, if_neg z]
          obtain ⟨y1, y2, y3⟩ := q4 i (by omega)
          exact ⟨y1, y2, fun c hc => by rw [a1 _ (by omega)]; exact y3 c hc⟩
      | succ f ih =>
        intro k w' hk f0 a1 a2
        have e60' : w' 0 60 = (na : Int) := by rw [f0 0 (by decide), m0 60 (by decide)]; exact q3
        have hk4 : k < 4 := by omega
        refine s_Md_arc_73 ⟨fun z => absurd z (by omega), fun _ => ?_⟩
        rw [e60', ix4v hna hk4, toN, wr_n1 (by omega)]
        refine ⟨wt_b hna hk4, ih (k + 1) _ (by omega) (f0.up (by decide)) (fun x hx => by rw [up_k (by omega)]; exact a1 x hx) (fun c hc => ?_)⟩
        by_cases z : c = k
        · subst z; rw [up_s]
        · rw [up_k (by omega)]; exact a2 c (by omega)
    exact lp 4 0 w3 rfl (Fx.rf _ w3) (fun x _ => by rw [mo 40 (by decide) (by decide) (by decide)]) (fun c hc => by omega)
  · rw [g2] at z3
    have hna : na = 120 := by omega
    refine h _ _ (Bo.same hI (fun gm dM Kx hdM hK => ?_))
    obtain ⟨dM, rfl⟩ : ∃ d', dM = d' + 1 := ⟨dM - 1, by omega⟩
    exact Cal.ofV (by decide) rfl (Nat.le_of_ble_eq_true rfl) (s_Md_arc (sp_in0 hp1 (by omega) e59 (fun _ => ⟨fun y => absurd y (by decide), fun _ => sp_in0 hp2 (by omega) e59' (fun _ => ⟨fun _ => ⟨fun z => absurd (by rw [up_k (by decide), q3, hna]; rfl) z, fun _ => hK⟩, fun y => absurd y (by decide)⟩) (fun y => absurd z2 y)⟩) (fun y => absurd z1 y)))
end Arc2
