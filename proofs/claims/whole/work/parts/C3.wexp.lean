/-! ===== the class's worker does an exp ===== -/
def ENb (E : List En) : Prop := ∀ e ∈ E, e.2.1 ≤ 4 ∧ ((e.2.2.1 : Int) < mostL.getD e.2.1 0)
def XCl (X : Xv) (w : Wd) (mb v : Nat) : Prop := w 101 6 = (mb : Int) ∧ isMo mb ∧ w 101 9 = (v : Int) ∧ v < 40 ∧ X 0 0 = (v : Int) ∧ w mb 0 = X 0 1 ∧ w 101 8 = X 0 2 ∧ w 31 0 = X 0 3 ∧ w 35 v = X 0 4 ∧ w 36 v = X 0 5 ∧ (∀ k, k < 4 → w (mb + 3) (4 * v + k) = X 1 k ∧ w (mb + 4) (4 * v + k) = X 2 k ∧ w (mb + 5) k = X 3 k) ∧ ∀ i, i < 480 → w 34 i = X 4 i
def OwC (w : Wd) (ma v : Nat) (own lets : Nat → Int) : Prop := w 101 7 = (ma : Int) ∧ isMo ma ∧ (∀ k, k < 8 → w (ma + 1) (8 * v + k) = own k) ∧ ∀ k, k < 8 → w 103 k = lets k
theorem mo_rng {q : Nat} (h : isMo q) : 45 ≤ q ∧ q ≤ 94 := by obtain ⟨k, hk, rfl⟩ := h; omega
theorem XCl.fr {X : Xv} {w w' : Wd} {mb v : Nat} (h : XCl X w mb v) (hf : FrX w w') : XCl X w' mb v := by
  obtain ⟨h1, h2, h3, h4, h5, h6, h7, h8, h9, h10, h11, h12⟩ := h
  have hm := mo_rng h2
  have q : ∀ o, o < 101 → w' o = w o := fun o ho => hf.1 o (by simp; omega)
  refine ⟨by rw [hf.2 6 (by decide) (by decide) (by decide) (by decide) (by decide) (by decide)]; exact h1, h2, by rw [hf.2 9 (by decide) (by decide) (by decide) (by decide) (by decide) (by decide)]; exact h3, h4, h5, by rw [q mb (by omega)]; exact h6, by rw [hf.2 8 (by decide) (by decide) (by decide) (by decide) (by decide) (by decide)]; exact h7, by rw [q 31 (by decide)]; exact h8, by rw [q 35 (by decide)]; exact h9, by rw [q 36 (by decide)]; exact h10, ?_, by rw [q 34 (by decide)]; exact h12⟩
  rw [q (mb + 3) (by omega), q (mb + 4) (by omega), q (mb + 5) (by omega)]
  exact h11
theorem OwC.fr {w w' : Wd} {ma v : Nat} {own lets : Nat → Int} (h : OwC w ma v own lets) (hf : FrX w w') : OwC w' ma v own lets := by
  obtain ⟨h1, h2, h3, h4⟩ := h
  have hm := mo_rng h2
  refine ⟨by rw [hf.2 7 (by decide) (by decide) (by decide) (by decide) (by decide) (by decide)]; exact h1, h2, ?_, ?_⟩
  · rw [hf.1 (ma + 1) (by simp; omega)]; exact h3
  · rw [hf.1 103 (by decide)]; exact h4
theorem dm_ge {T : Nat → Int} {L : Nat} {a b : Int} {f : Nat} (hL : L ≤ 4000) (h : 100000 ≤ dm T L a b f) : ¬ (b ≠ 0 ∧ a ≠ 0 ∧ a ≠ b) := by
  intro z
  unfold dm at h
  rw [if_pos z] at h
  have := tAt_le T L f
  omega
section WExp
variable {g : Mg} {d D n : Nat} {K : Ou → Wd → Prop} {w : Wd} {T : Nat → Int} {L : Nat} {X : Xv} {E : List En} {own lets : Nat → Int} {mb ma v : Nat}
theorem fnd_nb {t : Nat} {e : En} (hE : ENb E) (h : fnd T L E t = some e) : nmN T L E t = e.2.2.1 ∧ eNu (fnd T L E t) = (e.2.2.1 : Int) ∧ eSo (fnd T L E t) = (e.2.1 : Int) ∧ (e.2.2.1 : Int) < mostL.getD e.2.1 0 := by
  have := hE e (fnd_mem _ h)
  unfold nmN
  rw [h]
  exact ⟨toN _, rfl, rfl, this.2⟩
/-- the deed of an operand -/
def deO (T : Nat → Int) (L : Nat) (E : List En) (c t : Nat) : Int × Int := if c = 1 then (5, eNu (fnd T L E t)) else if c = 2 then (6, eNu (fnd T L E t)) else if kdT T L t = 3 ∨ kdT T L t = 32 then (0, tVl T L (tAt T L t)) else if kdT T L t = 31 then (0, 1) else if kdT T L t = 2 then ((if rdD (eSo (fnd T L E t)) < 0 then 0 else rdD (eSo (fnd T L E t))), eNu (fnd T L E t)) else (fcD (kdT T L t), 0)
theorem deO_cm {c t q s : Nat} {l r : Tr} (hc : c = 0 ∨ c = 1 ∨ c = 2) : cmT T L E (nd c t q l r) s = [((deO T L E c t).1, (deO T L E c t).2, 0)] := by
  rcases hc with rfl | rfl | rfl
  · simp only [cmT, deO]
    simp
    split
    · rfl
    · split
      · rfl
      · split <;> rfl
  · rfl
  · rfl
theorem deO_le {c t : Nat} (hc : c = 0 ∨ c = 1 ∨ c = 2) (hk : c = 0 → kdT T L t = 2 ∨ kdT T L t = 3 ∨ kdT T L t = 31 ∨ kdT T L t = 32 ∨ (54 ≤ kdT T L t ∧ kdT T L t ≤ 58)) : 0 ≤ (deO T L E c t).1 ∧ (deO T L E c t).1 ≤ 11 := by
  unfold deO
  rcases hc with rfl | rfl | rfl
  · rw [if_neg (by decide), if_neg (by decide)]
    split
    · show (0 : Int) ≤ 0 ∧ (0 : Int) ≤ 11; decide
    · split
      · show (0 : Int) ≤ 0 ∧ (0 : Int) ≤ 11; decide
      · split
        · show 0 ≤ (if rdD (eSo (fnd T L E t)) < 0 then 0 else rdD (eSo (fnd T L E t))) ∧ (if rdD (eSo (fnd T L E t)) < 0 then 0 else rdD (eSo (fnd T L E t))) ≤ 11
          unfold rdD
          repeat' split
          all_goals omega
        · have := hk rfl
          show 0 ≤ fcD (kdT T L t) ∧ fcD (kdT T L t) ≤ 11
          unfold fcD
          rw [if_pos (by omega)]
          omega
  · rw [if_pos rfl]
    show (0 : Int) ≤ 5 ∧ (5 : Int) ≤ 11; decide
  · rw [if_neg (by decide), if_pos rfl]
    show (0 : Int) ≤ 6 ∧ (6 : Int) ≤ 11; decide
theorem ix4 {v k : Nat} (hv : v < 40) (hk : k < 4) : wr (wr ((v : Int) * 4) + (k : Int)) = ((4 * v + k : Nat) : Int) := by
  rw [show wr ((v : Int) * 4) = ((4 * v : Nat) : Int) from wrN (by omega) (by omega)]
  exact wrN (by omega) (by omega)
theorem ix8 {v k : Nat} (hv : v < 40) (hk : k < 8) : wr (wr ((v : Int) * 8) + (k : Int)) = ((8 * v + k : Nat) : Int) := by
  rw [show wr ((v : Int) * 8) = ((8 * v : Nat) : Int) from wrN (by omega) (by omega)]
  exact wrN (by omega) (by omega)
theorem ixA {v k : Nat} (hv : v < 120) (hk : k < 4) : wr (wr ((v : Int) * 4) + (k : Int)) = ((4 * v + k : Nat) : Int) := by
  rw [show wr ((v : Int) * 4) = ((4 * v : Nat) : Int) from wrN (by omega) (by omega)]
  exact wrN (by omega) (by omega)
theorem ibd {a b : Nat} (h : a < b) : (0 : Int) ≤ (a : Int) ∧ (a : Int) < (b : Int) := by omega
theorem ib8 {v k : Nat} (hv : v < 40) (hk : k < 8) : (0 : Int) ≤ ((8 * v + k : Nat) : Int) ∧ ((8 * v + k : Nat) : Int) < 320 := by omega
theorem ib4 {v k : Nat} (hv : v < 40) (hk : k < 4) : (0 : Int) ≤ ((4 * v + k : Nat) : Int) ∧ ((4 * v + k : Nat) : Int) < 160 := by omega
theorem ibA {v k : Nat} (hv : v < 120) (hk : k < 4) : (0 : Int) ≤ ((4 * v + k : Nat) : Int) ∧ ((4 * v + k : Nat) : Int) < 480 := by omega
theorem nb_8 {k : Nat} {m : Nat} (hm : m = 1 ∨ m = 4) (h : (k : Int) < mostL.getD m 0) : k < 8 := by
  rcases hm with rfl | rfl
  · have : (k : Int) < 8 := h; omega
  · have : (k : Int) < 8 := h; omega
theorem nb_4 {k : Nat} {m : Nat} (hm : m = 0 ∨ m = 2 ∨ m = 3) (h : (k : Int) < mostL.getD m 0) : k < 4 := by
  rcases hm with rfl | rfl | rfl
  · have : (k : Int) < 4 := h; omega
  · have : (k : Int) < 4 := h; omega
  · have : (k : Int) < 4 := h; omega
/-- no blame: what a NAME is -/
theorem nm_ok {t : Nat} {bb : Bool} (hL : L ≤ 4000) (hE : ENb E) (k2 : kdT T L t = 2) (hj : 100000 ≤ jkT T L E bb (nd 0 t 0 nl nl)) : ∃ e, fnd T L E t = some e ∧ (e.2.1 = 1 ∨ e.2.1 = 2 ∨ e.2.1 = 3 ∨ e.2.1 = 4) := by
  have hj' : 100000 ≤ (if kdT T L t = 2 ∧ rdD (eSo (fnd T L E t)) < 0 then tAt T L t * 8 + 4 else 100000) := hj
  have htl := tAt_le T L t
  have hrd : ¬ rdD (eSo (fnd T L E t)) < 0 := by
    intro z
    rw [if_pos ⟨k2, z⟩] at hj'
    omega
  cases hf : fnd T L E t with
  | none => rw [hf] at hrd; exact absurd (by decide) hrd
  | some e =>
    refine ⟨e, rfl, ?_⟩
    have he4 := (hE e (fnd_mem _ hf)).1
    rcases (by omega : e.2.1 = 0 ∨ e.2.1 = 1 ∨ e.2.1 = 2 ∨ e.2.1 = 3 ∨ e.2.1 = 4) with z | z
    · exfalso
      apply hrd
      rw [hf]
      show rdD (e.2.1 : Int) < 0
      rw [z]; decide
    · exact z
theorem arc_ok {t : Nat} {bb : Bool} (hL : L ≤ 4000) (hj : 100000 ≤ jkT T L E bb (nd 1 t 0 nl nl)) : bb = true ∧ ∃ e, fnd T L E t = some e ∧ e.2.1 = 0 := by
  have hj' : 100000 ≤ (if bb = true ∧ eSo (fnd T L E t) = 0 then 100000 else tAt T L t * 8 + 4) := hj
  have htl := tAt_le T L t
  have hbs : bb = true ∧ eSo (fnd T L E t) = 0 := by
    by_cases z : bb = true ∧ eSo (fnd T L E t) = 0
    · exact z
    · rw [if_neg z] at hj'; omega
  refine ⟨hbs.1, ?_⟩
  cases hf : fnd T L E t with
  | none => rw [hf] at hbs; exact absurd hbs.2 (by decide)
  | some e =>
    rw [hf] at hbs
    exact ⟨e, rfl, by have : (e.2.1 : Int) = 0 := hbs.2; omega⟩
theorem has_ok {t : Nat} {bb : Bool} (hL : L ≤ 4000) (hj : 100000 ≤ jkT T L E bb (nd 2 t 0 nl nl)) : ∃ e, fnd T L E t = some e ∧ e.2.1 = 2 := by
  have hj' : 100000 ≤ (if eSo (fnd T L E t) = 2 then 100000 else tAt T L t * 8 + 4) := hj
  have htl := tAt_le T L t
  have hbs : eSo (fnd T L E t) = 2 := by
    by_cases z : eSo (fnd T L E t) = 2
    · exact z
    · rw [if_neg z] at hj'; omega
  cases hf : fnd T L E t with
  | none => rw [hf] at hbs; exact absurd hbs (by decide)
  | some e =>
    rw [hf] at hbs
    exact ⟨e, rfl, by have : (e.2.1 : Int) = 2 := hbs; omega⟩
theorem op_0 {p2 : Int} (h : K (.inl (some (vI p2))) w) : Cal g LC jWo_operand (d + 1) [vA 101, vI 0, vI p2] w K := Cal.ofV (by decide) rfl (Nat.le_of_ble_eq_true rfl) (s_Wo_operand ⟨fun z => absurd z (by decide), fun _ => h, fun z => absurd z (by decide), fun z => absurd z (by decide), fun z => absurd z (by decide), fun z => absurd z (by decide), fun z => absurd z (by decide), fun z => absurd z (by decide), fun z => absurd z (by decide), fun z => absurd z (by decide), fun z => absurd z (by decide), fun z => absurd z (by decide)⟩)
theorem op_1 {p2 : Int} (h : ∃ q1 : Nat, (w 101 7) = (q1 : Int) ∧ isMo q1 ∧ ((0 ≤ (wr ((wr ((w 101 9) * 8)) + p2)) ∧ (wr ((wr ((w 101 9) * 8)) + p2)) < 320) ∧ (K (.inl (some (vI (w (q1 + 1) ((wr ((wr ((w 101 9) * 8)) + p2)).toNat))))) w))) : Cal g LC jWo_operand (d + 1) [vA 101, vI 1, vI p2] w K := Cal.ofV (by decide) rfl (Nat.le_of_ble_eq_true rfl) (s_Wo_operand ⟨fun z => absurd z (by decide), fun z => absurd z (by decide), fun _ => h, fun z => absurd z (by decide), fun z => absurd z (by decide), fun z => absurd z (by decide), fun z => absurd z (by decide), fun z => absurd z (by decide), fun z => absurd z (by decide), fun z => absurd z (by decide), fun z => absurd z (by decide), fun z => absurd z (by decide)⟩)
theorem op_2 {p2 : Int} (h : (0 ≤ p2 ∧ p2 < 8) ∧ (K (.inl (some (vI (w 103 p2.toNat)))) w)) : Cal g LC jWo_operand (d + 1) [vA 101, vI 2, vI p2] w K := Cal.ofV (by decide) rfl (Nat.le_of_ble_eq_true rfl) (s_Wo_operand ⟨fun z => absurd z (by decide), fun z => absurd z (by decide), fun z => absurd z (by decide), fun _ => h, fun z => absurd z (by decide), fun z => absurd z (by decide), fun z => absurd z (by decide), fun z => absurd z (by decide), fun z => absurd z (by decide), fun z => absurd z (by decide), fun z => absurd z (by decide), fun z => absurd z (by decide)⟩)
theorem op_3 {p2 : Int} (h : ∃ q2 : Nat, (w 101 6) = (q2 : Int) ∧ isMo q2 ∧ ((0 ≤ (wr ((wr ((w 101 9) * 4)) + p2)) ∧ (wr ((wr ((w 101 9) * 4)) + p2)) < 160) ∧ (K (.inl (some (vI (w (q2 + 3) ((wr ((wr ((w 101 9) * 4)) + p2)).toNat))))) w))) : Cal g LC jWo_operand (d + 1) [vA 101, vI 3, vI p2] w K := Cal.ofV (by decide) rfl (Nat.le_of_ble_eq_true rfl) (s_Wo_operand ⟨fun z => absurd z (by decide), fun z => absurd z (by decide), fun z => absurd z (by decide), fun z => absurd z (by decide), fun _ => h, fun z => absurd z (by decide), fun z => absurd z (by decide), fun z => absurd z (by decide), fun z => absurd z (by decide), fun z => absurd z (by decide), fun z => absurd z (by decide), fun z => absurd z (by decide)⟩)
theorem op_4 {p2 : Int} (h : ∃ q3 : Nat, (w 101 6) = (q3 : Int) ∧ isMo q3 ∧ ((0 ≤ p2 ∧ p2 < 4) ∧ (K (.inl (some (vI (w (q3 + 5) p2.toNat)))) w))) : Cal g LC jWo_operand (d + 1) [vA 101, vI 4, vI p2] w K := Cal.ofV (by decide) rfl (Nat.le_of_ble_eq_true rfl) (s_Wo_operand ⟨fun z => absurd z (by decide), fun z => absurd z (by decide), fun z => absurd z (by decide), fun z => absurd z (by decide), fun z => absurd z (by decide), fun _ => h, fun z => absurd z (by decide), fun z => absurd z (by decide), fun z => absurd z (by decide), fun z => absurd z (by decide), fun z => absurd z (by decide), fun z => absurd z (by decide)⟩)
theorem op_5 {p2 : Int} (h : Cal g LC jGr_weightOf d [vA 31, vI (w 101 12), vI p2] w (fun o w4 => rI o (fun x5 => K (.inl (some (vI x5))) w4))) : Cal g LC jWo_operand (d + 1) [vA 101, vI 5, vI p2] w K := Cal.ofV (by decide) rfl (Nat.le_of_ble_eq_true rfl) (s_Wo_operand ⟨fun z => absurd z (by decide), fun z => absurd z (by decide), fun z => absurd z (by decide), fun z => absurd z (by decide), fun z => absurd z (by decide), fun z => absurd z (by decide), fun _ => h, fun z => absurd z (by decide), fun z => absurd z (by decide), fun z => absurd z (by decide), fun z => absurd z (by decide), fun z => absurd z (by decide)⟩)
theorem op_6 {p2 : Int} (h : ∃ q6 : Nat, (w 101 6) = (q6 : Int) ∧ isMo q6 ∧ ((0 ≤ (wr ((wr ((w 101 9) * 4)) + p2)) ∧ (wr ((wr ((w 101 9) * 4)) + p2)) < 160) ∧ (((w (q6 + 4) ((wr ((wr ((w 101 9) * 4)) + p2)).toNat)) ≤ 0 → (K (.inl (some (vI 0))) w)) ∧ (¬ (w (q6 + 4) ((wr ((wr ((w 101 9) * 4)) + p2)).toNat)) ≤ 0 → (K (.inl (some (vI 1))) w))))) : Cal g LC jWo_operand (d + 1) [vA 101, vI 6, vI p2] w K := Cal.ofV (by decide) rfl (Nat.le_of_ble_eq_true rfl) (s_Wo_operand ⟨fun z => absurd z (by decide), fun z => absurd z (by decide), fun z => absurd z (by decide), fun z => absurd z (by decide), fun z => absurd z (by decide), fun z => absurd z (by decide), fun z => absurd z (by decide), fun _ => h, fun z => absurd z (by decide), fun z => absurd z (by decide), fun z => absurd z (by decide), fun z => absurd z (by decide)⟩)
theorem op_7 {p2 : Int} (h : K (.inl (some (vI (w 101 9)))) w) : Cal g LC jWo_operand (d + 1) [vA 101, vI 7, vI p2] w K := Cal.ofV (by decide) rfl (Nat.le_of_ble_eq_true rfl) (s_Wo_operand ⟨fun z => absurd z (by decide), fun z => absurd z (by decide), fun z => absurd z (by decide), fun z => absurd z (by decide), fun z => absurd z (by decide), fun z => absurd z (by decide), fun z => absurd z (by decide), fun z => absurd z (by decide), fun _ => h, fun z => absurd z (by decide), fun z => absurd z (by decide), fun z => absurd z (by decide)⟩)
theorem op_8 {p2 : Int} (h : ∃ q7 : Nat, (w 101 6) = (q7 : Int) ∧ isMo q7 ∧ (K (.inl (some (vI (w q7 0)))) w)) : Cal g LC jWo_operand (d + 1) [vA 101, vI 8, vI p2] w K := Cal.ofV (by decide) rfl (Nat.le_of_ble_eq_true rfl) (s_Wo_operand ⟨fun z => absurd z (by decide), fun z => absurd z (by decide), fun z => absurd z (by decide), fun z => absurd z (by decide), fun z => absurd z (by decide), fun z => absurd z (by decide), fun z => absurd z (by decide), fun z => absurd z (by decide), fun z => absurd z (by decide), fun _ => h, fun z => absurd z (by decide), fun z => absurd z (by decide)⟩)
theorem op_9 {p2 : Int} (h : K (.inl (some (vI (w 31 0)))) w) : Cal g LC jWo_operand (d + 1) [vA 101, vI 9, vI p2] w K := Cal.ofV (by decide) rfl (Nat.le_of_ble_eq_true rfl) (s_Wo_operand ⟨fun z => absurd z (by decide), fun z => absurd z (by decide), fun z => absurd z (by decide), fun z => absurd z (by decide), fun z => absurd z (by decide), fun z => absurd z (by decide), fun z => absurd z (by decide), fun z => absurd z (by decide), fun z => absurd z (by decide), fun z => absurd z (by decide), fun _ => h, fun z => absurd z (by decide)⟩)
theorem op_10 {p2 : Int} (h : (0 ≤ (w 101 9) ∧ (w 101 9) < 40) ∧ (K (.inl (some (vI (w 35 ((w 101 9).toNat))))) w)) : Cal g LC jWo_operand (d + 1) [vA 101, vI 10, vI p2] w K := Cal.ofV (by decide) rfl (Nat.le_of_ble_eq_true rfl) (s_Wo_operand ⟨fun z => absurd z (by decide), fun z => absurd z (by decide), fun z => absurd z (by decide), fun z => absurd z (by decide), fun z => absurd z (by decide), fun z => absurd z (by decide), fun z => absurd z (by decide), fun z => absurd z (by decide), fun z => absurd z (by decide), fun z => absurd z (by decide), fun z => absurd z (by decide), fun _ => h⟩)
theorem op_11 {p2 : Int} (h : (0 ≤ (w 101 9) ∧ (w 101 9) < 40) ∧ (K (.inl (some (vI (w 36 ((w 101 9).toNat))))) w)) : Cal g LC jWo_operand (d + 1) [vA 101, vI 11, vI p2] w K := Cal.ofV (by decide) rfl (Nat.le_of_ble_eq_true rfl) (s_Wo_operand ⟨fun _ => h, fun z => absurd z (by decide), fun z => absurd z (by decide), fun z => absurd z (by decide), fun z => absurd z (by decide), fun z => absurd z (by decide), fun z => absurd z (by decide), fun z => absurd z (by decide), fun z => absurd z (by decide), fun z => absurd z (by decide), fun z => absurd z (by decide), fun z => absurd z (by decide)⟩)
theorem sp_operandW {c t arc : Nat} {bb : Bool} (hL : L ≤ 4000) (hD : 1 ≤ D) (hc : c = 0 ∨ c = 1 ∨ c = 2) (hk : c = 0 → kdT T L t = 2 ∨ kdT T L t = 3 ∨ kdT T L t = 31 ∨ kdT T L t = 32 ∨ (54 ≤ kdT T L t ∧ kdT T L t ≤ 58)) (hE : ENb E) (hj : 100000 ≤ jkT T L E bb (nd c t 0 nl nl)) (hX : XCl X w mb v) (hO : OwC w ma v own lets) (ha : bb = true → w 101 12 = (arc : Int) ∧ arc < 120) (h : K (.inl (some (vI (opv T L X E own lets arc c t)))) w) : Cal g LC jWo_operand D [vA 101, vI (deO T L E c t).1, vI (deO T L E c t).2] w K := by
  obtain ⟨d, rfl⟩ : ∃ d, D = d + 1 := ⟨D - 1, by omega⟩
  obtain ⟨x1, x2, x3, x4, x5, x6, x7, x8, x9, x10, x11, x12⟩ := hX
  obtain ⟨o1, o2, o3, o4⟩ := hO
  rcases hc with rfl | rfl | rfl
  · by_cases k3 : kdT T L t = 3 ∨ kdT T L t = 32
    · have e1 : deO T L E 0 t = (0, tVl T L (tAt T L t)) := by unfold deO; rw [if_neg (by decide), if_neg (by decide), if_pos k3]
      have e2 : opv T L X E own lets arc 0 t = tVl T L (tAt T L t) := by unfold opv; rw [if_neg (by decide), if_neg (by decide), if_pos k3]
      rw [e1]
      rw [e2] at h
      exact op_0 h
    by_cases k31 : kdT T L t = 31
    · have e1 : deO T L E 0 t = (0, 1) := by unfold deO; rw [if_neg (by decide), if_neg (by decide), if_neg k3, if_pos k31]
      have e2 : opv T L X E own lets arc 0 t = 1 := by unfold opv; rw [if_neg (by decide), if_neg (by decide), if_neg k3, if_pos k31]
      rw [e1]
      rw [e2] at h
      exact op_0 h
    by_cases k2 : kdT T L t = 2
    · obtain ⟨e, hf, hso⟩ := nm_ok hL hE k2 hj
      obtain ⟨n1, n2, n3, n4⟩ := fnd_nb hE hf
      have e1 : deO T L E 0 t = ((if rdD (e.2.1 : Int) < 0 then 0 else rdD (e.2.1 : Int)), (e.2.2.1 : Int)) := by unfold deO; rw [if_neg (by decide), if_neg (by decide), if_neg k3, if_neg k31, if_pos k2, n3, n2]
      have e2 : opv T L X E own lets arc 0 t = (if (e.2.1 : Int) = 1 then own e.2.2.1 else if (e.2.1 : Int) = 4 then lets e.2.2.1 else if (e.2.1 : Int) = 2 then X 1 e.2.2.1 else X 3 e.2.2.1) := by unfold opv; rw [if_neg (by decide), if_neg (by decide), if_neg k3, if_neg k31, if_pos k2, n3, n1]
      rw [e1]
      rw [e2] at h
      rcases hso with z | z | z | z <;> rw [z] at h n4 ⊢
      · have n8 := nb_8 (Or.inl rfl) n4
        refine op_1 ⟨ma, o1, o2, ?_⟩
        rw [x3, ix8 x4 n8, toN, o3 _ n8]
        exact ⟨ib8 x4 n8, h⟩
      · have n8 := nb_4 (Or.inr (Or.inl rfl)) n4
        refine op_3 ⟨mb, x1, x2, ?_⟩
        rw [x3, ix4 x4 n8, toN, (x11 _ n8).1]
        exact ⟨ib4 x4 n8, h⟩
      · have n8 := nb_4 (Or.inr (Or.inr rfl)) n4
        refine op_4 ⟨mb, x1, x2, ?_⟩
        rw [toN, (x11 _ n8).2.2]
        exact ⟨ibd n8, h⟩
      · have n8 := nb_8 (Or.inr rfl) n4
        refine op_2 ?_
        rw [toN, o4 _ n8]
        exact ⟨ibd n8, h⟩
    · have hkk := hk rfl
      have e1 : deO T L E 0 t = (fcD (kdT T L t), 0) := by unfold deO; rw [if_neg (by decide), if_neg (by decide), if_neg k3, if_neg k31, if_neg k2]
      have e2 : opv T L X E own lets arc 0 t = (if kdT T L t = 54 then X 0 0 else if kdT T L t = 55 then X 0 1 else if kdT T L t = 56 then X 0 3 else if kdT T L t = 57 then X 0 4 else X 0 5) := by unfold opv; rw [if_neg (by decide), if_neg (by decide), if_neg k3, if_neg k31, if_neg k2]
      rw [e1]
      rw [e2] at h
      rcases (show kdT T L t = 54 ∨ kdT T L t = 55 ∨ kdT T L t = 56 ∨ kdT T L t = 57 ∨ kdT T L t = 58 from by omega) with z | z | z | z | z <;> rw [z] at h ⊢
      · have h : K (.inl (some (vI (X 0 0)))) w := h
        rw [x5, ← x3] at h
        exact op_7 h
      · have h : K (.inl (some (vI (X 0 1)))) w := h
        rw [← x6] at h
        exact op_8 ⟨mb, x1, x2, h⟩
      · have h : K (.inl (some (vI (X 0 3)))) w := h
        rw [← x8] at h
        exact op_9 h
      · have h : K (.inl (some (vI (X 0 4)))) w := h
        rw [← x9] at h
        refine op_10 ?_
        rw [x3, toN]
        exact ⟨ibd x4, h⟩
      · have h : K (.inl (some (vI (X 0 5)))) w := h
        rw [← x10] at h
        refine op_11 ?_
        rw [x3, toN]
        exact ⟨ibd x4, h⟩
  · obtain ⟨hb, e, hf, hs0⟩ := arc_ok hL hj
    obtain ⟨a1, a2⟩ := ha hb
    obtain ⟨n1, n2, n3, n4⟩ := fnd_nb hE hf
    rw [hs0] at n4
    have n8 := nb_4 (Or.inl rfl) n4
    have h : K (.inl (some (vI (X 4 (4 * arc + nmN T L E t))))) w := h
    have hi : 4 * arc + e.2.2.1 < 480 := by omega
    rw [n1, ← x12 _ hi] at h
    have ed : deO T L E 1 t = (5, eNu (fnd T L E t)) := rfl
    rw [ed, n2]
    refine op_5 ?_
    rw [a1]
    refine Cal.ofV (by decide) rfl (Nat.le_of_ble_eq_true rfl) (s_Gr_weightOf ?_)
    rw [ixA a2 n8, toN]
    exact ⟨ibA a2 n8, h⟩
  · obtain ⟨e, hf, hs0⟩ := has_ok hL hj
    obtain ⟨n1, n2, n3, n4⟩ := fnd_nb hE hf
    rw [hs0] at n4
    have n8 := nb_4 (Or.inr (Or.inl rfl)) n4
    have h : K (.inl (some (vI (if X 2 (nmN T L E t) ≤ 0 then 0 else 1)))) w := h
    rw [n1, ← (x11 _ n8).2.1] at h
    have ed : deO T L E 2 t = (6, eNu (fnd T L E t)) := rfl
    rw [ed, n2]
    refine op_6 ⟨mb, x1, x2, ?_⟩
    rw [x3, ix4 x4 n8, toN]
    refine ⟨ib4 x4 n8, fun z => ?_, fun z => ?_⟩
    · rw [if_pos z] at h; exact h
    · rw [if_neg z] at h; exact h
end WExp
