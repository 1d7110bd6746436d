/-! ===== the model: what is kept ===== -/
/-- the row that is kept -/
def svF (w : Wd) (x : Nat) : Int := if x < 320 then w 41 x else if x < 360 then (if w 42 (x - 320) = 0 then 0 else 1) else if x < 520 then w 43 (x - 360) else if x < 680 then w 44 (x - 520) else if x < 684 then w 45 (x - 680) else w 46 (x - 684)
theorem svF_0 {w : Wd} {i : Nat} (h : i < 320) : svF w i = w 41 i := by unfold svF; rw [if_pos h]
theorem svF_1 {w : Wd} {i : Nat} (h : i < 40) : svF w (320 + i) = (if w 42 i = 0 then 0 else 1) := by unfold svF; rw [if_neg (by omega), if_pos (by omega), Nat.add_sub_cancel_left]
theorem svF_2 {w : Wd} {i : Nat} (h : i < 160) : svF w (360 + i) = w 43 i := by unfold svF; rw [if_neg (by omega), if_neg (by omega), if_pos (by omega), Nat.add_sub_cancel_left]
theorem svF_3 {w : Wd} {i : Nat} (h : i < 160) : svF w (520 + i) = w 44 i := by unfold svF; rw [if_neg (by omega), if_neg (by omega), if_neg (by omega), if_pos (by omega), Nat.add_sub_cancel_left]
theorem svF_4 {w : Wd} {i : Nat} (h : i < 4) : svF w (680 + i) = w 45 i := by unfold svF; rw [if_neg (by omega), if_neg (by omega), if_neg (by omega), if_neg (by omega), if_pos (by omega), Nat.add_sub_cancel_left]
theorem svF_5 {w : Wd} {i : Nat} : svF w (684 + i) = w 46 i := by unfold svF; rw [if_neg (by omega), if_neg (by omega), if_neg (by omega), if_neg (by omega), if_neg (by omega), Nat.add_sub_cancel_left]
theorem wr_ab {p c i : Nat} (h : p + c + i < 100000) : wr (wr ((p : Int) + (c : Int)) + (i : Int)) = ((p + (c + i) : Nat) : Int) := by
  rw [wr_id (x := (p : Int) + (c : Int)) (by unfold inI; omega), wr_id (by unfold inI; omega)]
  omega
theorem wr_a {p i : Nat} (h : p + i < 100000) : wr ((p : Int) + (i : Int)) = ((p + i : Nat) : Int) := by
  rw [wr_id (by unfold inI; omega)]
  omega
section MSave
variable {g : Mg} {d : Nat} {K : Ou → Wd → Prop} {w : Wd}
def SvI (w w' : Wd) (P : Nat → Prop) : Prop := Fx [52] w w' ∧ ∀ x, P x → w' 52 x = svF w x
theorem SvI.up {w' : Wd} {P Q : Nat → Prop} {x : Nat} {v : Int} (h : SvI w w' P) (hv : v = svF w x) (hq : ∀ y, Q y → y = x ∨ P y) : SvI w (up w' 52 x v) Q := by
  refine ⟨h.1.up (by decide), fun y hy => ?_⟩
  by_cases z : y = x
  · subst z; rw [up_s]; exact hv
  · rw [up_k z]
    rcases hq y hy with q | q
    · exact absurd q z
    · exact h.2 y q
theorem sp_saveM (h : ∀ w', Fx [52] w w' → (∀ x, x < 688 → w' 52 x = svF w x) → K (.inl none) w') : Cal g LM jMd_save d [vA 0, vA 52, vI 0] w K := by
  have l4 : ∀ (m i : Nat) (w' : Wd), i + m = 4 → SvI w w' (fun x => x < 680 + i ∨ (684 ≤ x ∧ x < 684 + i)) → V g LM jMd_save d K 110 [(0, vA 0), (1, vA 52), (2, vI 0), (3, vI (i : Int))] [] w' := by
    intro m
    induction m with
    | zero =>
      intro i w' hi hS
      have : i = 4 := by omega
      subst this
      exact s_Md_save_110 ⟨fun _ => h w' hS.1 (fun x hx => hS.2 x (by omega)), fun z => absurd (by decide) z⟩
    | succ m ih =>
      intro i w' hi hS
      have e1 : wr (wr (0 + 680) + (i : Int)) = ((680 + i : Nat) : Int) := by
        have := wr_ab (p := 0) (c := 680) (i := i) (by omega)
        rw [Nat.zero_add] at this
        exact this
      have e2 : wr (wr (0 + 684) + (i : Int)) = ((684 + i : Nat) : Int) := by
        have := wr_ab (p := 0) (c := 684) (i := i) (by omega)
        rw [Nat.zero_add] at this
        exact this
      refine s_Md_save_110 ⟨fun z => absurd z (by omega), fun _ => ?_⟩
      rw [e1, e2, toN, toN, toN, wr_n1 (by omega), hS.1 45 (by decide), hS.1 46 (by decide)]
      exact ⟨by omega, by omega, by omega, by omega, ih (i + 1) _ (by omega) (SvI.up (P := fun x => x < 680 + (i + 1) ∨ (684 ≤ x ∧ x < 684 + i)) (hS.up (svF_4 (by omega)).symm (fun y hy => by omega)) svF_5.symm (fun y hy => by omega))⟩
  have l3 : ∀ (m i : Nat) (w' : Wd), i + m = 160 → SvI w w' (fun x => x < 360 + i ∨ (520 ≤ x ∧ x < 520 + i)) → V g LM jMd_save d K 65 [(0, vA 0), (1, vA 52), (2, vI 0), (3, vI (i : Int))] [] w' := by
    intro m
    induction m with
    | zero =>
      intro i w' hi hS
      have : i = 160 := by omega
      subst this
      exact s_Md_save_65 ⟨fun _ => l4 4 0 w' rfl ⟨hS.1, fun x hx => hS.2 x (by omega)⟩, fun z => absurd (by decide) z⟩
    | succ m ih =>
      intro i w' hi hS
      have e1 : wr (wr (0 + 360) + (i : Int)) = ((360 + i : Nat) : Int) := by
        have := wr_ab (p := 0) (c := 360) (i := i) (by omega)
        rw [Nat.zero_add] at this
        exact this
      have e2 : wr (wr (0 + 520) + (i : Int)) = ((520 + i : Nat) : Int) := by
        have := wr_ab (p := 0) (c := 520) (i := i) (by omega)
        rw [Nat.zero_add] at this
        exact this
      refine s_Md_save_65 ⟨fun z => absurd z (by omega), fun _ => ?_⟩
      rw [e1, e2, toN, toN, toN, wr_n1 (by omega), hS.1 43 (by decide), hS.1 44 (by decide)]
      exact ⟨by omega, by omega, by omega, by omega, ih (i + 1) _ (by omega) (SvI.up (P := fun x => x < 360 + (i + 1) ∨ (520 ≤ x ∧ x < 520 + i)) (hS.up (svF_2 (by omega)).symm (fun y hy => by omega)) (svF_3 (by omega)).symm (fun y hy => by omega))⟩
  have l2 : ∀ (m i : Nat) (w' : Wd), i + m = 40 → SvI w w' (fun x => x < 320 + i) → V g LM jMd_save d K 28 [(0, vA 0), (1, vA 52), (2, vI 0), (3, vI (i : Int))] [] w' := by
    intro m
    induction m with
    | zero =>
      intro i w' hi hS
      have : i = 40 := by omega
      subst this
      exact s_Md_save_28 ⟨fun _ => l3 160 0 w' rfl ⟨hS.1, fun x hx => hS.2 x (by omega)⟩, fun z => absurd (by decide) z⟩
    | succ m ih =>
      intro i w' hi hS
      have e1 : wr (wr (0 + 320) + (i : Int)) = ((320 + i : Nat) : Int) := by
        have := wr_ab (p := 0) (c := 320) (i := i) (by omega)
        rw [Nat.zero_add] at this
        exact this
      have hv := svF_1 (w := w) (i := i) (by omega)
      refine s_Md_save_28 ⟨fun z => absurd z (by omega), fun _ => ?_⟩
      rw [e1, toN, toN, wr_n1 (by omega), hS.1 42 (by decide)]
      refine ⟨by omega, fun z => ⟨by omega, ih (i + 1) _ (by omega) (hS.up ?_ (fun y hy => by omega))⟩, fun z => ⟨by omega, ih (i + 1) _ (by omega) (hS.up ?_ (fun y hy => by omega))⟩⟩
      · rw [hv, if_pos z]
      · rw [hv, if_neg z]
  have l1 : ∀ (m i : Nat) (w' : Wd), i + m = 320 → SvI w w' (fun x => x < i) → V g LM jMd_save d K 2 [(0, vA 0), (1, vA 52), (2, vI 0), (3, vI (i : Int))] [] w' := by
    intro m
    induction m with
    | zero =>
      intro i w' hi hS
      have : i = 320 := by omega
      subst this
      exact s_Md_save_2 ⟨fun _ => l2 40 0 w' rfl ⟨hS.1, fun x hx => hS.2 x (by omega)⟩, fun z => absurd (by decide) z⟩
    | succ m ih =>
      intro i w' hi hS
      have e1 : wr (0 + (i : Int)) = (i : Int) := by rw [Int.zero_add]; exact wr_id (by unfold inI; omega)
      refine s_Md_save_2 ⟨fun z => absurd z (by omega), fun _ => ?_⟩
      rw [e1, toN, wr_n1 (by omega), hS.1 41 (by decide)]
      exact ⟨by omega, by omega, ih (i + 1) _ (by omega) (hS.up (svF_0 (by omega)).symm (fun y hy => by omega))⟩
  exact Cal.ofV (by decide) rfl (Nat.le_of_ble_eq_true rfl) (s_Md_save (l1 320 0 w rfl ⟨Fx.rf _ w, fun x hx => by omega⟩))
end MSave
