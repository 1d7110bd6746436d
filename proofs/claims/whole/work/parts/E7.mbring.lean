/-! ===== the model: what was kept comes back ===== -/
def BrI (S p : Nat) (w w' : Wd) (A B C E : Nat) : Prop := Fx [41, 42, 43, 44, 45, 46] w w' ∧ (∀ x, x < A → w' 41 x = w S (p + x)) ∧ (∀ x, x < B → w' 42 x = (if w S (p + (320 + x)) = 1 then 1 else 0)) ∧ (∀ x, x < C → w' 43 x = w S (p + (360 + x)) ∧ w' 44 x = w S (p + (520 + x))) ∧ ∀ x, x < E → w' 45 x = w S (p + (680 + x)) ∧ w' 46 x = w S (p + (684 + x))
section MBring
variable {g : Mg} {d : Nat} {K : Ou → Wd → Prop} {w : Wd}
theorem sp_bringM {p : Nat} (hp : p + 688 ≤ 700) (h : ∀ w', BrI 52 p w w' 320 40 160 4 → K (.inl none) w') : Cal g LM jMd_bring d [vA 0, vA 52, vI (p : Int)] w K := by
  have e2 : ∀ c i : Nat, c + i < 688 → wr (wr ((p : Int) + (c : Int)) + (i : Int)) = ((p + (c + i) : Nat) : Int) := fun c i hc => wr_ab (by omega)
  have l4 : ∀ (m i : Nat) (w' : Wd), i + m = 4 → BrI 52 p w w' 320 40 160 i → V g LM jMd_bring d K 111 [(0, vA 0), (1, vA 52), (2, vI (p : Int)), (3, vI (i : Int))] [] w' := by
    intro m
    induction m with
    | zero =>
      intro i w' hi hS
      have : i = 4 := by omega
      subst this
      exact s_Md_bring_111 ⟨fun _ => h w' hS, fun z => absurd (by decide) z⟩
    | succ m ih =>
      intro i w' hi hS
      refine s_Md_bring_111 ⟨fun z => absurd z (by omega), fun _ => ?_⟩
      have a1 : wr (wr ((p : Int) + 680) + (i : Int)) = ((p + (680 + i) : Nat) : Int) := e2 680 i (by omega)
      have a2 : wr (wr ((p : Int) + 684) + (i : Int)) = ((p + (684 + i) : Nat) : Int) := e2 684 i (by omega)
      rw [a1, a2, toN, toN, toN, wr_n1 (by omega), hS.1 52 (by decide)]
      refine ⟨by omega, by omega, by omega, by omega, ih (i + 1) _ (by omega) ?_⟩
      obtain ⟨f, s1, s2, s3, s4⟩ := hS
      refine ⟨(f.up (by decide)).up (by decide), fun x hx => by rw [up_o (by decide), up_o (by decide)]; exact s1 x hx, fun x hx => by rw [up_o (by decide), up_o (by decide)]; exact s2 x hx, fun x hx => by rw [up_o (by decide), up_o (by decide), up_o (by decide), up_o (by decide)]; exact s3 x hx, fun x hx => ?_⟩
      by_cases z : x = i
      · subst z
        exact ⟨by rw [up_o (by decide), up_s], by rw [up_s]⟩
      · obtain ⟨y1, y2⟩ := s4 x (by omega)
        exact ⟨by rw [up_o (by decide), up_k z]; exact y1, by rw [up_k z, up_o (by decide)]; exact y2⟩
  have l3 : ∀ (m i : Nat) (w' : Wd), i + m = 160 → BrI 52 p w w' 320 40 i 0 → V g LM jMd_bring d K 66 [(0, vA 0), (1, vA 52), (2, vI (p : Int)), (3, vI (i : Int))] [] w' := by
    intro m
    induction m with
    | zero =>
      intro i w' hi hS
      have : i = 160 := by omega
      subst this
      exact s_Md_bring_66 ⟨fun _ => l4 4 0 w' rfl hS, fun z => absurd (by decide) z⟩
    | succ m ih =>
      intro i w' hi hS
      refine s_Md_bring_66 ⟨fun z => absurd z (by omega), fun _ => ?_⟩
      have a1 : wr (wr ((p : Int) + 360) + (i : Int)) = ((p + (360 + i) : Nat) : Int) := e2 360 i (by omega)
      have a2 : wr (wr ((p : Int) + 520) + (i : Int)) = ((p + (520 + i) : Nat) : Int) := e2 520 i (by omega)
      rw [a1, a2, toN, toN, toN, wr_n1 (by omega), hS.1 52 (by decide)]
      refine ⟨by omega, by omega, by omega, by omega, ih (i + 1) _ (by omega) ?_⟩
      obtain ⟨f, s1, s2, s3, s4⟩ := hS
      refine ⟨(f.up (by decide)).up (by decide), fun x hx => by rw [up_o (by decide), up_o (by decide)]; exact s1 x hx, fun x hx => by rw [up_o (by decide), up_o (by decide)]; exact s2 x hx, fun x hx => ?_, fun x hx => by omega⟩
      by_cases z : x = i
      · subst z
        exact ⟨by rw [up_o (by decide), up_s], by rw [up_s]⟩
      · obtain ⟨y1, y2⟩ := s3 x (by omega)
        exact ⟨by rw [up_o (by decide), up_k z]; exact y1, by rw [up_k z, up_o (by decide)]; exact y2⟩
  have l2 : ∀ (m i : Nat) (w' : Wd), i + m = 40 → BrI 52 p w w' 320 i 0 0 → V g LM jMd_bring d K 28 [(0, vA 0), (1, vA 52), (2, vI (p : Int)), (3, vI (i : Int))] [] w' := by
    intro m
    induction m with
    | zero =>
      intro i w' hi hS
      have : i = 40 := by omega
      subst this
      exact s_Md_bring_28 ⟨fun _ => l3 160 0 w' rfl hS, fun z => absurd (by decide) z⟩
    | succ m ih =>
      intro i w' hi hS
      refine s_Md_bring_28 ⟨fun z => absurd z (by omega), fun _ => ?_⟩
      have a1 : wr (wr ((p : Int) + 320) + (i : Int)) = ((p + (320 + i) : Nat) : Int) := e2 320 i (by omega)
      rw [a1, toN, toN, wr_n1 (by omega), hS.1 52 (by decide)]
      obtain ⟨f, s1, s2, s3, s4⟩ := hS
      have go : ∀ v : Int, v = (if w 52 (p + (320 + i)) = 1 then 1 else 0) → V g LM jMd_bring d K 28 [(0, vA 0), (1, vA 52), (2, vI (p : Int)), (3, vI ((i + 1 : Nat) : Int))] [] (up w' 42 i v) := by
        intro v hv
        refine ih (i + 1) _ (by omega) ⟨f.up (by decide), fun x hx => by rw [up_o (by decide)]; exact s1 x hx, fun x hx => ?_, fun x hx => by omega, fun x hx => by omega⟩
        by_cases z : x = i
        · subst z; rw [up_s]; exact hv
        · rw [up_k z]; exact s2 x (by omega)
      exact ⟨by omega, fun z => ⟨by omega, go 0 (by rw [if_neg z])⟩, fun z => ⟨by omega, go 1 (by rw [if_pos z])⟩⟩
  have l1 : ∀ (m i : Nat) (w' : Wd), i + m = 320 → BrI 52 p w w' i 0 0 0 → V g LM jMd_bring d K 2 [(0, vA 0), (1, vA 52), (2, vI (p : Int)), (3, vI (i : Int))] [] w' := by
    intro m
    induction m with
    | zero =>
      intro i w' hi hS
      have : i = 320 := by omega
      subst this
      exact s_Md_bring_2 ⟨fun _ => l2 40 0 w' rfl hS, fun z => absurd (by decide) z⟩
    | succ m ih =>
      intro i w' hi hS
      refine s_Md_bring_2 ⟨fun z => absurd z (by omega), fun _ => ?_⟩
      rw [wr_a (by omega), toN, toN, wr_n1 (by omega), hS.1 52 (by decide)]
      obtain ⟨f, s1, s2, s3, s4⟩ := hS
      refine ⟨by omega, by omega, ih (i + 1) _ (by omega) ⟨f.up (by decide), fun x hx => ?_, fun x hx => by omega, fun x hx => by omega, fun x hx => by omega⟩⟩
      by_cases z : x = i
      · subst z; rw [up_s]
      · rw [up_k z]; exact s1 x (by omega)
  exact Cal.ofV (by decide) rfl (Nat.le_of_ble_eq_true rfl) (s_Md_bring (l1 320 0 w rfl ⟨Fx.rf _ w, fun x hx => by omega, fun x hx => by omega, fun x hx => by omega, fun x hx => by omega⟩))
theorem sp_bringK {p : Nat} (hp : p + 688 ≤ 4200) (h : ∀ w', BrI 51 p w w' 320 40 160 4 → K (.inl none) w') : Cal g LM jMd_bring d [vA 0, vA 51, vI (p : Int)] w K := by
  have e2 : ∀ c i : Nat, c + i < 688 → wr (wr ((p : Int) + (c : Int)) + (i : Int)) = ((p + (c + i) : Nat) : Int) := fun c i hc => wr_ab (by omega)
  have l4 : ∀ (m i : Nat) (w' : Wd), i + m = 4 → BrI 51 p w w' 320 40 160 i → V g LM jMd_bring d K 111 [(0, vA 0), (1, vA 51), (2, vI (p : Int)), (3, vI (i : Int))] [] w' := by
    intro m
    induction m with
    | zero =>
      intro i w' hi hS
      have : i = 4 := by omega
      subst this
      exact s_Md_bring_k_111 ⟨fun _ => h w' hS, fun z => absurd (by decide) z⟩
    | succ m ih =>
      intro i w' hi hS
      refine s_Md_bring_k_111 ⟨fun z => absurd z (by omega), fun _ => ?_⟩
      have a1 : wr (wr ((p : Int) + 680) + (i : Int)) = ((p + (680 + i) : Nat) : Int) := e2 680 i (by omega)
      have a2 : wr (wr ((p : Int) + 684) + (i : Int)) = ((p + (684 + i) : Nat) : Int) := e2 684 i (by omega)
      rw [a1, a2, toN, toN, toN, wr_n1 (by omega), hS.1 51 (by decide)]
      refine ⟨by omega, by omega, by omega, by omega, ih (i + 1) _ (by omega) ?_⟩
      obtain ⟨f, s1, s2, s3, s4⟩ := hS
      refine ⟨(f.up (by decide)).up (by decide), fun x hx => by rw [up_o (by decide), up_o (by decide)]; exact s1 x hx, fun x hx => by rw [up_o (by decide), up_o (by decide)]; exact s2 x hx, fun x hx => by rw [up_o (by decide), up_o (by decide), up_o (by decide), up_o (by decide)]; exact s3 x hx, fun x hx => ?_⟩
      by_cases z : x = i
      · subst z
        exact ⟨by rw [up_o (by decide), up_s], by rw [up_s]⟩
      · obtain ⟨y1, y2⟩ := s4 x (by omega)
        exact ⟨by rw [up_o (by decide), up_k z]; exact y1, by rw [up_k z, up_o (by decide)]; exact y2⟩
  have l3 : ∀ (m i : Nat) (w' : Wd), i + m = 160 → BrI 51 p w w' 320 40 i 0 → V g LM jMd_bring d K 66 [(0, vA 0), (1, vA 51), (2, vI (p : Int)), (3, vI (i : Int))] [] w' := by
    intro m
    induction m with
    | zero =>
      intro i w' hi hS
      have : i = 160 := by omega
      subst this
      exact s_Md_bring_k_66 ⟨fun _ => l4 4 0 w' rfl hS, fun z => absurd (by decide) z⟩
    | succ m ih =>
      intro i w' hi hS
      refine s_Md_bring_k_66 ⟨fun z => absurd z (by omega), fun _ => ?_⟩
      have a1 : wr (wr ((p : Int) + 360) + (i : Int)) = ((p + (360 + i) : Nat) : Int) := e2 360 i (by omega)
      have a2 : wr (wr ((p : Int) + 520) + (i : Int)) = ((p + (520 + i) : Nat) : Int) := e2 520 i (by omega)
      rw [a1, a2, toN, toN, toN, wr_n1 (by omega), hS.1 51 (by decide)]
      refine ⟨by omega, by omega, by omega, by omega, ih (i + 1) _ (by omega) ?_⟩
      obtain ⟨f, s1, s2, s3, s4⟩ := hS
      refine ⟨(f.up (by decide)).up (by decide), fun x hx => by rw [up_o (by decide), up_o (by decide)]; exact s1 x hx, fun x hx => by rw [up_o (by decide), up_o (by decide)]; exact s2 x hx, fun x hx => ?_, fun x hx => by omega⟩
      by_cases z : x = i
      · subst z
        exact ⟨by rw [up_o (by decide), up_s], by rw [up_s]⟩
      · obtain ⟨y1, y2⟩ := s3 x (by omega)
        exact ⟨by rw [up_o (by decide), up_k z]; exact y1, by rw [up_k z, up_o (by decide)]; exact y2⟩
  have l2 : ∀ (m i : Nat) (w' : Wd), i + m = 40 → BrI 51 p w w' 320 i 0 0 → V g LM jMd_bring d K 28 [(0, vA 0), (1, vA 51), (2, vI (p : Int)), (3, vI (i : Int))] [] w' := by
    intro m
    induction m with
    | zero =>
      intro i w' hi hS
      have : i = 40 := by omega
      subst this
      exact s_Md_bring_k_28 ⟨fun _ => l3 160 0 w' rfl hS, fun z => absurd (by decide) z⟩
    | succ m ih =>
      intro i w' hi hS
      refine s_Md_bring_k_28 ⟨fun z => absurd z (by omega), fun _ => ?_⟩
      have a1 : wr (wr ((p : Int) + 320) + (i : Int)) = ((p + (320 + i) : Nat) : Int) := e2 320 i (by omega)
      rw [a1, toN, toN, wr_n1 (by omega), hS.1 51 (by decide)]
      obtain ⟨f, s1, s2, s3, s4⟩ := hS
      have go : ∀ v : Int, v = (if w 51 (p + (320 + i)) = 1 then 1 else 0) → V g LM jMd_bring d K 28 [(0, vA 0), (1, vA 51), (2, vI (p : Int)), (3, vI ((i + 1 : Nat) : Int))] [] (up w' 42 i v) := by
        intro v hv
        refine ih (i + 1) _ (by omega) ⟨f.up (by decide), fun x hx => by rw [up_o (by decide)]; exact s1 x hx, fun x hx => ?_, fun x hx => by omega, fun x hx => by omega⟩
        by_cases z : x = i
        · subst z; rw [up_s]; exact hv
        · rw [up_k z]; exact s2 x (by omega)
      exact ⟨by omega, fun z => ⟨by omega, go 0 (by rw [if_neg z])⟩, fun z => ⟨by omega, go 1 (by rw [if_pos z])⟩⟩
  have l1 : ∀ (m i : Nat) (w' : Wd), i + m = 320 → BrI 51 p w w' i 0 0 0 → V g LM jMd_bring d K 2 [(0, vA 0), (1, vA 51), (2, vI (p : Int)), (3, vI (i : Int))] [] w' := by
    intro m
    induction m with
    | zero =>
      intro i w' hi hS
      have : i = 320 := by omega
      subst this
      exact s_Md_bring_k_2 ⟨fun _ => l2 40 0 w' rfl hS, fun z => absurd (by decide) z⟩
    | succ m ih =>
      intro i w' hi hS
      refine s_Md_bring_k_2 ⟨fun z => absurd z (by omega), fun _ => ?_⟩
      rw [wr_a (by omega), toN, toN, wr_n1 (by omega), hS.1 51 (by decide)]
      obtain ⟨f, s1, s2, s3, s4⟩ := hS
      refine ⟨by omega, by omega, ih (i + 1) _ (by omega) ⟨f.up (by decide), fun x hx => ?_, fun x hx => by omega, fun x hx => by omega, fun x hx => by omega⟩⟩
      by_cases z : x = i
      · subst z; rw [up_s]
      · rw [up_k z]; exact s1 x (by omega)
  exact Cal.ofV (by decide) rfl (Nat.le_of_ble_eq_true rfl) (s_Md_bring_k (l1 320 0 w rfl ⟨Fx.rf _ w, fun x hx => by omega, fun x hx => by omega, fun x hx => by omega, fun x hx => by omega⟩))
end MBring
