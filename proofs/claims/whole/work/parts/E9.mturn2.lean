/-! ===== the model: the beginning and the end of a TURN ===== -/
/-- as a TURN begins -/
def BgM (w w5 : Wd) : Prop := Fx [0, 47, 48, 49, 50, 52] w w5 ∧ (∀ b, b ≠ 84 → w5 0 b = w 0 b) ∧ w5 0 84 = 0 ∧ (∀ i, i < 160 → w5 47 i = 0 ∧ w5 48 i = 0) ∧ (∀ k, k < 4 → w5 49 k = 0 ∧ w5 50 k = 0) ∧ ∀ x, x < 688 → w5 52 x = svF w x
/-- as a TURN ends: kq rows were kept -/
def EdM (kq : Nat) (w w' : Wd) : Prop := Fx [0, 43, 44, 45, 46, 51] w w' ∧ (∀ b, b ≠ 66 → b ≠ 78 → b ≠ 85 → w' 0 b = w 0 b) ∧ w' 0 66 = wr (w 0 66 + 1) ∧ w' 0 85 = w 0 84 ∧ w' 0 78 = (((if kq = 6 then 6 else kq + 1) : Nat) : Int) ∧ (∀ i, i < 160 → w' 43 i = w 47 i ∧ w' 44 i = w 48 i) ∧ (∀ k, k < 4 → w' 45 k = w 49 k ∧ w' 46 k = w 50 k) ∧ (∀ x, x < 700 → w' 51 (700 * (if kq = 6 then 5 else kq) + x) = w 52 x) ∧ ∀ y, y < 700 * (if kq = 6 then 5 else kq) → w' 51 y = w 51 (if kq = 6 then y + 700 else y)
section TurnM2
variable {g : Mg} {d : Nat} {K : Ou → Wd → Prop} {w : Wd}
theorem turn_bg (h : ∀ w5, BgM w w5 → V g LM jMd_oneTurn (d + 1) K 72 [(0, vA 0), (1, vI 0)] [] w5) : V g LM jMd_oneTurn (d + 1) K 0 [(0, vA 0)] [] w := by
  refine s_Md_oneTurn (sp_saveM (fun w1 f1 s1 => ?_))
  have l2 : ∀ (m i : Nat) (w' : Wd), i + m = 4 → Fx [47, 48, 49, 50, 52] w w' → (∀ i, i < 160 → w' 47 i = 0 ∧ w' 48 i = 0) → (∀ k, k < i → w' 49 k = 0 ∧ w' 50 k = 0) → (∀ x, x < 688 → w' 52 x = svF w x) → V g LM jMd_oneTurn (d + 1) K 40 [(0, vA 0), (1, vI (i : Int))] [] w' := by
    intro m
    induction m with
    | zero =>
      intro i w' hi f a1 a2 a3
      have : i = 4 := by omega
      subst this
      refine s_Md_oneTurn_40 ⟨fun _ => h _ ⟨(f.mono (by decide)).up (by decide), fun b hb => by rw [up_k hb, f 0 (by decide)], up_s _ _ _ _, fun i hi => by rw [up_o (by decide), up_o (by decide)]; exact a1 i hi, fun k hk => by rw [up_o (by decide), up_o (by decide)]; exact a2 k hk, fun x hx => by rw [up_o (by decide)]; exact a3 x hx⟩, fun z => absurd (by decide) z⟩
    | succ m ih =>
      intro i w' hi f a1 a2 a3
      refine s_Md_oneTurn_40 ⟨fun z => absurd z (by omega), fun _ => ?_⟩
      rw [toN, wr_n1 (by omega)]
      refine ⟨by omega, by omega, ih (i + 1) _ (by omega) ((f.up (by decide)).up (by decide)) (fun x hx => by rw [up_o (by decide), up_o (by decide), up_o (by decide), up_o (by decide)]; exact a1 x hx) (fun k hk => ?_) (fun x hx => by rw [up_o (by decide), up_o (by decide)]; exact a3 x hx)⟩
      by_cases z : k = i
      · subst z; exact ⟨by rw [up_o (by decide), up_s], by rw [up_s]⟩
      · obtain ⟨y1, y2⟩ := a2 k (by omega)
        exact ⟨by rw [up_o (by decide), up_k z]; exact y1, by rw [up_k z, up_o (by decide)]; exact y2⟩
  have l1 : ∀ (m i : Nat) (w' : Wd), i + m = 160 → Fx [47, 48, 52] w w' → (∀ x, x < i → w' 47 x = 0 ∧ w' 48 x = 0) → (∀ x, x < 688 → w' 52 x = svF w x) → V g LM jMd_oneTurn (d + 1) K 11 [(0, vA 0), (1, vI (i : Int))] [] w' := by
    intro m
    induction m with
    | zero =>
      intro i w' hi f a1 a3
      have : i = 160 := by omega
      subst this
      exact s_Md_oneTurn_11 ⟨fun _ => l2 4 0 w' rfl (f.mono (by decide)) a1 (fun k hk => by omega) a3, fun z => absurd (by decide) z⟩
    | succ m ih =>
      intro i w' hi f a1 a3
      refine s_Md_oneTurn_11 ⟨fun z => absurd z (by omega), fun _ => ?_⟩
      rw [toN, wr_n1 (by omega)]
      refine ⟨by omega, by omega, ih (i + 1) _ (by omega) ((f.up (by decide)).up (by decide)) (fun k hk => ?_) (fun x hx => by rw [up_o (by decide), up_o (by decide)]; exact a3 x hx)⟩
      by_cases z : k = i
      · subst z; exact ⟨by rw [up_o (by decide), up_s], by rw [up_s]⟩
      · obtain ⟨y1, y2⟩ := a1 k (by omega)
        exact ⟨by rw [up_o (by decide), up_k z]; exact y1, by rw [up_k z, up_o (by decide)]; exact y2⟩
  exact l1 160 0 w1 rfl (f1.mono (by decide)) (fun x hx => by omega) s1
theorem wr_700 {k x : Nat} (hk : k < 6) (hx : x < 700) : wr (wr (700 * (k : Int)) + (x : Int)) = ((700 * k + x : Nat) : Int) := by
  rw [wr_id (x := 700 * (k : Int)) (by unfold inI; omega), wr_id (by unfold inI; omega)]
  omega
/-- behind the shift: r rows are kept -/
theorem turn_ed1 {r : Nat} (hr : r < 6) (h78 : w 0 78 = (r : Int)) (h : ∀ w', Fx [0, 43, 44, 45, 46, 51] w w' → (∀ b, b ≠ 66 → b ≠ 78 → b ≠ 85 → w' 0 b = w 0 b) → w' 0 66 = wr (w 0 66 + 1) → w' 0 85 = w 0 84 → w' 0 78 = ((r + 1 : Nat) : Int) → (∀ i, i < 160 → w' 43 i = w 47 i ∧ w' 44 i = w 48 i) → (∀ k, k < 4 → w' 45 k = w 49 k ∧ w' 46 k = w 50 k) → (∀ x, x < 700 → w' 51 (700 * r + x) = w 52 x) → (∀ y, y < 700 * r → w' 51 y = w 51 y) → K (.inl (some (vI 1))) w') : V g LM jMd_oneTurn (d + 1) K 296 [(0, vA 0)] [] w := by
  have l3 : ∀ (m i : Nat) (w' : Wd), i + m = 4 → Fx [0, 43, 44, 45, 46, 51] w w' → (∀ b, b ≠ 78 → w' 0 b = w 0 b) → w' 0 78 = ((r + 1 : Nat) : Int) → (∀ i, i < 160 → w' 43 i = w 47 i ∧ w' 44 i = w 48 i) → (∀ k, k < i → w' 45 k = w 49 k ∧ w' 46 k = w 50 k) → (∀ x, x < 700 → w' 51 (700 * r + x) = w 52 x) → (∀ y, y < 700 * r → w' 51 y = w 51 y) → V g LM jMd_oneTurn (d + 1) K 383 [(0, vA 0), (1, vI (i : Int))] [] w' := by
    intro m
    induction m with
    | zero =>
      intro i w' hi f a0 a1 a2 a3 a4 a5
      have : i = 4 := by omega
      subst this
      refine s_Md_oneTurn_383 ⟨fun _ => ?_, fun z => absurd (by decide) z⟩
      refine h _ ((f.up (by decide)).up (by decide)) (fun b b1 b2 b3 => by rw [up_k b1, up_k b3]; exact a0 b b2) (by rw [up_s, a0 66 (by decide)]) (by rw [up_k (by decide), up_s, a0 84 (by decide)]) (by rw [up_k (by decide), up_k (by decide)]; exact a1) (fun i hi => by rw [up_o (by decide), up_o (by decide), up_o (by decide), up_o (by decide)]; exact a2 i hi) (fun k hk => by rw [up_o (by decide), up_o (by decide), up_o (by decide), up_o (by decide)]; exact a3 k hk) (fun x hx => by rw [up_o (by decide), up_o (by decide)]; exact a4 x hx) (fun y hy => by rw [up_o (by decide), up_o (by decide)]; exact a5 y hy)
    | succ m ih =>
      intro i w' hi f a0 a1 a2 a3 a4 a5
      refine s_Md_oneTurn_383 ⟨fun z => absurd z (by omega), fun _ => ?_⟩
      rw [toN, wr_n1 (by omega), f 49 (by decide), f 50 (by decide)]
      refine ⟨by omega, by omega, by omega, by omega, ih (i + 1) _ (by omega) ((f.up (by decide)).up (by decide)) (fun b hb => by rw [up_o (by decide), up_o (by decide)]; exact a0 b hb) (by rw [up_o (by decide), up_o (by decide)]; exact a1) (fun x hx => by rw [up_o (by decide), up_o (by decide), up_o (by decide), up_o (by decide)]; exact a2 x hx) (fun k hk => ?_) (fun x hx => by rw [up_o (by decide), up_o (by decide)]; exact a4 x hx) (fun y hy => by rw [up_o (by decide), up_o (by decide)]; exact a5 y hy)⟩
      by_cases z : k = i
      · subst z; exact ⟨by rw [up_o (by decide), up_s], by rw [up_s]⟩
      · obtain ⟨y1, y2⟩ := a3 k (by omega)
        exact ⟨by rw [up_o (by decide), up_k z]; exact y1, by rw [up_k z, up_o (by decide)]; exact y2⟩
  have l2 : ∀ (m i : Nat) (w' : Wd), i + m = 160 → Fx [0, 43, 44, 51] w w' → (∀ b, b ≠ 78 → w' 0 b = w 0 b) → w' 0 78 = ((r + 1 : Nat) : Int) → (∀ x, x < i → w' 43 x = w 47 x ∧ w' 44 x = w 48 x) → (∀ x, x < 700 → w' 51 (700 * r + x) = w 52 x) → (∀ y, y < 700 * r → w' 51 y = w 51 y) → V g LM jMd_oneTurn (d + 1) K 344 [(0, vA 0), (1, vI (i : Int))] [] w' := by
    intro m
    induction m with
    | zero =>
      intro i w' hi f a0 a1 a2 a4 a5
      have : i = 160 := by omega
      subst this
      exact s_Md_oneTurn_344 ⟨fun _ => l3 4 0 w' rfl (f.mono (by decide)) a0 a1 a2 (fun k hk => by omega) a4 a5, fun z => absurd (by decide) z⟩
    | succ m ih =>
      intro i w' hi f a0 a1 a2 a4 a5
      refine s_Md_oneTurn_344 ⟨fun z => absurd z (by omega), fun _ => ?_⟩
      rw [toN, wr_n1 (by omega), f 47 (by decide), f 48 (by decide)]
      refine ⟨by omega, by omega, by omega, by omega, ih (i + 1) _ (by omega) ((f.up (by decide)).up (by decide)) (fun b hb => by rw [up_o (by decide), up_o (by decide)]; exact a0 b hb) (by rw [up_o (by decide), up_o (by decide)]; exact a1) (fun k hk => ?_) (fun x hx => by rw [up_o (by decide), up_o (by decide)]; exact a4 x hx) (fun y hy => by rw [up_o (by decide), up_o (by decide)]; exact a5 y hy)⟩
      by_cases z : k = i
      · subst z; exact ⟨by rw [up_o (by decide), up_s], by rw [up_s]⟩
      · obtain ⟨y1, y2⟩ := a2 k (by omega)
        exact ⟨by rw [up_o (by decide), up_k z]; exact y1, by rw [up_k z, up_o (by decide)]; exact y2⟩
  have l1 : ∀ (m i : Nat) (w' : Wd), i + m = 700 → Fx [51] w w' → (∀ x, x < i → w' 51 (700 * r + x) = w 52 x) → (∀ y, y < 700 * r → w' 51 y = w 51 y) → V g LM jMd_oneTurn (d + 1) K 298 [(0, vA 0), (1, vI (i : Int))] [] w' := by
    intro m
    induction m with
    | zero =>
      intro i w' hi f a4 a5
      have : i = 700 := by omega
      subst this
      have e78 : w' 0 78 = (r : Int) := by rw [f 0 (by decide)]; exact h78
      refine s_Md_oneTurn_298 ⟨fun _ => ?_, fun z => absurd (by decide) z⟩
      rw [e78, wr_n1 (by omega)]
      exact l2 160 0 _ rfl ((f.mono (by decide)).up (by decide)) (fun b hb => by rw [up_k hb, f 0 (by decide)]) (up_s _ _ _ _) (fun x hx => by omega) (fun x hx => by rw [up_o (by decide)]; exact a4 x hx) (fun y hy => by rw [up_o (by decide)]; exact a5 y hy)
    | succ m ih =>
      intro i w' hi f a4 a5
      have e78 : w' 0 78 = (r : Int) := by rw [f 0 (by decide)]; exact h78
      refine s_Md_oneTurn_298 ⟨fun z => absurd z (by omega), fun _ => ?_⟩
      rw [e78, wr_700 hr (by omega), toN, toN, wr_n1 (by omega), f 52 (by decide)]
      refine ⟨by omega, by omega, ih (i + 1) _ (by omega) (f.up (by decide)) (fun x hx => ?_) (fun y hy => by rw [up_k (by omega)]; exact a5 y hy)⟩
      by_cases z : x = i
      · subst z; rw [up_s]
      · rw [up_k (by omega)]; exact a4 x (by omega)
  exact s_Md_oneTurn_296 (l1 700 0 w rfl (Fx.rf _ w) (fun x hx => by omega) (fun y hy => rfl))
theorem turn_ed {kq : Nat} (hk : kq ≤ 6) (h78 : w 0 78 = (kq : Int)) (h : ∀ w', EdM kq w w' → K (.inl (some (vI 1))) w') : (¬ w 0 78 = 6 → V g LM jMd_oneTurn (d + 1) K 296 [(0, vA 0)] [] w) ∧ (w 0 78 = 6 → V g LM jMd_oneTurn (d + 1) K 257 [(0, vA 0), (1, vI 0)] [] w) := by
  refine ⟨fun z => turn_ed1 (r := kq) (by omega) h78 (fun w' c1 c2 c3 c4 c5 c6 c7 c8 c9 => h w' ?_), fun z => ?_⟩
  · have : ¬ kq = 6 := by omega
    refine ⟨c1, c2, c3, c4, by rw [if_neg this]; exact c5, c6, c7, by rw [if_neg this]; exact c8, fun y hy => ?_⟩
    rw [if_neg this] at hy ⊢
    exact c9 y hy
  · have h6 : kq = 6 := by omega
    subst h6
    have lp : ∀ (m i : Nat) (w' : Wd), i + m = 3500 → Fx [51] w w' → (∀ y, y < i → w' 51 y = w 51 (y + 700)) → (∀ y, i ≤ y → w' 51 y = w 51 y) → V g LM jMd_oneTurn (d + 1) K 257 [(0, vA 0), (1, vI (i : Int))] [] w' := by
      intro m
      induction m with
      | zero =>
        intro i w' hi f a1 a2
        have : i = 3500 := by omega
        subst this
        have e78 : w' 0 78 = 6 := by rw [f 0 (by decide)]; exact h78
        refine s_Md_oneTurn_257 ⟨fun _ => ?_, fun z => absurd (by decide) z⟩
        rw [e78, show wr ((6 : Int) - 1) = 5 from rfl]
        refine turn_ed1 (r := 5) (by decide) (up_s _ _ _ _) (fun w2 c1 c2 c3 c4 c5 c6 c7 c8 c9 => h w2 ?_)
        have g0 : ∀ o, o ≠ 0 → o ≠ 51 → up w' 0 78 5 o = w o := fun o p q => by rw [up_o p]; exact f o (by simp [q])
        have g1 : ∀ b, b ≠ 78 → up w' 0 78 5 0 b = w 0 b := fun b p => by rw [up_k p, f 0 (by decide)]
        refine ⟨(((f.mono (by decide)).up (by decide))).tr c1, fun b b1 b2 b3 => by rw [c2 b b1 b2 b3, g1 b b2], by rw [c3, g1 66 (by decide)], by rw [c4, g1 84 (by decide)], by rw [if_pos rfl]; exact c5, ?_, ?_, ?_, ?_⟩
        · rw [g0 47 (by decide) (by decide), g0 48 (by decide) (by decide)] at c6; exact c6
        · rw [g0 49 (by decide) (by decide), g0 50 (by decide) (by decide)] at c7; exact c7
        · rw [g0 52 (by decide) (by decide)] at c8; rw [if_pos rfl]; exact c8
        · rw [if_pos rfl]
          intro y hy
          rw [if_pos rfl, c9 y hy, up_o (by decide)]
          exact a1 y hy
      | succ m ih =>
        intro i w' hi f a1 a2
        refine s_Md_oneTurn_257 ⟨fun z => absurd z (by omega), fun _ => ?_⟩
        have e : wr ((i : Int) + 700) = ((i + 700 : Nat) : Int) := wr_a (p := i) (i := 700) (by omega)
        rw [e, toN, toN, wr_n1 (by omega), a2 (i + 700) (by omega)]
        refine ⟨by omega, by omega, ih (i + 1) _ (by omega) (f.up (by decide)) (fun y hy => ?_) (fun y hy => by rw [up_k (by omega)]; exact a2 y (by omega))⟩
        by_cases q : y = i
        · subst q; rw [up_s]
        · rw [up_k q]; exact a1 y (by omega)
    exact lp 3500 0 w rfl (Fx.rf _ w) (fun y hy => by omega) (fun y _ => rfl)
end TurnM2
