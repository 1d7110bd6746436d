/-! ===== the model: oneTurn(), hasEnded() ===== -/
section TurnM3
variable {g : Mg} {d : Nat} {T : Nat → Int} {L m : Nat} {n na s lo kq : Nat} {K : Ou → Wd → Prop} {w : Wd} {a : Tr} {E : List En} {D : DE} {F : Nat → PE SS} {act : Nat → Bool} {Xf : Nat → Xv}
theorem XMd.bg {X : Xv} {v : Nat} {w5 : Wd} (h : XMd T L m X D (up w 0 86 (v : Int)) v na) (hb : BgM w w5) : XMd T L m X D (up w5 0 86 (v : Int)) v na := by
  refine h.cgx (fun o ho => ?_) (fun b ho => ?_)
  · rw [up_o (by omega), up_o (by omega)]
    exact hb.1 o (by simp; omega)
  · by_cases z : b = 86
    · subst z; rw [up_s, up_s]
    · rw [up_k z, up_k z]; exact hb.2.1 b (by omega)
theorem BkM.bg {w5 : Wd} (h : BkM T L m a E w s lo) (hb : BgM w w5) : BkM T L m a E w5 s lo := by
  obtain ⟨b1, b2, b3, b4, b5, b6, b7, b8, b9, b10, b11⟩ := h
  have hc : ∀ o, 17 ≤ o → o ≤ 33 → w5 o = w o := fun o p q => hb.1 o (by simp; omega)
  exact ⟨b1, b2, b3, b4, b5, b6, b7, b8, b9, SR.cgA a s lo b2 b10 (fun x _ _ o p q => by rw [hc o (by omega) (by omega)]) (fun x _ _ o p q => by rw [hc o (by omega) (by omega)]), JS.congr a E s lo b2 b11 (fun x p q => by rw [hc 24 (by decide) (by decide)]) (fun x p q => ⟨by rw [hc 32 (by decide) (by decide)], by rw [hc 33 (by decide) (by decide)]⟩)⟩
theorem sp_oneTurnM (hL : L ≤ 4000) (hd : nE a + 41 ≤ d) (hn : n ≤ 40) (hk : kq ≤ 6) (h59 : w 0 59 = (n : Int)) (h78 : w 0 78 = (kq : Int)) (hX : ∀ v : Nat, v < n → XMd T L m (Xf v) D (up w 0 86 (v : Int)) v na) (hXb : ∀ v, v < n → ∀ i, i < na → (0 ≤ Xf v 5 i ∧ Xf v 5 i < 40) ∧ (0 ≤ Xf v 6 i ∧ Xf v 6 i < 40)) (hB : BkM T L m a E w s lo) (hbk : if w 0 66 = 0 then w 0 41 = bf_ a s else w 0 42 = bf_ a s) (hE : EV E) (hF : NFs D E) (hc4 : cntE 4 E = 0) (hc1 : cntE 1 E ≤ 8) (hTy : ∀ v, v < n → TyX E (fun k => w 41 (8 * v + k)) (fun _ => 0) (Xf v)) (hact : ∀ v, v < n → act v = decide (w 42 v = 0 ∨ wkB (w 43) v)) (hFv : ∀ v, v < n → ∀ lets, RQ E (rns T L (Xf v) true a E 0 (0, 0, (fun k => w 41 (8 * v + k)), lets, [], false)) (F v))
    (hok : ∀ w5 w' w'', BgM w w5 → TnM D (cntE 1 E) F act w5 w' n → EdM kq w' w'' → K (.inl (some (vI 1))) w'')
    (her : ∀ v e w5 w', v < n → act v = true → F v = .error e → (∀ u, u < v → act u = true → ∃ σ, F u = .ok σ) → BgM w w5 → FTn w5 w' → ∀ w3, BrI 52 0 (up (up (up (up w' 0 80 (e.1 : Int)) 0 81 (v : Int)) 0 82 (e.2 : Int)) 0 83 (w 0 66)) w3 320 40 160 4 → K (.inl (some (vI 0))) w3) : Cal g LM jMd_oneTurn d [vA 0] w K := by
  obtain ⟨d, rfl⟩ : ∃ d', d = d' + 1 := ⟨d - 1, by omega⟩
  refine Cal.ofV (by decide) rfl (Nat.le_of_ble_eq_true rfl) (turn_bg (fun w5 hb => ?_))
  have e0 : ∀ b, b ≠ 84 → w5 0 b = w 0 b := hb.2.1
  have e41 : w5 41 = w 41 := hb.1 41 (by decide)
  have e42 : w5 42 = w 42 := hb.1 42 (by decide)
  have e43 : w5 43 = w 43 := hb.1 43 (by decide)
  refine mturn_loop (Xf := Xf) hL (by omega) hn (by rw [e0 59 (by decide)]; exact h59) (fun v hv => (hX v hv).bg hb) hXb (hB.bg hb) (by rw [e0 66 (by decide), e0 41 (by decide), e0 42 (by decide)]; exact hbk) hE hF hc4 hc1 (by rw [e41]; exact hTy) (by rw [e42, e43]; exact hact) (by rw [e41]; exact hFv) (fun w' hT => turn_ed hk (by rw [hT.1.2 78 (by decide), e0 78 (by decide)]; exact h78) (fun w'' hE => hok w5 w' w'' hb hT hE)) (fun v e w' h1 h2 h3 h4 h5 w3 h6 => her v e w5 w' h1 h2 h3 h4 hb h5 w3 (by rw [← e0 66 (by decide)]; exact h6)) n 0 w5 (by omega) ⟨⟨Fx.rf _ _, fun _ _ => rfl⟩, fun v hv => by omega, fun v _ => ⟨fun _ _ => rfl, rfl⟩, fun o _ _ => rfl, hb.2.2.1, Nat.zero_le _⟩
/-- sums -/
def smI (C : Nat → Int) : Nat → Int
  | 0 => 0
  | i + 1 => smI C i + C i
theorem smI_b {C : Nat → Int} {B : Int} (hB : 0 ≤ B) (h : ∀ i, i < 160 → 0 ≤ C i ∧ C i ≤ B) : ∀ i, i ≤ 160 → 0 ≤ smI C i ∧ smI C i ≤ B * i
  | 0, _ => by simp [smI]
  | i + 1, hi => by
    have := smI_b hB h i (by omega)
    have h2 := h i (by omega)
    rw [smI]
    have e : B * ((i + 1 : Nat) : Int) = B * i + B := by rw [Int.natCast_add, Int.mul_add]; simp
    rw [e]
    omega
theorem sp_underWayM (hn : n ≤ 40) (h59 : w 0 59 = (n : Int)) (hC : ∀ i, i < 160 → 0 ≤ w 43 i ∧ w 43 i ≤ 1000000) (h : K (.inl (some (vI (smI (w 43) (4 * n))))) w) : Cal g LM jMd_underWay d [vA 0] w K := by
  have e4 : wr (4 * w 0 59) = ((4 * n : Nat) : Int) := by rw [h59, wr_id (by unfold inI; omega)]; omega
  have lp : ∀ (f i : Nat), i + f = 4 * n → V g LM jMd_underWay d K 4 [(0, vA 0), (1, vI (smI (w 43) i)), (2, vI (i : Int))] [] w := by
    intro f
    induction f with
    | zero =>
      intro i hi
      have : i = 4 * n := by omega
      subst this
      exact s_Md_underWay_4 ⟨fun _ => h, fun z => absurd (by rw [e4]; exact Int.le_refl _) z⟩
    | succ f ih =>
      intro i hi
      have hgo := ih (i + 1) (by omega)
      rw [smI] at hgo
      have hb := smI_b (C := w 43) (B := 1000000) (by decide) hC i (by omega)
      have hb2 := hC i (by omega)
      refine s_Md_underWay_4 ⟨fun z => absurd z (by rw [e4]; omega), fun _ => ⟨by omega, ?_⟩⟩
      rw [toN, wr_n1 (by omega), wr_id (by unfold inI; omega)]
      exact hgo
  exact Cal.ofV (by decide) rfl (Nat.le_of_ble_eq_true rfl) (s_Md_underWay (lp (4 * n) 0 (by omega)))
theorem sp_haltedCountM (hn : n ≤ 40) (h59 : w 0 59 = (n : Int)) (h : K (.inl (some (vI ((rsN (w 42) n : Nat) : Int)))) w) : Cal g LM jMd_haltedCount d [vA 0] w K := by
  have lp : ∀ (f i : Nat), i + f = n → V g LM jMd_haltedCount d K 4 [(0, vA 0), (1, vI ((rsN (w 42) i : Nat) : Int)), (2, vI (i : Int))] [] w := by
    intro f
    induction f with
    | zero =>
      intro i hi
      have : i = n := by omega
      subst this
      exact s_Md_haltedCount_4 ⟨fun _ => h, fun z => absurd (by rw [h59]; exact Int.le_refl _) z⟩
    | succ f ih =>
      intro i hi
      have hle := rsN_le (w 42) i
      have hgo := ih (i + 1) (by omega)
      rw [rsN] at hgo
      refine s_Md_haltedCount_4 ⟨fun z => absurd z (by rw [h59]; omega), fun _ => ⟨by omega, fun z => ?_, fun z => ?_⟩⟩
      · rw [toN] at z
        rw [if_pos z] at hgo
        rw [wr_n1 (by omega), Int.add_zero, wr_id (by unfold inI; omega)]
        exact hgo
      · rw [toN] at z
        rw [if_neg z] at hgo
        rw [wr_n1 (by omega), wr_n1 (by omega)]
        exact hgo
  exact Cal.ofV (by decide) rfl (Nat.le_of_ble_eq_true rfl) (s_Md_haltedCount (lp n 0 (by omega)))
end TurnM3
