/-! ===== printAll: two cuts, whatever the word ===== -/
set_option maxHeartbeats 4000000 in
theorem p_54 {a0 : Nat} {g : Mg} {d : Nat} {K : Ou → Wd → Prop} {w : Wd} {x1_ : Int} {x2_ : Int} (h : Cal g LM jMd_showText d [vA 0, vA a0] w (fun o w1 => rVt o (fun b => K (.inr b) w1) ((0 ≤ x1_ ∧ x1_ < 30) ∧ (Cal g LM jMd_show d [vA 0, vI (w1 11 x1_.toNat)] w1 (fun o w2 => rVt o (fun b => K (.inr b) w2) ((¬ x2_ = 1 → ((x2_ = 0 → (V g LM jMd_printAll (d + 1) K 156 [(0, vA 0), (1, vI x1_)] [] w2)) ∧ (¬ x2_ = 0 → (Cal g LM jMd_showText d [vA 0, vA 1050] w2 (fun o w3 => rVt o (fun b => K (.inr b) w3) ((0 ≤ x1_ ∧ x1_ < 30) ∧ (Cal g LM jMd_show d [vA 0, vI (w3 14 x1_.toNat)] w3 (fun o w4 => rVt o (fun b => K (.inr b) w4) (V g LM jMd_printAll (d + 1) K 156 [(0, vA 0), (1, vI x1_)] [] w4))))))))) ∧ (x2_ = 1 → (Cal g LM jMd_showText d [vA 0, vA 1050] w2 (fun o w5 => rVt o (fun b => K (.inr b) w5) ((0 ≤ x1_ ∧ x1_ < 30) ∧ ((¬ (w5 12 x1_.toNat) = 0 → (V g LM jMd_printAll (d + 1) K 95 [(0, vA 0), (1, vI x1_)] [vA 1011, vA 0] w5)) ∧ ((w5 12 x1_.toNat) = 0 → (V g LM jMd_printAll (d + 1) K 95 [(0, vA 0), (1, vI x1_)] [vA 1010, vA 0] w5))))))))))))) : V g LM jMd_printAll (d + 1) K 54 [(0, vA 0), (1, vI x1_), (2, vI x2_)] [vA a0, vA 0] w := by
  refine v_callV (pc := 54) (J' := jMd_showText) (d' := d) (o := 0) (ci := 13) (N := 93) (T := cT13) (As := [vA a0]) d_Md_printAll_54 ml_Md_531 cM_0.1 cM_0.2 (by decide) rfl rfl (Nat.le_of_ble_eq_true rfl) (Nat.le_refl _) rfl (Cal.weak h (fun o w1 h => ?_))
  rcases rVt_of h with ⟨rfl, h⟩ | ⟨b, rfl, h⟩
  rotate_left
  · exact h
  refine v_aload_n (pc := 57) d_Md_printAll_57 rfl (.head _) ?_
  refine v_aload_n (pc := 58) d_Md_printAll_58 rfl (.head _) ?_
  refine v_getr (C := "") (pc := 59) (r := 11) d_Md_printAll_59 fl_Md_170 cM_0.1 cM_0.2 (Or.inr ⟨_, rfl⟩) rM_0_15 ?_
  refine v_iload_n (pc := 62) d_Md_printAll_62 rfl (.tail _ (.head _)) ?_
  refine v_iald (pc := 63) (x := (w1 11 x1_.toNat)) d_Md_printAll_63 cM_11.1 cM_11.2 rfl h.1 ?_
  replace h := h.2
  refine v_callV (pc := 64) (J' := jMd_show) (d' := d) (o := 0) (ci := 13) (N := 93) (T := cT13) (As := [vI (w1 11 x1_.toNat)]) d_Md_printAll_64 ml_Md_539 cM_0.1 cM_0.2 (by decide) rfl rfl (Nat.le_of_ble_eq_true rfl) (Nat.le_refl _) rfl (Cal.weak h (fun o w2 h => ?_))
  rcases rVt_of h with ⟨rfl, h⟩ | ⟨b, rfl, h⟩
  rotate_left
  · exact h
  refine v_iload_n (pc := 67) d_Md_printAll_67 rfl (.tail _ (.tail _ (.head _))) ?_
  refine v_iconst (pc := 68) d_Md_printAll_68 (by decide) ?_
  refine v_icmpne (pc := 69) (tgt := 136) d_Md_printAll_69 (by decide) (fun c => ?_) (fun c => ?_)
  · replace h := h.1 c
    refine v_iload_n (pc := 136) d_Md_printAll_136 rfl (.tail _ (.tail _ (.head _))) ?_
    refine v_ifeq (pc := 137) (tgt := 156) d_Md_printAll_137 (by decide) (fun c => ?_) (fun c => ?_)
    · replace h := h.1 c
      exact v_sub (List.forall_mem_cons.mpr ⟨(.head _), (List.forall_mem_cons.mpr ⟨(.tail _ (.head _)), (fun _ z => absurd z List.not_mem_nil)⟩)⟩) h
    · replace h := h.2 c
      refine v_aload_n (pc := 140) d_Md_printAll_140 rfl (.head _) ?_
      refine v_ldcs (pc := 141) (n := 49) (tx := ":") d_Md_printAll_141 (by decide +kernel) ?_
      refine v_callV (pc := 143) (J' := jMd_showText) (d' := d) (o := 0) (ci := 13) (N := 93) (T := cT13) (As := [vA 1050]) d_Md_printAll_143 ml_Md_531 cM_0.1 cM_0.2 (by decide) rfl rfl (Nat.le_of_ble_eq_true rfl) (Nat.le_refl _) rfl (Cal.weak h (fun o w3 h => ?_))
      rcases rVt_of h with ⟨rfl, h⟩ | ⟨b, rfl, h⟩
      rotate_left
      · exact h
      refine v_aload_n (pc := 146) d_Md_printAll_146 rfl (.head _) ?_
      refine v_aload_n (pc := 147) d_Md_printAll_147 rfl (.head _) ?_
      refine v_getr (C := "") (pc := 148) (r := 14) d_Md_printAll_148 fl_Md_179 cM_0.1 cM_0.2 (Or.inr ⟨_, rfl⟩) rM_0_18 ?_
      refine v_iload_n (pc := 151) d_Md_printAll_151 rfl (.tail _ (.head _)) ?_
      refine v_iald (pc := 152) (x := (w3 14 x1_.toNat)) d_Md_printAll_152 cM_14.1 cM_14.2 rfl h.1 ?_
      replace h := h.2
      refine v_callV (pc := 153) (J' := jMd_show) (d' := d) (o := 0) (ci := 13) (N := 93) (T := cT13) (As := [vI (w3 14 x1_.toNat)]) d_Md_printAll_153 ml_Md_539 cM_0.1 cM_0.2 (by decide) rfl rfl (Nat.le_of_ble_eq_true rfl) (Nat.le_refl _) rfl (Cal.weak h (fun o w4 h => ?_))
      rcases rVt_of h with ⟨rfl, h⟩ | ⟨b, rfl, h⟩
      rotate_left
      · exact h
      exact v_sub (List.forall_mem_cons.mpr ⟨(.head _), (List.forall_mem_cons.mpr ⟨(.tail _ (.head _)), (fun _ z => absurd z List.not_mem_nil)⟩)⟩) h
  · replace h := h.2 c
    refine v_aload_n (pc := 72) d_Md_printAll_72 rfl (.head _) ?_
    refine v_ldcs (pc := 73) (n := 49) (tx := ":") d_Md_printAll_73 (by decide +kernel) ?_
    refine v_callV (pc := 75) (J' := jMd_showText) (d' := d) (o := 0) (ci := 13) (N := 93) (T := cT13) (As := [vA 1050]) d_Md_printAll_75 ml_Md_531 cM_0.1 cM_0.2 (by decide) rfl rfl (Nat.le_of_ble_eq_true rfl) (Nat.le_refl _) rfl (Cal.weak h (fun o w5 h => ?_))
    rcases rVt_of h with ⟨rfl, h⟩ | ⟨b, rfl, h⟩
    rotate_left
    · exact h
    refine v_aload_n (pc := 78) d_Md_printAll_78 rfl (.head _) ?_
    refine v_aload_n (pc := 79) d_Md_printAll_79 rfl (.head _) ?_
    refine v_getr (C := "") (pc := 80) (r := 12) d_Md_printAll_80 fl_Md_173 cM_0.1 cM_0.2 (Or.inr ⟨_, rfl⟩) rM_0_16 ?_
    refine v_iload_n (pc := 83) d_Md_printAll_83 rfl (.tail _ (.head _)) ?_
    refine v_iald (pc := 84) (x := (w5 12 x1_.toNat)) d_Md_printAll_84 cM_12.1 cM_12.2 rfl h.1 ?_
    replace h := h.2
    refine v_ifne (pc := 85) (tgt := 93) d_Md_printAll_85 (by decide) (fun c => ?_) (fun c => ?_)
    · replace h := h.1 c
      refine v_ldcs (pc := 93) (n := 10) (tx := "bool") d_Md_printAll_93 (by decide +kernel) ?_
      exact v_sub (List.forall_mem_cons.mpr ⟨(.head _), (List.forall_mem_cons.mpr ⟨(.tail _ (.head _)), (fun _ z => absurd z List.not_mem_nil)⟩)⟩) h
    · replace h := h.2 c
      refine v_ldcs (pc := 88) (n := 9) (tx := "int") d_Md_printAll_88 (by decide +kernel) ?_
      refine v_goto (pc := 90) (tgt := 95) d_Md_printAll_90 (by decide) ?_
      exact v_sub (List.forall_mem_cons.mpr ⟨(.head _), (List.forall_mem_cons.mpr ⟨(.tail _ (.head _)), (fun _ z => absurd z List.not_mem_nil)⟩)⟩) h
set_option maxHeartbeats 4000000 in
theorem p_95 {a0 : Nat} {g : Mg} {d : Nat} {K : Ou → Wd → Prop} {w : Wd} {x1_ : Int} (h : Cal g LM jMd_showText d [vA 0, vA a0] w (fun o w1 => rVt o (fun b => K (.inr b) w1) (Cal g LM jMd_showText d [vA 0, vA 1051] w1 (fun o w2 => rVt o (fun b => K (.inr b) w2) ((0 ≤ x1_ ∧ x1_ < 30) ∧ (((w2 15 x1_.toNat) < 0 → (V g LM jMd_printAll (d + 1) K 123 [(0, vA 0), (1, vI x1_)] [] w2)) ∧ (¬ (w2 15 x1_.toNat) < 0 → ((0 ≤ x1_ ∧ x1_ < 30) ∧ (Cal g LM jMd_show d [vA 0, vI (w2 15 x1_.toNat)] w2 (fun o w3 => rVt o (fun b => K (.inr b) w3) (V g LM jMd_printAll (d + 1) K 123 [(0, vA 0), (1, vI x1_)] [] w3))))))))))) : V g LM jMd_printAll (d + 1) K 95 [(0, vA 0), (1, vI x1_)] [vA a0, vA 0] w := by
  refine v_callV (pc := 95) (J' := jMd_showText) (d' := d) (o := 0) (ci := 13) (N := 93) (T := cT13) (As := [vA a0]) d_Md_printAll_95 ml_Md_531 cM_0.1 cM_0.2 (by decide) rfl rfl (Nat.le_of_ble_eq_true rfl) (Nat.le_refl _) rfl (Cal.weak h (fun o w1 h => ?_))
  rcases rVt_of h with ⟨rfl, h⟩ | ⟨b, rfl, h⟩
  rotate_left
  · exact h
  refine v_aload_n (pc := 98) d_Md_printAll_98 rfl (.head _) ?_
  refine v_ldcs (pc := 99) (n := 50) (tx := "=") d_Md_printAll_99 (by decide +kernel) ?_
  refine v_callV (pc := 101) (J' := jMd_showText) (d' := d) (o := 0) (ci := 13) (N := 93) (T := cT13) (As := [vA 1051]) d_Md_printAll_101 ml_Md_531 cM_0.1 cM_0.2 (by decide) rfl rfl (Nat.le_of_ble_eq_true rfl) (Nat.le_refl _) rfl (Cal.weak h (fun o w2 h => ?_))
  rcases rVt_of h with ⟨rfl, h⟩ | ⟨b, rfl, h⟩
  rotate_left
  · exact h
  refine v_aload_n (pc := 104) d_Md_printAll_104 rfl (.head _) ?_
  refine v_getr (C := "") (pc := 105) (r := 15) d_Md_printAll_105 fl_Md_182 cM_0.1 cM_0.2 (Or.inr ⟨_, rfl⟩) rM_0_19 ?_
  refine v_iload_n (pc := 108) d_Md_printAll_108 rfl (.tail _ (.head _)) ?_
  refine v_iald (pc := 109) (x := (w2 15 x1_.toNat)) d_Md_printAll_109 cM_15.1 cM_15.2 rfl h.1 ?_
  replace h := h.2
  refine v_iflt (pc := 110) (tgt := 123) d_Md_printAll_110 (by decide) (fun c => ?_) (fun c => ?_)
  · replace h := h.1 c
    exact v_sub (List.forall_mem_cons.mpr ⟨(.head _), (List.forall_mem_cons.mpr ⟨(.tail _ (.head _)), (fun _ z => absurd z List.not_mem_nil)⟩)⟩) h
  · replace h := h.2 c
    refine v_aload_n (pc := 113) d_Md_printAll_113 rfl (.head _) ?_
    refine v_aload_n (pc := 114) d_Md_printAll_114 rfl (.head _) ?_
    refine v_getr (C := "") (pc := 115) (r := 15) d_Md_printAll_115 fl_Md_182 cM_0.1 cM_0.2 (Or.inr ⟨_, rfl⟩) rM_0_19 ?_
    refine v_iload_n (pc := 118) d_Md_printAll_118 rfl (.tail _ (.head _)) ?_
    refine v_iald (pc := 119) (x := (w2 15 x1_.toNat)) d_Md_printAll_119 cM_15.1 cM_15.2 rfl h.1 ?_
    replace h := h.2
    refine v_callV (pc := 120) (J' := jMd_show) (d' := d) (o := 0) (ci := 13) (N := 93) (T := cT13) (As := [vI (w2 15 x1_.toNat)]) d_Md_printAll_120 ml_Md_539 cM_0.1 cM_0.2 (by decide) rfl rfl (Nat.le_of_ble_eq_true rfl) (Nat.le_refl _) rfl (Cal.weak h (fun o w3 h => ?_))
    rcases rVt_of h with ⟨rfl, h⟩ | ⟨b, rfl, h⟩
    rotate_left
    · exact h
    exact v_sub (List.forall_mem_cons.mpr ⟨(.head _), (List.forall_mem_cons.mpr ⟨(.tail _ (.head _)), (fun _ z => absurd z List.not_mem_nil)⟩)⟩) h
