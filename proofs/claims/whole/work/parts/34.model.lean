theorem d_Md_step_0 : decode jMd_step.cc 0 = .ok (.aload_n 0, 1) := by decide +kernel
theorem d_Md_step_1 : decode jMd_step.cc 1 = .ok (.dup, 1) := by decide +kernel
theorem d_Md_step_2 : decode jMd_step.cc 2 = .ok (.getfield 585, 3) := by decide +kernel
theorem d_Md_step_5 : decode jMd_step.cc 5 = .ok (.iconst 1, 1) := by decide +kernel
theorem d_Md_step_6 : decode jMd_step.cc 6 = .ok (.iadd, 1) := by decide +kernel
theorem d_Md_step_7 : decode jMd_step.cc 7 = .ok (.putfield 585, 3) := by decide +kernel
theorem d_Md_step_10 : decode jMd_step.cc 10 = .ok (.aload_n 0, 1) := by decide +kernel
theorem d_Md_step_11 : decode jMd_step.cc 11 = .ok (.getfield 585, 3) := by decide +kernel
theorem d_Md_step_14 : decode jMd_step.cc 14 = .ok (.sipush 1000, 3) := by decide +kernel
theorem d_Md_step_17 : decode jMd_step.cc 17 = .ok (.if_icmp .le 21, 3) := by decide +kernel
theorem d_Md_step_20 : decode jMd_step.cc 20 = .ok (.aload_n 0, 1) := by decide +kernel
theorem d_Md_step_21 : decode jMd_step.cc 21 = .ok (.iconst 3, 1) := by decide +kernel
theorem d_Md_step_22 : decode jMd_step.cc 22 = .ok (.aload_n 0, 1) := by decide +kernel
theorem d_Md_step_23 : decode jMd_step.cc 23 = .ok (.aload_n 0, 1) := by decide +kernel
theorem d_Md_step_24 : decode jMd_step.cc 24 = .ok (.getfield 191, 3) := by decide +kernel
theorem d_Md_step_27 : decode jMd_step.cc 27 = .ok (.aload_n 0, 1) := by decide +kernel
theorem d_Md_step_28 : decode jMd_step.cc 28 = .ok (.getfield 588, 3) := by decide +kernel
theorem d_Md_step_31 : decode jMd_step.cc 31 = .ok (.iaload, 1) := by decide +kernel
theorem d_Md_step_32 : decode jMd_step.cc 32 = .ok (.invokevirtual 366, 3) := by decide +kernel
theorem d_Md_step_35 : decode jMd_step.cc 35 = .ok (.invokevirtual 370, 3) := by decide +kernel
theorem d_Md_step_38 : decode jMd_step.cc 38 = .ok (.return_, 1) := by decide +kernel
set_option maxHeartbeats 4000000 in
theorem s_Md_step {g : Mg} {d : Nat} {K : Ou → Wd → Prop} {w : Wd} (h : ((wr ((w 0 87) + 1)) ≤ 1000 → (K (.inl none) (up w 0 87 (wr ((w 0 87) + 1))))) ∧ (¬ (wr ((w 0 87) + 1)) ≤ 1000 → ((0 ≤ (w 0 91) ∧ (w 0 91) < 130) ∧ (Cal g LM jMd_placeOf d [vA 0, vI (w 18 ((w 0 91).toNat))] (up w 0 87 (wr ((w 0 87) + 1))) (fun o w1 => rIt o (fun b => K (.inr b) w1) (fun x2 => Cal g LM jMd_fail d [vA 0, vI 3, vI x2] w1 (fun o w3 => rVt o (fun b => K (.inr b) w3) (K (.inl none) w3)))))))) : V g LM jMd_step (d + 1) K 0 [(0, vA 0)] [] w := by
  refine v_aload_n (pc := 0) d_Md_step_0 rfl (.head _) ?_
  refine v_dup (pc := 1) d_Md_step_1 rfl ?_
  refine v_geti (pc := 2) (x := (w 0 87)) d_Md_step_2 fl_Md_585 cM_0.1 cM_0.2 (Or.inl rfl) rfl ?_
  refine v_iconst (pc := 5) d_Md_step_5 (by decide) ?_
  refine v_iadd (pc := 6) d_Md_step_6 ?_
  refine v_puti (pc := 7) d_Md_step_7 fp_Md_585 cM_0.1 cM_0.2 (by decide) rfl ?_
  refine v_aload_n (pc := 10) d_Md_step_10 rfl (.head _) ?_
  refine v_geti (pc := 11) (x := (wr ((w 0 87) + 1))) d_Md_step_11 fl_Md_585 cM_0.1 cM_0.2 (Or.inl rfl) rfl ?_
  refine v_sipush (pc := 14) d_Md_step_14 (by decide) rfl ?_
  refine v_icmple (pc := 17) (tgt := 38) d_Md_step_17 (by decide) (fun c => ?_) (fun c => ?_)
  · replace h := h.1 c
    exact v_vret (pc := 38) d_Md_step_38 rfl h
  · replace h := h.2 c
    refine v_aload_n (pc := 20) d_Md_step_20 rfl (.head _) ?_
    refine v_iconst (pc := 21) d_Md_step_21 (by decide) ?_
    refine v_aload_n (pc := 22) d_Md_step_22 rfl (.head _) ?_
    refine v_aload_n (pc := 23) d_Md_step_23 rfl (.head _) ?_
    refine v_getr (C := "") (pc := 24) (r := 18) d_Md_step_24 fl_Md_191 cM_0.1 cM_0.2 (Or.inr ⟨_, rfl⟩) rM_0_23 ?_
    refine v_aload_n (pc := 27) d_Md_step_27 rfl (.head _) ?_
    refine v_geti (pc := 28) (x := (w 0 91)) d_Md_step_28 fl_Md_588 cM_0.1 cM_0.2 (Or.inl rfl) rfl ?_
    refine v_iald (pc := 31) (x := (w 18 ((w 0 91).toNat))) d_Md_step_31 cM_18.1 cM_18.2 rfl h.1 ?_
    replace h := h.2
    refine v_callV (pc := 32) (J' := jMd_placeOf) (d' := d) (o := 0) (ci := 13) (N := 93) (T := cT13) (As := [vI (w 18 ((w 0 91).toNat))]) d_Md_step_32 ml_Md_366 cM_0.1 cM_0.2 (by decide) rfl rfl (Nat.le_of_ble_eq_true rfl) (Nat.le_refl _) rfl (Cal.weak h (fun o w1 h => ?_))
    rcases rIt_of h with ⟨x2, rfl, h⟩ | ⟨b, rfl, h⟩
    rotate_left
    · exact h
    refine v_callV (pc := 35) (J' := jMd_fail) (d' := d) (o := 0) (ci := 13) (N := 93) (T := cT13) (As := [vI 3, vI x2]) d_Md_step_35 ml_Md_370 cM_0.1 cM_0.2 (by decide) rfl rfl (Nat.le_of_ble_eq_true rfl) (Nat.le_refl _) rfl (Cal.weak h (fun o w3 h => ?_))
    rcases rVt_of h with ⟨rfl, h⟩ | ⟨b, rfl, h⟩
    rotate_left
    · exact h
    exact v_vret (pc := 38) d_Md_step_38 rfl h
theorem d_Md_value_0 : decode jMd_value.cc 0 = .ok (.aload_n 0, 1) := by decide +kernel
theorem d_Md_value_1 : decode jMd_value.cc 1 = .ok (.getfield 219, 3) := by decide +kernel
theorem d_Md_value_4 : decode jMd_value.cc 4 = .ok (.iload_n 1, 1) := by decide +kernel
theorem d_Md_value_5 : decode jMd_value.cc 5 = .ok (.iaload, 1) := by decide +kernel
theorem d_Md_value_6 : decode jMd_value.cc 6 = .ok (.istore_n 2, 1) := by decide +kernel
theorem d_Md_value_7 : decode jMd_value.cc 7 = .ok (.aload_n 0, 1) := by decide +kernel
theorem d_Md_value_8 : decode jMd_value.cc 8 = .ok (.getfield 216, 3) := by decide +kernel
theorem d_Md_value_11 : decode jMd_value.cc 11 = .ok (.iload_n 1, 1) := by decide +kernel
theorem d_Md_value_12 : decode jMd_value.cc 12 = .ok (.iaload, 1) := by decide +kernel
theorem d_Md_value_13 : decode jMd_value.cc 13 = .ok (.tableswitch 154 7 11 #[112, 35, 75, 93, 148], 35) := by decide +kernel
theorem d_Md_value_48 : decode jMd_value.cc 48 = .ok (.aload_n 0, 1) := by decide +kernel
theorem d_Md_value_49 : decode jMd_value.cc 49 = .ok (.aload_n 0, 1) := by decide +kernel
theorem d_Md_value_50 : decode jMd_value.cc 50 = .ok (.getfield 225, 3) := by decide +kernel
theorem d_Md_value_53 : decode jMd_value.cc 53 = .ok (.iload_n 1, 1) := by decide +kernel
theorem d_Md_value_54 : decode jMd_value.cc 54 = .ok (.iaload, 1) := by decide +kernel
theorem d_Md_value_55 : decode jMd_value.cc 55 = .ok (.invokestatic 591, 3) := by decide +kernel
theorem d_Md_value_58 : decode jMd_value.cc 58 = .ok (.istore_n 3, 1) := by decide +kernel
theorem d_Md_value_59 : decode jMd_value.cc 59 = .ok (.aload_n 0, 1) := by decide +kernel
theorem d_Md_value_60 : decode jMd_value.cc 60 = .ok (.invokevirtual 595, 3) := by decide +kernel
theorem d_Md_value_63 : decode jMd_value.cc 63 = .ok (.aload_n 0, 1) := by decide +kernel
theorem d_Md_value_64 : decode jMd_value.cc 64 = .ok (.iload_n 3, 1) := by decide +kernel
theorem d_Md_value_65 : decode jMd_value.cc 65 = .ok (.iconst 1, 1) := by decide +kernel
theorem d_Md_value_66 : decode jMd_value.cc 66 = .ok (.if_icmp .ne 12, 3) := by decide +kernel
theorem d_Md_value_69 : decode jMd_value.cc 69 = .ok (.aload_n 0, 1) := by decide +kernel
theorem d_Md_value_70 : decode jMd_value.cc 70 = .ok (.getfield 228, 3) := by decide +kernel
theorem d_Md_value_73 : decode jMd_value.cc 73 = .ok (.iload_n 1, 1) := by decide +kernel
theorem d_Md_value_74 : decode jMd_value.cc 74 = .ok (.iaload, 1) := by decide +kernel
theorem d_Md_value_75 : decode jMd_value.cc 75 = .ok (.goto 9, 3) := by decide +kernel
theorem d_Md_value_78 : decode jMd_value.cc 78 = .ok (.aload_n 0, 1) := by decide +kernel
theorem d_Md_value_79 : decode jMd_value.cc 79 = .ok (.getfield 231, 3) := by decide +kernel
theorem d_Md_value_82 : decode jMd_value.cc 82 = .ok (.iload_n 1, 1) := by decide +kernel
theorem d_Md_value_83 : decode jMd_value.cc 83 = .ok (.iaload, 1) := by decide +kernel
theorem d_Md_value_84 : decode jMd_value.cc 84 = .ok (.invokestatic 591, 3) := by decide +kernel
theorem d_Md_value_87 : decode jMd_value.cc 87 = .ok (.ireturn, 1) := by decide +kernel
theorem d_Md_value_88 : decode jMd_value.cc 88 = .ok (.aload_n 0, 1) := by decide +kernel
theorem d_Md_value_89 : decode jMd_value.cc 89 = .ok (.aload_n 0, 1) := by decide +kernel
theorem d_Md_value_90 : decode jMd_value.cc 90 = .ok (.getfield 225, 3) := by decide +kernel
theorem d_Md_value_93 : decode jMd_value.cc 93 = .ok (.iload_n 1, 1) := by decide +kernel
theorem d_Md_value_94 : decode jMd_value.cc 94 = .ok (.iaload, 1) := by decide +kernel
theorem d_Md_value_95 : decode jMd_value.cc 95 = .ok (.invokestatic 591, 3) := by decide +kernel
theorem d_Md_value_98 : decode jMd_value.cc 98 = .ok (.istore_n 3, 1) := by decide +kernel
theorem d_Md_value_99 : decode jMd_value.cc 99 = .ok (.aload_n 0, 1) := by decide +kernel
theorem d_Md_value_100 : decode jMd_value.cc 100 = .ok (.invokevirtual 595, 3) := by decide +kernel
theorem d_Md_value_103 : decode jMd_value.cc 103 = .ok (.iload_n 3, 1) := by decide +kernel
theorem d_Md_value_104 : decode jMd_value.cc 104 = .ok (.ineg, 1) := by decide +kernel
theorem d_Md_value_105 : decode jMd_value.cc 105 = .ok (.ireturn, 1) := by decide +kernel
theorem d_Md_value_106 : decode jMd_value.cc 106 = .ok (.aload_n 0, 1) := by decide +kernel
theorem d_Md_value_107 : decode jMd_value.cc 107 = .ok (.aload_n 0, 1) := by decide +kernel
theorem d_Md_value_108 : decode jMd_value.cc 108 = .ok (.getfield 225, 3) := by decide +kernel
theorem d_Md_value_111 : decode jMd_value.cc 111 = .ok (.iload_n 1, 1) := by decide +kernel
theorem d_Md_value_112 : decode jMd_value.cc 112 = .ok (.iaload, 1) := by decide +kernel
theorem d_Md_value_113 : decode jMd_value.cc 113 = .ok (.invokestatic 591, 3) := by decide +kernel
theorem d_Md_value_116 : decode jMd_value.cc 116 = .ok (.istore_n 3, 1) := by decide +kernel
theorem d_Md_value_117 : decode jMd_value.cc 117 = .ok (.aload_n 0, 1) := by decide +kernel
theorem d_Md_value_118 : decode jMd_value.cc 118 = .ok (.invokevirtual 595, 3) := by decide +kernel
theorem d_Md_value_121 : decode jMd_value.cc 121 = .ok (.iconst 1, 1) := by decide +kernel
theorem d_Md_value_122 : decode jMd_value.cc 122 = .ok (.iload_n 3, 1) := by decide +kernel
theorem d_Md_value_123 : decode jMd_value.cc 123 = .ok (.isub, 1) := by decide +kernel
theorem d_Md_value_124 : decode jMd_value.cc 124 = .ok (.ireturn, 1) := by decide +kernel
theorem d_Md_value_125 : decode jMd_value.cc 125 = .ok (.aload_n 0, 1) := by decide +kernel
theorem d_Md_value_126 : decode jMd_value.cc 126 = .ok (.aload_n 0, 1) := by decide +kernel
theorem d_Md_value_127 : decode jMd_value.cc 127 = .ok (.getfield 225, 3) := by decide +kernel
theorem d_Md_value_130 : decode jMd_value.cc 130 = .ok (.iload_n 1, 1) := by decide +kernel
theorem d_Md_value_131 : decode jMd_value.cc 131 = .ok (.iaload, 1) := by decide +kernel
theorem d_Md_value_132 : decode jMd_value.cc 132 = .ok (.invokestatic 591, 3) := by decide +kernel
theorem d_Md_value_135 : decode jMd_value.cc 135 = .ok (.istore_n 3, 1) := by decide +kernel
theorem d_Md_value_136 : decode jMd_value.cc 136 = .ok (.aload_n 0, 1) := by decide +kernel
theorem d_Md_value_137 : decode jMd_value.cc 137 = .ok (.invokevirtual 595, 3) := by decide +kernel
theorem d_Md_value_140 : decode jMd_value.cc 140 = .ok (.iload_n 3, 1) := by decide +kernel
theorem d_Md_value_141 : decode jMd_value.cc 141 = .ok (.iconst 1, 1) := by decide +kernel
theorem d_Md_value_142 : decode jMd_value.cc 142 = .ok (.if_icmp .ge 13, 3) := by decide +kernel
theorem d_Md_value_145 : decode jMd_value.cc 145 = .ok (.aload_n 0, 1) := by decide +kernel
theorem d_Md_value_146 : decode jMd_value.cc 146 = .ok (.iconst 2, 1) := by decide +kernel
theorem d_Md_value_147 : decode jMd_value.cc 147 = .ok (.aload_n 0, 1) := by decide +kernel
theorem d_Md_value_148 : decode jMd_value.cc 148 = .ok (.iload_n 2, 1) := by decide +kernel
theorem d_Md_value_149 : decode jMd_value.cc 149 = .ok (.invokevirtual 366, 3) := by decide +kernel
theorem d_Md_value_152 : decode jMd_value.cc 152 = .ok (.invokevirtual 370, 3) := by decide +kernel
theorem d_Md_value_155 : decode jMd_value.cc 155 = .ok (.aload_n 0, 1) := by decide +kernel
theorem d_Md_value_156 : decode jMd_value.cc 156 = .ok (.iload_n 3, 1) := by decide +kernel
theorem d_Md_value_157 : decode jMd_value.cc 157 = .ok (.invokevirtual 598, 3) := by decide +kernel
theorem d_Md_value_160 : decode jMd_value.cc 160 = .ok (.ireturn, 1) := by decide +kernel
theorem d_Md_value_161 : decode jMd_value.cc 161 = .ok (.aload_n 0, 1) := by decide +kernel
theorem d_Md_value_162 : decode jMd_value.cc 162 = .ok (.iload_n 1, 1) := by decide +kernel
theorem d_Md_value_163 : decode jMd_value.cc 163 = .ok (.invokestatic 601, 3) := by decide +kernel
theorem d_Md_value_166 : decode jMd_value.cc 166 = .ok (.ireturn, 1) := by decide +kernel
theorem d_Md_value_167 : decode jMd_value.cc 167 = .ok (.aload_n 0, 1) := by decide +kernel
theorem d_Md_value_168 : decode jMd_value.cc 168 = .ok (.invokevirtual 595, 3) := by decide +kernel
theorem d_Md_value_171 : decode jMd_value.cc 171 = .ok (.aload_n 0, 1) := by decide +kernel
theorem d_Md_value_172 : decode jMd_value.cc 172 = .ok (.iload_n 1, 1) := by decide +kernel
theorem d_Md_value_173 : decode jMd_value.cc 173 = .ok (.invokevirtual 604, 3) := by decide +kernel
theorem d_Md_value_176 : decode jMd_value.cc 176 = .ok (.ireturn, 1) := by decide +kernel
set_option maxHeartbeats 4000000 in
theorem s_Md_value {g : Mg} {d : Nat} {K : Ou → Wd → Prop} {w : Wd} {p1 : Int} (h : (0 ≤ p1 ∧ p1 < 2000) ∧ ((0 ≤ p1 ∧ p1 < 2000) ∧ ((((w 26 p1.toNat) < 7 ∨ 11 < (w 26 p1.toNat)) → (Cal g LM jMd_step d [vA 0] w (fun o w1 => rVt o (fun b => K (.inr b) w1) (Cal g LM jMd_operand d [vA 0, vI p1] w1 (fun o w2 => rIt o (fun b => K (.inr b) w2) (fun x3 => K (.inl (some (vI x3))) w2)))))) ∧ ((w 26 p1.toNat) = 7 → ((0 ≤ p1 ∧ p1 < 2000) ∧ (Cal g LM jMd_value d [vA 0, vI (w 29 p1.toNat)] w (fun o w4 => rIt o (fun b => K (.inr b) w4) (fun x5 => Cal g LM jMd_step d [vA 0] w4 (fun o w6 => rVt o (fun b => K (.inr b) w6) ((1 ≤ x5 → (Cal g LM jMd_drawn d [vA 0, vI x5] w6 (fun o w7 => rIt o (fun b => K (.inr b) w7) (fun x8 => K (.inl (some (vI x8))) w7)))) ∧ (¬ 1 ≤ x5 → (Cal g LM jMd_placeOf d [vA 0, vI (w 27 p1.toNat)] w6 (fun o w9 => rIt o (fun b => K (.inr b) w9) (fun x10 => Cal g LM jMd_fail d [vA 0, vI 2, vI x10] w9 (fun o w11 => rVt o (fun b => K (.inr b) w11) (Cal g LM jMd_drawn d [vA 0, vI x5] w11 (fun o w12 => rIt o (fun b => K (.inr b) w12) (fun x13 => K (.inl (some (vI x13))) w12))))))))))))))) ∧ ((w 26 p1.toNat) = 8 → ((0 ≤ p1 ∧ p1 < 2000) ∧ (Cal g LM jMd_value d [vA 0, vI (w 29 p1.toNat)] w (fun o w14 => rIt o (fun b => K (.inr b) w14) (fun x15 => Cal g LM jMd_step d [vA 0] w14 (fun o w16 => rVt o (fun b => K (.inr b) w16) ((¬ x15 = 1 → ((0 ≤ p1 ∧ p1 < 2000) ∧ (Cal g LM jMd_value d [vA 0, vI (w16 31 p1.toNat)] w16 (fun o w17 => rIt o (fun b => K (.inr b) w17) (fun x18 => K (.inl (some (vI x18))) w17))))) ∧ (x15 = 1 → ((0 ≤ p1 ∧ p1 < 2000) ∧ (Cal g LM jMd_value d [vA 0, vI (w16 30 p1.toNat)] w16 (fun o w19 => rIt o (fun b => K (.inr b) w19) (fun x20 => K (.inl (some (vI x20))) w19)))))))))))) ∧ ((w 26 p1.toNat) = 9 → ((0 ≤ p1 ∧ p1 < 2000) ∧ (Cal g LM jMd_value d [vA 0, vI (w 29 p1.toNat)] w (fun o w21 => rIt o (fun b => K (.inr b) w21) (fun x22 => Cal g LM jMd_step d [vA 0] w21 (fun o w23 => rVt o (fun b => K (.inr b) w23) (K (.inl (some (vI (wr (-x22))))) w23))))))) ∧ ((w 26 p1.toNat) = 10 → ((0 ≤ p1 ∧ p1 < 2000) ∧ (Cal g LM jMd_value d [vA 0, vI (w 29 p1.toNat)] w (fun o w24 => rIt o (fun b => K (.inr b) w24) (fun x25 => Cal g LM jMd_step d [vA 0] w24 (fun o w26 => rVt o (fun b => K (.inr b) w26) (K (.inl (some (vI (wr (1 - x25))))) w26))))))) ∧ ((w 26 p1.toNat) = 11 → (Cal g LM jMd_binary d [vA 0, vI p1] w (fun o w27 => rIt o (fun b => K (.inr b) w27) (fun x28 => K (.inl (some (vI x28))) w27))))))) : V g LM jMd_value (d + 1) K 0 [(0, vA 0), (1, vI p1)] [] w := by
  refine v_aload_n (pc := 0) d_Md_value_0 rfl (.head _) ?_
  refine v_getr (C := "") (pc := 1) (r := 27) d_Md_value_1 fl_Md_219 cM_0.1 cM_0.2 (Or.inr ⟨_, rfl⟩) rM_0_33 ?_
  refine v_iload_n (pc := 4) d_Md_value_4 rfl (.tail _ (.head _)) ?_
  refine v_iald (pc := 5) (x := (w 27 p1.toNat)) d_Md_value_5 cM_27.1 cM_27.2 rfl h.1 ?_
  replace h := h.2
  refine v_istore_n (pc := 6) (ls' := [(2, vI (w 27 p1.toNat)), (0, vA 0), (1, vI p1)]) d_Md_value_6 rfl (by decide) rfl ?_
  refine v_aload_n (pc := 7) d_Md_value_7 rfl (.tail _ (.head _)) ?_
  refine v_getr (C := "") (pc := 8) (r := 26) d_Md_value_8 fl_Md_216 cM_0.1 cM_0.2 (Or.inr ⟨_, rfl⟩) rM_0_32 ?_
  refine v_iload_n (pc := 11) d_Md_value_11 rfl (.tail _ (.tail _ (.head _))) ?_
  refine v_iald (pc := 12) (x := (w 26 p1.toNat)) d_Md_value_12 cM_26.1 cM_26.2 rfl h.1 ?_
  replace h := h.2
  refine v_table (pc := 13) (tgd := 167) (tgs := [125, 48, 88, 106, 161]) d_Md_value_13 (by decide) (by decide) (by decide) (fun c => ?_) ⟨fun c => ?_, fun c => ?_, fun c => ?_, fun c => ?_, fun c => ?_, trivial⟩
  · replace h := h.1 c
    refine v_aload_n (pc := 167) d_Md_value_167 rfl (.tail _ (.head _)) ?_
    refine v_callV (pc := 168) (J' := jMd_step) (d' := d) (o := 0) (ci := 13) (N := 93) (T := cT13) (As := []) d_Md_value_168 ml_Md_595 cM_0.1 cM_0.2 (by decide) rfl rfl (Nat.le_of_ble_eq_true rfl) (Nat.le_refl _) rfl (Cal.weak h (fun o w1 h => ?_))
    rcases rVt_of h with ⟨rfl, h⟩ | ⟨b, rfl, h⟩
    rotate_left
    · exact h
    refine v_aload_n (pc := 171) d_Md_value_171 rfl (.tail _ (.head _)) ?_
    refine v_iload_n (pc := 172) d_Md_value_172 rfl (.tail _ (.tail _ (.head _))) ?_
    refine v_callV (pc := 173) (J' := jMd_operand) (d' := d) (o := 0) (ci := 13) (N := 93) (T := cT13) (As := [vI p1]) d_Md_value_173 ml_Md_604 cM_0.1 cM_0.2 (by decide) rfl rfl (Nat.le_of_ble_eq_true rfl) (Nat.le_refl _) rfl (Cal.weak h (fun o w2 h => ?_))
    rcases rIt_of h with ⟨x3, rfl, h⟩ | ⟨b, rfl, h⟩
    rotate_left
    · exact h
    exact v_iret (pc := 176) d_Md_value_176 rfl h
  · replace h := h.2.1 c
    refine v_aload_n (pc := 125) d_Md_value_125 rfl (.tail _ (.head _)) ?_
    refine v_aload_n (pc := 126) d_Md_value_126 rfl (.tail _ (.head _)) ?_
    refine v_getr (C := "") (pc := 127) (r := 29) d_Md_value_127 fl_Md_225 cM_0.1 cM_0.2 (Or.inr ⟨_, rfl⟩) rM_0_35 ?_
    refine v_iload_n (pc := 130) d_Md_value_130 rfl (.tail _ (.tail _ (.head _))) ?_
    refine v_iald (pc := 131) (x := (w 29 p1.toNat)) d_Md_value_131 cM_29.1 cM_29.2 rfl h.1 ?_
    replace h := h.2
    refine v_callS (pc := 132) (J' := jMd_value) (d' := d) (As := [vA 0, vI (w 29 p1.toNat)]) d_Md_value_132 ml_Md_591 rfl (Nat.le_of_ble_eq_true rfl) (Nat.le_refl _) rfl (Cal.weak h (fun o w4 h => ?_))
    rcases rIt_of h with ⟨x5, rfl, h⟩ | ⟨b, rfl, h⟩
    rotate_left
    · exact h
    refine v_istore_n (pc := 135) (ls' := [(3, vI x5), (2, vI (w 27 p1.toNat)), (0, vA 0), (1, vI p1)]) d_Md_value_135 rfl (by decide) rfl ?_
    refine v_aload_n (pc := 136) d_Md_value_136 rfl (.tail _ (.tail _ (.head _))) ?_
    refine v_callV (pc := 137) (J' := jMd_step) (d' := d) (o := 0) (ci := 13) (N := 93) (T := cT13) (As := []) d_Md_value_137 ml_Md_595 cM_0.1 cM_0.2 (by decide) rfl rfl (Nat.le_of_ble_eq_true rfl) (Nat.le_refl _) rfl (Cal.weak h (fun o w6 h => ?_))
    rcases rVt_of h with ⟨rfl, h⟩ | ⟨b, rfl, h⟩
    rotate_left
    · exact h
    refine v_iload_n (pc := 140) d_Md_value_140 rfl (.head _) ?_
    refine v_iconst (pc := 141) d_Md_value_141 (by decide) ?_
    refine v_icmpge (pc := 142) (tgt := 155) d_Md_value_142 (by decide) (fun c => ?_) (fun c => ?_)
    · replace h := h.1 c
      refine v_aload_n (pc := 155) d_Md_value_155 rfl (.tail _ (.tail _ (.head _))) ?_
      refine v_iload_n (pc := 156) d_Md_value_156 rfl (.head _) ?_
      refine v_callV (pc := 157) (J' := jMd_drawn) (d' := d) (o := 0) (ci := 13) (N := 93) (T := cT13) (As := [vI x5]) d_Md_value_157 ml_Md_598 cM_0.1 cM_0.2 (by decide) rfl rfl (Nat.le_of_ble_eq_true rfl) (Nat.le_refl _) rfl (Cal.weak h (fun o w7 h => ?_))
      rcases rIt_of h with ⟨x8, rfl, h⟩ | ⟨b, rfl, h⟩
      rotate_left
      · exact h
      exact v_iret (pc := 160) d_Md_value_160 rfl h
    · replace h := h.2 c
      refine v_aload_n (pc := 145) d_Md_value_145 rfl (.tail _ (.tail _ (.head _))) ?_
      refine v_iconst (pc := 146) d_Md_value_146 (by decide) ?_
      refine v_aload_n (pc := 147) d_Md_value_147 rfl (.tail _ (.tail _ (.head _))) ?_
      refine v_iload_n (pc := 148) d_Md_value_148 rfl (.tail _ (.head _)) ?_
      refine v_callV (pc := 149) (J' := jMd_placeOf) (d' := d) (o := 0) (ci := 13) (N := 93) (T := cT13) (As := [vI (w 27 p1.toNat)]) d_Md_value_149 ml_Md_366 cM_0.1 cM_0.2 (by decide) rfl rfl (Nat.le_of_ble_eq_true rfl) (Nat.le_refl _) rfl (Cal.weak h (fun o w9 h => ?_))
      rcases rIt_of h with ⟨x10, rfl, h⟩ | ⟨b, rfl, h⟩
      rotate_left
      · exact h
      refine v_callV (pc := 152) (J' := jMd_fail) (d' := d) (o := 0) (ci := 13) (N := 93) (T := cT13) (As := [vI 2, vI x10]) d_Md_value_152 ml_Md_370 cM_0.1 cM_0.2 (by decide) rfl rfl (Nat.le_of_ble_eq_true rfl) (Nat.le_refl _) rfl (Cal.weak h (fun o w11 h => ?_))
      rcases rVt_of h with ⟨rfl, h⟩ | ⟨b, rfl, h⟩
      rotate_left
      · exact h
      refine v_aload_n (pc := 155) d_Md_value_155 rfl (.tail _ (.tail _ (.head _))) ?_
      refine v_iload_n (pc := 156) d_Md_value_156 rfl (.head _) ?_
      refine v_callV (pc := 157) (J' := jMd_drawn) (d' := d) (o := 0) (ci := 13) (N := 93) (T := cT13) (As := [vI x5]) d_Md_value_157 ml_Md_598 cM_0.1 cM_0.2 (by decide) rfl rfl (Nat.le_of_ble_eq_true rfl) (Nat.le_refl _) rfl (Cal.weak h (fun o w12 h => ?_))
      rcases rIt_of h with ⟨x13, rfl, h⟩ | ⟨b, rfl, h⟩
      rotate_left
      · exact h
      exact v_iret (pc := 160) d_Md_value_160 rfl h
  · replace h := h.2.2.1 c
    refine v_aload_n (pc := 48) d_Md_value_48 rfl (.tail _ (.head _)) ?_
    refine v_aload_n (pc := 49) d_Md_value_49 rfl (.tail _ (.head _)) ?_
    refine v_getr (C := "") (pc := 50) (r := 29) d_Md_value_50 fl_Md_225 cM_0.1 cM_0.2 (Or.inr ⟨_, rfl⟩) rM_0_35 ?_
    refine v_iload_n (pc := 53) d_Md_value_53 rfl (.tail _ (.tail _ (.head _))) ?_
    refine v_iald (pc := 54) (x := (w 29 p1.toNat)) d_Md_value_54 cM_29.1 cM_29.2 rfl h.1 ?_
    replace h := h.2
    refine v_callS (pc := 55) (J' := jMd_value) (d' := d) (As := [vA 0, vI (w 29 p1.toNat)]) d_Md_value_55 ml_Md_591 rfl (Nat.le_of_ble_eq_true rfl) (Nat.le_refl _) rfl (Cal.weak h (fun o w14 h => ?_))
    rcases rIt_of h with ⟨x15, rfl, h⟩ | ⟨b, rfl, h⟩
    rotate_left
    · exact h
    refine v_istore_n (pc := 58) (ls' := [(3, vI x15), (2, vI (w 27 p1.toNat)), (0, vA 0), (1, vI p1)]) d_Md_value_58 rfl (by decide) rfl ?_
    refine v_aload_n (pc := 59) d_Md_value_59 rfl (.tail _ (.tail _ (.head _))) ?_
    refine v_callV (pc := 60) (J' := jMd_step) (d' := d) (o := 0) (ci := 13) (N := 93) (T := cT13) (As := []) d_Md_value_60 ml_Md_595 cM_0.1 cM_0.2 (by decide) rfl rfl (Nat.le_of_ble_eq_true rfl) (Nat.le_refl _) rfl (Cal.weak h (fun o w16 h => ?_))
    rcases rVt_of h with ⟨rfl, h⟩ | ⟨b, rfl, h⟩
    rotate_left
    · exact h
    refine v_aload_n (pc := 63) d_Md_value_63 rfl (.tail _ (.tail _ (.head _))) ?_
    refine v_iload_n (pc := 64) d_Md_value_64 rfl (.head _) ?_
    refine v_iconst (pc := 65) d_Md_value_65 (by decide) ?_
    refine v_icmpne (pc := 66) (tgt := 78) d_Md_value_66 (by decide) (fun c => ?_) (fun c => ?_)
    · replace h := h.1 c
      refine v_aload_n (pc := 78) d_Md_value_78 rfl (.tail _ (.tail _ (.head _))) ?_
      refine v_getr (C := "") (pc := 79) (r := 31) d_Md_value_79 fl_Md_231 cM_0.1 cM_0.2 (Or.inr ⟨_, rfl⟩) rM_0_37 ?_
      refine v_iload_n (pc := 82) d_Md_value_82 rfl (.tail _ (.tail _ (.tail _ (.head _)))) ?_
      refine v_iald (pc := 83) (x := (w16 31 p1.toNat)) d_Md_value_83 cM_31.1 cM_31.2 rfl h.1 ?_
      replace h := h.2
      refine v_callS (pc := 84) (J' := jMd_value) (d' := d) (As := [vA 0, vI (w16 31 p1.toNat)]) d_Md_value_84 ml_Md_591 rfl (Nat.le_of_ble_eq_true rfl) (Nat.le_refl _) rfl (Cal.weak h (fun o w17 h => ?_))
      rcases rIt_of h with ⟨x18, rfl, h⟩ | ⟨b, rfl, h⟩
      rotate_left
      · exact h
      exact v_iret (pc := 87) d_Md_value_87 rfl h
    · replace h := h.2 c
      refine v_aload_n (pc := 69) d_Md_value_69 rfl (.tail _ (.tail _ (.head _))) ?_
      refine v_getr (C := "") (pc := 70) (r := 30) d_Md_value_70 fl_Md_228 cM_0.1 cM_0.2 (Or.inr ⟨_, rfl⟩) rM_0_36 ?_
      refine v_iload_n (pc := 73) d_Md_value_73 rfl (.tail _ (.tail _ (.tail _ (.head _)))) ?_
      refine v_iald (pc := 74) (x := (w16 30 p1.toNat)) d_Md_value_74 cM_30.1 cM_30.2 rfl h.1 ?_
      replace h := h.2
      refine v_goto (pc := 75) (tgt := 84) d_Md_value_75 (by decide) ?_
      refine v_callS (pc := 84) (J' := jMd_value) (d' := d) (As := [vA 0, vI (w16 30 p1.toNat)]) d_Md_value_84 ml_Md_591 rfl (Nat.le_of_ble_eq_true rfl) (Nat.le_refl _) rfl (Cal.weak h (fun o w19 h => ?_))
      rcases rIt_of h with ⟨x20, rfl, h⟩ | ⟨b, rfl, h⟩
      rotate_left
      · exact h
      exact v_iret (pc := 87) d_Md_value_87 rfl h
  · replace h := h.2.2.2.1 c
    refine v_aload_n (pc := 88) d_Md_value_88 rfl (.tail _ (.head _)) ?_
    refine v_aload_n (pc := 89) d_Md_value_89 rfl (.tail _ (.head _)) ?_
    refine v_getr (C := "") (pc := 90) (r := 29) d_Md_value_90 fl_Md_225 cM_0.1 cM_0.2 (Or.inr ⟨_, rfl⟩) rM_0_35 ?_
    refine v_iload_n (pc := 93) d_Md_value_93 rfl (.tail _ (.tail _ (.head _))) ?_
    refine v_iald (pc := 94) (x := (w 29 p1.toNat)) d_Md_value_94 cM_29.1 cM_29.2 rfl h.1 ?_
    replace h := h.2
    refine v_callS (pc := 95) (J' := jMd_value) (d' := d) (As := [vA 0, vI (w 29 p1.toNat)]) d_Md_value_95 ml_Md_591 rfl (Nat.le_of_ble_eq_true rfl) (Nat.le_refl _) rfl (Cal.weak h (fun o w21 h => ?_))
    rcases rIt_of h with ⟨x22, rfl, h⟩ | ⟨b, rfl, h⟩
    rotate_left
    · exact h
    refine v_istore_n (pc := 98) (ls' := [(3, vI x22), (2, vI (w 27 p1.toNat)), (0, vA 0), (1, vI p1)]) d_Md_value_98 rfl (by decide) rfl ?_
    refine v_aload_n (pc := 99) d_Md_value_99 rfl (.tail _ (.tail _ (.head _))) ?_
    refine v_callV (pc := 100) (J' := jMd_step) (d' := d) (o := 0) (ci := 13) (N := 93) (T := cT13) (As := []) d_Md_value_100 ml_Md_595 cM_0.1 cM_0.2 (by decide) rfl rfl (Nat.le_of_ble_eq_true rfl) (Nat.le_refl _) rfl (Cal.weak h (fun o w23 h => ?_))
    rcases rVt_of h with ⟨rfl, h⟩ | ⟨b, rfl, h⟩
    rotate_left
    · exact h
    refine v_iload_n (pc := 103) d_Md_value_103 rfl (.head _) ?_
    refine v_ineg (pc := 104) d_Md_value_104 ?_
    exact v_iret (pc := 105) d_Md_value_105 rfl h
  · replace h := h.2.2.2.2.1 c
    refine v_aload_n (pc := 106) d_Md_value_106 rfl (.tail _ (.head _)) ?_
    refine v_aload_n (pc := 107) d_Md_value_107 rfl (.tail _ (.head _)) ?_
    refine v_getr (C := "") (pc := 108) (r := 29) d_Md_value_108 fl_Md_225 cM_0.1 cM_0.2 (Or.inr ⟨_, rfl⟩) rM_0_35 ?_
    refine v_iload_n (pc := 111) d_Md_value_111 rfl (.tail _ (.tail _ (.head _))) ?_
    refine v_iald (pc := 112) (x := (w 29 p1.toNat)) d_Md_value_112 cM_29.1 cM_29.2 rfl h.1 ?_
    replace h := h.2
    refine v_callS (pc := 113) (J' := jMd_value) (d' := d) (As := [vA 0, vI (w 29 p1.toNat)]) d_Md_value_113 ml_Md_591 rfl (Nat.le_of_ble_eq_true rfl) (Nat.le_refl _) rfl (Cal.weak h (fun o w24 h => ?_))
    rcases rIt_of h with ⟨x25, rfl, h⟩ | ⟨b, rfl, h⟩
    rotate_left
    · exact h
    refine v_istore_n (pc := 116) (ls' := [(3, vI x25), (2, vI (w 27 p1.toNat)), (0, vA 0), (1, vI p1)]) d_Md_value_116 rfl (by decide) rfl ?_
    refine v_aload_n (pc := 117) d_Md_value_117 rfl (.tail _ (.tail _ (.head _))) ?_
    refine v_callV (pc := 118) (J' := jMd_step) (d' := d) (o := 0) (ci := 13) (N := 93) (T := cT13) (As := []) d_Md_value_118 ml_Md_595 cM_0.1 cM_0.2 (by decide) rfl rfl (Nat.le_of_ble_eq_true rfl) (Nat.le_refl _) rfl (Cal.weak h (fun o w26 h => ?_))
    rcases rVt_of h with ⟨rfl, h⟩ | ⟨b, rfl, h⟩
    rotate_left
    · exact h
    refine v_iconst (pc := 121) d_Md_value_121 (by decide) ?_
    refine v_iload_n (pc := 122) d_Md_value_122 rfl (.head _) ?_
    refine v_isub (pc := 123) d_Md_value_123 ?_
    exact v_iret (pc := 124) d_Md_value_124 rfl h
  · replace h := h.2.2.2.2.2 c
    refine v_aload_n (pc := 161) d_Md_value_161 rfl (.tail _ (.head _)) ?_
    refine v_iload_n (pc := 162) d_Md_value_162 rfl (.tail _ (.tail _ (.head _))) ?_
    refine v_callS (pc := 163) (J' := jMd_binary) (d' := d) (As := [vA 0, vI p1]) d_Md_value_163 ml_Md_601 rfl (Nat.le_of_ble_eq_true rfl) (Nat.le_refl _) rfl (Cal.weak h (fun o w27 h => ?_))
    rcases rIt_of h with ⟨x28, rfl, h⟩ | ⟨b, rfl, h⟩
    rotate_left
    · exact h
    exact v_iret (pc := 166) d_Md_value_166 rfl h
theorem d_Md_operand_0 : decode jMd_operand.cc 0 = .ok (.aload_n 0, 1) := by decide +kernel
theorem d_Md_operand_1 : decode jMd_operand.cc 1 = .ok (.getfield 219, 3) := by decide +kernel
theorem d_Md_operand_4 : decode jMd_operand.cc 4 = .ok (.iload_n 1, 1) := by decide +kernel
theorem d_Md_operand_5 : decode jMd_operand.cc 5 = .ok (.iaload, 1) := by decide +kernel
theorem d_Md_operand_6 : decode jMd_operand.cc 6 = .ok (.istore_n 2, 1) := by decide +kernel
theorem d_Md_operand_7 : decode jMd_operand.cc 7 = .ok (.aload_n 0, 1) := by decide +kernel
theorem d_Md_operand_8 : decode jMd_operand.cc 8 = .ok (.getfield 237, 3) := by decide +kernel
theorem d_Md_operand_11 : decode jMd_operand.cc 11 = .ok (.iload_n 1, 1) := by decide +kernel
theorem d_Md_operand_12 : decode jMd_operand.cc 12 = .ok (.iaload, 1) := by decide +kernel
theorem d_Md_operand_13 : decode jMd_operand.cc 13 = .ok (.istore_n 3, 1) := by decide +kernel
theorem d_Md_operand_14 : decode jMd_operand.cc 14 = .ok (.aload_n 0, 1) := by decide +kernel
theorem d_Md_operand_15 : decode jMd_operand.cc 15 = .ok (.getfield 216, 3) := by decide +kernel
theorem d_Md_operand_18 : decode jMd_operand.cc 18 = .ok (.iload_n 1, 1) := by decide +kernel
theorem d_Md_operand_19 : decode jMd_operand.cc 19 = .ok (.iaload, 1) := by decide +kernel
theorem d_Md_operand_20 : decode jMd_operand.cc 20 = .ok (.tableswitch 209 0 5 #[40, 47, 49, 87, 51, 65], 40) := by decide +kernel
theorem d_Md_operand_60 : decode jMd_operand.cc 60 = .ok (.aload_n 0, 1) := by decide +kernel
theorem d_Md_operand_61 : decode jMd_operand.cc 61 = .ok (.getfield 43, 3) := by decide +kernel
theorem d_Md_operand_64 : decode jMd_operand.cc 64 = .ok (.iload_n 2, 1) := by decide +kernel
theorem d_Md_operand_65 : decode jMd_operand.cc 65 = .ok (.iaload, 1) := by decide +kernel
theorem d_Md_operand_66 : decode jMd_operand.cc 66 = .ok (.ireturn, 1) := by decide +kernel
theorem d_Md_operand_67 : decode jMd_operand.cc 67 = .ok (.iconst 1, 1) := by decide +kernel
theorem d_Md_operand_68 : decode jMd_operand.cc 68 = .ok (.ireturn, 1) := by decide +kernel
theorem d_Md_operand_69 : decode jMd_operand.cc 69 = .ok (.iconst 0, 1) := by decide +kernel
theorem d_Md_operand_70 : decode jMd_operand.cc 70 = .ok (.ireturn, 1) := by decide +kernel
theorem d_Md_operand_71 : decode jMd_operand.cc 71 = .ok (.aload_n 0, 1) := by decide +kernel
theorem d_Md_operand_72 : decode jMd_operand.cc 72 = .ok (.getfield 264, 3) := by decide +kernel
theorem d_Md_operand_75 : decode jMd_operand.cc 75 = .ok (.iconst 4, 1) := by decide +kernel
theorem d_Md_operand_76 : decode jMd_operand.cc 76 = .ok (.aload_n 0, 1) := by decide +kernel
theorem d_Md_operand_77 : decode jMd_operand.cc 77 = .ok (.getfield 607, 3) := by decide +kernel
theorem d_Md_operand_80 : decode jMd_operand.cc 80 = .ok (.imul, 1) := by decide +kernel
theorem d_Md_operand_81 : decode jMd_operand.cc 81 = .ok (.iload_n 3, 1) := by decide +kernel
theorem d_Md_operand_82 : decode jMd_operand.cc 82 = .ok (.iadd, 1) := by decide +kernel
theorem d_Md_operand_83 : decode jMd_operand.cc 83 = .ok (.iaload, 1) := by decide +kernel
theorem d_Md_operand_84 : decode jMd_operand.cc 84 = .ok (.ireturn, 1) := by decide +kernel
theorem d_Md_operand_85 : decode jMd_operand.cc 85 = .ok (.aload_n 0, 1) := by decide +kernel
theorem d_Md_operand_86 : decode jMd_operand.cc 86 = .ok (.getfield 273, 3) := by decide +kernel
theorem d_Md_operand_89 : decode jMd_operand.cc 89 = .ok (.iconst 4, 1) := by decide +kernel
theorem d_Md_operand_90 : decode jMd_operand.cc 90 = .ok (.aload_n 0, 1) := by decide +kernel
theorem d_Md_operand_91 : decode jMd_operand.cc 91 = .ok (.getfield 610, 3) := by decide +kernel
theorem d_Md_operand_94 : decode jMd_operand.cc 94 = .ok (.imul, 1) := by decide +kernel
theorem d_Md_operand_95 : decode jMd_operand.cc 95 = .ok (.iload_n 3, 1) := by decide +kernel
theorem d_Md_operand_96 : decode jMd_operand.cc 96 = .ok (.iadd, 1) := by decide +kernel
theorem d_Md_operand_97 : decode jMd_operand.cc 97 = .ok (.iaload, 1) := by decide +kernel
theorem d_Md_operand_98 : decode jMd_operand.cc 98 = .ok (.ifCond .le 7, 3) := by decide +kernel
theorem d_Md_operand_101 : decode jMd_operand.cc 101 = .ok (.iconst 1, 1) := by decide +kernel
theorem d_Md_operand_102 : decode jMd_operand.cc 102 = .ok (.goto 4, 3) := by decide +kernel
theorem d_Md_operand_105 : decode jMd_operand.cc 105 = .ok (.iconst 0, 1) := by decide +kernel
theorem d_Md_operand_106 : decode jMd_operand.cc 106 = .ok (.ireturn, 1) := by decide +kernel
theorem d_Md_operand_107 : decode jMd_operand.cc 107 = .ok (.aload_n 0, 1) := by decide +kernel
theorem d_Md_operand_108 : decode jMd_operand.cc 108 = .ok (.getfield 234, 3) := by decide +kernel
theorem d_Md_operand_111 : decode jMd_operand.cc 111 = .ok (.iload_n 1, 1) := by decide +kernel
theorem d_Md_operand_112 : decode jMd_operand.cc 112 = .ok (.iaload, 1) := by decide +kernel
theorem d_Md_operand_113 : decode jMd_operand.cc 113 = .ok (.iconst 1, 1) := by decide +kernel
theorem d_Md_operand_114 : decode jMd_operand.cc 114 = .ok (.if_icmp .ne 18, 3) := by decide +kernel
theorem d_Md_operand_117 : decode jMd_operand.cc 117 = .ok (.aload_n 0, 1) := by decide +kernel
theorem d_Md_operand_118 : decode jMd_operand.cc 118 = .ok (.getfield 267, 3) := by decide +kernel
theorem d_Md_operand_121 : decode jMd_operand.cc 121 = .ok (.bipush 8, 2) := by decide +kernel
theorem d_Md_operand_123 : decode jMd_operand.cc 123 = .ok (.aload_n 0, 1) := by decide +kernel
theorem d_Md_operand_124 : decode jMd_operand.cc 124 = .ok (.getfield 610, 3) := by decide +kernel
theorem d_Md_operand_127 : decode jMd_operand.cc 127 = .ok (.imul, 1) := by decide +kernel
theorem d_Md_operand_128 : decode jMd_operand.cc 128 = .ok (.iload_n 3, 1) := by decide +kernel
theorem d_Md_operand_129 : decode jMd_operand.cc 129 = .ok (.iadd, 1) := by decide +kernel
theorem d_Md_operand_130 : decode jMd_operand.cc 130 = .ok (.iaload, 1) := by decide +kernel
theorem d_Md_operand_131 : decode jMd_operand.cc 131 = .ok (.ireturn, 1) := by decide +kernel
theorem d_Md_operand_132 : decode jMd_operand.cc 132 = .ok (.aload_n 0, 1) := by decide +kernel
theorem d_Md_operand_133 : decode jMd_operand.cc 133 = .ok (.getfield 234, 3) := by decide +kernel
theorem d_Md_operand_136 : decode jMd_operand.cc 136 = .ok (.iload_n 1, 1) := by decide +kernel
theorem d_Md_operand_137 : decode jMd_operand.cc 137 = .ok (.iaload, 1) := by decide +kernel
theorem d_Md_operand_138 : decode jMd_operand.cc 138 = .ok (.iconst 4, 1) := by decide +kernel
theorem d_Md_operand_139 : decode jMd_operand.cc 139 = .ok (.if_icmp .ne 10, 3) := by decide +kernel
theorem d_Md_operand_142 : decode jMd_operand.cc 142 = .ok (.aload_n 0, 1) := by decide +kernel
theorem d_Md_operand_143 : decode jMd_operand.cc 143 = .ok (.getfield 303, 3) := by decide +kernel
theorem d_Md_operand_146 : decode jMd_operand.cc 146 = .ok (.iload_n 3, 1) := by decide +kernel
theorem d_Md_operand_147 : decode jMd_operand.cc 147 = .ok (.iaload, 1) := by decide +kernel
theorem d_Md_operand_148 : decode jMd_operand.cc 148 = .ok (.ireturn, 1) := by decide +kernel
theorem d_Md_operand_149 : decode jMd_operand.cc 149 = .ok (.aload_n 0, 1) := by decide +kernel
theorem d_Md_operand_150 : decode jMd_operand.cc 150 = .ok (.getfield 234, 3) := by decide +kernel
theorem d_Md_operand_153 : decode jMd_operand.cc 153 = .ok (.iload_n 1, 1) := by decide +kernel
theorem d_Md_operand_154 : decode jMd_operand.cc 154 = .ok (.iaload, 1) := by decide +kernel
theorem d_Md_operand_155 : decode jMd_operand.cc 155 = .ok (.iconst 2, 1) := by decide +kernel
theorem d_Md_operand_156 : decode jMd_operand.cc 156 = .ok (.if_icmp .ne 45, 3) := by decide +kernel
theorem d_Md_operand_159 : decode jMd_operand.cc 159 = .ok (.aload_n 0, 1) := by decide +kernel
theorem d_Md_operand_160 : decode jMd_operand.cc 160 = .ok (.getfield 273, 3) := by decide +kernel
theorem d_Md_operand_163 : decode jMd_operand.cc 163 = .ok (.iconst 4, 1) := by decide +kernel
theorem d_Md_operand_164 : decode jMd_operand.cc 164 = .ok (.aload_n 0, 1) := by decide +kernel
theorem d_Md_operand_165 : decode jMd_operand.cc 165 = .ok (.getfield 610, 3) := by decide +kernel
theorem d_Md_operand_168 : decode jMd_operand.cc 168 = .ok (.imul, 1) := by decide +kernel
theorem d_Md_operand_169 : decode jMd_operand.cc 169 = .ok (.iload_n 3, 1) := by decide +kernel
theorem d_Md_operand_170 : decode jMd_operand.cc 170 = .ok (.iadd, 1) := by decide +kernel
theorem d_Md_operand_171 : decode jMd_operand.cc 171 = .ok (.iaload, 1) := by decide +kernel
theorem d_Md_operand_172 : decode jMd_operand.cc 172 = .ok (.ifCond .le 19, 3) := by decide +kernel
theorem d_Md_operand_175 : decode jMd_operand.cc 175 = .ok (.aload_n 0, 1) := by decide +kernel
theorem d_Md_operand_176 : decode jMd_operand.cc 176 = .ok (.getfield 276, 3) := by decide +kernel
theorem d_Md_operand_179 : decode jMd_operand.cc 179 = .ok (.iconst 4, 1) := by decide +kernel
theorem d_Md_operand_180 : decode jMd_operand.cc 180 = .ok (.aload_n 0, 1) := by decide +kernel
theorem d_Md_operand_181 : decode jMd_operand.cc 181 = .ok (.getfield 610, 3) := by decide +kernel
theorem d_Md_operand_184 : decode jMd_operand.cc 184 = .ok (.imul, 1) := by decide +kernel
theorem d_Md_operand_185 : decode jMd_operand.cc 185 = .ok (.iload_n 3, 1) := by decide +kernel
theorem d_Md_operand_186 : decode jMd_operand.cc 186 = .ok (.iadd, 1) := by decide +kernel
theorem d_Md_operand_187 : decode jMd_operand.cc 187 = .ok (.iaload, 1) := by decide +kernel
theorem d_Md_operand_188 : decode jMd_operand.cc 188 = .ok (.goto 12, 3) := by decide +kernel
theorem d_Md_operand_191 : decode jMd_operand.cc 191 = .ok (.aload_n 0, 1) := by decide +kernel
theorem d_Md_operand_192 : decode jMd_operand.cc 192 = .ok (.iconst 2, 1) := by decide +kernel
theorem d_Md_operand_193 : decode jMd_operand.cc 193 = .ok (.iload_n 3, 1) := by decide +kernel
theorem d_Md_operand_194 : decode jMd_operand.cc 194 = .ok (.invokevirtual 582, 3) := by decide +kernel
theorem d_Md_operand_197 : decode jMd_operand.cc 197 = .ok (.invokestatic 612, 3) := by decide +kernel
theorem d_Md_operand_200 : decode jMd_operand.cc 200 = .ok (.ireturn, 1) := by decide +kernel
theorem d_Md_operand_201 : decode jMd_operand.cc 201 = .ok (.aload_n 0, 1) := by decide +kernel
theorem d_Md_operand_202 : decode jMd_operand.cc 202 = .ok (.getfield 279, 3) := by decide +kernel
theorem d_Md_operand_205 : decode jMd_operand.cc 205 = .ok (.iload_n 3, 1) := by decide +kernel
theorem d_Md_operand_206 : decode jMd_operand.cc 206 = .ok (.iaload, 1) := by decide +kernel
theorem d_Md_operand_207 : decode jMd_operand.cc 207 = .ok (.ifCond .le 12, 3) := by decide +kernel
theorem d_Md_operand_210 : decode jMd_operand.cc 210 = .ok (.aload_n 0, 1) := by decide +kernel
theorem d_Md_operand_211 : decode jMd_operand.cc 211 = .ok (.getfield 282, 3) := by decide +kernel
theorem d_Md_operand_214 : decode jMd_operand.cc 214 = .ok (.iload_n 3, 1) := by decide +kernel
theorem d_Md_operand_215 : decode jMd_operand.cc 215 = .ok (.iaload, 1) := by decide +kernel
theorem d_Md_operand_216 : decode jMd_operand.cc 216 = .ok (.goto 12, 3) := by decide +kernel
theorem d_Md_operand_219 : decode jMd_operand.cc 219 = .ok (.aload_n 0, 1) := by decide +kernel
theorem d_Md_operand_220 : decode jMd_operand.cc 220 = .ok (.iconst 3, 1) := by decide +kernel
theorem d_Md_operand_221 : decode jMd_operand.cc 221 = .ok (.iload_n 3, 1) := by decide +kernel
theorem d_Md_operand_222 : decode jMd_operand.cc 222 = .ok (.invokevirtual 582, 3) := by decide +kernel
theorem d_Md_operand_225 : decode jMd_operand.cc 225 = .ok (.invokestatic 612, 3) := by decide +kernel
theorem d_Md_operand_228 : decode jMd_operand.cc 228 = .ok (.ireturn, 1) := by decide +kernel
theorem d_Md_operand_229 : decode jMd_operand.cc 229 = .ok (.iconst 0, 1) := by decide +kernel
theorem d_Md_operand_230 : decode jMd_operand.cc 230 = .ok (.istore 4, 2) := by decide +kernel
theorem d_Md_operand_232 : decode jMd_operand.cc 232 = .ok (.aload_n 0, 1) := by decide +kernel
theorem d_Md_operand_233 : decode jMd_operand.cc 233 = .ok (.iload_n 2, 1) := by decide +kernel
theorem d_Md_operand_234 : decode jMd_operand.cc 234 = .ok (.ldc 108, 2) := by decide +kernel
theorem d_Md_operand_236 : decode jMd_operand.cc 236 = .ok (.invokevirtual 498, 3) := by decide +kernel
theorem d_Md_operand_239 : decode jMd_operand.cc 239 = .ok (.istore 5, 2) := by decide +kernel
theorem d_Md_operand_241 : decode jMd_operand.cc 241 = .ok (.aload_n 0, 1) := by decide +kernel
theorem d_Md_operand_242 : decode jMd_operand.cc 242 = .ok (.iload_n 2, 1) := by decide +kernel
theorem d_Md_operand_243 : decode jMd_operand.cc 243 = .ok (.ldc 110, 2) := by decide +kernel
theorem d_Md_operand_245 : decode jMd_operand.cc 245 = .ok (.invokevirtual 498, 3) := by decide +kernel
theorem d_Md_operand_248 : decode jMd_operand.cc 248 = .ok (.istore 6, 2) := by decide +kernel
theorem d_Md_operand_250 : decode jMd_operand.cc 250 = .ok (.iconst 0, 1) := by decide +kernel
theorem d_Md_operand_251 : decode jMd_operand.cc 251 = .ok (.istore 7, 2) := by decide +kernel
theorem d_Md_operand_253 : decode jMd_operand.cc 253 = .ok (.iload 7, 2) := by decide +kernel
theorem d_Md_operand_255 : decode jMd_operand.cc 255 = .ok (.aload_n 0, 1) := by decide +kernel
theorem d_Md_operand_256 : decode jMd_operand.cc 256 = .ok (.getfield 546, 3) := by decide +kernel
theorem d_Md_operand_259 : decode jMd_operand.cc 259 = .ok (.if_icmp .ge 57, 3) := by decide +kernel
theorem d_Md_operand_262 : decode jMd_operand.cc 262 = .ok (.iload 4, 2) := by decide +kernel
theorem d_Md_operand_264 : decode jMd_operand.cc 264 = .ok (.iload 5, 2) := by decide +kernel
theorem d_Md_operand_266 : decode jMd_operand.cc 266 = .ok (.ifCond .eq 17, 3) := by decide +kernel
theorem d_Md_operand_269 : decode jMd_operand.cc 269 = .ok (.aload_n 0, 1) := by decide +kernel
theorem d_Md_operand_270 : decode jMd_operand.cc 270 = .ok (.getfield 258, 3) := by decide +kernel
theorem d_Md_operand_273 : decode jMd_operand.cc 273 = .ok (.iload 7, 2) := by decide +kernel
theorem d_Md_operand_275 : decode jMd_operand.cc 275 = .ok (.iaload, 1) := by decide +kernel
theorem d_Md_operand_276 : decode jMd_operand.cc 276 = .ok (.aload_n 0, 1) := by decide +kernel
theorem d_Md_operand_277 : decode jMd_operand.cc 277 = .ok (.getfield 610, 3) := by decide +kernel
theorem d_Md_operand_280 : decode jMd_operand.cc 280 = .ok (.if_icmp .eq 22, 3) := by decide +kernel
theorem d_Md_operand_283 : decode jMd_operand.cc 283 = .ok (.iload 6, 2) := by decide +kernel
theorem d_Md_operand_285 : decode jMd_operand.cc 285 = .ok (.ifCond .eq 21, 3) := by decide +kernel
theorem d_Md_operand_288 : decode jMd_operand.cc 288 = .ok (.aload_n 0, 1) := by decide +kernel
theorem d_Md_operand_289 : decode jMd_operand.cc 289 = .ok (.getfield 261, 3) := by decide +kernel
theorem d_Md_operand_292 : decode jMd_operand.cc 292 = .ok (.iload 7, 2) := by decide +kernel
theorem d_Md_operand_294 : decode jMd_operand.cc 294 = .ok (.iaload, 1) := by decide +kernel
theorem d_Md_operand_295 : decode jMd_operand.cc 295 = .ok (.aload_n 0, 1) := by decide +kernel
theorem d_Md_operand_296 : decode jMd_operand.cc 296 = .ok (.getfield 610, 3) := by decide +kernel
theorem d_Md_operand_299 : decode jMd_operand.cc 299 = .ok (.if_icmp .ne 7, 3) := by decide +kernel
theorem d_Md_operand_302 : decode jMd_operand.cc 302 = .ok (.iconst 1, 1) := by decide +kernel
theorem d_Md_operand_303 : decode jMd_operand.cc 303 = .ok (.goto 4, 3) := by decide +kernel
theorem d_Md_operand_306 : decode jMd_operand.cc 306 = .ok (.iconst 0, 1) := by decide +kernel
theorem d_Md_operand_307 : decode jMd_operand.cc 307 = .ok (.iadd, 1) := by decide +kernel
theorem d_Md_operand_308 : decode jMd_operand.cc 308 = .ok (.istore 4, 2) := by decide +kernel
theorem d_Md_operand_310 : decode jMd_operand.cc 310 = .ok (.iinc 7 1, 3) := by decide +kernel
theorem d_Md_operand_313 : decode jMd_operand.cc 313 = .ok (.goto (-60), 3) := by decide +kernel
theorem d_Md_operand_316 : decode jMd_operand.cc 316 = .ok (.aload_n 0, 1) := by decide +kernel
theorem d_Md_operand_317 : decode jMd_operand.cc 317 = .ok (.iload_n 2, 1) := by decide +kernel
theorem d_Md_operand_318 : decode jMd_operand.cc 318 = .ok (.ldc 102, 2) := by decide +kernel
theorem d_Md_operand_320 : decode jMd_operand.cc 320 = .ok (.invokevirtual 498, 3) := by decide +kernel
theorem d_Md_operand_323 : decode jMd_operand.cc 323 = .ok (.ifCond .eq 10, 3) := by decide +kernel
theorem d_Md_operand_326 : decode jMd_operand.cc 326 = .ok (.aload_n 0, 1) := by decide +kernel
theorem d_Md_operand_327 : decode jMd_operand.cc 327 = .ok (.getfield 610, 3) := by decide +kernel
theorem d_Md_operand_330 : decode jMd_operand.cc 330 = .ok (.goto 39, 3) := by decide +kernel
theorem d_Md_operand_333 : decode jMd_operand.cc 333 = .ok (.aload_n 0, 1) := by decide +kernel
theorem d_Md_operand_334 : decode jMd_operand.cc 334 = .ok (.iload_n 2, 1) := by decide +kernel
theorem d_Md_operand_335 : decode jMd_operand.cc 335 = .ok (.ldc 104, 2) := by decide +kernel
theorem d_Md_operand_337 : decode jMd_operand.cc 337 = .ok (.invokevirtual 498, 3) := by decide +kernel
theorem d_Md_operand_340 : decode jMd_operand.cc 340 = .ok (.ifCond .eq 10, 3) := by decide +kernel
theorem d_Md_operand_343 : decode jMd_operand.cc 343 = .ok (.aload_n 0, 1) := by decide +kernel
theorem d_Md_operand_344 : decode jMd_operand.cc 344 = .ok (.getfield 562, 3) := by decide +kernel
theorem d_Md_operand_347 : decode jMd_operand.cc 347 = .ok (.goto 22, 3) := by decide +kernel
theorem d_Md_operand_350 : decode jMd_operand.cc 350 = .ok (.aload_n 0, 1) := by decide +kernel
theorem d_Md_operand_351 : decode jMd_operand.cc 351 = .ok (.iload_n 2, 1) := by decide +kernel
theorem d_Md_operand_352 : decode jMd_operand.cc 352 = .ok (.ldc 106, 2) := by decide +kernel
theorem d_Md_operand_354 : decode jMd_operand.cc 354 = .ok (.invokevirtual 498, 3) := by decide +kernel
theorem d_Md_operand_357 : decode jMd_operand.cc 357 = .ok (.ifCond .eq 10, 3) := by decide +kernel
theorem d_Md_operand_360 : decode jMd_operand.cc 360 = .ok (.aload_n 0, 1) := by decide +kernel
theorem d_Md_operand_361 : decode jMd_operand.cc 361 = .ok (.getfield 305, 3) := by decide +kernel
theorem d_Md_operand_364 : decode jMd_operand.cc 364 = .ok (.goto 5, 3) := by decide +kernel
theorem d_Md_operand_367 : decode jMd_operand.cc 367 = .ok (.iload 4, 2) := by decide +kernel
theorem d_Md_operand_369 : decode jMd_operand.cc 369 = .ok (.ireturn, 1) := by decide +kernel
set_option maxHeartbeats 4000000 in
theorem s_Md_operand {g : Mg} {d : Nat} {K : Ou → Wd → Prop} {w : Wd} {p1 : Int} (h : (0 ≤ p1 ∧ p1 < 2000) ∧ ((0 ≤ p1 ∧ p1 < 2000) ∧ ((0 ≤ p1 ∧ p1 < 2000) ∧ ((((w 26 p1.toNat) < 0 ∨ 5 < (w 26 p1.toNat)) → (Cal g LM jMd_isSign d [vA 0, vI (w 27 p1.toNat), vA 1034] w (fun o w1 => rIt o (fun b => K (.inr b) w1) (fun x2 => Cal g LM jMd_isSign d [vA 0, vI (w 27 p1.toNat), vA 1035] w1 (fun o w3 => rIt o (fun b => K (.inr b) w3) (fun x4 => V g LM jMd_operand (d + 1) K 253 [(0, vA 0), (2, vI (w 27 p1.toNat)), (4, vI 0), (5, vI x2), (6, vI x4), (7, vI 0)] [] w3)))))) ∧ ((w 26 p1.toNat) = 0 → ((0 ≤ (w 27 p1.toNat) ∧ (w 27 p1.toNat) < 4022) ∧ (K (.inl (some (vI (w 7 ((w 27 p1.toNat).toNat))))) w))) ∧ ((w 26 p1.toNat) = 1 → (K (.inl (some (vI 1))) w)) ∧ ((w 26 p1.toNat) = 2 → (K (.inl (some (vI 0))) w)) ∧ ((w 26 p1.toNat) = 3 → ((0 ≤ p1 ∧ p1 < 2000) ∧ ((¬ (w 32 p1.toNat) = 1 → ((0 ≤ p1 ∧ p1 < 2000) ∧ ((¬ (w 32 p1.toNat) = 4 → ((0 ≤ p1 ∧ p1 < 2000) ∧ ((¬ (w 32 p1.toNat) = 2 → ((0 ≤ (w 33 p1.toNat) ∧ (w 33 p1.toNat) < 4) ∧ (((w 45 ((w 33 p1.toNat).toNat)) ≤ 0 → (Cal g LM jMd_wayOf d [vA 0, vI 3, vI (w 33 p1.toNat)] w (fun o w5 => rIt o (fun b => K (.inr b) w5) (fun x6 => Cal g LM jMd_nothing d [vI x6] w5 (fun o w7 => rIt o (fun b => K (.inr b) w7) (fun x8 => K (.inl (some (vI x8))) w7)))))) ∧ (¬ (w 45 ((w 33 p1.toNat).toNat)) ≤ 0 → ((0 ≤ (w 33 p1.toNat) ∧ (w 33 p1.toNat) < 4) ∧ (K (.inl (some (vI (w 46 ((w 33 p1.toNat).toNat))))) w)))))) ∧ ((w 32 p1.toNat) = 2 → ((0 ≤ (wr ((wr (4 * (w 0 86))) + (w 33 p1.toNat))) ∧ (wr ((wr (4 * (w 0 86))) + (w 33 p1.toNat))) < 160) ∧ (((w 43 ((wr ((wr (4 * (w 0 86))) + (w 33 p1.toNat))).toNat)) ≤ 0 → (Cal g LM jMd_wayOf d [vA 0, vI 2, vI (w 33 p1.toNat)] w (fun o w9 => rIt o (fun b => K (.inr b) w9) (fun x10 => Cal g LM jMd_nothing d [vI x10] w9 (fun o w11 => rIt o (fun b => K (.inr b) w11) (fun x12 => K (.inl (some (vI x12))) w11)))))) ∧ (¬ (w 43 ((wr ((wr (4 * (w 0 86))) + (w 33 p1.toNat))).toNat)) ≤ 0 → ((0 ≤ (wr ((wr (4 * (w 0 86))) + (w 33 p1.toNat))) ∧ (wr ((wr (4 * (w 0 86))) + (w 33 p1.toNat))) < 160) ∧ (K (.inl (some (vI (w 44 ((wr ((wr (4 * (w 0 86))) + (w 33 p1.toNat))).toNat))))) w))))))))) ∧ ((w 32 p1.toNat) = 4 → ((0 ≤ (w 33 p1.toNat) ∧ (w 33 p1.toNat) < 130) ∧ (K (.inl (some (vI (w 53 ((w 33 p1.toNat).toNat))))) w)))))) ∧ ((w 32 p1.toNat) = 1 → ((0 ≤ (wr ((wr (8 * (w 0 86))) + (w 33 p1.toNat))) ∧ (wr ((wr (8 * (w 0 86))) + (w 33 p1.toNat))) < 320) ∧ (K (.inl (some (vI (w 41 ((wr ((wr (8 * (w 0 86))) + (w 33 p1.toNat))).toNat))))) w)))))) ∧ ((w 26 p1.toNat) = 4 → ((0 ≤ (wr ((wr (4 * (w 0 90))) + (w 33 p1.toNat))) ∧ (wr ((wr (4 * (w 0 90))) + (w 33 p1.toNat))) < 480) ∧ (K (.inl (some (vI (w 40 ((wr ((wr (4 * (w 0 90))) + (w 33 p1.toNat))).toNat))))) w))) ∧ ((w 26 p1.toNat) = 5 → ((0 ≤ (wr ((wr (4 * (w 0 86))) + (w 33 p1.toNat))) ∧ (wr ((wr (4 * (w 0 86))) + (w 33 p1.toNat))) < 160) ∧ (((w 43 ((wr ((wr (4 * (w 0 86))) + (w 33 p1.toNat))).toNat)) ≤ 0 → (K (.inl (some (vI 0))) w)) ∧ (¬ (w 43 ((wr ((wr (4 * (w 0 86))) + (w 33 p1.toNat))).toNat)) ≤ 0 → (K (.inl (some (vI 1))) w))))))))) : V g LM jMd_operand (d + 1) K 0 [(0, vA 0), (1, vI p1)] [] w := by
  refine v_aload_n (pc := 0) d_Md_operand_0 rfl (.head _) ?_
  refine v_getr (C := "") (pc := 1) (r := 27) d_Md_operand_1 fl_Md_219 cM_0.1 cM_0.2 (Or.inr ⟨_, rfl⟩) rM_0_33 ?_
  refine v_iload_n (pc := 4) d_Md_operand_4 rfl (.tail _ (.head _)) ?_
  refine v_iald (pc := 5) (x := (w 27 p1.toNat)) d_Md_operand_5 cM_27.1 cM_27.2 rfl h.1 ?_
  replace h := h.2
  refine v_istore_n (pc := 6) (ls' := [(2, vI (w 27 p1.toNat)), (0, vA 0), (1, vI p1)]) d_Md_operand_6 rfl (by decide) rfl ?_
  refine v_aload_n (pc := 7) d_Md_operand_7 rfl (.tail _ (.head _)) ?_
  refine v_getr (C := "") (pc := 8) (r := 33) d_Md_operand_8 fl_Md_237 cM_0.1 cM_0.2 (Or.inr ⟨_, rfl⟩) rM_0_39 ?_
  refine v_iload_n (pc := 11) d_Md_operand_11 rfl (.tail _ (.tail _ (.head _))) ?_
  refine v_iald (pc := 12) (x := (w 33 p1.toNat)) d_Md_operand_12 cM_33.1 cM_33.2 rfl h.1 ?_
  replace h := h.2
  refine v_istore_n (pc := 13) (ls' := [(3, vI (w 33 p1.toNat)), (2, vI (w 27 p1.toNat)), (0, vA 0), (1, vI p1)]) d_Md_operand_13 rfl (by decide) rfl ?_
  refine v_aload_n (pc := 14) d_Md_operand_14 rfl (.tail _ (.tail _ (.head _))) ?_
  refine v_getr (C := "") (pc := 15) (r := 26) d_Md_operand_15 fl_Md_216 cM_0.1 cM_0.2 (Or.inr ⟨_, rfl⟩) rM_0_32 ?_
  refine v_iload_n (pc := 18) d_Md_operand_18 rfl (.tail _ (.tail _ (.tail _ (.head _)))) ?_
  refine v_iald (pc := 19) (x := (w 26 p1.toNat)) d_Md_operand_19 cM_26.1 cM_26.2 rfl h.1 ?_
  replace h := h.2
  refine v_table (pc := 20) (tgd := 229) (tgs := [60, 67, 69, 107, 71, 85]) d_Md_operand_20 (by decide) (by decide) (by decide) (fun c => ?_) ⟨fun c => ?_, fun c => ?_, fun c => ?_, fun c => ?_, fun c => ?_, fun c => ?_, trivial⟩
  · replace h := h.1 c
    refine v_iconst (pc := 229) d_Md_operand_229 (by decide) ?_
    refine v_istore (pc := 230) (ls' := [(4, vI 0), (3, vI (w 33 p1.toNat)), (2, vI (w 27 p1.toNat)), (0, vA 0), (1, vI p1)]) d_Md_operand_230 (by decide) rfl ?_
    refine v_aload_n (pc := 232) d_Md_operand_232 rfl (.tail _ (.tail _ (.tail _ (.head _)))) ?_
    refine v_iload_n (pc := 233) d_Md_operand_233 rfl (.tail _ (.tail _ (.head _))) ?_
    refine v_ldcs (pc := 234) (n := 33) (tx := "degree") d_Md_operand_234 (by decide +kernel) ?_
    refine v_callV (pc := 236) (J' := jMd_isSign) (d' := d) (o := 0) (ci := 13) (N := 93) (T := cT13) (As := [vI (w 27 p1.toNat), vA 1034]) d_Md_operand_236 ml_Md_498 cM_0.1 cM_0.2 (by decide) rfl rfl (Nat.le_of_ble_eq_true rfl) (Nat.le_refl _) rfl (Cal.weak h (fun o w1 h => ?_))
    rcases rIt_of h with ⟨x2, rfl, h⟩ | ⟨b, rfl, h⟩
    rotate_left
    · exact h
    refine v_istore (pc := 239) (ls' := [(5, vI x2), (4, vI 0), (3, vI (w 33 p1.toNat)), (2, vI (w 27 p1.toNat)), (0, vA 0), (1, vI p1)]) d_Md_operand_239 (by decide) rfl ?_
    refine v_aload_n (pc := 241) d_Md_operand_241 rfl (.tail _ (.tail _ (.tail _ (.tail _ (.head _))))) ?_
    refine v_iload_n (pc := 242) d_Md_operand_242 rfl (.tail _ (.tail _ (.tail _ (.head _)))) ?_
    refine v_ldcs (pc := 243) (n := 34) (tx := "indegree") d_Md_operand_243 (by decide +kernel) ?_
    refine v_callV (pc := 245) (J' := jMd_isSign) (d' := d) (o := 0) (ci := 13) (N := 93) (T := cT13) (As := [vI (w 27 p1.toNat), vA 1035]) d_Md_operand_245 ml_Md_498 cM_0.1 cM_0.2 (by decide) rfl rfl (Nat.le_of_ble_eq_true rfl) (Nat.le_refl _) rfl (Cal.weak h (fun o w3 h => ?_))
    rcases rIt_of h with ⟨x4, rfl, h⟩ | ⟨b, rfl, h⟩
    rotate_left
    · exact h
    refine v_istore (pc := 248) (ls' := [(6, vI x4), (5, vI x2), (4, vI 0), (3, vI (w 33 p1.toNat)), (2, vI (w 27 p1.toNat)), (0, vA 0), (1, vI p1)]) d_Md_operand_248 (by decide) rfl ?_
    refine v_iconst (pc := 250) d_Md_operand_250 (by decide) ?_
    refine v_istore (pc := 251) (ls' := [(7, vI 0), (6, vI x4), (5, vI x2), (4, vI 0), (3, vI (w 33 p1.toNat)), (2, vI (w 27 p1.toNat)), (0, vA 0), (1, vI p1)]) d_Md_operand_251 (by decide) rfl ?_
    exact v_sub (List.forall_mem_cons.mpr ⟨(.tail _ (.tail _ (.tail _ (.tail _ (.tail _ (.tail _ (.head _))))))), (List.forall_mem_cons.mpr ⟨(.tail _ (.tail _ (.tail _ (.tail _ (.tail _ (.head _)))))), (List.forall_mem_cons.mpr ⟨(.tail _ (.tail _ (.tail _ (.head _)))), (List.forall_mem_cons.mpr ⟨(.tail _ (.tail _ (.head _))), (List.forall_mem_cons.mpr ⟨(.tail _ (.head _)), (List.forall_mem_cons.mpr ⟨(.head _), (fun _ z => absurd z List.not_mem_nil)⟩)⟩)⟩)⟩)⟩)⟩) h
  · replace h := h.2.1 c
    refine v_aload_n (pc := 60) d_Md_operand_60 rfl (.tail _ (.tail _ (.head _))) ?_
    refine v_getr (C := "") (pc := 61) (r := 7) d_Md_operand_61 fl_Md_43 cM_0.1 cM_0.2 (Or.inr ⟨_, rfl⟩) rM_0_9 ?_
    refine v_iload_n (pc := 64) d_Md_operand_64 rfl (.tail _ (.head _)) ?_
    refine v_iald (pc := 65) (x := (w 7 ((w 27 p1.toNat).toNat))) d_Md_operand_65 cM_7.1 cM_7.2 rfl h.1 ?_
    replace h := h.2
    exact v_iret (pc := 66) d_Md_operand_66 rfl h
  · replace h := h.2.2.1 c
    refine v_iconst (pc := 67) d_Md_operand_67 (by decide) ?_
    exact v_iret (pc := 68) d_Md_operand_68 rfl h
  · replace h := h.2.2.2.1 c
    refine v_iconst (pc := 69) d_Md_operand_69 (by decide) ?_
    exact v_iret (pc := 70) d_Md_operand_70 rfl h
  · replace h := h.2.2.2.2.1 c
    refine v_aload_n (pc := 107) d_Md_operand_107 rfl (.tail _ (.tail _ (.head _))) ?_
    refine v_getr (C := "") (pc := 108) (r := 32) d_Md_operand_108 fl_Md_234 cM_0.1 cM_0.2 (Or.inr ⟨_, rfl⟩) rM_0_38 ?_
    refine v_iload_n (pc := 111) d_Md_operand_111 rfl (.tail _ (.tail _ (.tail _ (.head _)))) ?_
    refine v_iald (pc := 112) (x := (w 32 p1.toNat)) d_Md_operand_112 cM_32.1 cM_32.2 rfl h.1 ?_
    replace h := h.2
    refine v_iconst (pc := 113) d_Md_operand_113 (by decide) ?_
    refine v_icmpne (pc := 114) (tgt := 132) d_Md_operand_114 (by decide) (fun c => ?_) (fun c => ?_)
    · replace h := h.1 c
      refine v_aload_n (pc := 132) d_Md_operand_132 rfl (.tail _ (.tail _ (.head _))) ?_
      refine v_getr (C := "") (pc := 133) (r := 32) d_Md_operand_133 fl_Md_234 cM_0.1 cM_0.2 (Or.inr ⟨_, rfl⟩) rM_0_38 ?_
      refine v_iload_n (pc := 136) d_Md_operand_136 rfl (.tail _ (.tail _ (.tail _ (.head _)))) ?_
      refine v_iald (pc := 137) (x := (w 32 p1.toNat)) d_Md_operand_137 cM_32.1 cM_32.2 rfl h.1 ?_
      replace h := h.2
      refine v_iconst (pc := 138) d_Md_operand_138 (by decide) ?_
      refine v_icmpne (pc := 139) (tgt := 149) d_Md_operand_139 (by decide) (fun c => ?_) (fun c => ?_)
      · replace h := h.1 c
        refine v_aload_n (pc := 149) d_Md_operand_149 rfl (.tail _ (.tail _ (.head _))) ?_
        refine v_getr (C := "") (pc := 150) (r := 32) d_Md_operand_150 fl_Md_234 cM_0.1 cM_0.2 (Or.inr ⟨_, rfl⟩) rM_0_38 ?_
        refine v_iload_n (pc := 153) d_Md_operand_153 rfl (.tail _ (.tail _ (.tail _ (.head _)))) ?_
        refine v_iald (pc := 154) (x := (w 32 p1.toNat)) d_Md_operand_154 cM_32.1 cM_32.2 rfl h.1 ?_
        replace h := h.2
        refine v_iconst (pc := 155) d_Md_operand_155 (by decide) ?_
        refine v_icmpne (pc := 156) (tgt := 201) d_Md_operand_156 (by decide) (fun c => ?_) (fun c => ?_)
        · replace h := h.1 c
          refine v_aload_n (pc := 201) d_Md_operand_201 rfl (.tail _ (.tail _ (.head _))) ?_
          refine v_getr (C := "") (pc := 202) (r := 45) d_Md_operand_202 fl_Md_279 cM_0.1 cM_0.2 (Or.inr ⟨_, rfl⟩) rM_0_71 ?_
          refine v_iload_n (pc := 205) d_Md_operand_205 rfl (.head _) ?_
          refine v_iald (pc := 206) (x := (w 45 ((w 33 p1.toNat).toNat))) d_Md_operand_206 cM_45.1 cM_45.2 rfl h.1 ?_
          replace h := h.2
          refine v_ifle (pc := 207) (tgt := 219) d_Md_operand_207 (by decide) (fun c => ?_) (fun c => ?_)
          · replace h := h.1 c
            refine v_aload_n (pc := 219) d_Md_operand_219 rfl (.tail _ (.tail _ (.head _))) ?_
            refine v_iconst (pc := 220) d_Md_operand_220 (by decide) ?_
            refine v_iload_n (pc := 221) d_Md_operand_221 rfl (.head _) ?_
            refine v_callV (pc := 222) (J' := jMd_wayOf) (d' := d) (o := 0) (ci := 13) (N := 93) (T := cT13) (As := [vI 3, vI (w 33 p1.toNat)]) d_Md_operand_222 ml_Md_582 cM_0.1 cM_0.2 (by decide) rfl rfl (Nat.le_of_ble_eq_true rfl) (Nat.le_refl _) rfl (Cal.weak h (fun o w5 h => ?_))
            rcases rIt_of h with ⟨x6, rfl, h⟩ | ⟨b, rfl, h⟩
            rotate_left
            · exact h
            refine v_callS (pc := 225) (J' := jMd_nothing) (d' := d) (As := [vI x6]) d_Md_operand_225 ml_Md_612 rfl (Nat.le_of_ble_eq_true rfl) (Nat.le_refl _) rfl (Cal.weak h (fun o w7 h => ?_))
            rcases rIt_of h with ⟨x8, rfl, h⟩ | ⟨b, rfl, h⟩
            rotate_left
            · exact h
            exact v_iret (pc := 228) d_Md_operand_228 rfl h
          · replace h := h.2 c
            refine v_aload_n (pc := 210) d_Md_operand_210 rfl (.tail _ (.tail _ (.head _))) ?_
            refine v_getr (C := "") (pc := 211) (r := 46) d_Md_operand_211 fl_Md_282 cM_0.1 cM_0.2 (Or.inr ⟨_, rfl⟩) rM_0_72 ?_
            refine v_iload_n (pc := 214) d_Md_operand_214 rfl (.head _) ?_
            refine v_iald (pc := 215) (x := (w 46 ((w 33 p1.toNat).toNat))) d_Md_operand_215 cM_46.1 cM_46.2 rfl h.1 ?_
            replace h := h.2
            refine v_goto (pc := 216) (tgt := 228) d_Md_operand_216 (by decide) ?_
            exact v_iret (pc := 228) d_Md_operand_228 rfl h
        · replace h := h.2 c
          refine v_aload_n (pc := 159) d_Md_operand_159 rfl (.tail _ (.tail _ (.head _))) ?_
          refine v_getr (C := "") (pc := 160) (r := 43) d_Md_operand_160 fl_Md_273 cM_0.1 cM_0.2 (Or.inr ⟨_, rfl⟩) rM_0_69 ?_
          refine v_iconst (pc := 163) d_Md_operand_163 (by decide) ?_
          refine v_aload_n (pc := 164) d_Md_operand_164 rfl (.tail _ (.tail _ (.head _))) ?_
          refine v_geti (pc := 165) (x := (w 0 86)) d_Md_operand_165 fl_Md_610 cM_0.1 cM_0.2 (Or.inl rfl) rfl ?_
          refine v_imul (pc := 168) d_Md_operand_168 ?_
          refine v_iload_n (pc := 169) d_Md_operand_169 rfl (.head _) ?_
          refine v_iadd (pc := 170) d_Md_operand_170 ?_
          refine v_iald (pc := 171) (x := (w 43 ((wr ((wr (4 * (w 0 86))) + (w 33 p1.toNat))).toNat))) d_Md_operand_171 cM_43.1 cM_43.2 rfl h.1 ?_
          replace h := h.2
          refine v_ifle (pc := 172) (tgt := 191) d_Md_operand_172 (by decide) (fun c => ?_) (fun c => ?_)
          · replace h := h.1 c
            refine v_aload_n (pc := 191) d_Md_operand_191 rfl (.tail _ (.tail _ (.head _))) ?_
            refine v_iconst (pc := 192) d_Md_operand_192 (by decide) ?_
            refine v_iload_n (pc := 193) d_Md_operand_193 rfl (.head _) ?_
            refine v_callV (pc := 194) (J' := jMd_wayOf) (d' := d) (o := 0) (ci := 13) (N := 93) (T := cT13) (As := [vI 2, vI (w 33 p1.toNat)]) d_Md_operand_194 ml_Md_582 cM_0.1 cM_0.2 (by decide) rfl rfl (Nat.le_of_ble_eq_true rfl) (Nat.le_refl _) rfl (Cal.weak h (fun o w9 h => ?_))
            rcases rIt_of h with ⟨x10, rfl, h⟩ | ⟨b, rfl, h⟩
            rotate_left
            · exact h
            refine v_callS (pc := 197) (J' := jMd_nothing) (d' := d) (As := [vI x10]) d_Md_operand_197 ml_Md_612 rfl (Nat.le_of_ble_eq_true rfl) (Nat.le_refl _) rfl (Cal.weak h (fun o w11 h => ?_))
            rcases rIt_of h with ⟨x12, rfl, h⟩ | ⟨b, rfl, h⟩
            rotate_left
            · exact h
            exact v_iret (pc := 200) d_Md_operand_200 rfl h
          · replace h := h.2 c
            refine v_aload_n (pc := 175) d_Md_operand_175 rfl (.tail _ (.tail _ (.head _))) ?_
            refine v_getr (C := "") (pc := 176) (r := 44) d_Md_operand_176 fl_Md_276 cM_0.1 cM_0.2 (Or.inr ⟨_, rfl⟩) rM_0_70 ?_
            refine v_iconst (pc := 179) d_Md_operand_179 (by decide) ?_
            refine v_aload_n (pc := 180) d_Md_operand_180 rfl (.tail _ (.tail _ (.head _))) ?_
            refine v_geti (pc := 181) (x := (w 0 86)) d_Md_operand_181 fl_Md_610 cM_0.1 cM_0.2 (Or.inl rfl) rfl ?_
            refine v_imul (pc := 184) d_Md_operand_184 ?_
            refine v_iload_n (pc := 185) d_Md_operand_185 rfl (.head _) ?_
            refine v_iadd (pc := 186) d_Md_operand_186 ?_
            refine v_iald (pc := 187) (x := (w 44 ((wr ((wr (4 * (w 0 86))) + (w 33 p1.toNat))).toNat))) d_Md_operand_187 cM_44.1 cM_44.2 rfl h.1 ?_
            replace h := h.2
            refine v_goto (pc := 188) (tgt := 200) d_Md_operand_188 (by decide) ?_
            exact v_iret (pc := 200) d_Md_operand_200 rfl h
      · replace h := h.2 c
        refine v_aload_n (pc := 142) d_Md_operand_142 rfl (.tail _ (.tail _ (.head _))) ?_
        refine v_getr (C := "") (pc := 143) (r := 53) d_Md_operand_143 fl_Md_303 cM_0.1 cM_0.2 (Or.inr ⟨_, rfl⟩) rM_0_92 ?_
        refine v_iload_n (pc := 146) d_Md_operand_146 rfl (.head _) ?_
        refine v_iald (pc := 147) (x := (w 53 ((w 33 p1.toNat).toNat))) d_Md_operand_147 cM_53.1 cM_53.2 rfl h.1 ?_
        replace h := h.2
        exact v_iret (pc := 148) d_Md_operand_148 rfl h
    · replace h := h.2 c
      refine v_aload_n (pc := 117) d_Md_operand_117 rfl (.tail _ (.tail _ (.head _))) ?_
      refine v_getr (C := "") (pc := 118) (r := 41) d_Md_operand_118 fl_Md_267 cM_0.1 cM_0.2 (Or.inr ⟨_, rfl⟩) rM_0_67 ?_
      refine v_bipush (pc := 121) d_Md_operand_121 (by decide) rfl ?_
      refine v_aload_n (pc := 123) d_Md_operand_123 rfl (.tail _ (.tail _ (.head _))) ?_
      refine v_geti (pc := 124) (x := (w 0 86)) d_Md_operand_124 fl_Md_610 cM_0.1 cM_0.2 (Or.inl rfl) rfl ?_
      refine v_imul (pc := 127) d_Md_operand_127 ?_
      refine v_iload_n (pc := 128) d_Md_operand_128 rfl (.head _) ?_
      refine v_iadd (pc := 129) d_Md_operand_129 ?_
      refine v_iald (pc := 130) (x := (w 41 ((wr ((wr (8 * (w 0 86))) + (w 33 p1.toNat))).toNat))) d_Md_operand_130 cM_41.1 cM_41.2 rfl h.1 ?_
      replace h := h.2
      exact v_iret (pc := 131) d_Md_operand_131 rfl h
  · replace h := h.2.2.2.2.2.1 c
    refine v_aload_n (pc := 71) d_Md_operand_71 rfl (.tail _ (.tail _ (.head _))) ?_
    refine v_getr (C := "") (pc := 72) (r := 40) d_Md_operand_72 fl_Md_264 cM_0.1 cM_0.2 (Or.inr ⟨_, rfl⟩) rM_0_63 ?_
    refine v_iconst (pc := 75) d_Md_operand_75 (by decide) ?_
    refine v_aload_n (pc := 76) d_Md_operand_76 rfl (.tail _ (.tail _ (.head _))) ?_
    refine v_geti (pc := 77) (x := (w 0 90)) d_Md_operand_77 fl_Md_607 cM_0.1 cM_0.2 (Or.inl rfl) rfl ?_
    refine v_imul (pc := 80) d_Md_operand_80 ?_
    refine v_iload_n (pc := 81) d_Md_operand_81 rfl (.head _) ?_
    refine v_iadd (pc := 82) d_Md_operand_82 ?_
    refine v_iald (pc := 83) (x := (w 40 ((wr ((wr (4 * (w 0 90))) + (w 33 p1.toNat))).toNat))) d_Md_operand_83 cM_40.1 cM_40.2 rfl h.1 ?_
    replace h := h.2
    exact v_iret (pc := 84) d_Md_operand_84 rfl h
  · replace h := h.2.2.2.2.2.2 c
    refine v_aload_n (pc := 85) d_Md_operand_85 rfl (.tail _ (.tail _ (.head _))) ?_
    refine v_getr (C := "") (pc := 86) (r := 43) d_Md_operand_86 fl_Md_273 cM_0.1 cM_0.2 (Or.inr ⟨_, rfl⟩) rM_0_69 ?_
    refine v_iconst (pc := 89) d_Md_operand_89 (by decide) ?_
    refine v_aload_n (pc := 90) d_Md_operand_90 rfl (.tail _ (.tail _ (.head _))) ?_
    refine v_geti (pc := 91) (x := (w 0 86)) d_Md_operand_91 fl_Md_610 cM_0.1 cM_0.2 (Or.inl rfl) rfl ?_
    refine v_imul (pc := 94) d_Md_operand_94 ?_
    refine v_iload_n (pc := 95) d_Md_operand_95 rfl (.head _) ?_
    refine v_iadd (pc := 96) d_Md_operand_96 ?_
    refine v_iald (pc := 97) (x := (w 43 ((wr ((wr (4 * (w 0 86))) + (w 33 p1.toNat))).toNat))) d_Md_operand_97 cM_43.1 cM_43.2 rfl h.1 ?_
    replace h := h.2
    refine v_ifle (pc := 98) (tgt := 105) d_Md_operand_98 (by decide) (fun c => ?_) (fun c => ?_)
    · replace h := h.1 c
      refine v_iconst (pc := 105) d_Md_operand_105 (by decide) ?_
      exact v_iret (pc := 106) d_Md_operand_106 rfl h
    · replace h := h.2 c
      refine v_iconst (pc := 101) d_Md_operand_101 (by decide) ?_
      refine v_goto (pc := 102) (tgt := 106) d_Md_operand_102 (by decide) ?_
      exact v_iret (pc := 106) d_Md_operand_106 rfl h
set_option maxHeartbeats 4000000 in
theorem s_Md_operand_253 {g : Mg} {d : Nat} {K : Ou → Wd → Prop} {w : Wd} {x2_ : Int} {x4_ : Int} {x5_ : Int} {x6_ : Int} {x7_ : Int} (h : ((w 0 60) ≤ x7_ → (Cal g LM jMd_isSign d [vA 0, vI x2_, vA 1031] w (fun o w1 => rIt o (fun b => K (.inr b) w1) (fun x2 => (x2 = 0 → (Cal g LM jMd_isSign d [vA 0, vI x2_, vA 1032] w1 (fun o w3 => rIt o (fun b => K (.inr b) w3) (fun x4 => (x4 = 0 → (Cal g LM jMd_isSign d [vA 0, vI x2_, vA 1033] w3 (fun o w5 => rIt o (fun b => K (.inr b) w5) (fun x6 => (x6 = 0 → (K (.inl (some (vI x4_))) w5)) ∧ (¬ x6 = 0 → (K (.inl (some (vI (w5 0 59)))) w5)))))) ∧ (¬ x4 = 0 → (K (.inl (some (vI (w3 0 66)))) w3)))))) ∧ (¬ x2 = 0 → (K (.inl (some (vI (w1 0 86)))) w1)))))) ∧ (¬ (w 0 60) ≤ x7_ → ((x5_ = 0 → ((x6_ = 0 → (V g LM jMd_operand (d + 1) K 253 [(0, vA 0), (2, vI x2_), (4, vI (wr (x4_ + 0))), (5, vI x5_), (6, vI x6_), (7, vI (wr (x7_ + 1)))] [] w)) ∧ (¬ x6_ = 0 → ((0 ≤ x7_ ∧ x7_ < 120) ∧ ((¬ (w 39 x7_.toNat) = (w 0 86) → (V g LM jMd_operand (d + 1) K 253 [(0, vA 0), (2, vI x2_), (4, vI (wr (x4_ + 0))), (5, vI x5_), (6, vI x6_), (7, vI (wr (x7_ + 1)))] [] w)) ∧ ((w 39 x7_.toNat) = (w 0 86) → (V g LM jMd_operand (d + 1) K 253 [(0, vA 0), (2, vI x2_), (4, vI (wr (x4_ + 1))), (5, vI x5_), (6, vI x6_), (7, vI (wr (x7_ + 1)))] [] w))))))) ∧ (¬ x5_ = 0 → ((0 ≤ x7_ ∧ x7_ < 120) ∧ (((w 38 x7_.toNat) = (w 0 86) → (V g LM jMd_operand (d + 1) K 253 [(0, vA 0), (2, vI x2_), (4, vI (wr (x4_ + 1))), (5, vI x5_), (6, vI x6_), (7, vI (wr (x7_ + 1)))] [] w)) ∧ (¬ (w 38 x7_.toNat) = (w 0 86) → ((x6_ = 0 → (V g LM jMd_operand (d + 1) K 253 [(0, vA 0), (2, vI x2_), (4, vI (wr (x4_ + 0))), (5, vI x5_), (6, vI x6_), (7, vI (wr (x7_ + 1)))] [] w)) ∧ (¬ x6_ = 0 → ((0 ≤ x7_ ∧ x7_ < 120) ∧ ((¬ (w 39 x7_.toNat) = (w 0 86) → (V g LM jMd_operand (d + 1) K 253 [(0, vA 0), (2, vI x2_), (4, vI (wr (x4_ + 0))), (5, vI x5_), (6, vI x6_), (7, vI (wr (x7_ + 1)))] [] w)) ∧ ((w 39 x7_.toNat) = (w 0 86) → (V g LM jMd_operand (d + 1) K 253 [(0, vA 0), (2, vI x2_), (4, vI (wr (x4_ + 1))), (5, vI x5_), (6, vI x6_), (7, vI (wr (x7_ + 1)))] [] w))))))))))))) : V g LM jMd_operand (d + 1) K 253 [(0, vA 0), (2, vI x2_), (4, vI x4_), (5, vI x5_), (6, vI x6_), (7, vI x7_)] [] w := by
  refine v_iload (pc := 253) d_Md_operand_253 (.tail _ (.tail _ (.tail _ (.tail _ (.tail _ (.head _)))))) ?_
  refine v_aload_n (pc := 255) d_Md_operand_255 rfl (.head _) ?_
  refine v_geti (pc := 256) (x := (w 0 60)) d_Md_operand_256 fl_Md_546 cM_0.1 cM_0.2 (Or.inl rfl) rfl ?_
  refine v_icmpge (pc := 259) (tgt := 316) d_Md_operand_259 (by decide) (fun c => ?_) (fun c => ?_)
  · replace h := h.1 c
    refine v_aload_n (pc := 316) d_Md_operand_316 rfl (.head _) ?_
    refine v_iload_n (pc := 317) d_Md_operand_317 rfl (.tail _ (.head _)) ?_
    refine v_ldcs (pc := 318) (n := 30) (tx := "id") d_Md_operand_318 (by decide +kernel) ?_
    refine v_callV (pc := 320) (J' := jMd_isSign) (d' := d) (o := 0) (ci := 13) (N := 93) (T := cT13) (As := [vI x2_, vA 1031]) d_Md_operand_320 ml_Md_498 cM_0.1 cM_0.2 (by decide) rfl rfl (Nat.le_of_ble_eq_true rfl) (Nat.le_refl _) rfl (Cal.weak h (fun o w1 h => ?_))
    rcases rIt_of h with ⟨x2, rfl, h⟩ | ⟨b, rfl, h⟩
    rotate_left
    · exact h
    refine v_ifeq (pc := 323) (tgt := 333) d_Md_operand_323 (by decide) (fun c => ?_) (fun c => ?_)
    · replace h := h.1 c
      refine v_aload_n (pc := 333) d_Md_operand_333 rfl (.head _) ?_
      refine v_iload_n (pc := 334) d_Md_operand_334 rfl (.tail _ (.head _)) ?_
      refine v_ldcs (pc := 335) (n := 31) (tx := "turn") d_Md_operand_335 (by decide +kernel) ?_
      refine v_callV (pc := 337) (J' := jMd_isSign) (d' := d) (o := 0) (ci := 13) (N := 93) (T := cT13) (As := [vI x2_, vA 1032]) d_Md_operand_337 ml_Md_498 cM_0.1 cM_0.2 (by decide) rfl rfl (Nat.le_of_ble_eq_true rfl) (Nat.le_refl _) rfl (Cal.weak h (fun o w3 h => ?_))
      rcases rIt_of h with ⟨x4, rfl, h⟩ | ⟨b, rfl, h⟩
      rotate_left
      · exact h
      refine v_ifeq (pc := 340) (tgt := 350) d_Md_operand_340 (by decide) (fun c => ?_) (fun c => ?_)
      · replace h := h.1 c
        refine v_aload_n (pc := 350) d_Md_operand_350 rfl (.head _) ?_
        refine v_iload_n (pc := 351) d_Md_operand_351 rfl (.tail _ (.head _)) ?_
        refine v_ldcs (pc := 352) (n := 32) (tx := "nodes") d_Md_operand_352 (by decide +kernel) ?_
        refine v_callV (pc := 354) (J' := jMd_isSign) (d' := d) (o := 0) (ci := 13) (N := 93) (T := cT13) (As := [vI x2_, vA 1033]) d_Md_operand_354 ml_Md_498 cM_0.1 cM_0.2 (by decide) rfl rfl (Nat.le_of_ble_eq_true rfl) (Nat.le_refl _) rfl (Cal.weak h (fun o w5 h => ?_))
        rcases rIt_of h with ⟨x6, rfl, h⟩ | ⟨b, rfl, h⟩
        rotate_left
        · exact h
        refine v_ifeq (pc := 357) (tgt := 367) d_Md_operand_357 (by decide) (fun c => ?_) (fun c => ?_)
        · replace h := h.1 c
          refine v_iload (pc := 367) d_Md_operand_367 (.tail _ (.tail _ (.head _))) ?_
          exact v_iret (pc := 369) d_Md_operand_369 rfl h
        · replace h := h.2 c
          refine v_aload_n (pc := 360) d_Md_operand_360 rfl (.head _) ?_
          refine v_geti (pc := 361) (x := (w5 0 59)) d_Md_operand_361 fl_Md_305 cM_0.1 cM_0.2 (Or.inl rfl) rfl ?_
          refine v_goto (pc := 364) (tgt := 369) d_Md_operand_364 (by decide) ?_
          exact v_iret (pc := 369) d_Md_operand_369 rfl h
      · replace h := h.2 c
        refine v_aload_n (pc := 343) d_Md_operand_343 rfl (.head _) ?_
        refine v_geti (pc := 344) (x := (w3 0 66)) d_Md_operand_344 fl_Md_562 cM_0.1 cM_0.2 (Or.inl rfl) rfl ?_
        refine v_goto (pc := 347) (tgt := 369) d_Md_operand_347 (by decide) ?_
        exact v_iret (pc := 369) d_Md_operand_369 rfl h
    · replace h := h.2 c
      refine v_aload_n (pc := 326) d_Md_operand_326 rfl (.head _) ?_
      refine v_geti (pc := 327) (x := (w1 0 86)) d_Md_operand_327 fl_Md_610 cM_0.1 cM_0.2 (Or.inl rfl) rfl ?_
      refine v_goto (pc := 330) (tgt := 369) d_Md_operand_330 (by decide) ?_
      exact v_iret (pc := 369) d_Md_operand_369 rfl h
  · replace h := h.2 c
    refine v_iload (pc := 262) d_Md_operand_262 (.tail _ (.tail _ (.head _))) ?_
    refine v_iload (pc := 264) d_Md_operand_264 (.tail _ (.tail _ (.tail _ (.head _)))) ?_
    refine v_ifeq (pc := 266) (tgt := 283) d_Md_operand_266 (by decide) (fun c => ?_) (fun c => ?_)
    · replace h := h.1 c
      refine v_iload (pc := 283) d_Md_operand_283 (.tail _ (.tail _ (.tail _ (.tail _ (.head _))))) ?_
      refine v_ifeq (pc := 285) (tgt := 306) d_Md_operand_285 (by decide) (fun c => ?_) (fun c => ?_)
      · replace h := h.1 c
        refine v_iconst (pc := 306) d_Md_operand_306 (by decide) ?_
        refine v_iadd (pc := 307) d_Md_operand_307 ?_
        refine v_istore (pc := 308) (ls' := [(4, vI (wr (x4_ + 0))), (0, vA 0), (2, vI x2_), (5, vI x5_), (6, vI x6_), (7, vI x7_)]) d_Md_operand_308 (by decide) rfl ?_
        refine v_iinc (pc := 310) (ls' := [(7, vI (wr (x7_ + 1))), (4, vI (wr (x4_ + 0))), (0, vA 0), (2, vI x2_), (5, vI x5_), (6, vI x6_)]) d_Md_operand_310 (.tail _ (.tail _ (.tail _ (.tail _ (.tail _ (.head _)))))) (by decide) rfl ?_
        refine v_goto (pc := 313) (tgt := 253) d_Md_operand_313 (by decide) ?_
        exact v_sub (List.forall_mem_cons.mpr ⟨(.tail _ (.tail _ (.head _))), (List.forall_mem_cons.mpr ⟨(.tail _ (.tail _ (.tail _ (.head _)))), (List.forall_mem_cons.mpr ⟨(.tail _ (.head _)), (List.forall_mem_cons.mpr ⟨(.tail _ (.tail _ (.tail _ (.tail _ (.head _))))), (List.forall_mem_cons.mpr ⟨(.tail _ (.tail _ (.tail _ (.tail _ (.tail _ (.head _)))))), (List.forall_mem_cons.mpr ⟨(.head _), (fun _ z => absurd z List.not_mem_nil)⟩)⟩)⟩)⟩)⟩)⟩) h
      · replace h := h.2 c
        refine v_aload_n (pc := 288) d_Md_operand_288 rfl (.head _) ?_
        refine v_getr (C := "") (pc := 289) (r := 39) d_Md_operand_289 fl_Md_261 cM_0.1 cM_0.2 (Or.inr ⟨_, rfl⟩) rM_0_62 ?_
        refine v_iload (pc := 292) d_Md_operand_292 (.tail _ (.tail _ (.tail _ (.tail _ (.tail _ (.head _)))))) ?_
        refine v_iald (pc := 294) (x := (w 39 x7_.toNat)) d_Md_operand_294 cM_39.1 cM_39.2 rfl h.1 ?_
        replace h := h.2
        refine v_aload_n (pc := 295) d_Md_operand_295 rfl (.head _) ?_
        refine v_geti (pc := 296) (x := (w 0 86)) d_Md_operand_296 fl_Md_610 cM_0.1 cM_0.2 (Or.inl rfl) rfl ?_
        refine v_icmpne (pc := 299) (tgt := 306) d_Md_operand_299 (by decide) (fun c => ?_) (fun c => ?_)
        · replace h := h.1 c
          refine v_iconst (pc := 306) d_Md_operand_306 (by decide) ?_
          refine v_iadd (pc := 307) d_Md_operand_307 ?_
          refine v_istore (pc := 308) (ls' := [(4, vI (wr (x4_ + 0))), (0, vA 0), (2, vI x2_), (5, vI x5_), (6, vI x6_), (7, vI x7_)]) d_Md_operand_308 (by decide) rfl ?_
          refine v_iinc (pc := 310) (ls' := [(7, vI (wr (x7_ + 1))), (4, vI (wr (x4_ + 0))), (0, vA 0), (2, vI x2_), (5, vI x5_), (6, vI x6_)]) d_Md_operand_310 (.tail _ (.tail _ (.tail _ (.tail _ (.tail _ (.head _)))))) (by decide) rfl ?_
          refine v_goto (pc := 313) (tgt := 253) d_Md_operand_313 (by decide) ?_
          exact v_sub (List.forall_mem_cons.mpr ⟨(.tail _ (.tail _ (.head _))), (List.forall_mem_cons.mpr ⟨(.tail _ (.tail _ (.tail _ (.head _)))), (List.forall_mem_cons.mpr ⟨(.tail _ (.head _)), (List.forall_mem_cons.mpr ⟨(.tail _ (.tail _ (.tail _ (.tail _ (.head _))))), (List.forall_mem_cons.mpr ⟨(.tail _ (.tail _ (.tail _ (.tail _ (.tail _ (.head _)))))), (List.forall_mem_cons.mpr ⟨(.head _), (fun _ z => absurd z List.not_mem_nil)⟩)⟩)⟩)⟩)⟩)⟩) h
        · replace h := h.2 c
          refine v_iconst (pc := 302) d_Md_operand_302 (by decide) ?_
          refine v_goto (pc := 303) (tgt := 307) d_Md_operand_303 (by decide) ?_
          refine v_iadd (pc := 307) d_Md_operand_307 ?_
          refine v_istore (pc := 308) (ls' := [(4, vI (wr (x4_ + 1))), (0, vA 0), (2, vI x2_), (5, vI x5_), (6, vI x6_), (7, vI x7_)]) d_Md_operand_308 (by decide) rfl ?_
          refine v_iinc (pc := 310) (ls' := [(7, vI (wr (x7_ + 1))), (4, vI (wr (x4_ + 1))), (0, vA 0), (2, vI x2_), (5, vI x5_), (6, vI x6_)]) d_Md_operand_310 (.tail _ (.tail _ (.tail _ (.tail _ (.tail _ (.head _)))))) (by decide) rfl ?_
          refine v_goto (pc := 313) (tgt := 253) d_Md_operand_313 (by decide) ?_
          exact v_sub (List.forall_mem_cons.mpr ⟨(.tail _ (.tail _ (.head _))), (List.forall_mem_cons.mpr ⟨(.tail _ (.tail _ (.tail _ (.head _)))), (List.forall_mem_cons.mpr ⟨(.tail _ (.head _)), (List.forall_mem_cons.mpr ⟨(.tail _ (.tail _ (.tail _ (.tail _ (.head _))))), (List.forall_mem_cons.mpr ⟨(.tail _ (.tail _ (.tail _ (.tail _ (.tail _ (.head _)))))), (List.forall_mem_cons.mpr ⟨(.head _), (fun _ z => absurd z List.not_mem_nil)⟩)⟩)⟩)⟩)⟩)⟩) h
    · replace h := h.2 c
      refine v_aload_n (pc := 269) d_Md_operand_269 rfl (.head _) ?_
      refine v_getr (C := "") (pc := 270) (r := 38) d_Md_operand_270 fl_Md_258 cM_0.1 cM_0.2 (Or.inr ⟨_, rfl⟩) rM_0_61 ?_
      refine v_iload (pc := 273) d_Md_operand_273 (.tail _ (.tail _ (.tail _ (.tail _ (.tail _ (.head _)))))) ?_
      refine v_iald (pc := 275) (x := (w 38 x7_.toNat)) d_Md_operand_275 cM_38.1 cM_38.2 rfl h.1 ?_
      replace h := h.2
      refine v_aload_n (pc := 276) d_Md_operand_276 rfl (.head _) ?_
      refine v_geti (pc := 277) (x := (w 0 86)) d_Md_operand_277 fl_Md_610 cM_0.1 cM_0.2 (Or.inl rfl) rfl ?_
      refine v_icmpeq (pc := 280) (tgt := 302) d_Md_operand_280 (by decide) (fun c => ?_) (fun c => ?_)
      · replace h := h.1 c
        refine v_iconst (pc := 302) d_Md_operand_302 (by decide) ?_
        refine v_goto (pc := 303) (tgt := 307) d_Md_operand_303 (by decide) ?_
        refine v_iadd (pc := 307) d_Md_operand_307 ?_
        refine v_istore (pc := 308) (ls' := [(4, vI (wr (x4_ + 1))), (0, vA 0), (2, vI x2_), (5, vI x5_), (6, vI x6_), (7, vI x7_)]) d_Md_operand_308 (by decide) rfl ?_
        refine v_iinc (pc := 310) (ls' := [(7, vI (wr (x7_ + 1))), (4, vI (wr (x4_ + 1))), (0, vA 0), (2, vI x2_), (5, vI x5_), (6, vI x6_)]) d_Md_operand_310 (.tail _ (.tail _ (.tail _ (.tail _ (.tail _ (.head _)))))) (by decide) rfl ?_
        refine v_goto (pc := 313) (tgt := 253) d_Md_operand_313 (by decide) ?_
        exact v_sub (List.forall_mem_cons.mpr ⟨(.tail _ (.tail _ (.head _))), (List.forall_mem_cons.mpr ⟨(.tail _ (.tail _ (.tail _ (.head _)))), (List.forall_mem_cons.mpr ⟨(.tail _ (.head _)), (List.forall_mem_cons.mpr ⟨(.tail _ (.tail _ (.tail _ (.tail _ (.head _))))), (List.forall_mem_cons.mpr ⟨(.tail _ (.tail _ (.tail _ (.tail _ (.tail _ (.head _)))))), (List.forall_mem_cons.mpr ⟨(.head _), (fun _ z => absurd z List.not_mem_nil)⟩)⟩)⟩)⟩)⟩)⟩) h
      · replace h := h.2 c
        refine v_iload (pc := 283) d_Md_operand_283 (.tail _ (.tail _ (.tail _ (.tail _ (.head _))))) ?_
        refine v_ifeq (pc := 285) (tgt := 306) d_Md_operand_285 (by decide) (fun c => ?_) (fun c => ?_)
        · replace h := h.1 c
          refine v_iconst (pc := 306) d_Md_operand_306 (by decide) ?_
          refine v_iadd (pc := 307) d_Md_operand_307 ?_
          refine v_istore (pc := 308) (ls' := [(4, vI (wr (x4_ + 0))), (0, vA 0), (2, vI x2_), (5, vI x5_), (6, vI x6_), (7, vI x7_)]) d_Md_operand_308 (by decide) rfl ?_
          refine v_iinc (pc := 310) (ls' := [(7, vI (wr (x7_ + 1))), (4, vI (wr (x4_ + 0))), (0, vA 0), (2, vI x2_), (5, vI x5_), (6, vI x6_)]) d_Md_operand_310 (.tail _ (.tail _ (.tail _ (.tail _ (.tail _ (.head _)))))) (by decide) rfl ?_
          refine v_goto (pc := 313) (tgt := 253) d_Md_operand_313 (by decide) ?_
          exact v_sub (List.forall_mem_cons.mpr ⟨(.tail _ (.tail _ (.head _))), (List.forall_mem_cons.mpr ⟨(.tail _ (.tail _ (.tail _ (.head _)))), (List.forall_mem_cons.mpr ⟨(.tail _ (.head _)), (List.forall_mem_cons.mpr ⟨(.tail _ (.tail _ (.tail _ (.tail _ (.head _))))), (List.forall_mem_cons.mpr ⟨(.tail _ (.tail _ (.tail _ (.tail _ (.tail _ (.head _)))))), (List.forall_mem_cons.mpr ⟨(.head _), (fun _ z => absurd z List.not_mem_nil)⟩)⟩)⟩)⟩)⟩)⟩) h
        · replace h := h.2 c
          refine v_aload_n (pc := 288) d_Md_operand_288 rfl (.head _) ?_
          refine v_getr (C := "") (pc := 289) (r := 39) d_Md_operand_289 fl_Md_261 cM_0.1 cM_0.2 (Or.inr ⟨_, rfl⟩) rM_0_62 ?_
          refine v_iload (pc := 292) d_Md_operand_292 (.tail _ (.tail _ (.tail _ (.tail _ (.tail _ (.head _)))))) ?_
          refine v_iald (pc := 294) (x := (w 39 x7_.toNat)) d_Md_operand_294 cM_39.1 cM_39.2 rfl h.1 ?_
          replace h := h.2
          refine v_aload_n (pc := 295) d_Md_operand_295 rfl (.head _) ?_
          refine v_geti (pc := 296) (x := (w 0 86)) d_Md_operand_296 fl_Md_610 cM_0.1 cM_0.2 (Or.inl rfl) rfl ?_
          refine v_icmpne (pc := 299) (tgt := 306) d_Md_operand_299 (by decide) (fun c => ?_) (fun c => ?_)
          · replace h := h.1 c
            refine v_iconst (pc := 306) d_Md_operand_306 (by decide) ?_
            refine v_iadd (pc := 307) d_Md_operand_307 ?_
            refine v_istore (pc := 308) (ls' := [(4, vI (wr (x4_ + 0))), (0, vA 0), (2, vI x2_), (5, vI x5_), (6, vI x6_), (7, vI x7_)]) d_Md_operand_308 (by decide) rfl ?_
            refine v_iinc (pc := 310) (ls' := [(7, vI (wr (x7_ + 1))), (4, vI (wr (x4_ + 0))), (0, vA 0), (2, vI x2_), (5, vI x5_), (6, vI x6_)]) d_Md_operand_310 (.tail _ (.tail _ (.tail _ (.tail _ (.tail _ (.head _)))))) (by decide) rfl ?_
            refine v_goto (pc := 313) (tgt := 253) d_Md_operand_313 (by decide) ?_
            exact v_sub (List.forall_mem_cons.mpr ⟨(.tail _ (.tail _ (.head _))), (List.forall_mem_cons.mpr ⟨(.tail _ (.tail _ (.tail _ (.head _)))), (List.forall_mem_cons.mpr ⟨(.tail _ (.head _)), (List.forall_mem_cons.mpr ⟨(.tail _ (.tail _ (.tail _ (.tail _ (.head _))))), (List.forall_mem_cons.mpr ⟨(.tail _ (.tail _ (.tail _ (.tail _ (.tail _ (.head _)))))), (List.forall_mem_cons.mpr ⟨(.head _), (fun _ z => absurd z List.not_mem_nil)⟩)⟩)⟩)⟩)⟩)⟩) h
          · replace h := h.2 c
            refine v_iconst (pc := 302) d_Md_operand_302 (by decide) ?_
            refine v_goto (pc := 303) (tgt := 307) d_Md_operand_303 (by decide) ?_
            refine v_iadd (pc := 307) d_Md_operand_307 ?_
            refine v_istore (pc := 308) (ls' := [(4, vI (wr (x4_ + 1))), (0, vA 0), (2, vI x2_), (5, vI x5_), (6, vI x6_), (7, vI x7_)]) d_Md_operand_308 (by decide) rfl ?_
            refine v_iinc (pc := 310) (ls' := [(7, vI (wr (x7_ + 1))), (4, vI (wr (x4_ + 1))), (0, vA 0), (2, vI x2_), (5, vI x5_), (6, vI x6_)]) d_Md_operand_310 (.tail _ (.tail _ (.tail _ (.tail _ (.tail _ (.head _)))))) (by decide) rfl ?_
            refine v_goto (pc := 313) (tgt := 253) d_Md_operand_313 (by decide) ?_
            exact v_sub (List.forall_mem_cons.mpr ⟨(.tail _ (.tail _ (.head _))), (List.forall_mem_cons.mpr ⟨(.tail _ (.tail _ (.tail _ (.head _)))), (List.forall_mem_cons.mpr ⟨(.tail _ (.head _)), (List.forall_mem_cons.mpr ⟨(.tail _ (.tail _ (.tail _ (.tail _ (.head _))))), (List.forall_mem_cons.mpr ⟨(.tail _ (.tail _ (.tail _ (.tail _ (.tail _ (.head _)))))), (List.forall_mem_cons.mpr ⟨(.head _), (fun _ z => absurd z List.not_mem_nil)⟩)⟩)⟩)⟩)⟩)⟩) h
theorem d_Md_mixed_0 : decode jMd_mixed.cc 0 = .ok (.iload_n 0, 1) := by decide +kernel
theorem d_Md_mixed_1 : decode jMd_mixed.cc 1 = .ok (.iload_n 1, 1) := by decide +kernel
theorem d_Md_mixed_2 : decode jMd_mixed.cc 2 = .ok (.ixor, 1) := by decide +kernel
theorem d_Md_mixed_3 : decode jMd_mixed.cc 3 = .ok (.ldc_w 615, 3) := by decide +kernel
theorem d_Md_mixed_6 : decode jMd_mixed.cc 6 = .ok (.imul, 1) := by decide +kernel
theorem d_Md_mixed_7 : decode jMd_mixed.cc 7 = .ok (.istore_n 2, 1) := by decide +kernel
theorem d_Md_mixed_8 : decode jMd_mixed.cc 8 = .ok (.iload_n 2, 1) := by decide +kernel
theorem d_Md_mixed_9 : decode jMd_mixed.cc 9 = .ok (.iload_n 2, 1) := by decide +kernel
theorem d_Md_mixed_10 : decode jMd_mixed.cc 10 = .ok (.bipush 15, 2) := by decide +kernel
theorem d_Md_mixed_12 : decode jMd_mixed.cc 12 = .ok (.iushr, 1) := by decide +kernel
theorem d_Md_mixed_13 : decode jMd_mixed.cc 13 = .ok (.ixor, 1) := by decide +kernel
theorem d_Md_mixed_14 : decode jMd_mixed.cc 14 = .ok (.ireturn, 1) := by decide +kernel
set_option maxHeartbeats 4000000 in
theorem s_Md_mixed {g : Mg} {d : Nat} {K : Ou → Wd → Prop} {w : Wd} {p0 : Int} {p1 : Int} (h : K (.inl (some (vI (iXor (wr ((iXor p0 p1) * (-1640531535))) (iUshr (wr ((iXor p0 p1) * (-1640531535))) 15))))) w) : V g LM jMd_mixed d K 0 [(0, vI p0), (1, vI p1)] [] w := by
  refine v_iload_n (pc := 0) d_Md_mixed_0 rfl (.head _) ?_
  refine v_iload_n (pc := 1) d_Md_mixed_1 rfl (.tail _ (.head _)) ?_
  refine v_ixor (pc := 2) d_Md_mixed_2 ?_
  refine v_ldcw (pc := 3) (n := (-1640531535)) d_Md_mixed_3 (by decide) (mt_9 31 rfl rfl) ?_
  refine v_imul (pc := 6) d_Md_mixed_6 ?_
  refine v_istore_n (pc := 7) (ls' := [(2, vI (wr ((iXor p0 p1) * (-1640531535)))), (0, vI p0), (1, vI p1)]) d_Md_mixed_7 rfl (by decide) rfl ?_
  refine v_iload_n (pc := 8) d_Md_mixed_8 rfl (.head _) ?_
  refine v_iload_n (pc := 9) d_Md_mixed_9 rfl (.head _) ?_
  refine v_bipush (pc := 10) d_Md_mixed_10 (by decide) rfl ?_
  refine v_iushr (pc := 12) d_Md_mixed_12 ?_
  refine v_ixor (pc := 13) d_Md_mixed_13 ?_
  exact v_iret (pc := 14) d_Md_mixed_14 rfl h
theorem d_Md_drawn_0 : decode jMd_drawn.cc 0 = .ok (.aload_n 0, 1) := by decide +kernel
theorem d_Md_drawn_1 : decode jMd_drawn.cc 1 = .ok (.getfield 559, 3) := by decide +kernel
theorem d_Md_drawn_4 : decode jMd_drawn.cc 4 = .ok (.aload_n 0, 1) := by decide +kernel
theorem d_Md_drawn_5 : decode jMd_drawn.cc 5 = .ok (.getfield 610, 3) := by decide +kernel
theorem d_Md_drawn_8 : decode jMd_drawn.cc 8 = .ok (.invokestatic 616, 3) := by decide +kernel
theorem d_Md_drawn_11 : decode jMd_drawn.cc 11 = .ok (.aload_n 0, 1) := by decide +kernel
theorem d_Md_drawn_12 : decode jMd_drawn.cc 12 = .ok (.getfield 562, 3) := by decide +kernel
theorem d_Md_drawn_15 : decode jMd_drawn.cc 15 = .ok (.invokestatic 616, 3) := by decide +kernel
theorem d_Md_drawn_18 : decode jMd_drawn.cc 18 = .ok (.aload_n 0, 1) := by decide +kernel
theorem d_Md_drawn_19 : decode jMd_drawn.cc 19 = .ok (.getfield 619, 3) := by decide +kernel
theorem d_Md_drawn_22 : decode jMd_drawn.cc 22 = .ok (.invokestatic 616, 3) := by decide +kernel
theorem d_Md_drawn_25 : decode jMd_drawn.cc 25 = .ok (.istore_n 2, 1) := by decide +kernel
theorem d_Md_drawn_26 : decode jMd_drawn.cc 26 = .ok (.aload_n 0, 1) := by decide +kernel
theorem d_Md_drawn_27 : decode jMd_drawn.cc 27 = .ok (.dup, 1) := by decide +kernel
theorem d_Md_drawn_28 : decode jMd_drawn.cc 28 = .ok (.getfield 619, 3) := by decide +kernel
theorem d_Md_drawn_31 : decode jMd_drawn.cc 31 = .ok (.iconst 1, 1) := by decide +kernel
theorem d_Md_drawn_32 : decode jMd_drawn.cc 32 = .ok (.iadd, 1) := by decide +kernel
theorem d_Md_drawn_33 : decode jMd_drawn.cc 33 = .ok (.putfield 619, 3) := by decide +kernel
theorem d_Md_drawn_36 : decode jMd_drawn.cc 36 = .ok (.iload_n 2, 1) := by decide +kernel
theorem d_Md_drawn_37 : decode jMd_drawn.cc 37 = .ok (.i2l, 1) := by decide +kernel
theorem d_Md_drawn_38 : decode jMd_drawn.cc 38 = .ok (.ldc2_w 622, 3) := by decide +kernel
theorem d_Md_drawn_41 : decode jMd_drawn.cc 41 = .ok (.land, 1) := by decide +kernel
theorem d_Md_drawn_42 : decode jMd_drawn.cc 42 = .ok (.iload_n 1, 1) := by decide +kernel
theorem d_Md_drawn_43 : decode jMd_drawn.cc 43 = .ok (.i2l, 1) := by decide +kernel
theorem d_Md_drawn_44 : decode jMd_drawn.cc 44 = .ok (.lrem, 1) := by decide +kernel
theorem d_Md_drawn_45 : decode jMd_drawn.cc 45 = .ok (.l2i, 1) := by decide +kernel
theorem d_Md_drawn_46 : decode jMd_drawn.cc 46 = .ok (.ireturn, 1) := by decide +kernel
set_option maxHeartbeats 4000000 in
theorem s_Md_drawn {g : Mg} {d : Nat} {K : Ou → Wd → Prop} {w : Wd} {p1 : Int} (h : Cal g LM jMd_mixed d [vI (w 0 65), vI (w 0 86)] w (fun o w1 => rIt o (fun b => K (.inr b) w1) (fun x2 => Cal g LM jMd_mixed d [vI x2, vI (w1 0 66)] w1 (fun o w3 => rIt o (fun b => K (.inr b) w3) (fun x4 => Cal g LM jMd_mixed d [vI x4, vI (w3 0 88)] w3 (fun o w5 => rIt o (fun b => K (.inr b) w5) (fun x6 => (¬ p1 = 0) ∧ (K (.inl (some (vI (l2iF (lRem (lAnd x6 4294967295) p1))))) (up w5 0 88 (wr ((w5 0 88) + 1))))))))))) : V g LM jMd_drawn (d + 1) K 0 [(0, vA 0), (1, vI p1)] [] w := by
  refine v_aload_n (pc := 0) d_Md_drawn_0 rfl (.head _) ?_
  refine v_geti (pc := 1) (x := (w 0 65)) d_Md_drawn_1 fl_Md_559 cM_0.1 cM_0.2 (Or.inl rfl) rfl ?_
  refine v_aload_n (pc := 4) d_Md_drawn_4 rfl (.head _) ?_
  refine v_geti (pc := 5) (x := (w 0 86)) d_Md_drawn_5 fl_Md_610 cM_0.1 cM_0.2 (Or.inl rfl) rfl ?_
  refine v_callS (pc := 8) (J' := jMd_mixed) (d' := d) (As := [vI (w 0 65), vI (w 0 86)]) d_Md_drawn_8 ml_Md_616 rfl (Nat.le_of_ble_eq_true rfl) (Nat.le_refl _) rfl (Cal.weak h (fun o w1 h => ?_))
  rcases rIt_of h with ⟨x2, rfl, h⟩ | ⟨b, rfl, h⟩
  rotate_left
  · exact h
  refine v_aload_n (pc := 11) d_Md_drawn_11 rfl (.head _) ?_
  refine v_geti (pc := 12) (x := (w1 0 66)) d_Md_drawn_12 fl_Md_562 cM_0.1 cM_0.2 (Or.inl rfl) rfl ?_
  refine v_callS (pc := 15) (J' := jMd_mixed) (d' := d) (As := [vI x2, vI (w1 0 66)]) d_Md_drawn_15 ml_Md_616 rfl (Nat.le_of_ble_eq_true rfl) (Nat.le_refl _) rfl (Cal.weak h (fun o w3 h => ?_))
  rcases rIt_of h with ⟨x4, rfl, h⟩ | ⟨b, rfl, h⟩
  rotate_left
  · exact h
  refine v_aload_n (pc := 18) d_Md_drawn_18 rfl (.head _) ?_
  refine v_geti (pc := 19) (x := (w3 0 88)) d_Md_drawn_19 fl_Md_619 cM_0.1 cM_0.2 (Or.inl rfl) rfl ?_
  refine v_callS (pc := 22) (J' := jMd_mixed) (d' := d) (As := [vI x4, vI (w3 0 88)]) d_Md_drawn_22 ml_Md_616 rfl (Nat.le_of_ble_eq_true rfl) (Nat.le_refl _) rfl (Cal.weak h (fun o w5 h => ?_))
  rcases rIt_of h with ⟨x6, rfl, h⟩ | ⟨b, rfl, h⟩
  rotate_left
  · exact h
  refine v_istore_n (pc := 25) (ls' := [(2, vI x6), (0, vA 0), (1, vI p1)]) d_Md_drawn_25 rfl (by decide) rfl ?_
  refine v_aload_n (pc := 26) d_Md_drawn_26 rfl (.tail _ (.head _)) ?_
  refine v_dup (pc := 27) d_Md_drawn_27 rfl ?_
  refine v_geti (pc := 28) (x := (w5 0 88)) d_Md_drawn_28 fl_Md_619 cM_0.1 cM_0.2 (Or.inl rfl) rfl ?_
  refine v_iconst (pc := 31) d_Md_drawn_31 (by decide) ?_
  refine v_iadd (pc := 32) d_Md_drawn_32 ?_
  refine v_puti (pc := 33) d_Md_drawn_33 fp_Md_619 cM_0.1 cM_0.2 (by decide) rfl ?_
  refine v_iload_n (pc := 36) d_Md_drawn_36 rfl (.head _) ?_
  refine v_i2l (pc := 37) d_Md_drawn_37 ?_
  refine v_ldc2 (pc := 38) (n := 4294967295) d_Md_drawn_38 (by decide) (mt_9 32 rfl rfl) ?_
  refine v_land (pc := 41) d_Md_drawn_41 ?_
  refine v_iload_n (pc := 42) d_Md_drawn_42 rfl (.tail _ (.tail _ (.head _))) ?_
  refine v_i2l (pc := 43) d_Md_drawn_43 ?_
  refine v_lrem (pc := 44) d_Md_drawn_44 h.1 ?_
  replace h := h.2
  refine v_l2i (pc := 45) d_Md_drawn_45 ?_
  exact v_iret (pc := 46) d_Md_drawn_46 rfl h
theorem d_Md_binary_0 : decode jMd_binary.cc 0 = .ok (.aload_n 0, 1) := by decide +kernel
theorem d_Md_binary_1 : decode jMd_binary.cc 1 = .ok (.getfield 219, 3) := by decide +kernel
theorem d_Md_binary_4 : decode jMd_binary.cc 4 = .ok (.iload_n 1, 1) := by decide +kernel
theorem d_Md_binary_5 : decode jMd_binary.cc 5 = .ok (.iaload, 1) := by decide +kernel
theorem d_Md_binary_6 : decode jMd_binary.cc 6 = .ok (.istore_n 2, 1) := by decide +kernel
theorem d_Md_binary_7 : decode jMd_binary.cc 7 = .ok (.aload_n 0, 1) := by decide +kernel
theorem d_Md_binary_8 : decode jMd_binary.cc 8 = .ok (.aload_n 0, 1) := by decide +kernel
theorem d_Md_binary_9 : decode jMd_binary.cc 9 = .ok (.getfield 225, 3) := by decide +kernel
theorem d_Md_binary_12 : decode jMd_binary.cc 12 = .ok (.iload_n 1, 1) := by decide +kernel
theorem d_Md_binary_13 : decode jMd_binary.cc 13 = .ok (.iaload, 1) := by decide +kernel
theorem d_Md_binary_14 : decode jMd_binary.cc 14 = .ok (.invokestatic 591, 3) := by decide +kernel
theorem d_Md_binary_17 : decode jMd_binary.cc 17 = .ok (.istore_n 3, 1) := by decide +kernel
theorem d_Md_binary_18 : decode jMd_binary.cc 18 = .ok (.aload_n 0, 1) := by decide +kernel
theorem d_Md_binary_19 : decode jMd_binary.cc 19 = .ok (.iload_n 2, 1) := by decide +kernel
theorem d_Md_binary_20 : decode jMd_binary.cc 20 = .ok (.ldc 126, 2) := by decide +kernel
theorem d_Md_binary_22 : decode jMd_binary.cc 22 = .ok (.invokevirtual 498, 3) := by decide +kernel
theorem d_Md_binary_25 : decode jMd_binary.cc 25 = .ok (.ifCond .ne 13, 3) := by decide +kernel
theorem d_Md_binary_28 : decode jMd_binary.cc 28 = .ok (.aload_n 0, 1) := by decide +kernel
theorem d_Md_binary_29 : decode jMd_binary.cc 29 = .ok (.iload_n 2, 1) := by decide +kernel
theorem d_Md_binary_30 : decode jMd_binary.cc 30 = .ok (.ldc 128, 2) := by decide +kernel
theorem d_Md_binary_32 : decode jMd_binary.cc 32 = .ok (.invokevirtual 498, 3) := by decide +kernel
theorem d_Md_binary_35 : decode jMd_binary.cc 35 = .ok (.ifCond .eq 61, 3) := by decide +kernel
theorem d_Md_binary_38 : decode jMd_binary.cc 38 = .ok (.aload_n 0, 1) := by decide +kernel
theorem d_Md_binary_39 : decode jMd_binary.cc 39 = .ok (.invokevirtual 595, 3) := by decide +kernel
theorem d_Md_binary_42 : decode jMd_binary.cc 42 = .ok (.aload_n 0, 1) := by decide +kernel
theorem d_Md_binary_43 : decode jMd_binary.cc 43 = .ok (.iload_n 2, 1) := by decide +kernel
theorem d_Md_binary_44 : decode jMd_binary.cc 44 = .ok (.ldc 126, 2) := by decide +kernel
theorem d_Md_binary_46 : decode jMd_binary.cc 46 = .ok (.invokevirtual 498, 3) := by decide +kernel
theorem d_Md_binary_49 : decode jMd_binary.cc 49 = .ok (.ifCond .eq 15, 3) := by decide +kernel
theorem d_Md_binary_52 : decode jMd_binary.cc 52 = .ok (.iload_n 3, 1) := by decide +kernel
theorem d_Md_binary_53 : decode jMd_binary.cc 53 = .ok (.ifCond .ne 7, 3) := by decide +kernel
theorem d_Md_binary_56 : decode jMd_binary.cc 56 = .ok (.iconst 1, 1) := by decide +kernel
theorem d_Md_binary_57 : decode jMd_binary.cc 57 = .ok (.goto 17, 3) := by decide +kernel
theorem d_Md_binary_60 : decode jMd_binary.cc 60 = .ok (.iconst 0, 1) := by decide +kernel
theorem d_Md_binary_61 : decode jMd_binary.cc 61 = .ok (.goto 13, 3) := by decide +kernel
theorem d_Md_binary_64 : decode jMd_binary.cc 64 = .ok (.iload_n 3, 1) := by decide +kernel
theorem d_Md_binary_65 : decode jMd_binary.cc 65 = .ok (.iconst 1, 1) := by decide +kernel
theorem d_Md_binary_66 : decode jMd_binary.cc 66 = .ok (.if_icmp .ne 7, 3) := by decide +kernel
theorem d_Md_binary_69 : decode jMd_binary.cc 69 = .ok (.iconst 1, 1) := by decide +kernel
theorem d_Md_binary_70 : decode jMd_binary.cc 70 = .ok (.goto 4, 3) := by decide +kernel
theorem d_Md_binary_73 : decode jMd_binary.cc 73 = .ok (.iconst 0, 1) := by decide +kernel
theorem d_Md_binary_74 : decode jMd_binary.cc 74 = .ok (.istore 4, 2) := by decide +kernel
theorem d_Md_binary_76 : decode jMd_binary.cc 76 = .ok (.iload 4, 2) := by decide +kernel
theorem d_Md_binary_78 : decode jMd_binary.cc 78 = .ok (.ifCond .eq 7, 3) := by decide +kernel
theorem d_Md_binary_81 : decode jMd_binary.cc 81 = .ok (.iload_n 3, 1) := by decide +kernel
theorem d_Md_binary_82 : decode jMd_binary.cc 82 = .ok (.goto 13, 3) := by decide +kernel
theorem d_Md_binary_85 : decode jMd_binary.cc 85 = .ok (.aload_n 0, 1) := by decide +kernel
theorem d_Md_binary_86 : decode jMd_binary.cc 86 = .ok (.aload_n 0, 1) := by decide +kernel
theorem d_Md_binary_87 : decode jMd_binary.cc 87 = .ok (.getfield 228, 3) := by decide +kernel
theorem d_Md_binary_90 : decode jMd_binary.cc 90 = .ok (.iload_n 1, 1) := by decide +kernel
theorem d_Md_binary_91 : decode jMd_binary.cc 91 = .ok (.iaload, 1) := by decide +kernel
theorem d_Md_binary_92 : decode jMd_binary.cc 92 = .ok (.invokestatic 591, 3) := by decide +kernel
theorem d_Md_binary_95 : decode jMd_binary.cc 95 = .ok (.ireturn, 1) := by decide +kernel
theorem d_Md_binary_96 : decode jMd_binary.cc 96 = .ok (.aload_n 0, 1) := by decide +kernel
theorem d_Md_binary_97 : decode jMd_binary.cc 97 = .ok (.aload_n 0, 1) := by decide +kernel
theorem d_Md_binary_98 : decode jMd_binary.cc 98 = .ok (.getfield 228, 3) := by decide +kernel
theorem d_Md_binary_101 : decode jMd_binary.cc 101 = .ok (.iload_n 1, 1) := by decide +kernel
theorem d_Md_binary_102 : decode jMd_binary.cc 102 = .ok (.iaload, 1) := by decide +kernel
theorem d_Md_binary_103 : decode jMd_binary.cc 103 = .ok (.invokestatic 591, 3) := by decide +kernel
theorem d_Md_binary_106 : decode jMd_binary.cc 106 = .ok (.istore 4, 2) := by decide +kernel
theorem d_Md_binary_108 : decode jMd_binary.cc 108 = .ok (.aload_n 0, 1) := by decide +kernel
theorem d_Md_binary_109 : decode jMd_binary.cc 109 = .ok (.invokevirtual 595, 3) := by decide +kernel
theorem d_Md_binary_112 : decode jMd_binary.cc 112 = .ok (.aload_n 0, 1) := by decide +kernel
theorem d_Md_binary_113 : decode jMd_binary.cc 113 = .ok (.iload_n 2, 1) := by decide +kernel
theorem d_Md_binary_114 : decode jMd_binary.cc 114 = .ok (.ldc 152, 2) := by decide +kernel
theorem d_Md_binary_116 : decode jMd_binary.cc 116 = .ok (.invokevirtual 498, 3) := by decide +kernel
theorem d_Md_binary_119 : decode jMd_binary.cc 119 = .ok (.ifCond .eq 8, 3) := by decide +kernel
theorem d_Md_binary_122 : decode jMd_binary.cc 122 = .ok (.iload_n 3, 1) := by decide +kernel
theorem d_Md_binary_123 : decode jMd_binary.cc 123 = .ok (.iload 4, 2) := by decide +kernel
theorem d_Md_binary_125 : decode jMd_binary.cc 125 = .ok (.iadd, 1) := by decide +kernel
theorem d_Md_binary_126 : decode jMd_binary.cc 126 = .ok (.ireturn, 1) := by decide +kernel
theorem d_Md_binary_127 : decode jMd_binary.cc 127 = .ok (.aload_n 0, 1) := by decide +kernel
theorem d_Md_binary_128 : decode jMd_binary.cc 128 = .ok (.iload_n 2, 1) := by decide +kernel
theorem d_Md_binary_129 : decode jMd_binary.cc 129 = .ok (.ldc 154, 2) := by decide +kernel
theorem d_Md_binary_131 : decode jMd_binary.cc 131 = .ok (.invokevirtual 498, 3) := by decide +kernel
theorem d_Md_binary_134 : decode jMd_binary.cc 134 = .ok (.ifCond .eq 8, 3) := by decide +kernel
theorem d_Md_binary_137 : decode jMd_binary.cc 137 = .ok (.iload_n 3, 1) := by decide +kernel
theorem d_Md_binary_138 : decode jMd_binary.cc 138 = .ok (.iload 4, 2) := by decide +kernel
theorem d_Md_binary_140 : decode jMd_binary.cc 140 = .ok (.isub, 1) := by decide +kernel
theorem d_Md_binary_141 : decode jMd_binary.cc 141 = .ok (.ireturn, 1) := by decide +kernel
theorem d_Md_binary_142 : decode jMd_binary.cc 142 = .ok (.aload_n 0, 1) := by decide +kernel
theorem d_Md_binary_143 : decode jMd_binary.cc 143 = .ok (.iload_n 2, 1) := by decide +kernel
theorem d_Md_binary_144 : decode jMd_binary.cc 144 = .ok (.ldc 156, 2) := by decide +kernel
theorem d_Md_binary_146 : decode jMd_binary.cc 146 = .ok (.invokevirtual 498, 3) := by decide +kernel
theorem d_Md_binary_149 : decode jMd_binary.cc 149 = .ok (.ifCond .eq 8, 3) := by decide +kernel
theorem d_Md_binary_152 : decode jMd_binary.cc 152 = .ok (.iload_n 3, 1) := by decide +kernel
theorem d_Md_binary_153 : decode jMd_binary.cc 153 = .ok (.iload 4, 2) := by decide +kernel
theorem d_Md_binary_155 : decode jMd_binary.cc 155 = .ok (.imul, 1) := by decide +kernel
theorem d_Md_binary_156 : decode jMd_binary.cc 156 = .ok (.ireturn, 1) := by decide +kernel
theorem d_Md_binary_157 : decode jMd_binary.cc 157 = .ok (.aload_n 0, 1) := by decide +kernel
theorem d_Md_binary_158 : decode jMd_binary.cc 158 = .ok (.iload_n 2, 1) := by decide +kernel
theorem d_Md_binary_159 : decode jMd_binary.cc 159 = .ok (.ldc 158, 2) := by decide +kernel
theorem d_Md_binary_161 : decode jMd_binary.cc 161 = .ok (.invokevirtual 498, 3) := by decide +kernel
theorem d_Md_binary_164 : decode jMd_binary.cc 164 = .ok (.ifCond .ne 13, 3) := by decide +kernel
theorem d_Md_binary_167 : decode jMd_binary.cc 167 = .ok (.aload_n 0, 1) := by decide +kernel
theorem d_Md_binary_168 : decode jMd_binary.cc 168 = .ok (.iload_n 2, 1) := by decide +kernel
theorem d_Md_binary_169 : decode jMd_binary.cc 169 = .ok (.ldc 160, 2) := by decide +kernel
theorem d_Md_binary_171 : decode jMd_binary.cc 171 = .ok (.invokevirtual 498, 3) := by decide +kernel
theorem d_Md_binary_174 : decode jMd_binary.cc 174 = .ok (.ifCond .eq 40, 3) := by decide +kernel
theorem d_Md_binary_177 : decode jMd_binary.cc 177 = .ok (.iload 4, 2) := by decide +kernel
theorem d_Md_binary_179 : decode jMd_binary.cc 179 = .ok (.ifCond .ne 13, 3) := by decide +kernel
theorem d_Md_binary_182 : decode jMd_binary.cc 182 = .ok (.aload_n 0, 1) := by decide +kernel
theorem d_Md_binary_183 : decode jMd_binary.cc 183 = .ok (.iconst 1, 1) := by decide +kernel
theorem d_Md_binary_184 : decode jMd_binary.cc 184 = .ok (.aload_n 0, 1) := by decide +kernel
theorem d_Md_binary_185 : decode jMd_binary.cc 185 = .ok (.iload_n 2, 1) := by decide +kernel
theorem d_Md_binary_186 : decode jMd_binary.cc 186 = .ok (.invokevirtual 366, 3) := by decide +kernel
theorem d_Md_binary_189 : decode jMd_binary.cc 189 = .ok (.invokevirtual 370, 3) := by decide +kernel
theorem d_Md_binary_192 : decode jMd_binary.cc 192 = .ok (.aload_n 0, 1) := by decide +kernel
theorem d_Md_binary_193 : decode jMd_binary.cc 193 = .ok (.iload_n 2, 1) := by decide +kernel
theorem d_Md_binary_194 : decode jMd_binary.cc 194 = .ok (.ldc 158, 2) := by decide +kernel
theorem d_Md_binary_196 : decode jMd_binary.cc 196 = .ok (.invokevirtual 498, 3) := by decide +kernel
theorem d_Md_binary_199 : decode jMd_binary.cc 199 = .ok (.ifCond .eq 10, 3) := by decide +kernel
theorem d_Md_binary_202 : decode jMd_binary.cc 202 = .ok (.iload_n 3, 1) := by decide +kernel
theorem d_Md_binary_203 : decode jMd_binary.cc 203 = .ok (.iload 4, 2) := by decide +kernel
theorem d_Md_binary_205 : decode jMd_binary.cc 205 = .ok (.idiv, 1) := by decide +kernel
theorem d_Md_binary_206 : decode jMd_binary.cc 206 = .ok (.goto 7, 3) := by decide +kernel
theorem d_Md_binary_209 : decode jMd_binary.cc 209 = .ok (.iload_n 3, 1) := by decide +kernel
theorem d_Md_binary_210 : decode jMd_binary.cc 210 = .ok (.iload 4, 2) := by decide +kernel
theorem d_Md_binary_212 : decode jMd_binary.cc 212 = .ok (.irem, 1) := by decide +kernel
theorem d_Md_binary_213 : decode jMd_binary.cc 213 = .ok (.ireturn, 1) := by decide +kernel
theorem d_Md_binary_214 : decode jMd_binary.cc 214 = .ok (.aload_n 0, 1) := by decide +kernel
theorem d_Md_binary_215 : decode jMd_binary.cc 215 = .ok (.iload_n 2, 1) := by decide +kernel
theorem d_Md_binary_216 : decode jMd_binary.cc 216 = .ok (.ldc 118, 2) := by decide +kernel
theorem d_Md_binary_218 : decode jMd_binary.cc 218 = .ok (.invokevirtual 498, 3) := by decide +kernel
theorem d_Md_binary_221 : decode jMd_binary.cc 221 = .ok (.ifCond .eq 17, 3) := by decide +kernel
theorem d_Md_binary_224 : decode jMd_binary.cc 224 = .ok (.iload_n 3, 1) := by decide +kernel
theorem d_Md_binary_225 : decode jMd_binary.cc 225 = .ok (.iload 4, 2) := by decide +kernel
theorem d_Md_binary_227 : decode jMd_binary.cc 227 = .ok (.if_icmp .ne 7, 3) := by decide +kernel
theorem d_Md_binary_230 : decode jMd_binary.cc 230 = .ok (.iconst 1, 1) := by decide +kernel
theorem d_Md_binary_231 : decode jMd_binary.cc 231 = .ok (.goto 114, 3) := by decide +kernel
theorem d_Md_binary_234 : decode jMd_binary.cc 234 = .ok (.iconst 0, 1) := by decide +kernel
theorem d_Md_binary_235 : decode jMd_binary.cc 235 = .ok (.goto 110, 3) := by decide +kernel
theorem d_Md_binary_238 : decode jMd_binary.cc 238 = .ok (.aload_n 0, 1) := by decide +kernel
theorem d_Md_binary_239 : decode jMd_binary.cc 239 = .ok (.iload_n 2, 1) := by decide +kernel
theorem d_Md_binary_240 : decode jMd_binary.cc 240 = .ok (.ldc 120, 2) := by decide +kernel
theorem d_Md_binary_242 : decode jMd_binary.cc 242 = .ok (.invokevirtual 498, 3) := by decide +kernel
theorem d_Md_binary_245 : decode jMd_binary.cc 245 = .ok (.ifCond .eq 17, 3) := by decide +kernel
theorem d_Md_binary_248 : decode jMd_binary.cc 248 = .ok (.iload_n 3, 1) := by decide +kernel
theorem d_Md_binary_249 : decode jMd_binary.cc 249 = .ok (.iload 4, 2) := by decide +kernel
theorem d_Md_binary_251 : decode jMd_binary.cc 251 = .ok (.if_icmp .eq 7, 3) := by decide +kernel
theorem d_Md_binary_254 : decode jMd_binary.cc 254 = .ok (.iconst 1, 1) := by decide +kernel
theorem d_Md_binary_255 : decode jMd_binary.cc 255 = .ok (.goto 90, 3) := by decide +kernel
theorem d_Md_binary_258 : decode jMd_binary.cc 258 = .ok (.iconst 0, 1) := by decide +kernel
theorem d_Md_binary_259 : decode jMd_binary.cc 259 = .ok (.goto 86, 3) := by decide +kernel
theorem d_Md_binary_262 : decode jMd_binary.cc 262 = .ok (.aload_n 0, 1) := by decide +kernel
theorem d_Md_binary_263 : decode jMd_binary.cc 263 = .ok (.iload_n 2, 1) := by decide +kernel
theorem d_Md_binary_264 : decode jMd_binary.cc 264 = .ok (.ldc 148, 2) := by decide +kernel
theorem d_Md_binary_266 : decode jMd_binary.cc 266 = .ok (.invokevirtual 498, 3) := by decide +kernel
theorem d_Md_binary_269 : decode jMd_binary.cc 269 = .ok (.ifCond .eq 17, 3) := by decide +kernel
theorem d_Md_binary_272 : decode jMd_binary.cc 272 = .ok (.iload_n 3, 1) := by decide +kernel
theorem d_Md_binary_273 : decode jMd_binary.cc 273 = .ok (.iload 4, 2) := by decide +kernel
theorem d_Md_binary_275 : decode jMd_binary.cc 275 = .ok (.if_icmp .ge 7, 3) := by decide +kernel
theorem d_Md_binary_278 : decode jMd_binary.cc 278 = .ok (.iconst 1, 1) := by decide +kernel
theorem d_Md_binary_279 : decode jMd_binary.cc 279 = .ok (.goto 66, 3) := by decide +kernel
theorem d_Md_binary_282 : decode jMd_binary.cc 282 = .ok (.iconst 0, 1) := by decide +kernel
theorem d_Md_binary_283 : decode jMd_binary.cc 283 = .ok (.goto 62, 3) := by decide +kernel
theorem d_Md_binary_286 : decode jMd_binary.cc 286 = .ok (.aload_n 0, 1) := by decide +kernel
theorem d_Md_binary_287 : decode jMd_binary.cc 287 = .ok (.iload_n 2, 1) := by decide +kernel
theorem d_Md_binary_288 : decode jMd_binary.cc 288 = .ok (.ldc 122, 2) := by decide +kernel
theorem d_Md_binary_290 : decode jMd_binary.cc 290 = .ok (.invokevirtual 498, 3) := by decide +kernel
theorem d_Md_binary_293 : decode jMd_binary.cc 293 = .ok (.ifCond .eq 17, 3) := by decide +kernel
theorem d_Md_binary_296 : decode jMd_binary.cc 296 = .ok (.iload_n 3, 1) := by decide +kernel
theorem d_Md_binary_297 : decode jMd_binary.cc 297 = .ok (.iload 4, 2) := by decide +kernel
theorem d_Md_binary_299 : decode jMd_binary.cc 299 = .ok (.if_icmp .gt 7, 3) := by decide +kernel
theorem d_Md_binary_302 : decode jMd_binary.cc 302 = .ok (.iconst 1, 1) := by decide +kernel
theorem d_Md_binary_303 : decode jMd_binary.cc 303 = .ok (.goto 42, 3) := by decide +kernel
theorem d_Md_binary_306 : decode jMd_binary.cc 306 = .ok (.iconst 0, 1) := by decide +kernel
theorem d_Md_binary_307 : decode jMd_binary.cc 307 = .ok (.goto 38, 3) := by decide +kernel
theorem d_Md_binary_310 : decode jMd_binary.cc 310 = .ok (.aload_n 0, 1) := by decide +kernel
theorem d_Md_binary_311 : decode jMd_binary.cc 311 = .ok (.iload_n 2, 1) := by decide +kernel
theorem d_Md_binary_312 : decode jMd_binary.cc 312 = .ok (.ldc 150, 2) := by decide +kernel
theorem d_Md_binary_314 : decode jMd_binary.cc 314 = .ok (.invokevirtual 498, 3) := by decide +kernel
theorem d_Md_binary_317 : decode jMd_binary.cc 317 = .ok (.ifCond .eq 17, 3) := by decide +kernel
theorem d_Md_binary_320 : decode jMd_binary.cc 320 = .ok (.iload_n 3, 1) := by decide +kernel
theorem d_Md_binary_321 : decode jMd_binary.cc 321 = .ok (.iload 4, 2) := by decide +kernel
theorem d_Md_binary_323 : decode jMd_binary.cc 323 = .ok (.if_icmp .le 7, 3) := by decide +kernel
theorem d_Md_binary_326 : decode jMd_binary.cc 326 = .ok (.iconst 1, 1) := by decide +kernel
theorem d_Md_binary_327 : decode jMd_binary.cc 327 = .ok (.goto 18, 3) := by decide +kernel
theorem d_Md_binary_330 : decode jMd_binary.cc 330 = .ok (.iconst 0, 1) := by decide +kernel
theorem d_Md_binary_331 : decode jMd_binary.cc 331 = .ok (.goto 14, 3) := by decide +kernel
theorem d_Md_binary_334 : decode jMd_binary.cc 334 = .ok (.iload_n 3, 1) := by decide +kernel
theorem d_Md_binary_335 : decode jMd_binary.cc 335 = .ok (.iload 4, 2) := by decide +kernel
theorem d_Md_binary_337 : decode jMd_binary.cc 337 = .ok (.if_icmp .lt 7, 3) := by decide +kernel
theorem d_Md_binary_340 : decode jMd_binary.cc 340 = .ok (.iconst 1, 1) := by decide +kernel
theorem d_Md_binary_341 : decode jMd_binary.cc 341 = .ok (.goto 4, 3) := by decide +kernel
theorem d_Md_binary_344 : decode jMd_binary.cc 344 = .ok (.iconst 0, 1) := by decide +kernel
theorem d_Md_binary_345 : decode jMd_binary.cc 345 = .ok (.istore 5, 2) := by decide +kernel
theorem d_Md_binary_347 : decode jMd_binary.cc 347 = .ok (.iload 5, 2) := by decide +kernel
theorem d_Md_binary_349 : decode jMd_binary.cc 349 = .ok (.ifCond .eq 7, 3) := by decide +kernel
theorem d_Md_binary_352 : decode jMd_binary.cc 352 = .ok (.iconst 1, 1) := by decide +kernel
theorem d_Md_binary_353 : decode jMd_binary.cc 353 = .ok (.goto 4, 3) := by decide +kernel
theorem d_Md_binary_356 : decode jMd_binary.cc 356 = .ok (.iconst 0, 1) := by decide +kernel
theorem d_Md_binary_357 : decode jMd_binary.cc 357 = .ok (.ireturn, 1) := by decide +kernel
set_option maxHeartbeats 4000000 in
theorem s_Md_binary {g : Mg} {d : Nat} {K : Ou → Wd → Prop} {w : Wd} {p1 : Int} (h : (0 ≤ p1 ∧ p1 < 2000) ∧ ((0 ≤ p1 ∧ p1 < 2000) ∧ (Cal g LM jMd_value d [vA 0, vI (w 29 p1.toNat)] w (fun o w1 => rIt o (fun b => K (.inr b) w1) (fun x2 => Cal g LM jMd_isSign d [vA 0, vI (w 27 p1.toNat), vA 1041] w1 (fun o w3 => rIt o (fun b => K (.inr b) w3) (fun x4 => (¬ x4 = 0 → (V g LM jMd_binary (d + 1) K 38 [(0, vA 0), (1, vI p1), (2, vI (w 27 p1.toNat)), (3, vI x2)] [] w3)) ∧ (x4 = 0 → (Cal g LM jMd_isSign d [vA 0, vI (w 27 p1.toNat), vA 1042] w3 (fun o w5 => rIt o (fun b => K (.inr b) w5) (fun x6 => (x6 = 0 → ((0 ≤ p1 ∧ p1 < 2000) ∧ (Cal g LM jMd_value d [vA 0, vI (w5 30 p1.toNat)] w5 (fun o w7 => rIt o (fun b => K (.inr b) w7) (fun x8 => Cal g LM jMd_step d [vA 0] w7 (fun o w9 => rVt o (fun b => K (.inr b) w9) (Cal g LM jMd_isSign d [vA 0, vI (w 27 p1.toNat), vA 1054] w9 (fun o w10 => rIt o (fun b => K (.inr b) w10) (fun x11 => (x11 = 0 → (Cal g LM jMd_isSign d [vA 0, vI (w 27 p1.toNat), vA 1055] w10 (fun o w12 => rIt o (fun b => K (.inr b) w12) (fun x13 => (x13 = 0 → (Cal g LM jMd_isSign d [vA 0, vI (w 27 p1.toNat), vA 1056] w12 (fun o w14 => rIt o (fun b => K (.inr b) w14) (fun x15 => (x15 = 0 → (Cal g LM jMd_isSign d [vA 0, vI (w 27 p1.toNat), vA 1057] w14 (fun o w16 => rIt o (fun b => K (.inr b) w16) (fun x17 => (¬ x17 = 0 → (V g LM jMd_binary (d + 1) K 177 [(0, vA 0), (2, vI (w 27 p1.toNat)), (3, vI x2), (4, vI x8)] [] w16)) ∧ (x17 = 0 → (Cal g LM jMd_isSign d [vA 0, vI (w 27 p1.toNat), vA 1058] w16 (fun o w18 => rIt o (fun b => K (.inr b) w18) (fun x19 => (x19 = 0 → (Cal g LM jMd_isSign d [vA 0, vI (w 27 p1.toNat), vA 1037] w18 (fun o w20 => rIt o (fun b => K (.inr b) w20) (fun x21 => (x21 = 0 → (Cal g LM jMd_isSign d [vA 0, vI (w 27 p1.toNat), vA 1038] w20 (fun o w22 => rIt o (fun b => K (.inr b) w22) (fun x23 => (x23 = 0 → (Cal g LM jMd_isSign d [vA 0, vI (w 27 p1.toNat), vA 1052] w22 (fun o w24 => rIt o (fun b => K (.inr b) w24) (fun x25 => (x25 = 0 → (Cal g LM jMd_isSign d [vA 0, vI (w 27 p1.toNat), vA 1039] w24 (fun o w26 => rIt o (fun b => K (.inr b) w26) (fun x27 => (x27 = 0 → (Cal g LM jMd_isSign d [vA 0, vI (w 27 p1.toNat), vA 1053] w26 (fun o w28 => rIt o (fun b => K (.inr b) w28) (fun x29 => (x29 = 0 → ((x2 < x8 → (V g LM jMd_binary (d + 1) K 345 [] [vI 0] w28)) ∧ (¬ x2 < x8 → (V g LM jMd_binary (d + 1) K 345 [] [vI 1] w28)))) ∧ (¬ x29 = 0 → ((x2 ≤ x8 → (V g LM jMd_binary (d + 1) K 345 [] [vI 0] w28)) ∧ (¬ x2 ≤ x8 → (V g LM jMd_binary (d + 1) K 345 [] [vI 1] w28)))))))) ∧ (¬ x27 = 0 → ((x8 < x2 → (V g LM jMd_binary (d + 1) K 345 [] [vI 0] w26)) ∧ (¬ x8 < x2 → (V g LM jMd_binary (d + 1) K 345 [] [vI 1] w26)))))))) ∧ (¬ x25 = 0 → ((x8 ≤ x2 → (V g LM jMd_binary (d + 1) K 345 [] [vI 0] w24)) ∧ (¬ x8 ≤ x2 → (V g LM jMd_binary (d + 1) K 345 [] [vI 1] w24)))))))) ∧ (¬ x23 = 0 → ((x2 = x8 → (V g LM jMd_binary (d + 1) K 345 [] [vI 0] w22)) ∧ (¬ x2 = x8 → (V g LM jMd_binary (d + 1) K 345 [] [vI 1] w22)))))))) ∧ (¬ x21 = 0 → ((¬ x2 = x8 → (V g LM jMd_binary (d + 1) K 345 [] [vI 0] w20)) ∧ (x2 = x8 → (V g LM jMd_binary (d + 1) K 345 [] [vI 1] w20)))))))) ∧ (¬ x19 = 0 → (V g LM jMd_binary (d + 1) K 177 [(0, vA 0), (2, vI (w 27 p1.toNat)), (3, vI x2), (4, vI x8)] [] w18)))))))))) ∧ (¬ x15 = 0 → (K (.inl (some (vI (wr (x2 * x8))))) w14)))))) ∧ (¬ x13 = 0 → (K (.inl (some (vI (wr (x2 - x8))))) w12)))))) ∧ (¬ x11 = 0 → (K (.inl (some (vI (wr (x2 + x8))))) w10))))))))))) ∧ (¬ x6 = 0 → (V g LM jMd_binary (d + 1) K 38 [(0, vA 0), (1, vI p1), (2, vI (w 27 p1.toNat)), (3, vI x2)] [] w5))))))))))))) : V g LM jMd_binary (d + 1) K 0 [(0, vA 0), (1, vI p1)] [] w := by
  refine v_aload_n (pc := 0) d_Md_binary_0 rfl (.head _) ?_
  refine v_getr (C := "") (pc := 1) (r := 27) d_Md_binary_1 fl_Md_219 cM_0.1 cM_0.2 (Or.inr ⟨_, rfl⟩) rM_0_33 ?_
  refine v_iload_n (pc := 4) d_Md_binary_4 rfl (.tail _ (.head _)) ?_
  refine v_iald (pc := 5) (x := (w 27 p1.toNat)) d_Md_binary_5 cM_27.1 cM_27.2 rfl h.1 ?_
  replace h := h.2
  refine v_istore_n (pc := 6) (ls' := [(2, vI (w 27 p1.toNat)), (0, vA 0), (1, vI p1)]) d_Md_binary_6 rfl (by decide) rfl ?_
  refine v_aload_n (pc := 7) d_Md_binary_7 rfl (.tail _ (.head _)) ?_
  refine v_aload_n (pc := 8) d_Md_binary_8 rfl (.tail _ (.head _)) ?_
  refine v_getr (C := "") (pc := 9) (r := 29) d_Md_binary_9 fl_Md_225 cM_0.1 cM_0.2 (Or.inr ⟨_, rfl⟩) rM_0_35 ?_
  refine v_iload_n (pc := 12) d_Md_binary_12 rfl (.tail _ (.tail _ (.head _))) ?_
  refine v_iald (pc := 13) (x := (w 29 p1.toNat)) d_Md_binary_13 cM_29.1 cM_29.2 rfl h.1 ?_
  replace h := h.2
  refine v_callS (pc := 14) (J' := jMd_value) (d' := d) (As := [vA 0, vI (w 29 p1.toNat)]) d_Md_binary_14 ml_Md_591 rfl (Nat.le_of_ble_eq_true rfl) (Nat.le_refl _) rfl (Cal.weak h (fun o w1 h => ?_))
  rcases rIt_of h with ⟨x2, rfl, h⟩ | ⟨b, rfl, h⟩
  rotate_left
  · exact h
  refine v_istore_n (pc := 17) (ls' := [(3, vI x2), (2, vI (w 27 p1.toNat)), (0, vA 0), (1, vI p1)]) d_Md_binary_17 rfl (by decide) rfl ?_
  refine v_aload_n (pc := 18) d_Md_binary_18 rfl (.tail _ (.tail _ (.head _))) ?_
  refine v_iload_n (pc := 19) d_Md_binary_19 rfl (.tail _ (.head _)) ?_
  refine v_ldcs (pc := 20) (n := 40) (tx := "&&") d_Md_binary_20 (by decide +kernel) ?_
  refine v_callV (pc := 22) (J' := jMd_isSign) (d' := d) (o := 0) (ci := 13) (N := 93) (T := cT13) (As := [vI (w 27 p1.toNat), vA 1041]) d_Md_binary_22 ml_Md_498 cM_0.1 cM_0.2 (by decide) rfl rfl (Nat.le_of_ble_eq_true rfl) (Nat.le_refl _) rfl (Cal.weak h (fun o w3 h => ?_))
  rcases rIt_of h with ⟨x4, rfl, h⟩ | ⟨b, rfl, h⟩
  rotate_left
  · exact h
  refine v_ifne (pc := 25) (tgt := 38) d_Md_binary_25 (by decide) (fun c => ?_) (fun c => ?_)
  · replace h := h.1 c
    exact v_sub (List.forall_mem_cons.mpr ⟨(.tail _ (.tail _ (.head _))), (List.forall_mem_cons.mpr ⟨(.tail _ (.tail _ (.tail _ (.head _)))), (List.forall_mem_cons.mpr ⟨(.tail _ (.head _)), (List.forall_mem_cons.mpr ⟨(.head _), (fun _ z => absurd z List.not_mem_nil)⟩)⟩)⟩)⟩) h
  · replace h := h.2 c
    refine v_aload_n (pc := 28) d_Md_binary_28 rfl (.tail _ (.tail _ (.head _))) ?_
    refine v_iload_n (pc := 29) d_Md_binary_29 rfl (.tail _ (.head _)) ?_
    refine v_ldcs (pc := 30) (n := 41) (tx := "||") d_Md_binary_30 (by decide +kernel) ?_
    refine v_callV (pc := 32) (J' := jMd_isSign) (d' := d) (o := 0) (ci := 13) (N := 93) (T := cT13) (As := [vI (w 27 p1.toNat), vA 1042]) d_Md_binary_32 ml_Md_498 cM_0.1 cM_0.2 (by decide) rfl rfl (Nat.le_of_ble_eq_true rfl) (Nat.le_refl _) rfl (Cal.weak h (fun o w5 h => ?_))
    rcases rIt_of h with ⟨x6, rfl, h⟩ | ⟨b, rfl, h⟩
    rotate_left
    · exact h
    refine v_ifeq (pc := 35) (tgt := 96) d_Md_binary_35 (by decide) (fun c => ?_) (fun c => ?_)
    · replace h := h.1 c
      refine v_aload_n (pc := 96) d_Md_binary_96 rfl (.tail _ (.tail _ (.head _))) ?_
      refine v_aload_n (pc := 97) d_Md_binary_97 rfl (.tail _ (.tail _ (.head _))) ?_
      refine v_getr (C := "") (pc := 98) (r := 30) d_Md_binary_98 fl_Md_228 cM_0.1 cM_0.2 (Or.inr ⟨_, rfl⟩) rM_0_36 ?_
      refine v_iload_n (pc := 101) d_Md_binary_101 rfl (.tail _ (.tail _ (.tail _ (.head _)))) ?_
      refine v_iald (pc := 102) (x := (w5 30 p1.toNat)) d_Md_binary_102 cM_30.1 cM_30.2 rfl h.1 ?_
      replace h := h.2
      refine v_callS (pc := 103) (J' := jMd_value) (d' := d) (As := [vA 0, vI (w5 30 p1.toNat)]) d_Md_binary_103 ml_Md_591 rfl (Nat.le_of_ble_eq_true rfl) (Nat.le_refl _) rfl (Cal.weak h (fun o w7 h => ?_))
      rcases rIt_of h with ⟨x8, rfl, h⟩ | ⟨b, rfl, h⟩
      rotate_left
      · exact h
      refine v_istore (pc := 106) (ls' := [(4, vI x8), (3, vI x2), (2, vI (w 27 p1.toNat)), (0, vA 0), (1, vI p1)]) d_Md_binary_106 (by decide) rfl ?_
      refine v_aload_n (pc := 108) d_Md_binary_108 rfl (.tail _ (.tail _ (.tail _ (.head _)))) ?_
      refine v_callV (pc := 109) (J' := jMd_step) (d' := d) (o := 0) (ci := 13) (N := 93) (T := cT13) (As := []) d_Md_binary_109 ml_Md_595 cM_0.1 cM_0.2 (by decide) rfl rfl (Nat.le_of_ble_eq_true rfl) (Nat.le_refl _) rfl (Cal.weak h (fun o w9 h => ?_))
      rcases rVt_of h with ⟨rfl, h⟩ | ⟨b, rfl, h⟩
      rotate_left
      · exact h
      refine v_aload_n (pc := 112) d_Md_binary_112 rfl (.tail _ (.tail _ (.tail _ (.head _)))) ?_
      refine v_iload_n (pc := 113) d_Md_binary_113 rfl (.tail _ (.tail _ (.head _))) ?_
      refine v_ldcs (pc := 114) (n := 53) (tx := "+") d_Md_binary_114 (by decide +kernel) ?_
      refine v_callV (pc := 116) (J' := jMd_isSign) (d' := d) (o := 0) (ci := 13) (N := 93) (T := cT13) (As := [vI (w 27 p1.toNat), vA 1054]) d_Md_binary_116 ml_Md_498 cM_0.1 cM_0.2 (by decide) rfl rfl (Nat.le_of_ble_eq_true rfl) (Nat.le_refl _) rfl (Cal.weak h (fun o w10 h => ?_))
      rcases rIt_of h with ⟨x11, rfl, h⟩ | ⟨b, rfl, h⟩
      rotate_left
      · exact h
      refine v_ifeq (pc := 119) (tgt := 127) d_Md_binary_119 (by decide) (fun c => ?_) (fun c => ?_)
      · replace h := h.1 c
        refine v_aload_n (pc := 127) d_Md_binary_127 rfl (.tail _ (.tail _ (.tail _ (.head _)))) ?_
        refine v_iload_n (pc := 128) d_Md_binary_128 rfl (.tail _ (.tail _ (.head _))) ?_
        refine v_ldcs (pc := 129) (n := 54) (tx := "-") d_Md_binary_129 (by decide +kernel) ?_
        refine v_callV (pc := 131) (J' := jMd_isSign) (d' := d) (o := 0) (ci := 13) (N := 93) (T := cT13) (As := [vI (w 27 p1.toNat), vA 1055]) d_Md_binary_131 ml_Md_498 cM_0.1 cM_0.2 (by decide) rfl rfl (Nat.le_of_ble_eq_true rfl) (Nat.le_refl _) rfl (Cal.weak h (fun o w12 h => ?_))
        rcases rIt_of h with ⟨x13, rfl, h⟩ | ⟨b, rfl, h⟩
        rotate_left
        · exact h
        refine v_ifeq (pc := 134) (tgt := 142) d_Md_binary_134 (by decide) (fun c => ?_) (fun c => ?_)
        · replace h := h.1 c
          refine v_aload_n (pc := 142) d_Md_binary_142 rfl (.tail _ (.tail _ (.tail _ (.head _)))) ?_
          refine v_iload_n (pc := 143) d_Md_binary_143 rfl (.tail _ (.tail _ (.head _))) ?_
          refine v_ldcs (pc := 144) (n := 55) (tx := "*") d_Md_binary_144 (by decide +kernel) ?_
          refine v_callV (pc := 146) (J' := jMd_isSign) (d' := d) (o := 0) (ci := 13) (N := 93) (T := cT13) (As := [vI (w 27 p1.toNat), vA 1056]) d_Md_binary_146 ml_Md_498 cM_0.1 cM_0.2 (by decide) rfl rfl (Nat.le_of_ble_eq_true rfl) (Nat.le_refl _) rfl (Cal.weak h (fun o w14 h => ?_))
          rcases rIt_of h with ⟨x15, rfl, h⟩ | ⟨b, rfl, h⟩
          rotate_left
          · exact h
          refine v_ifeq (pc := 149) (tgt := 157) d_Md_binary_149 (by decide) (fun c => ?_) (fun c => ?_)
          · replace h := h.1 c
            refine v_aload_n (pc := 157) d_Md_binary_157 rfl (.tail _ (.tail _ (.tail _ (.head _)))) ?_
            refine v_iload_n (pc := 158) d_Md_binary_158 rfl (.tail _ (.tail _ (.head _))) ?_
            refine v_ldcs (pc := 159) (n := 56) (tx := "/") d_Md_binary_159 (by decide +kernel) ?_
            refine v_callV (pc := 161) (J' := jMd_isSign) (d' := d) (o := 0) (ci := 13) (N := 93) (T := cT13) (As := [vI (w 27 p1.toNat), vA 1057]) d_Md_binary_161 ml_Md_498 cM_0.1 cM_0.2 (by decide) rfl rfl (Nat.le_of_ble_eq_true rfl) (Nat.le_refl _) rfl (Cal.weak h (fun o w16 h => ?_))
            rcases rIt_of h with ⟨x17, rfl, h⟩ | ⟨b, rfl, h⟩
            rotate_left
            · exact h
            refine v_ifne (pc := 164) (tgt := 177) d_Md_binary_164 (by decide) (fun c => ?_) (fun c => ?_)
            · replace h := h.1 c
              exact v_sub (List.forall_mem_cons.mpr ⟨(.tail _ (.tail _ (.tail _ (.head _)))), (List.forall_mem_cons.mpr ⟨(.tail _ (.tail _ (.head _))), (List.forall_mem_cons.mpr ⟨(.tail _ (.head _)), (List.forall_mem_cons.mpr ⟨(.head _), (fun _ z => absurd z List.not_mem_nil)⟩)⟩)⟩)⟩) h
            · replace h := h.2 c
              refine v_aload_n (pc := 167) d_Md_binary_167 rfl (.tail _ (.tail _ (.tail _ (.head _)))) ?_
              refine v_iload_n (pc := 168) d_Md_binary_168 rfl (.tail _ (.tail _ (.head _))) ?_
              refine v_ldcs (pc := 169) (n := 57) (tx := "%") d_Md_binary_169 (by decide +kernel) ?_
              refine v_callV (pc := 171) (J' := jMd_isSign) (d' := d) (o := 0) (ci := 13) (N := 93) (T := cT13) (As := [vI (w 27 p1.toNat), vA 1058]) d_Md_binary_171 ml_Md_498 cM_0.1 cM_0.2 (by decide) rfl rfl (Nat.le_of_ble_eq_true rfl) (Nat.le_refl _) rfl (Cal.weak h (fun o w18 h => ?_))
              rcases rIt_of h with ⟨x19, rfl, h⟩ | ⟨b, rfl, h⟩
              rotate_left
              · exact h
              refine v_ifeq (pc := 174) (tgt := 214) d_Md_binary_174 (by decide) (fun c => ?_) (fun c => ?_)
              · replace h := h.1 c
                refine v_aload_n (pc := 214) d_Md_binary_214 rfl (.tail _ (.tail _ (.tail _ (.head _)))) ?_
                refine v_iload_n (pc := 215) d_Md_binary_215 rfl (.tail _ (.tail _ (.head _))) ?_
                refine v_ldcs (pc := 216) (n := 36) (tx := "==") d_Md_binary_216 (by decide +kernel) ?_
                refine v_callV (pc := 218) (J' := jMd_isSign) (d' := d) (o := 0) (ci := 13) (N := 93) (T := cT13) (As := [vI (w 27 p1.toNat), vA 1037]) d_Md_binary_218 ml_Md_498 cM_0.1 cM_0.2 (by decide) rfl rfl (Nat.le_of_ble_eq_true rfl) (Nat.le_refl _) rfl (Cal.weak h (fun o w20 h => ?_))
                rcases rIt_of h with ⟨x21, rfl, h⟩ | ⟨b, rfl, h⟩
                rotate_left
                · exact h
                refine v_ifeq (pc := 221) (tgt := 238) d_Md_binary_221 (by decide) (fun c => ?_) (fun c => ?_)
                · replace h := h.1 c
                  refine v_aload_n (pc := 238) d_Md_binary_238 rfl (.tail _ (.tail _ (.tail _ (.head _)))) ?_
                  refine v_iload_n (pc := 239) d_Md_binary_239 rfl (.tail _ (.tail _ (.head _))) ?_
                  refine v_ldcs (pc := 240) (n := 37) (tx := "!=") d_Md_binary_240 (by decide +kernel) ?_
                  refine v_callV (pc := 242) (J' := jMd_isSign) (d' := d) (o := 0) (ci := 13) (N := 93) (T := cT13) (As := [vI (w 27 p1.toNat), vA 1038]) d_Md_binary_242 ml_Md_498 cM_0.1 cM_0.2 (by decide) rfl rfl (Nat.le_of_ble_eq_true rfl) (Nat.le_refl _) rfl (Cal.weak h (fun o w22 h => ?_))
                  rcases rIt_of h with ⟨x23, rfl, h⟩ | ⟨b, rfl, h⟩
                  rotate_left
                  · exact h
                  refine v_ifeq (pc := 245) (tgt := 262) d_Md_binary_245 (by decide) (fun c => ?_) (fun c => ?_)
                  · replace h := h.1 c
                    refine v_aload_n (pc := 262) d_Md_binary_262 rfl (.tail _ (.tail _ (.tail _ (.head _)))) ?_
                    refine v_iload_n (pc := 263) d_Md_binary_263 rfl (.tail _ (.tail _ (.head _))) ?_
                    refine v_ldcs (pc := 264) (n := 51) (tx := "<") d_Md_binary_264 (by decide +kernel) ?_
                    refine v_callV (pc := 266) (J' := jMd_isSign) (d' := d) (o := 0) (ci := 13) (N := 93) (T := cT13) (As := [vI (w 27 p1.toNat), vA 1052]) d_Md_binary_266 ml_Md_498 cM_0.1 cM_0.2 (by decide) rfl rfl (Nat.le_of_ble_eq_true rfl) (Nat.le_refl _) rfl (Cal.weak h (fun o w24 h => ?_))
                    rcases rIt_of h with ⟨x25, rfl, h⟩ | ⟨b, rfl, h⟩
                    rotate_left
                    · exact h
                    refine v_ifeq (pc := 269) (tgt := 286) d_Md_binary_269 (by decide) (fun c => ?_) (fun c => ?_)
                    · replace h := h.1 c
                      refine v_aload_n (pc := 286) d_Md_binary_286 rfl (.tail _ (.tail _ (.tail _ (.head _)))) ?_
                      refine v_iload_n (pc := 287) d_Md_binary_287 rfl (.tail _ (.tail _ (.head _))) ?_
                      refine v_ldcs (pc := 288) (n := 38) (tx := "<=") d_Md_binary_288 (by decide +kernel) ?_
                      refine v_callV (pc := 290) (J' := jMd_isSign) (d' := d) (o := 0) (ci := 13) (N := 93) (T := cT13) (As := [vI (w 27 p1.toNat), vA 1039]) d_Md_binary_290 ml_Md_498 cM_0.1 cM_0.2 (by decide) rfl rfl (Nat.le_of_ble_eq_true rfl) (Nat.le_refl _) rfl (Cal.weak h (fun o w26 h => ?_))
                      rcases rIt_of h with ⟨x27, rfl, h⟩ | ⟨b, rfl, h⟩
                      rotate_left
                      · exact h
                      refine v_ifeq (pc := 293) (tgt := 310) d_Md_binary_293 (by decide) (fun c => ?_) (fun c => ?_)
                      · replace h := h.1 c
                        refine v_aload_n (pc := 310) d_Md_binary_310 rfl (.tail _ (.tail _ (.tail _ (.head _)))) ?_
                        refine v_iload_n (pc := 311) d_Md_binary_311 rfl (.tail _ (.tail _ (.head _))) ?_
                        refine v_ldcs (pc := 312) (n := 52) (tx := ">") d_Md_binary_312 (by decide +kernel) ?_
                        refine v_callV (pc := 314) (J' := jMd_isSign) (d' := d) (o := 0) (ci := 13) (N := 93) (T := cT13) (As := [vI (w 27 p1.toNat), vA 1053]) d_Md_binary_314 ml_Md_498 cM_0.1 cM_0.2 (by decide) rfl rfl (Nat.le_of_ble_eq_true rfl) (Nat.le_refl _) rfl (Cal.weak h (fun o w28 h => ?_))
                        rcases rIt_of h with ⟨x29, rfl, h⟩ | ⟨b, rfl, h⟩
                        rotate_left
                        · exact h
                        refine v_ifeq (pc := 317) (tgt := 334) d_Md_binary_317 (by decide) (fun c => ?_) (fun c => ?_)
                        · replace h := h.1 c
                          refine v_iload_n (pc := 334) d_Md_binary_334 rfl (.tail _ (.head _)) ?_
                          refine v_iload (pc := 335) d_Md_binary_335 (.head _) ?_
                          refine v_icmplt (pc := 337) (tgt := 344) d_Md_binary_337 (by decide) (fun c => ?_) (fun c => ?_)
                          · replace h := h.1 c
                            refine v_iconst (pc := 344) d_Md_binary_344 (by decide) ?_
                            exact v_sub (fun _ z => absurd z List.not_mem_nil) h
                          · replace h := h.2 c
                            refine v_iconst (pc := 340) d_Md_binary_340 (by decide) ?_
                            refine v_goto (pc := 341) (tgt := 345) d_Md_binary_341 (by decide) ?_
                            exact v_sub (fun _ z => absurd z List.not_mem_nil) h
                        · replace h := h.2 c
                          refine v_iload_n (pc := 320) d_Md_binary_320 rfl (.tail _ (.head _)) ?_
                          refine v_iload (pc := 321) d_Md_binary_321 (.head _) ?_
                          refine v_icmple (pc := 323) (tgt := 330) d_Md_binary_323 (by decide) (fun c => ?_) (fun c => ?_)
                          · replace h := h.1 c
                            refine v_iconst (pc := 330) d_Md_binary_330 (by decide) ?_
                            refine v_goto (pc := 331) (tgt := 345) d_Md_binary_331 (by decide) ?_
                            exact v_sub (fun _ z => absurd z List.not_mem_nil) h
                          · replace h := h.2 c
                            refine v_iconst (pc := 326) d_Md_binary_326 (by decide) ?_
                            refine v_goto (pc := 327) (tgt := 345) d_Md_binary_327 (by decide) ?_
                            exact v_sub (fun _ z => absurd z List.not_mem_nil) h
                      · replace h := h.2 c
                        refine v_iload_n (pc := 296) d_Md_binary_296 rfl (.tail _ (.head _)) ?_
                        refine v_iload (pc := 297) d_Md_binary_297 (.head _) ?_
                        refine v_icmpgt (pc := 299) (tgt := 306) d_Md_binary_299 (by decide) (fun c => ?_) (fun c => ?_)
                        · replace h := h.1 c
                          refine v_iconst (pc := 306) d_Md_binary_306 (by decide) ?_
                          refine v_goto (pc := 307) (tgt := 345) d_Md_binary_307 (by decide) ?_
                          exact v_sub (fun _ z => absurd z List.not_mem_nil) h
                        · replace h := h.2 c
                          refine v_iconst (pc := 302) d_Md_binary_302 (by decide) ?_
                          refine v_goto (pc := 303) (tgt := 345) d_Md_binary_303 (by decide) ?_
                          exact v_sub (fun _ z => absurd z List.not_mem_nil) h
                    · replace h := h.2 c
                      refine v_iload_n (pc := 272) d_Md_binary_272 rfl (.tail _ (.head _)) ?_
                      refine v_iload (pc := 273) d_Md_binary_273 (.head _) ?_
                      refine v_icmpge (pc := 275) (tgt := 282) d_Md_binary_275 (by decide) (fun c => ?_) (fun c => ?_)
                      · replace h := h.1 c
                        refine v_iconst (pc := 282) d_Md_binary_282 (by decide) ?_
                        refine v_goto (pc := 283) (tgt := 345) d_Md_binary_283 (by decide) ?_
                        exact v_sub (fun _ z => absurd z List.not_mem_nil) h
                      · replace h := h.2 c
                        refine v_iconst (pc := 278) d_Md_binary_278 (by decide) ?_
                        refine v_goto (pc := 279) (tgt := 345) d_Md_binary_279 (by decide) ?_
                        exact v_sub (fun _ z => absurd z List.not_mem_nil) h
                  · replace h := h.2 c
                    refine v_iload_n (pc := 248) d_Md_binary_248 rfl (.tail _ (.head _)) ?_
                    refine v_iload (pc := 249) d_Md_binary_249 (.head _) ?_
                    refine v_icmpeq (pc := 251) (tgt := 258) d_Md_binary_251 (by decide) (fun c => ?_) (fun c => ?_)
                    · replace h := h.1 c
                      refine v_iconst (pc := 258) d_Md_binary_258 (by decide) ?_
                      refine v_goto (pc := 259) (tgt := 345) d_Md_binary_259 (by decide) ?_
                      exact v_sub (fun _ z => absurd z List.not_mem_nil) h
                    · replace h := h.2 c
                      refine v_iconst (pc := 254) d_Md_binary_254 (by decide) ?_
                      refine v_goto (pc := 255) (tgt := 345) d_Md_binary_255 (by decide) ?_
                      exact v_sub (fun _ z => absurd z List.not_mem_nil) h
                · replace h := h.2 c
                  refine v_iload_n (pc := 224) d_Md_binary_224 rfl (.tail _ (.head _)) ?_
                  refine v_iload (pc := 225) d_Md_binary_225 (.head _) ?_
                  refine v_icmpne (pc := 227) (tgt := 234) d_Md_binary_227 (by decide) (fun c => ?_) (fun c => ?_)
                  · replace h := h.1 c
                    refine v_iconst (pc := 234) d_Md_binary_234 (by decide) ?_
                    refine v_goto (pc := 235) (tgt := 345) d_Md_binary_235 (by decide) ?_
                    exact v_sub (fun _ z => absurd z List.not_mem_nil) h
                  · replace h := h.2 c
                    refine v_iconst (pc := 230) d_Md_binary_230 (by decide) ?_
                    refine v_goto (pc := 231) (tgt := 345) d_Md_binary_231 (by decide) ?_
                    exact v_sub (fun _ z => absurd z List.not_mem_nil) h
              · replace h := h.2 c
                exact v_sub (List.forall_mem_cons.mpr ⟨(.tail _ (.tail _ (.tail _ (.head _)))), (List.forall_mem_cons.mpr ⟨(.tail _ (.tail _ (.head _))), (List.forall_mem_cons.mpr ⟨(.tail _ (.head _)), (List.forall_mem_cons.mpr ⟨(.head _), (fun _ z => absurd z List.not_mem_nil)⟩)⟩)⟩)⟩) h
          · replace h := h.2 c
            refine v_iload_n (pc := 152) d_Md_binary_152 rfl (.tail _ (.head _)) ?_
            refine v_iload (pc := 153) d_Md_binary_153 (.head _) ?_
            refine v_imul (pc := 155) d_Md_binary_155 ?_
            exact v_iret (pc := 156) d_Md_binary_156 rfl h
        · replace h := h.2 c
          refine v_iload_n (pc := 137) d_Md_binary_137 rfl (.tail _ (.head _)) ?_
          refine v_iload (pc := 138) d_Md_binary_138 (.head _) ?_
          refine v_isub (pc := 140) d_Md_binary_140 ?_
          exact v_iret (pc := 141) d_Md_binary_141 rfl h
      · replace h := h.2 c
        refine v_iload_n (pc := 122) d_Md_binary_122 rfl (.tail _ (.head _)) ?_
        refine v_iload (pc := 123) d_Md_binary_123 (.head _) ?_
        refine v_iadd (pc := 125) d_Md_binary_125 ?_
        exact v_iret (pc := 126) d_Md_binary_126 rfl h
    · replace h := h.2 c
      exact v_sub (List.forall_mem_cons.mpr ⟨(.tail _ (.tail _ (.head _))), (List.forall_mem_cons.mpr ⟨(.tail _ (.tail _ (.tail _ (.head _)))), (List.forall_mem_cons.mpr ⟨(.tail _ (.head _)), (List.forall_mem_cons.mpr ⟨(.head _), (fun _ z => absurd z List.not_mem_nil)⟩)⟩)⟩)⟩) h
set_option maxHeartbeats 4000000 in
theorem s_Md_binary_38 {g : Mg} {d : Nat} {K : Ou → Wd → Prop} {w : Wd} {x1_ : Int} {x2_ : Int} {x3_ : Int} (h : Cal g LM jMd_step d [vA 0] w (fun o w1 => rVt o (fun b => K (.inr b) w1) (Cal g LM jMd_isSign d [vA 0, vI x2_, vA 1041] w1 (fun o w2 => rIt o (fun b => K (.inr b) w2) (fun x3 => (x3 = 0 → ((¬ x3_ = 1 → (V g LM jMd_binary (d + 1) K 74 [(0, vA 0), (1, vI x1_), (3, vI x3_)] [vI 0] w2)) ∧ (x3_ = 1 → (V g LM jMd_binary (d + 1) K 74 [(0, vA 0), (1, vI x1_), (3, vI x3_)] [vI 1] w2)))) ∧ (¬ x3 = 0 → ((¬ x3_ = 0 → (V g LM jMd_binary (d + 1) K 74 [(0, vA 0), (1, vI x1_), (3, vI x3_)] [vI 0] w2)) ∧ (x3_ = 0 → (V g LM jMd_binary (d + 1) K 74 [(0, vA 0), (1, vI x1_), (3, vI x3_)] [vI 1] w2))))))))) : V g LM jMd_binary (d + 1) K 38 [(0, vA 0), (1, vI x1_), (2, vI x2_), (3, vI x3_)] [] w := by
  refine v_aload_n (pc := 38) d_Md_binary_38 rfl (.head _) ?_
  refine v_callV (pc := 39) (J' := jMd_step) (d' := d) (o := 0) (ci := 13) (N := 93) (T := cT13) (As := []) d_Md_binary_39 ml_Md_595 cM_0.1 cM_0.2 (by decide) rfl rfl (Nat.le_of_ble_eq_true rfl) (Nat.le_refl _) rfl (Cal.weak h (fun o w1 h => ?_))
  rcases rVt_of h with ⟨rfl, h⟩ | ⟨b, rfl, h⟩
  rotate_left
  · exact h
  refine v_aload_n (pc := 42) d_Md_binary_42 rfl (.head _) ?_
  refine v_iload_n (pc := 43) d_Md_binary_43 rfl (.tail _ (.tail _ (.head _))) ?_
  refine v_ldcs (pc := 44) (n := 40) (tx := "&&") d_Md_binary_44 (by decide +kernel) ?_
  refine v_callV (pc := 46) (J' := jMd_isSign) (d' := d) (o := 0) (ci := 13) (N := 93) (T := cT13) (As := [vI x2_, vA 1041]) d_Md_binary_46 ml_Md_498 cM_0.1 cM_0.2 (by decide) rfl rfl (Nat.le_of_ble_eq_true rfl) (Nat.le_refl _) rfl (Cal.weak h (fun o w2 h => ?_))
  rcases rIt_of h with ⟨x3, rfl, h⟩ | ⟨b, rfl, h⟩
  rotate_left
  · exact h
  refine v_ifeq (pc := 49) (tgt := 64) d_Md_binary_49 (by decide) (fun c => ?_) (fun c => ?_)
  · replace h := h.1 c
    refine v_iload_n (pc := 64) d_Md_binary_64 rfl (.tail _ (.tail _ (.tail _ (.head _)))) ?_
    refine v_iconst (pc := 65) d_Md_binary_65 (by decide) ?_
    refine v_icmpne (pc := 66) (tgt := 73) d_Md_binary_66 (by decide) (fun c => ?_) (fun c => ?_)
    · replace h := h.1 c
      refine v_iconst (pc := 73) d_Md_binary_73 (by decide) ?_
      exact v_sub (List.forall_mem_cons.mpr ⟨(.head _), (List.forall_mem_cons.mpr ⟨(.tail _ (.head _)), (List.forall_mem_cons.mpr ⟨(.tail _ (.tail _ (.tail _ (.head _)))), (fun _ z => absurd z List.not_mem_nil)⟩)⟩)⟩) h
    · replace h := h.2 c
      refine v_iconst (pc := 69) d_Md_binary_69 (by decide) ?_
      refine v_goto (pc := 70) (tgt := 74) d_Md_binary_70 (by decide) ?_
      exact v_sub (List.forall_mem_cons.mpr ⟨(.head _), (List.forall_mem_cons.mpr ⟨(.tail _ (.head _)), (List.forall_mem_cons.mpr ⟨(.tail _ (.tail _ (.tail _ (.head _)))), (fun _ z => absurd z List.not_mem_nil)⟩)⟩)⟩) h
  · replace h := h.2 c
    refine v_iload_n (pc := 52) d_Md_binary_52 rfl (.tail _ (.tail _ (.tail _ (.head _)))) ?_
    refine v_ifne (pc := 53) (tgt := 60) d_Md_binary_53 (by decide) (fun c => ?_) (fun c => ?_)
    · replace h := h.1 c
      refine v_iconst (pc := 60) d_Md_binary_60 (by decide) ?_
      refine v_goto (pc := 61) (tgt := 74) d_Md_binary_61 (by decide) ?_
      exact v_sub (List.forall_mem_cons.mpr ⟨(.head _), (List.forall_mem_cons.mpr ⟨(.tail _ (.head _)), (List.forall_mem_cons.mpr ⟨(.tail _ (.tail _ (.tail _ (.head _)))), (fun _ z => absurd z List.not_mem_nil)⟩)⟩)⟩) h
    · replace h := h.2 c
      refine v_iconst (pc := 56) d_Md_binary_56 (by decide) ?_
      refine v_goto (pc := 57) (tgt := 74) d_Md_binary_57 (by decide) ?_
      exact v_sub (List.forall_mem_cons.mpr ⟨(.head _), (List.forall_mem_cons.mpr ⟨(.tail _ (.head _)), (List.forall_mem_cons.mpr ⟨(.tail _ (.tail _ (.tail _ (.head _)))), (fun _ z => absurd z List.not_mem_nil)⟩)⟩)⟩) h
set_option maxHeartbeats 4000000 in
theorem s_Md_binary_177 {g : Mg} {d : Nat} {K : Ou → Wd → Prop} {w : Wd} {x2_ : Int} {x3_ : Int} {x4_ : Int} (h : (¬ x4_ = 0 → (V g LM jMd_binary (d + 1) K 192 [(0, vA 0), (2, vI x2_), (3, vI x3_), (4, vI x4_)] [] w)) ∧ (x4_ = 0 → (Cal g LM jMd_placeOf d [vA 0, vI x2_] w (fun o w1 => rIt o (fun b => K (.inr b) w1) (fun x2 => Cal g LM jMd_fail d [vA 0, vI 1, vI x2] w1 (fun o w3 => rVt o (fun b => K (.inr b) w3) (V g LM jMd_binary (d + 1) K 192 [(0, vA 0), (2, vI x2_), (3, vI x3_), (4, vI x4_)] [] w3))))))) : V g LM jMd_binary (d + 1) K 177 [(0, vA 0), (2, vI x2_), (3, vI x3_), (4, vI x4_)] [] w := by
  refine v_iload (pc := 177) d_Md_binary_177 (.tail _ (.tail _ (.tail _ (.head _)))) ?_
  refine v_ifne (pc := 179) (tgt := 192) d_Md_binary_179 (by decide) (fun c => ?_) (fun c => ?_)
  · replace h := h.1 c
    exact v_sub (List.forall_mem_cons.mpr ⟨(.head _), (List.forall_mem_cons.mpr ⟨(.tail _ (.head _)), (List.forall_mem_cons.mpr ⟨(.tail _ (.tail _ (.head _))), (List.forall_mem_cons.mpr ⟨(.tail _ (.tail _ (.tail _ (.head _)))), (fun _ z => absurd z List.not_mem_nil)⟩)⟩)⟩)⟩) h
  · replace h := h.2 c
    refine v_aload_n (pc := 182) d_Md_binary_182 rfl (.head _) ?_
    refine v_iconst (pc := 183) d_Md_binary_183 (by decide) ?_
    refine v_aload_n (pc := 184) d_Md_binary_184 rfl (.head _) ?_
    refine v_iload_n (pc := 185) d_Md_binary_185 rfl (.tail _ (.head _)) ?_
    refine v_callV (pc := 186) (J' := jMd_placeOf) (d' := d) (o := 0) (ci := 13) (N := 93) (T := cT13) (As := [vI x2_]) d_Md_binary_186 ml_Md_366 cM_0.1 cM_0.2 (by decide) rfl rfl (Nat.le_of_ble_eq_true rfl) (Nat.le_refl _) rfl (Cal.weak h (fun o w1 h => ?_))
    rcases rIt_of h with ⟨x2, rfl, h⟩ | ⟨b, rfl, h⟩
    rotate_left
    · exact h
    refine v_callV (pc := 189) (J' := jMd_fail) (d' := d) (o := 0) (ci := 13) (N := 93) (T := cT13) (As := [vI 1, vI x2]) d_Md_binary_189 ml_Md_370 cM_0.1 cM_0.2 (by decide) rfl rfl (Nat.le_of_ble_eq_true rfl) (Nat.le_refl _) rfl (Cal.weak h (fun o w3 h => ?_))
    rcases rVt_of h with ⟨rfl, h⟩ | ⟨b, rfl, h⟩
    rotate_left
    · exact h
    exact v_sub (List.forall_mem_cons.mpr ⟨(.head _), (List.forall_mem_cons.mpr ⟨(.tail _ (.head _)), (List.forall_mem_cons.mpr ⟨(.tail _ (.tail _ (.head _))), (List.forall_mem_cons.mpr ⟨(.tail _ (.tail _ (.tail _ (.head _)))), (fun _ z => absurd z List.not_mem_nil)⟩)⟩)⟩)⟩) h
set_option maxHeartbeats 4000000 in
theorem s_Md_binary_345 {g : Mg} {d : Nat} {K : Ou → Wd → Prop} {w : Wd} {s0_ : Int} (h : (s0_ = 0 → (V g LM jMd_binary (d + 1) K 357 [] [vI 0] w)) ∧ (¬ s0_ = 0 → (V g LM jMd_binary (d + 1) K 357 [] [vI 1] w))) : V g LM jMd_binary (d + 1) K 345 [] [vI s0_] w := by
  refine v_istore (pc := 345) (ls' := [(5, vI s0_)]) d_Md_binary_345 (by decide) rfl ?_
  refine v_iload (pc := 347) d_Md_binary_347 (.head _) ?_
  refine v_ifeq (pc := 349) (tgt := 356) d_Md_binary_349 (by decide) (fun c => ?_) (fun c => ?_)
  · replace h := h.1 c
    refine v_iconst (pc := 356) d_Md_binary_356 (by decide) ?_
    exact v_sub (fun _ z => absurd z List.not_mem_nil) h
  · replace h := h.2 c
    refine v_iconst (pc := 352) d_Md_binary_352 (by decide) ?_
    refine v_goto (pc := 353) (tgt := 357) d_Md_binary_353 (by decide) ?_
    exact v_sub (fun _ z => absurd z List.not_mem_nil) h
set_option maxHeartbeats 4000000 in
theorem s_Md_binary_74 {g : Mg} {d : Nat} {K : Ou → Wd → Prop} {w : Wd} {x1_ : Int} {x3_ : Int} {s0_ : Int} (h : (s0_ = 0 → ((0 ≤ x1_ ∧ x1_ < 2000) ∧ (Cal g LM jMd_value d [vA 0, vI (w 30 x1_.toNat)] w (fun o w1 => rIt o (fun b => K (.inr b) w1) (fun x2 => V g LM jMd_binary (d + 1) K 95 [] [vI x2] w1))))) ∧ (¬ s0_ = 0 → (V g LM jMd_binary (d + 1) K 95 [] [vI x3_] w))) : V g LM jMd_binary (d + 1) K 74 [(0, vA 0), (1, vI x1_), (3, vI x3_)] [vI s0_] w := by
  refine v_istore (pc := 74) (ls' := [(4, vI s0_), (0, vA 0), (1, vI x1_), (3, vI x3_)]) d_Md_binary_74 (by decide) rfl ?_
  refine v_iload (pc := 76) d_Md_binary_76 (.head _) ?_
  refine v_ifeq (pc := 78) (tgt := 85) d_Md_binary_78 (by decide) (fun c => ?_) (fun c => ?_)
  · replace h := h.1 c
    refine v_aload_n (pc := 85) d_Md_binary_85 rfl (.tail _ (.head _)) ?_
    refine v_aload_n (pc := 86) d_Md_binary_86 rfl (.tail _ (.head _)) ?_
    refine v_getr (C := "") (pc := 87) (r := 30) d_Md_binary_87 fl_Md_228 cM_0.1 cM_0.2 (Or.inr ⟨_, rfl⟩) rM_0_36 ?_
    refine v_iload_n (pc := 90) d_Md_binary_90 rfl (.tail _ (.tail _ (.head _))) ?_
    refine v_iald (pc := 91) (x := (w 30 x1_.toNat)) d_Md_binary_91 cM_30.1 cM_30.2 rfl h.1 ?_
    replace h := h.2
    refine v_callS (pc := 92) (J' := jMd_value) (d' := d) (As := [vA 0, vI (w 30 x1_.toNat)]) d_Md_binary_92 ml_Md_591 rfl (Nat.le_of_ble_eq_true rfl) (Nat.le_refl _) rfl (Cal.weak h (fun o w1 h => ?_))
    rcases rIt_of h with ⟨x2, rfl, h⟩ | ⟨b, rfl, h⟩
    rotate_left
    · exact h
    exact v_sub (fun _ z => absurd z List.not_mem_nil) h
  · replace h := h.2 c
    refine v_iload_n (pc := 81) d_Md_binary_81 rfl (.tail _ (.tail _ (.tail _ (.head _)))) ?_
    refine v_goto (pc := 82) (tgt := 95) d_Md_binary_82 (by decide) ?_
    exact v_sub (fun _ z => absurd z List.not_mem_nil) h
set_option maxHeartbeats 4000000 in
theorem s_Md_binary_192 {g : Mg} {d : Nat} {K : Ou → Wd → Prop} {w : Wd} {x2_ : Int} {x3_ : Int} {x4_ : Int} (h : Cal g LM jMd_isSign d [vA 0, vI x2_, vA 1057] w (fun o w1 => rIt o (fun b => K (.inr b) w1) (fun x2 => (x2 = 0 → ((¬ x4_ = 0) ∧ (V g LM jMd_binary (d + 1) K 213 [] [vI (iRem x3_ x4_)] w1))) ∧ (¬ x2 = 0 → ((¬ x4_ = 0) ∧ (V g LM jMd_binary (d + 1) K 213 [] [vI (iDiv x3_ x4_)] w1)))))) : V g LM jMd_binary (d + 1) K 192 [(0, vA 0), (2, vI x2_), (3, vI x3_), (4, vI x4_)] [] w := by
  refine v_aload_n (pc := 192) d_Md_binary_192 rfl (.head _) ?_
  refine v_iload_n (pc := 193) d_Md_binary_193 rfl (.tail _ (.head _)) ?_
  refine v_ldcs (pc := 194) (n := 56) (tx := "/") d_Md_binary_194 (by decide +kernel) ?_
  refine v_callV (pc := 196) (J' := jMd_isSign) (d' := d) (o := 0) (ci := 13) (N := 93) (T := cT13) (As := [vI x2_, vA 1057]) d_Md_binary_196 ml_Md_498 cM_0.1 cM_0.2 (by decide) rfl rfl (Nat.le_of_ble_eq_true rfl) (Nat.le_refl _) rfl (Cal.weak h (fun o w1 h => ?_))
  rcases rIt_of h with ⟨x2, rfl, h⟩ | ⟨b, rfl, h⟩
  rotate_left
  · exact h
  refine v_ifeq (pc := 199) (tgt := 209) d_Md_binary_199 (by decide) (fun c => ?_) (fun c => ?_)
  · replace h := h.1 c
    refine v_iload_n (pc := 209) d_Md_binary_209 rfl (.tail _ (.tail _ (.head _))) ?_
    refine v_iload (pc := 210) d_Md_binary_210 (.tail _ (.tail _ (.tail _ (.head _)))) ?_
    refine v_irem (pc := 212) d_Md_binary_212 h.1 ?_
    replace h := h.2
    exact v_sub (fun _ z => absurd z List.not_mem_nil) h
  · replace h := h.2 c
    refine v_iload_n (pc := 202) d_Md_binary_202 rfl (.tail _ (.tail _ (.head _))) ?_
    refine v_iload (pc := 203) d_Md_binary_203 (.tail _ (.tail _ (.tail _ (.head _)))) ?_
    refine v_idiv (pc := 205) d_Md_binary_205 h.1 ?_
    replace h := h.2
    refine v_goto (pc := 206) (tgt := 213) d_Md_binary_206 (by decide) ?_
    exact v_sub (fun _ z => absurd z List.not_mem_nil) h
set_option maxHeartbeats 4000000 in
theorem s_Md_binary_357 {g : Mg} {d : Nat} {K : Ou → Wd → Prop} {w : Wd} {s0_ : Int} (h : K (.inl (some (vI s0_))) w) : V g LM jMd_binary (d + 1) K 357 [] [vI s0_] w := by
  exact v_iret (pc := 357) d_Md_binary_357 rfl h
set_option maxHeartbeats 4000000 in
theorem s_Md_binary_95 {g : Mg} {d : Nat} {K : Ou → Wd → Prop} {w : Wd} {s0_ : Int} (h : K (.inl (some (vI s0_))) w) : V g LM jMd_binary (d + 1) K 95 [] [vI s0_] w := by
  exact v_iret (pc := 95) d_Md_binary_95 rfl h
set_option maxHeartbeats 4000000 in
theorem s_Md_binary_213 {g : Mg} {d : Nat} {K : Ou → Wd → Prop} {w : Wd} {s0_ : Int} (h : K (.inl (some (vI s0_))) w) : V g LM jMd_binary (d + 1) K 213 [] [vI s0_] w := by
  exact v_iret (pc := 213) d_Md_binary_213 rfl h
theorem d_Md_give_0 : decode jMd_give.cc 0 = .ok (.aload_n 0, 1) := by decide +kernel
theorem d_Md_give_1 : decode jMd_give.cc 1 = .ok (.getfield 294, 3) := by decide +kernel
theorem d_Md_give_4 : decode jMd_give.cc 4 = .ok (.iload_n 1, 1) := by decide +kernel
theorem d_Md_give_5 : decode jMd_give.cc 5 = .ok (.aload_n 0, 1) := by decide +kernel
theorem d_Md_give_6 : decode jMd_give.cc 6 = .ok (.iconst 3, 1) := by decide +kernel
theorem d_Md_give_7 : decode jMd_give.cc 7 = .ok (.iload_n 1, 1) := by decide +kernel
theorem d_Md_give_8 : decode jMd_give.cc 8 = .ok (.invokevirtual 582, 3) := by decide +kernel
theorem d_Md_give_11 : decode jMd_give.cc 11 = .ok (.aload_n 0, 1) := by decide +kernel
theorem d_Md_give_12 : decode jMd_give.cc 12 = .ok (.getfield 291, 3) := by decide +kernel
theorem d_Md_give_15 : decode jMd_give.cc 15 = .ok (.iload_n 1, 1) := by decide +kernel
theorem d_Md_give_16 : decode jMd_give.cc 16 = .ok (.iaload, 1) := by decide +kernel
theorem d_Md_give_17 : decode jMd_give.cc 17 = .ok (.aload_n 0, 1) := by decide +kernel
theorem d_Md_give_18 : decode jMd_give.cc 18 = .ok (.getfield 294, 3) := by decide +kernel
theorem d_Md_give_21 : decode jMd_give.cc 21 = .ok (.iload_n 1, 1) := by decide +kernel
theorem d_Md_give_22 : decode jMd_give.cc 22 = .ok (.iaload, 1) := by decide +kernel
theorem d_Md_give_23 : decode jMd_give.cc 23 = .ok (.iload_n 2, 1) := by decide +kernel
theorem d_Md_give_24 : decode jMd_give.cc 24 = .ok (.invokestatic 624, 3) := by decide +kernel
theorem d_Md_give_27 : decode jMd_give.cc 27 = .ok (.iastore, 1) := by decide +kernel
theorem d_Md_give_28 : decode jMd_give.cc 28 = .ok (.aload_n 0, 1) := by decide +kernel
theorem d_Md_give_29 : decode jMd_give.cc 29 = .ok (.getfield 291, 3) := by decide +kernel
theorem d_Md_give_32 : decode jMd_give.cc 32 = .ok (.iload_n 1, 1) := by decide +kernel
theorem d_Md_give_33 : decode jMd_give.cc 33 = .ok (.dup2, 1) := by decide +kernel
theorem d_Md_give_34 : decode jMd_give.cc 34 = .ok (.iaload, 1) := by decide +kernel
theorem d_Md_give_35 : decode jMd_give.cc 35 = .ok (.iconst 1, 1) := by decide +kernel
theorem d_Md_give_36 : decode jMd_give.cc 36 = .ok (.iadd, 1) := by decide +kernel
theorem d_Md_give_37 : decode jMd_give.cc 37 = .ok (.iastore, 1) := by decide +kernel
theorem d_Md_give_38 : decode jMd_give.cc 38 = .ok (.return_, 1) := by decide +kernel
set_option maxHeartbeats 4000000 in
theorem s_Md_give {g : Mg} {d : Nat} {K : Ou → Wd → Prop} {w : Wd} {p1 : Int} {p2 : Int} (h : Cal g LM jMd_wayOf d [vA 0, vI 3, vI p1] w (fun o w1 => rIt o (fun b => K (.inr b) w1) (fun x2 => (0 ≤ p1 ∧ p1 < 4) ∧ ((0 ≤ p1 ∧ p1 < 4) ∧ (Cal g LM jMd_folded d [vI x2, vI (w1 49 p1.toNat), vI (w1 50 p1.toNat), vI p2] w1 (fun o w3 => rIt o (fun b => K (.inr b) w3) (fun x4 => (0 ≤ p1 ∧ p1 < 4) ∧ ((0 ≤ p1 ∧ p1 < 4) ∧ ((0 ≤ p1 ∧ p1 < 4) ∧ (K (.inl none) (up (up w3 50 (p1.toNat) x4) 49 (p1.toNat) (wr ((w3 49 p1.toNat) + 1))))))))))))) : V g LM jMd_give (d + 1) K 0 [(0, vA 0), (1, vI p1), (2, vI p2)] [] w := by
  refine v_aload_n (pc := 0) d_Md_give_0 rfl (.head _) ?_
  refine v_getr (C := "") (pc := 1) (r := 50) d_Md_give_1 fl_Md_294 cM_0.1 cM_0.2 (Or.inr ⟨_, rfl⟩) rM_0_76 ?_
  refine v_iload_n (pc := 4) d_Md_give_4 rfl (.tail _ (.head _)) ?_
  refine v_aload_n (pc := 5) d_Md_give_5 rfl (.head _) ?_
  refine v_iconst (pc := 6) d_Md_give_6 (by decide) ?_
  refine v_iload_n (pc := 7) d_Md_give_7 rfl (.tail _ (.head _)) ?_
  refine v_callV (pc := 8) (J' := jMd_wayOf) (d' := d) (o := 0) (ci := 13) (N := 93) (T := cT13) (As := [vI 3, vI p1]) d_Md_give_8 ml_Md_582 cM_0.1 cM_0.2 (by decide) rfl rfl (Nat.le_of_ble_eq_true rfl) (Nat.le_refl _) rfl (Cal.weak h (fun o w1 h => ?_))
  rcases rIt_of h with ⟨x2, rfl, h⟩ | ⟨b, rfl, h⟩
  rotate_left
  · exact h
  refine v_aload_n (pc := 11) d_Md_give_11 rfl (.head _) ?_
  refine v_getr (C := "") (pc := 12) (r := 49) d_Md_give_12 fl_Md_291 cM_0.1 cM_0.2 (Or.inr ⟨_, rfl⟩) rM_0_75 ?_
  refine v_iload_n (pc := 15) d_Md_give_15 rfl (.tail _ (.head _)) ?_
  refine v_iald (pc := 16) (x := (w1 49 p1.toNat)) d_Md_give_16 cM_49.1 cM_49.2 rfl h.1 ?_
  replace h := h.2
  refine v_aload_n (pc := 17) d_Md_give_17 rfl (.head _) ?_
  refine v_getr (C := "") (pc := 18) (r := 50) d_Md_give_18 fl_Md_294 cM_0.1 cM_0.2 (Or.inr ⟨_, rfl⟩) rM_0_76 ?_
  refine v_iload_n (pc := 21) d_Md_give_21 rfl (.tail _ (.head _)) ?_
  refine v_iald (pc := 22) (x := (w1 50 p1.toNat)) d_Md_give_22 cM_50.1 cM_50.2 rfl h.1 ?_
  replace h := h.2
  refine v_iload_n (pc := 23) d_Md_give_23 rfl (.tail _ (.tail _ (.head _))) ?_
  refine v_callS (pc := 24) (J' := jMd_folded) (d' := d) (As := [vI x2, vI (w1 49 p1.toNat), vI (w1 50 p1.toNat), vI p2]) d_Md_give_24 ml_Md_624 rfl (Nat.le_of_ble_eq_true rfl) (Nat.le_refl _) rfl (Cal.weak h (fun o w3 h => ?_))
  rcases rIt_of h with ⟨x4, rfl, h⟩ | ⟨b, rfl, h⟩
  rotate_left
  · exact h
  refine v_iast (pc := 27) d_Md_give_27 cM_50.1 cM_50.2 (aM_50 _) h.1 ?_
  replace h := h.2
  refine v_aload_n (pc := 28) d_Md_give_28 rfl (.head _) ?_
  refine v_getr (C := "") (pc := 29) (r := 49) d_Md_give_29 fl_Md_291 cM_0.1 cM_0.2 (Or.inr ⟨_, rfl⟩) rM_0_75 ?_
  refine v_iload_n (pc := 32) d_Md_give_32 rfl (.tail _ (.head _)) ?_
  refine v_dup2 (pc := 33) d_Md_give_33 rfl rfl ?_
  refine v_iald (pc := 34) (x := (w3 49 p1.toNat)) d_Md_give_34 cM_49.1 cM_49.2 rfl h.1 ?_
  replace h := h.2
  refine v_iconst (pc := 35) d_Md_give_35 (by decide) ?_
  refine v_iadd (pc := 36) d_Md_give_36 ?_
  refine v_iast (pc := 37) d_Md_give_37 cM_49.1 cM_49.2 (aM_49 _) h.1 ?_
  replace h := h.2
  exact v_vret (pc := 38) d_Md_give_38 rfl h
theorem d_Md_deliver_0 : decode jMd_deliver.cc 0 = .ok (.iconst 4, 1) := by decide +kernel
theorem d_Md_deliver_1 : decode jMd_deliver.cc 1 = .ok (.iload_n 1, 1) := by decide +kernel
theorem d_Md_deliver_2 : decode jMd_deliver.cc 2 = .ok (.imul, 1) := by decide +kernel
theorem d_Md_deliver_3 : decode jMd_deliver.cc 3 = .ok (.iload_n 2, 1) := by decide +kernel
theorem d_Md_deliver_4 : decode jMd_deliver.cc 4 = .ok (.iadd, 1) := by decide +kernel
theorem d_Md_deliver_5 : decode jMd_deliver.cc 5 = .ok (.istore 4, 2) := by decide +kernel
theorem d_Md_deliver_7 : decode jMd_deliver.cc 7 = .ok (.aload_n 0, 1) := by decide +kernel
theorem d_Md_deliver_8 : decode jMd_deliver.cc 8 = .ok (.getfield 288, 3) := by decide +kernel
theorem d_Md_deliver_11 : decode jMd_deliver.cc 11 = .ok (.iload 4, 2) := by decide +kernel
theorem d_Md_deliver_13 : decode jMd_deliver.cc 13 = .ok (.aload_n 0, 1) := by decide +kernel
theorem d_Md_deliver_14 : decode jMd_deliver.cc 14 = .ok (.iconst 2, 1) := by decide +kernel
theorem d_Md_deliver_15 : decode jMd_deliver.cc 15 = .ok (.iload_n 2, 1) := by decide +kernel
theorem d_Md_deliver_16 : decode jMd_deliver.cc 16 = .ok (.invokevirtual 582, 3) := by decide +kernel
theorem d_Md_deliver_19 : decode jMd_deliver.cc 19 = .ok (.aload_n 0, 1) := by decide +kernel
theorem d_Md_deliver_20 : decode jMd_deliver.cc 20 = .ok (.getfield 285, 3) := by decide +kernel
theorem d_Md_deliver_23 : decode jMd_deliver.cc 23 = .ok (.iload 4, 2) := by decide +kernel
theorem d_Md_deliver_25 : decode jMd_deliver.cc 25 = .ok (.iaload, 1) := by decide +kernel
theorem d_Md_deliver_26 : decode jMd_deliver.cc 26 = .ok (.aload_n 0, 1) := by decide +kernel
theorem d_Md_deliver_27 : decode jMd_deliver.cc 27 = .ok (.getfield 288, 3) := by decide +kernel
theorem d_Md_deliver_30 : decode jMd_deliver.cc 30 = .ok (.iload 4, 2) := by decide +kernel
theorem d_Md_deliver_32 : decode jMd_deliver.cc 32 = .ok (.iaload, 1) := by decide +kernel
theorem d_Md_deliver_33 : decode jMd_deliver.cc 33 = .ok (.iload_n 3, 1) := by decide +kernel
theorem d_Md_deliver_34 : decode jMd_deliver.cc 34 = .ok (.invokestatic 624, 3) := by decide +kernel
theorem d_Md_deliver_37 : decode jMd_deliver.cc 37 = .ok (.iastore, 1) := by decide +kernel
theorem d_Md_deliver_38 : decode jMd_deliver.cc 38 = .ok (.aload_n 0, 1) := by decide +kernel
theorem d_Md_deliver_39 : decode jMd_deliver.cc 39 = .ok (.getfield 285, 3) := by decide +kernel
theorem d_Md_deliver_42 : decode jMd_deliver.cc 42 = .ok (.iload 4, 2) := by decide +kernel
theorem d_Md_deliver_44 : decode jMd_deliver.cc 44 = .ok (.dup2, 1) := by decide +kernel
theorem d_Md_deliver_45 : decode jMd_deliver.cc 45 = .ok (.iaload, 1) := by decide +kernel
theorem d_Md_deliver_46 : decode jMd_deliver.cc 46 = .ok (.iconst 1, 1) := by decide +kernel
theorem d_Md_deliver_47 : decode jMd_deliver.cc 47 = .ok (.iadd, 1) := by decide +kernel
theorem d_Md_deliver_48 : decode jMd_deliver.cc 48 = .ok (.iastore, 1) := by decide +kernel
theorem d_Md_deliver_49 : decode jMd_deliver.cc 49 = .ok (.return_, 1) := by decide +kernel
set_option maxHeartbeats 4000000 in
theorem s_Md_deliver {g : Mg} {d : Nat} {K : Ou → Wd → Prop} {w : Wd} {p1 : Int} {p2 : Int} {p3 : Int} (h : Cal g LM jMd_wayOf d [vA 0, vI 2, vI p2] w (fun o w1 => rIt o (fun b => K (.inr b) w1) (fun x2 => (0 ≤ (wr ((wr (4 * p1)) + p2)) ∧ (wr ((wr (4 * p1)) + p2)) < 160) ∧ ((0 ≤ (wr ((wr (4 * p1)) + p2)) ∧ (wr ((wr (4 * p1)) + p2)) < 160) ∧ (Cal g LM jMd_folded d [vI x2, vI (w1 47 ((wr ((wr (4 * p1)) + p2)).toNat)), vI (w1 48 ((wr ((wr (4 * p1)) + p2)).toNat)), vI p3] w1 (fun o w3 => rIt o (fun b => K (.inr b) w3) (fun x4 => (0 ≤ (wr ((wr (4 * p1)) + p2)) ∧ (wr ((wr (4 * p1)) + p2)) < 160) ∧ ((0 ≤ (wr ((wr (4 * p1)) + p2)) ∧ (wr ((wr (4 * p1)) + p2)) < 160) ∧ ((0 ≤ (wr ((wr (4 * p1)) + p2)) ∧ (wr ((wr (4 * p1)) + p2)) < 160) ∧ (K (.inl none) (up (up w3 48 ((wr ((wr (4 * p1)) + p2)).toNat) x4) 47 ((wr ((wr (4 * p1)) + p2)).toNat) (wr ((w3 47 ((wr ((wr (4 * p1)) + p2)).toNat)) + 1))))))))))))) : V g LM jMd_deliver (d + 1) K 0 [(0, vA 0), (1, vI p1), (2, vI p2), (3, vI p3)] [] w := by
  refine v_iconst (pc := 0) d_Md_deliver_0 (by decide) ?_
  refine v_iload_n (pc := 1) d_Md_deliver_1 rfl (.tail _ (.head _)) ?_
  refine v_imul (pc := 2) d_Md_deliver_2 ?_
  refine v_iload_n (pc := 3) d_Md_deliver_3 rfl (.tail _ (.tail _ (.head _))) ?_
  refine v_iadd (pc := 4) d_Md_deliver_4 ?_
  refine v_istore (pc := 5) (ls' := [(4, vI (wr ((wr (4 * p1)) + p2))), (0, vA 0), (1, vI p1), (2, vI p2), (3, vI p3)]) d_Md_deliver_5 (by decide) rfl ?_
  refine v_aload_n (pc := 7) d_Md_deliver_7 rfl (.tail _ (.head _)) ?_
  refine v_getr (C := "") (pc := 8) (r := 48) d_Md_deliver_8 fl_Md_288 cM_0.1 cM_0.2 (Or.inr ⟨_, rfl⟩) rM_0_74 ?_
  refine v_iload (pc := 11) d_Md_deliver_11 (.head _) ?_
  refine v_aload_n (pc := 13) d_Md_deliver_13 rfl (.tail _ (.head _)) ?_
  refine v_iconst (pc := 14) d_Md_deliver_14 (by decide) ?_
  refine v_iload_n (pc := 15) d_Md_deliver_15 rfl (.tail _ (.tail _ (.tail _ (.head _)))) ?_
  refine v_callV (pc := 16) (J' := jMd_wayOf) (d' := d) (o := 0) (ci := 13) (N := 93) (T := cT13) (As := [vI 2, vI p2]) d_Md_deliver_16 ml_Md_582 cM_0.1 cM_0.2 (by decide) rfl rfl (Nat.le_of_ble_eq_true rfl) (Nat.le_refl _) rfl (Cal.weak h (fun o w1 h => ?_))
  rcases rIt_of h with ⟨x2, rfl, h⟩ | ⟨b, rfl, h⟩
  rotate_left
  · exact h
  refine v_aload_n (pc := 19) d_Md_deliver_19 rfl (.tail _ (.head _)) ?_
  refine v_getr (C := "") (pc := 20) (r := 47) d_Md_deliver_20 fl_Md_285 cM_0.1 cM_0.2 (Or.inr ⟨_, rfl⟩) rM_0_73 ?_
  refine v_iload (pc := 23) d_Md_deliver_23 (.head _) ?_
  refine v_iald (pc := 25) (x := (w1 47 ((wr ((wr (4 * p1)) + p2)).toNat))) d_Md_deliver_25 cM_47.1 cM_47.2 rfl h.1 ?_
  replace h := h.2
  refine v_aload_n (pc := 26) d_Md_deliver_26 rfl (.tail _ (.head _)) ?_
  refine v_getr (C := "") (pc := 27) (r := 48) d_Md_deliver_27 fl_Md_288 cM_0.1 cM_0.2 (Or.inr ⟨_, rfl⟩) rM_0_74 ?_
  refine v_iload (pc := 30) d_Md_deliver_30 (.head _) ?_
  refine v_iald (pc := 32) (x := (w1 48 ((wr ((wr (4 * p1)) + p2)).toNat))) d_Md_deliver_32 cM_48.1 cM_48.2 rfl h.1 ?_
  replace h := h.2
  refine v_iload_n (pc := 33) d_Md_deliver_33 rfl (.tail _ (.tail _ (.tail _ (.tail _ (.head _))))) ?_
  refine v_callS (pc := 34) (J' := jMd_folded) (d' := d) (As := [vI x2, vI (w1 47 ((wr ((wr (4 * p1)) + p2)).toNat)), vI (w1 48 ((wr ((wr (4 * p1)) + p2)).toNat)), vI p3]) d_Md_deliver_34 ml_Md_624 rfl (Nat.le_of_ble_eq_true rfl) (Nat.le_refl _) rfl (Cal.weak h (fun o w3 h => ?_))
  rcases rIt_of h with ⟨x4, rfl, h⟩ | ⟨b, rfl, h⟩
  rotate_left
  · exact h
  refine v_iast (pc := 37) d_Md_deliver_37 cM_48.1 cM_48.2 (aM_48 _) h.1 ?_
  replace h := h.2
  refine v_aload_n (pc := 38) d_Md_deliver_38 rfl (.tail _ (.head _)) ?_
  refine v_getr (C := "") (pc := 39) (r := 47) d_Md_deliver_39 fl_Md_285 cM_0.1 cM_0.2 (Or.inr ⟨_, rfl⟩) rM_0_73 ?_
  refine v_iload (pc := 42) d_Md_deliver_42 (.head _) ?_
  refine v_dup2 (pc := 44) d_Md_deliver_44 rfl rfl ?_
  refine v_iald (pc := 45) (x := (w3 47 ((wr ((wr (4 * p1)) + p2)).toNat))) d_Md_deliver_45 cM_47.1 cM_47.2 rfl h.1 ?_
  replace h := h.2
  refine v_iconst (pc := 46) d_Md_deliver_46 (by decide) ?_
  refine v_iadd (pc := 47) d_Md_deliver_47 ?_
  refine v_iast (pc := 48) d_Md_deliver_48 cM_47.1 cM_47.2 (aM_47 _) h.1 ?_
  replace h := h.2
  exact v_vret (pc := 49) d_Md_deliver_49 rfl h
theorem d_Md_goBlock_0 : decode jMd_goBlock.cc 0 = .ok (.iload_n 1, 1) := by decide +kernel
theorem d_Md_goBlock_1 : decode jMd_goBlock.cc 1 = .ok (.istore_n 2, 1) := by decide +kernel
theorem d_Md_goBlock_2 : decode jMd_goBlock.cc 2 = .ok (.iload_n 2, 1) := by decide +kernel
theorem d_Md_goBlock_3 : decode jMd_goBlock.cc 3 = .ok (.ifCond .lt 393, 3) := by decide +kernel
theorem d_Md_goBlock_6 : decode jMd_goBlock.cc 6 = .ok (.aload_n 0, 1) := by decide +kernel
theorem d_Md_goBlock_7 : decode jMd_goBlock.cc 7 = .ok (.getfield 628, 3) := by decide +kernel
theorem d_Md_goBlock_10 : decode jMd_goBlock.cc 10 = .ok (.ifCond .ne 386, 3) := by decide +kernel
theorem d_Md_goBlock_13 : decode jMd_goBlock.cc 13 = .ok (.aload_n 0, 1) := by decide +kernel
theorem d_Md_goBlock_14 : decode jMd_goBlock.cc 14 = .ok (.iload_n 2, 1) := by decide +kernel
theorem d_Md_goBlock_15 : decode jMd_goBlock.cc 15 = .ok (.putfield 588, 3) := by decide +kernel
theorem d_Md_goBlock_18 : decode jMd_goBlock.cc 18 = .ok (.aload_n 0, 1) := by decide +kernel
theorem d_Md_goBlock_19 : decode jMd_goBlock.cc 19 = .ok (.invokevirtual 595, 3) := by decide +kernel
theorem d_Md_goBlock_22 : decode jMd_goBlock.cc 22 = .ok (.aload_n 0, 1) := by decide +kernel
theorem d_Md_goBlock_23 : decode jMd_goBlock.cc 23 = .ok (.getfield 209, 3) := by decide +kernel
theorem d_Md_goBlock_26 : decode jMd_goBlock.cc 26 = .ok (.iload_n 2, 1) := by decide +kernel
theorem d_Md_goBlock_27 : decode jMd_goBlock.cc 27 = .ok (.iaload, 1) := by decide +kernel
theorem d_Md_goBlock_28 : decode jMd_goBlock.cc 28 = .ok (.istore_n 3, 1) := by decide +kernel
theorem d_Md_goBlock_29 : decode jMd_goBlock.cc 29 = .ok (.aload_n 0, 1) := by decide +kernel
theorem d_Md_goBlock_30 : decode jMd_goBlock.cc 30 = .ok (.getfield 188, 3) := by decide +kernel
theorem d_Md_goBlock_33 : decode jMd_goBlock.cc 33 = .ok (.iload_n 2, 1) := by decide +kernel
theorem d_Md_goBlock_34 : decode jMd_goBlock.cc 34 = .ok (.iaload, 1) := by decide +kernel
theorem d_Md_goBlock_35 : decode jMd_goBlock.cc 35 = .ok (.tableswitch 336 0 5 #[37, 88, 107, 216, 234, 282], 37) := by decide +kernel
theorem d_Md_goBlock_72 : decode jMd_goBlock.cc 72 = .ok (.aload_n 0, 1) := by decide +kernel
theorem d_Md_goBlock_73 : decode jMd_goBlock.cc 73 = .ok (.aload_n 0, 1) := by decide +kernel
theorem d_Md_goBlock_74 : decode jMd_goBlock.cc 74 = .ok (.getfield 197, 3) := by decide +kernel
theorem d_Md_goBlock_77 : decode jMd_goBlock.cc 77 = .ok (.iload_n 2, 1) := by decide +kernel
theorem d_Md_goBlock_78 : decode jMd_goBlock.cc 78 = .ok (.iaload, 1) := by decide +kernel
theorem d_Md_goBlock_79 : decode jMd_goBlock.cc 79 = .ok (.invokestatic 591, 3) := by decide +kernel
theorem d_Md_goBlock_82 : decode jMd_goBlock.cc 82 = .ok (.istore 4, 2) := by decide +kernel
theorem d_Md_goBlock_84 : decode jMd_goBlock.cc 84 = .ok (.iload_n 3, 1) := by decide +kernel
theorem d_Md_goBlock_85 : decode jMd_goBlock.cc 85 = .ok (.bipush 100, 2) := by decide +kernel
theorem d_Md_goBlock_87 : decode jMd_goBlock.cc 87 = .ok (.if_icmp .lt 17, 3) := by decide +kernel
theorem d_Md_goBlock_90 : decode jMd_goBlock.cc 90 = .ok (.aload_n 0, 1) := by decide +kernel
theorem d_Md_goBlock_91 : decode jMd_goBlock.cc 91 = .ok (.getfield 303, 3) := by decide +kernel
theorem d_Md_goBlock_94 : decode jMd_goBlock.cc 94 = .ok (.iload_n 3, 1) := by decide +kernel
theorem d_Md_goBlock_95 : decode jMd_goBlock.cc 95 = .ok (.bipush 100, 2) := by decide +kernel
theorem d_Md_goBlock_97 : decode jMd_goBlock.cc 97 = .ok (.isub, 1) := by decide +kernel
theorem d_Md_goBlock_98 : decode jMd_goBlock.cc 98 = .ok (.iload 4, 2) := by decide +kernel
theorem d_Md_goBlock_100 : decode jMd_goBlock.cc 100 = .ok (.iastore, 1) := by decide +kernel
theorem d_Md_goBlock_101 : decode jMd_goBlock.cc 101 = .ok (.goto 285, 3) := by decide +kernel
theorem d_Md_goBlock_104 : decode jMd_goBlock.cc 104 = .ok (.aload_n 0, 1) := by decide +kernel
theorem d_Md_goBlock_105 : decode jMd_goBlock.cc 105 = .ok (.getfield 267, 3) := by decide +kernel
theorem d_Md_goBlock_108 : decode jMd_goBlock.cc 108 = .ok (.bipush 8, 2) := by decide +kernel
theorem d_Md_goBlock_110 : decode jMd_goBlock.cc 110 = .ok (.aload_n 0, 1) := by decide +kernel
theorem d_Md_goBlock_111 : decode jMd_goBlock.cc 111 = .ok (.getfield 610, 3) := by decide +kernel
theorem d_Md_goBlock_114 : decode jMd_goBlock.cc 114 = .ok (.imul, 1) := by decide +kernel
theorem d_Md_goBlock_115 : decode jMd_goBlock.cc 115 = .ok (.iload_n 3, 1) := by decide +kernel
theorem d_Md_goBlock_116 : decode jMd_goBlock.cc 116 = .ok (.iadd, 1) := by decide +kernel
theorem d_Md_goBlock_117 : decode jMd_goBlock.cc 117 = .ok (.iload 4, 2) := by decide +kernel
theorem d_Md_goBlock_119 : decode jMd_goBlock.cc 119 = .ok (.iastore, 1) := by decide +kernel
theorem d_Md_goBlock_120 : decode jMd_goBlock.cc 120 = .ok (.goto 266, 3) := by decide +kernel
theorem d_Md_goBlock_123 : decode jMd_goBlock.cc 123 = .ok (.aload_n 0, 1) := by decide +kernel
theorem d_Md_goBlock_124 : decode jMd_goBlock.cc 124 = .ok (.getfield 303, 3) := by decide +kernel
theorem d_Md_goBlock_127 : decode jMd_goBlock.cc 127 = .ok (.iload_n 3, 1) := by decide +kernel
theorem d_Md_goBlock_128 : decode jMd_goBlock.cc 128 = .ok (.aload_n 0, 1) := by decide +kernel
theorem d_Md_goBlock_129 : decode jMd_goBlock.cc 129 = .ok (.aload_n 0, 1) := by decide +kernel
theorem d_Md_goBlock_130 : decode jMd_goBlock.cc 130 = .ok (.getfield 197, 3) := by decide +kernel
theorem d_Md_goBlock_133 : decode jMd_goBlock.cc 133 = .ok (.iload_n 2, 1) := by decide +kernel
theorem d_Md_goBlock_134 : decode jMd_goBlock.cc 134 = .ok (.iaload, 1) := by decide +kernel
theorem d_Md_goBlock_135 : decode jMd_goBlock.cc 135 = .ok (.invokestatic 591, 3) := by decide +kernel
theorem d_Md_goBlock_138 : decode jMd_goBlock.cc 138 = .ok (.iastore, 1) := by decide +kernel
theorem d_Md_goBlock_139 : decode jMd_goBlock.cc 139 = .ok (.goto 247, 3) := by decide +kernel
theorem d_Md_goBlock_142 : decode jMd_goBlock.cc 142 = .ok (.iconst 0, 1) := by decide +kernel
theorem d_Md_goBlock_143 : decode jMd_goBlock.cc 143 = .ok (.istore 5, 2) := by decide +kernel
theorem d_Md_goBlock_145 : decode jMd_goBlock.cc 145 = .ok (.iload 5, 2) := by decide +kernel
theorem d_Md_goBlock_147 : decode jMd_goBlock.cc 147 = .ok (.aload_n 0, 1) := by decide +kernel
theorem d_Md_goBlock_148 : decode jMd_goBlock.cc 148 = .ok (.getfield 546, 3) := by decide +kernel
theorem d_Md_goBlock_151 : decode jMd_goBlock.cc 151 = .ok (.if_icmp .ge 97, 3) := by decide +kernel
theorem d_Md_goBlock_154 : decode jMd_goBlock.cc 154 = .ok (.aload_n 0, 1) := by decide +kernel
theorem d_Md_goBlock_155 : decode jMd_goBlock.cc 155 = .ok (.getfield 212, 3) := by decide +kernel
theorem d_Md_goBlock_158 : decode jMd_goBlock.cc 158 = .ok (.iload_n 2, 1) := by decide +kernel
theorem d_Md_goBlock_159 : decode jMd_goBlock.cc 159 = .ok (.baload, 1) := by decide +kernel
theorem d_Md_goBlock_160 : decode jMd_goBlock.cc 160 = .ok (.ifCond .eq 13, 3) := by decide +kernel
theorem d_Md_goBlock_163 : decode jMd_goBlock.cc 163 = .ok (.aload_n 0, 1) := by decide +kernel
theorem d_Md_goBlock_164 : decode jMd_goBlock.cc 164 = .ok (.getfield 258, 3) := by decide +kernel
theorem d_Md_goBlock_167 : decode jMd_goBlock.cc 167 = .ok (.iload 5, 2) := by decide +kernel
theorem d_Md_goBlock_169 : decode jMd_goBlock.cc 169 = .ok (.iaload, 1) := by decide +kernel
theorem d_Md_goBlock_170 : decode jMd_goBlock.cc 170 = .ok (.goto 10, 3) := by decide +kernel
theorem d_Md_goBlock_173 : decode jMd_goBlock.cc 173 = .ok (.aload_n 0, 1) := by decide +kernel
theorem d_Md_goBlock_174 : decode jMd_goBlock.cc 174 = .ok (.getfield 261, 3) := by decide +kernel
theorem d_Md_goBlock_177 : decode jMd_goBlock.cc 177 = .ok (.iload 5, 2) := by decide +kernel
theorem d_Md_goBlock_179 : decode jMd_goBlock.cc 179 = .ok (.iaload, 1) := by decide +kernel
theorem d_Md_goBlock_180 : decode jMd_goBlock.cc 180 = .ok (.aload_n 0, 1) := by decide +kernel
theorem d_Md_goBlock_181 : decode jMd_goBlock.cc 181 = .ok (.getfield 610, 3) := by decide +kernel
theorem d_Md_goBlock_184 : decode jMd_goBlock.cc 184 = .ok (.if_icmp .ne 58, 3) := by decide +kernel
theorem d_Md_goBlock_187 : decode jMd_goBlock.cc 187 = .ok (.aload_n 0, 1) := by decide +kernel
theorem d_Md_goBlock_188 : decode jMd_goBlock.cc 188 = .ok (.invokevirtual 595, 3) := by decide +kernel
theorem d_Md_goBlock_191 : decode jMd_goBlock.cc 191 = .ok (.aload_n 0, 1) := by decide +kernel
theorem d_Md_goBlock_192 : decode jMd_goBlock.cc 192 = .ok (.iload 5, 2) := by decide +kernel
theorem d_Md_goBlock_194 : decode jMd_goBlock.cc 194 = .ok (.putfield 607, 3) := by decide +kernel
theorem d_Md_goBlock_197 : decode jMd_goBlock.cc 197 = .ok (.aload_n 0, 1) := by decide +kernel
theorem d_Md_goBlock_198 : decode jMd_goBlock.cc 198 = .ok (.aload_n 0, 1) := by decide +kernel
theorem d_Md_goBlock_199 : decode jMd_goBlock.cc 199 = .ok (.getfield 197, 3) := by decide +kernel
theorem d_Md_goBlock_202 : decode jMd_goBlock.cc 202 = .ok (.iload_n 2, 1) := by decide +kernel
theorem d_Md_goBlock_203 : decode jMd_goBlock.cc 203 = .ok (.iaload, 1) := by decide +kernel
theorem d_Md_goBlock_204 : decode jMd_goBlock.cc 204 = .ok (.invokestatic 591, 3) := by decide +kernel
theorem d_Md_goBlock_207 : decode jMd_goBlock.cc 207 = .ok (.istore 6, 2) := by decide +kernel
theorem d_Md_goBlock_209 : decode jMd_goBlock.cc 209 = .ok (.aload_n 0, 1) := by decide +kernel
theorem d_Md_goBlock_210 : decode jMd_goBlock.cc 210 = .ok (.aload_n 0, 1) := by decide +kernel
theorem d_Md_goBlock_211 : decode jMd_goBlock.cc 211 = .ok (.getfield 212, 3) := by decide +kernel
theorem d_Md_goBlock_214 : decode jMd_goBlock.cc 214 = .ok (.iload_n 2, 1) := by decide +kernel
theorem d_Md_goBlock_215 : decode jMd_goBlock.cc 215 = .ok (.baload, 1) := by decide +kernel
theorem d_Md_goBlock_216 : decode jMd_goBlock.cc 216 = .ok (.ifCond .eq 13, 3) := by decide +kernel
theorem d_Md_goBlock_219 : decode jMd_goBlock.cc 219 = .ok (.aload_n 0, 1) := by decide +kernel
theorem d_Md_goBlock_220 : decode jMd_goBlock.cc 220 = .ok (.getfield 261, 3) := by decide +kernel
theorem d_Md_goBlock_223 : decode jMd_goBlock.cc 223 = .ok (.iload 5, 2) := by decide +kernel
theorem d_Md_goBlock_225 : decode jMd_goBlock.cc 225 = .ok (.iaload, 1) := by decide +kernel
theorem d_Md_goBlock_226 : decode jMd_goBlock.cc 226 = .ok (.goto 10, 3) := by decide +kernel
theorem d_Md_goBlock_229 : decode jMd_goBlock.cc 229 = .ok (.aload_n 0, 1) := by decide +kernel
theorem d_Md_goBlock_230 : decode jMd_goBlock.cc 230 = .ok (.getfield 258, 3) := by decide +kernel
theorem d_Md_goBlock_233 : decode jMd_goBlock.cc 233 = .ok (.iload 5, 2) := by decide +kernel
theorem d_Md_goBlock_235 : decode jMd_goBlock.cc 235 = .ok (.iaload, 1) := by decide +kernel
theorem d_Md_goBlock_236 : decode jMd_goBlock.cc 236 = .ok (.iload_n 3, 1) := by decide +kernel
theorem d_Md_goBlock_237 : decode jMd_goBlock.cc 237 = .ok (.iload 6, 2) := by decide +kernel
theorem d_Md_goBlock_239 : decode jMd_goBlock.cc 239 = .ok (.invokevirtual 631, 3) := by decide +kernel
theorem d_Md_goBlock_242 : decode jMd_goBlock.cc 242 = .ok (.iinc 5 1, 3) := by decide +kernel
theorem d_Md_goBlock_245 : decode jMd_goBlock.cc 245 = .ok (.goto (-100), 3) := by decide +kernel
theorem d_Md_goBlock_248 : decode jMd_goBlock.cc 248 = .ok (.goto 138, 3) := by decide +kernel
theorem d_Md_goBlock_251 : decode jMd_goBlock.cc 251 = .ok (.aload_n 0, 1) := by decide +kernel
theorem d_Md_goBlock_252 : decode jMd_goBlock.cc 252 = .ok (.iload_n 3, 1) := by decide +kernel
theorem d_Md_goBlock_253 : decode jMd_goBlock.cc 253 = .ok (.aload_n 0, 1) := by decide +kernel
theorem d_Md_goBlock_254 : decode jMd_goBlock.cc 254 = .ok (.aload_n 0, 1) := by decide +kernel
theorem d_Md_goBlock_255 : decode jMd_goBlock.cc 255 = .ok (.getfield 197, 3) := by decide +kernel
theorem d_Md_goBlock_258 : decode jMd_goBlock.cc 258 = .ok (.iload_n 2, 1) := by decide +kernel
theorem d_Md_goBlock_259 : decode jMd_goBlock.cc 259 = .ok (.iaload, 1) := by decide +kernel
theorem d_Md_goBlock_260 : decode jMd_goBlock.cc 260 = .ok (.invokestatic 591, 3) := by decide +kernel
theorem d_Md_goBlock_263 : decode jMd_goBlock.cc 263 = .ok (.invokevirtual 634, 3) := by decide +kernel
theorem d_Md_goBlock_266 : decode jMd_goBlock.cc 266 = .ok (.goto 120, 3) := by decide +kernel
theorem d_Md_goBlock_269 : decode jMd_goBlock.cc 269 = .ok (.aload_n 0, 1) := by decide +kernel
theorem d_Md_goBlock_270 : decode jMd_goBlock.cc 270 = .ok (.aload_n 0, 1) := by decide +kernel
theorem d_Md_goBlock_271 : decode jMd_goBlock.cc 271 = .ok (.getfield 197, 3) := by decide +kernel
theorem d_Md_goBlock_274 : decode jMd_goBlock.cc 274 = .ok (.iload_n 2, 1) := by decide +kernel
theorem d_Md_goBlock_275 : decode jMd_goBlock.cc 275 = .ok (.iaload, 1) := by decide +kernel
theorem d_Md_goBlock_276 : decode jMd_goBlock.cc 276 = .ok (.invokestatic 591, 3) := by decide +kernel
theorem d_Md_goBlock_279 : decode jMd_goBlock.cc 279 = .ok (.iconst 1, 1) := by decide +kernel
theorem d_Md_goBlock_280 : decode jMd_goBlock.cc 280 = .ok (.if_icmp .ne 7, 3) := by decide +kernel
theorem d_Md_goBlock_283 : decode jMd_goBlock.cc 283 = .ok (.iconst 1, 1) := by decide +kernel
theorem d_Md_goBlock_284 : decode jMd_goBlock.cc 284 = .ok (.goto 4, 3) := by decide +kernel
theorem d_Md_goBlock_287 : decode jMd_goBlock.cc 287 = .ok (.iconst 0, 1) := by decide +kernel
theorem d_Md_goBlock_288 : decode jMd_goBlock.cc 288 = .ok (.istore 5, 2) := by decide +kernel
theorem d_Md_goBlock_290 : decode jMd_goBlock.cc 290 = .ok (.aload_n 0, 1) := by decide +kernel
theorem d_Md_goBlock_291 : decode jMd_goBlock.cc 291 = .ok (.iload 5, 2) := by decide +kernel
theorem d_Md_goBlock_293 : decode jMd_goBlock.cc 293 = .ok (.ifCond .eq 12, 3) := by decide +kernel
theorem d_Md_goBlock_296 : decode jMd_goBlock.cc 296 = .ok (.aload_n 0, 1) := by decide +kernel
theorem d_Md_goBlock_297 : decode jMd_goBlock.cc 297 = .ok (.getfield 200, 3) := by decide +kernel
theorem d_Md_goBlock_300 : decode jMd_goBlock.cc 300 = .ok (.iload_n 2, 1) := by decide +kernel
theorem d_Md_goBlock_301 : decode jMd_goBlock.cc 301 = .ok (.iaload, 1) := by decide +kernel
theorem d_Md_goBlock_302 : decode jMd_goBlock.cc 302 = .ok (.goto 9, 3) := by decide +kernel
theorem d_Md_goBlock_305 : decode jMd_goBlock.cc 305 = .ok (.aload_n 0, 1) := by decide +kernel
theorem d_Md_goBlock_306 : decode jMd_goBlock.cc 306 = .ok (.getfield 203, 3) := by decide +kernel
theorem d_Md_goBlock_309 : decode jMd_goBlock.cc 309 = .ok (.iload_n 2, 1) := by decide +kernel
theorem d_Md_goBlock_310 : decode jMd_goBlock.cc 310 = .ok (.iaload, 1) := by decide +kernel
theorem d_Md_goBlock_311 : decode jMd_goBlock.cc 311 = .ok (.invokestatic 636, 3) := by decide +kernel
theorem d_Md_goBlock_314 : decode jMd_goBlock.cc 314 = .ok (.goto 72, 3) := by decide +kernel
theorem d_Md_goBlock_317 : decode jMd_goBlock.cc 317 = .ok (.iconst 0, 1) := by decide +kernel
theorem d_Md_goBlock_318 : decode jMd_goBlock.cc 318 = .ok (.istore 6, 2) := by decide +kernel
theorem d_Md_goBlock_320 : decode jMd_goBlock.cc 320 = .ok (.iload 6, 2) := by decide +kernel
theorem d_Md_goBlock_322 : decode jMd_goBlock.cc 322 = .ok (.aload_n 0, 1) := by decide +kernel
theorem d_Md_goBlock_323 : decode jMd_goBlock.cc 323 = .ok (.getfield 43, 3) := by decide +kernel
theorem d_Md_goBlock_326 : decode jMd_goBlock.cc 326 = .ok (.aload_n 0, 1) := by decide +kernel
theorem d_Md_goBlock_327 : decode jMd_goBlock.cc 327 = .ok (.getfield 194, 3) := by decide +kernel
theorem d_Md_goBlock_330 : decode jMd_goBlock.cc 330 = .ok (.iload_n 2, 1) := by decide +kernel
theorem d_Md_goBlock_331 : decode jMd_goBlock.cc 331 = .ok (.iaload, 1) := by decide +kernel
theorem d_Md_goBlock_332 : decode jMd_goBlock.cc 332 = .ok (.iaload, 1) := by decide +kernel
theorem d_Md_goBlock_333 : decode jMd_goBlock.cc 333 = .ok (.if_icmp .ge 35, 3) := by decide +kernel
theorem d_Md_goBlock_336 : decode jMd_goBlock.cc 336 = .ok (.aload_n 0, 1) := by decide +kernel
theorem d_Md_goBlock_337 : decode jMd_goBlock.cc 337 = .ok (.getfield 628, 3) := by decide +kernel
theorem d_Md_goBlock_340 : decode jMd_goBlock.cc 340 = .ok (.ifCond .ne 28, 3) := by decide +kernel
theorem d_Md_goBlock_343 : decode jMd_goBlock.cc 343 = .ok (.aload_n 0, 1) := by decide +kernel
theorem d_Md_goBlock_344 : decode jMd_goBlock.cc 344 = .ok (.iload_n 2, 1) := by decide +kernel
theorem d_Md_goBlock_345 : decode jMd_goBlock.cc 345 = .ok (.putfield 588, 3) := by decide +kernel
theorem d_Md_goBlock_348 : decode jMd_goBlock.cc 348 = .ok (.aload_n 0, 1) := by decide +kernel
theorem d_Md_goBlock_349 : decode jMd_goBlock.cc 349 = .ok (.invokevirtual 595, 3) := by decide +kernel
theorem d_Md_goBlock_352 : decode jMd_goBlock.cc 352 = .ok (.aload_n 0, 1) := by decide +kernel
theorem d_Md_goBlock_353 : decode jMd_goBlock.cc 353 = .ok (.aload_n 0, 1) := by decide +kernel
theorem d_Md_goBlock_354 : decode jMd_goBlock.cc 354 = .ok (.getfield 200, 3) := by decide +kernel
theorem d_Md_goBlock_357 : decode jMd_goBlock.cc 357 = .ok (.iload_n 2, 1) := by decide +kernel
theorem d_Md_goBlock_358 : decode jMd_goBlock.cc 358 = .ok (.iaload, 1) := by decide +kernel
theorem d_Md_goBlock_359 : decode jMd_goBlock.cc 359 = .ok (.invokestatic 636, 3) := by decide +kernel
theorem d_Md_goBlock_362 : decode jMd_goBlock.cc 362 = .ok (.iinc 6 1, 3) := by decide +kernel
theorem d_Md_goBlock_365 : decode jMd_goBlock.cc 365 = .ok (.goto (-45), 3) := by decide +kernel
theorem d_Md_goBlock_368 : decode jMd_goBlock.cc 368 = .ok (.goto 18, 3) := by decide +kernel
theorem d_Md_goBlock_371 : decode jMd_goBlock.cc 371 = .ok (.aload_n 0, 1) := by decide +kernel
theorem d_Md_goBlock_372 : decode jMd_goBlock.cc 372 = .ok (.getfield 270, 3) := by decide +kernel
theorem d_Md_goBlock_375 : decode jMd_goBlock.cc 375 = .ok (.aload_n 0, 1) := by decide +kernel
theorem d_Md_goBlock_376 : decode jMd_goBlock.cc 376 = .ok (.getfield 610, 3) := by decide +kernel
theorem d_Md_goBlock_379 : decode jMd_goBlock.cc 379 = .ok (.iconst 1, 1) := by decide +kernel
theorem d_Md_goBlock_380 : decode jMd_goBlock.cc 380 = .ok (.bastore, 1) := by decide +kernel
theorem d_Md_goBlock_381 : decode jMd_goBlock.cc 381 = .ok (.aload_n 0, 1) := by decide +kernel
theorem d_Md_goBlock_382 : decode jMd_goBlock.cc 382 = .ok (.iconst 1, 1) := by decide +kernel
theorem d_Md_goBlock_383 : decode jMd_goBlock.cc 383 = .ok (.putfield 628, 3) := by decide +kernel
theorem d_Md_goBlock_386 : decode jMd_goBlock.cc 386 = .ok (.aload_n 0, 1) := by decide +kernel
theorem d_Md_goBlock_387 : decode jMd_goBlock.cc 387 = .ok (.getfield 206, 3) := by decide +kernel
theorem d_Md_goBlock_390 : decode jMd_goBlock.cc 390 = .ok (.iload_n 2, 1) := by decide +kernel
theorem d_Md_goBlock_391 : decode jMd_goBlock.cc 391 = .ok (.iaload, 1) := by decide +kernel
theorem d_Md_goBlock_392 : decode jMd_goBlock.cc 392 = .ok (.istore_n 2, 1) := by decide +kernel
theorem d_Md_goBlock_393 : decode jMd_goBlock.cc 393 = .ok (.goto (-391), 3) := by decide +kernel
theorem d_Md_goBlock_396 : decode jMd_goBlock.cc 396 = .ok (.return_, 1) := by decide +kernel
set_option maxHeartbeats 4000000 in
theorem s_Md_goBlock {g : Mg} {d : Nat} {K : Ou → Wd → Prop} {w : Wd} {p1 : Int} (h : V g LM jMd_goBlock (d + 1) K 2 [(0, vA 0), (2, vI p1)] [] w) : V g LM jMd_goBlock (d + 1) K 0 [(0, vA 0), (1, vI p1)] [] w := by
  refine v_iload_n (pc := 0) d_Md_goBlock_0 rfl (.tail _ (.head _)) ?_
  refine v_istore_n (pc := 1) (ls' := [(2, vI p1), (0, vA 0), (1, vI p1)]) d_Md_goBlock_1 rfl (by decide) rfl ?_
  exact v_sub (List.forall_mem_cons.mpr ⟨(.tail _ (.head _)), (List.forall_mem_cons.mpr ⟨(.head _), (fun _ z => absurd z List.not_mem_nil)⟩)⟩) h
set_option maxHeartbeats 4000000 in
theorem s_Md_goBlock_2 {g : Mg} {d : Nat} {K : Ou → Wd → Prop} {w : Wd} {x2_ : Int} (h : (x2_ < 0 → (V g LM jMd_goBlock (d + 1) K 396 [] [] w)) ∧ (¬ x2_ < 0 → ((¬ (w 0 89) = 0 → (V g LM jMd_goBlock (d + 1) K 396 [] [] w)) ∧ ((w 0 89) = 0 → (Cal g LM jMd_step d [vA 0] (up w 0 91 x2_) (fun o w1 => rVt o (fun b => K (.inr b) w1) ((0 ≤ x2_ ∧ x2_ < 130) ∧ ((0 ≤ x2_ ∧ x2_ < 130) ∧ ((((w1 17 x2_.toNat) < 0 ∨ 5 < (w1 17 x2_.toNat)) → ((0 ≤ (w1 0 86) ∧ (w1 0 86) < 40) ∧ (V g LM jMd_goBlock (d + 1) K 386 [(0, vA 0), (2, vI x2_)] [] (up (up w1 42 ((w1 0 86).toNat) 1) 0 89 1)))) ∧ ((w1 17 x2_.toNat) = 0 → ((0 ≤ x2_ ∧ x2_ < 130) ∧ (Cal g LM jMd_value d [vA 0, vI (w1 20 x2_.toNat)] w1 (fun o w2 => rIt o (fun b => K (.inr b) w2) (fun x3 => ((w1 24 x2_.toNat) < 100 → ((0 ≤ (wr ((wr (8 * (w2 0 86))) + (w1 24 x2_.toNat))) ∧ (wr ((wr (8 * (w2 0 86))) + (w1 24 x2_.toNat))) < 320) ∧ (V g LM jMd_goBlock (d + 1) K 386 [(0, vA 0), (2, vI x2_)] [] (up w2 41 ((wr ((wr (8 * (w2 0 86))) + (w1 24 x2_.toNat))).toNat) x3)))) ∧ (¬ (w1 24 x2_.toNat) < 100 → ((0 ≤ (wr ((w1 24 x2_.toNat) - 100)) ∧ (wr ((w1 24 x2_.toNat) - 100)) < 130) ∧ (V g LM jMd_goBlock (d + 1) K 386 [(0, vA 0), (2, vI x2_)] [] (up w2 53 ((wr ((w1 24 x2_.toNat) - 100)).toNat) x3))))))))) ∧ ((w1 17 x2_.toNat) = 1 → ((0 ≤ x2_ ∧ x2_ < 130) ∧ (Cal g LM jMd_value d [vA 0, vI (w1 20 x2_.toNat)] w1 (fun o w4 => rIt o (fun b => K (.inr b) w4) (fun x5 => (0 ≤ (w1 24 x2_.toNat) ∧ (w1 24 x2_.toNat) < 130) ∧ (V g LM jMd_goBlock (d + 1) K 386 [(0, vA 0), (2, vI x2_)] [] (up w4 53 ((w1 24 x2_.toNat).toNat) x5))))))) ∧ ((w1 17 x2_.toNat) = 2 → (V g LM jMd_goBlock (d + 1) K 145 [(0, vA 0), (2, vI x2_), (3, vI (w1 24 x2_.toNat)), (5, vI 0)] [] w1)) ∧ ((w1 17 x2_.toNat) = 3 → ((0 ≤ x2_ ∧ x2_ < 130) ∧ (Cal g LM jMd_value d [vA 0, vI (w1 20 x2_.toNat)] w1 (fun o w6 => rIt o (fun b => K (.inr b) w6) (fun x7 => Cal g LM jMd_give d [vA 0, vI (w1 24 x2_.toNat), vI x7] w6 (fun o w8 => rVt o (fun b => K (.inr b) w8) (V g LM jMd_goBlock (d + 1) K 386 [(0, vA 0), (2, vI x2_)] [] w8))))))) ∧ ((w1 17 x2_.toNat) = 4 → ((0 ≤ x2_ ∧ x2_ < 130) ∧ (Cal g LM jMd_value d [vA 0, vI (w1 20 x2_.toNat)] w1 (fun o w9 => rIt o (fun b => K (.inr b) w9) (fun x10 => (¬ x10 = 1 → (V g LM jMd_goBlock (d + 1) K 288 [(0, vA 0), (2, vI x2_)] [vI 0] w9)) ∧ (x10 = 1 → (V g LM jMd_goBlock (d + 1) K 288 [(0, vA 0), (2, vI x2_)] [vI 1] w9))))))) ∧ ((w1 17 x2_.toNat) = 5 → (V g LM jMd_goBlock (d + 1) K 320 [(0, vA 0), (2, vI x2_), (6, vI 0)] [] w1))))))))))) : V g LM jMd_goBlock (d + 1) K 2 [(0, vA 0), (2, vI x2_)] [] w := by
  refine v_iload_n (pc := 2) d_Md_goBlock_2 rfl (.tail _ (.head _)) ?_
  refine v_iflt (pc := 3) (tgt := 396) d_Md_goBlock_3 (by decide) (fun c => ?_) (fun c => ?_)
  · replace h := h.1 c
    exact v_sub (fun _ z => absurd z List.not_mem_nil) h
  · replace h := h.2 c
    refine v_aload_n (pc := 6) d_Md_goBlock_6 rfl (.head _) ?_
    refine v_geti (pc := 7) (x := (w 0 89)) d_Md_goBlock_7 fl_Md_628 cM_0.1 cM_0.2 (Or.inr rfl) rfl ?_
    refine v_ifne (pc := 10) (tgt := 396) d_Md_goBlock_10 (by decide) (fun c => ?_) (fun c => ?_)
    · replace h := h.1 c
      exact v_sub (fun _ z => absurd z List.not_mem_nil) h
    · replace h := h.2 c
      refine v_aload_n (pc := 13) d_Md_goBlock_13 rfl (.head _) ?_
      refine v_iload_n (pc := 14) d_Md_goBlock_14 rfl (.tail _ (.head _)) ?_
      refine v_puti (pc := 15) d_Md_goBlock_15 fp_Md_588 cM_0.1 cM_0.2 (by decide) rfl ?_
      refine v_aload_n (pc := 18) d_Md_goBlock_18 rfl (.head _) ?_
      refine v_callV (pc := 19) (J' := jMd_step) (d' := d) (o := 0) (ci := 13) (N := 93) (T := cT13) (As := []) d_Md_goBlock_19 ml_Md_595 cM_0.1 cM_0.2 (by decide) rfl rfl (Nat.le_of_ble_eq_true rfl) (Nat.le_refl _) rfl (Cal.weak h (fun o w1 h => ?_))
      rcases rVt_of h with ⟨rfl, h⟩ | ⟨b, rfl, h⟩
      rotate_left
      · exact h
      refine v_aload_n (pc := 22) d_Md_goBlock_22 rfl (.head _) ?_
      refine v_getr (C := "") (pc := 23) (r := 24) d_Md_goBlock_23 fl_Md_209 cM_0.1 cM_0.2 (Or.inr ⟨_, rfl⟩) rM_0_29 ?_
      refine v_iload_n (pc := 26) d_Md_goBlock_26 rfl (.tail _ (.head _)) ?_
      refine v_iald (pc := 27) (x := (w1 24 x2_.toNat)) d_Md_goBlock_27 cM_24.1 cM_24.2 rfl h.1 ?_
      replace h := h.2
      refine v_istore_n (pc := 28) (ls' := [(3, vI (w1 24 x2_.toNat)), (0, vA 0), (2, vI x2_)]) d_Md_goBlock_28 rfl (by decide) rfl ?_
      refine v_aload_n (pc := 29) d_Md_goBlock_29 rfl (.tail _ (.head _)) ?_
      refine v_getr (C := "") (pc := 30) (r := 17) d_Md_goBlock_30 fl_Md_188 cM_0.1 cM_0.2 (Or.inr ⟨_, rfl⟩) rM_0_22 ?_
      refine v_iload_n (pc := 33) d_Md_goBlock_33 rfl (.tail _ (.tail _ (.head _))) ?_
      refine v_iald (pc := 34) (x := (w1 17 x2_.toNat)) d_Md_goBlock_34 cM_17.1 cM_17.2 rfl h.1 ?_
      replace h := h.2
      refine v_table (pc := 35) (tgd := 371) (tgs := [72, 123, 142, 251, 269, 317]) d_Md_goBlock_35 (by decide) (by decide) (by decide) (fun c => ?_) ⟨fun c => ?_, fun c => ?_, fun c => ?_, fun c => ?_, fun c => ?_, fun c => ?_, trivial⟩
      · replace h := h.1 c
        refine v_aload_n (pc := 371) d_Md_goBlock_371 rfl (.tail _ (.head _)) ?_
        refine v_getr (C := "") (pc := 372) (r := 42) d_Md_goBlock_372 fl_Md_270 cM_0.1 cM_0.2 (Or.inr ⟨_, rfl⟩) rM_0_68 ?_
        refine v_aload_n (pc := 375) d_Md_goBlock_375 rfl (.tail _ (.head _)) ?_
        refine v_geti (pc := 376) (x := (w1 0 86)) d_Md_goBlock_376 fl_Md_610 cM_0.1 cM_0.2 (Or.inl rfl) rfl ?_
        refine v_iconst (pc := 379) d_Md_goBlock_379 (by decide) ?_
        refine v_zast (pc := 380) d_Md_goBlock_380 cM_42.1 cM_42.2 (aM_42 _) (by decide) h.1 ?_
        replace h := h.2
        refine v_aload_n (pc := 381) d_Md_goBlock_381 rfl (.tail _ (.head _)) ?_
        refine v_iconst (pc := 382) d_Md_goBlock_382 (by decide) ?_
        refine v_putz (pc := 383) d_Md_goBlock_383 fp_Md_628 cM_0.1 cM_0.2 (by decide) rfl (by decide) ?_
        exact v_sub (List.forall_mem_cons.mpr ⟨(.tail _ (.head _)), (List.forall_mem_cons.mpr ⟨(.tail _ (.tail _ (.head _))), (fun _ z => absurd z List.not_mem_nil)⟩)⟩) h
      · replace h := h.2.1 c
        refine v_aload_n (pc := 72) d_Md_goBlock_72 rfl (.tail _ (.head _)) ?_
        refine v_aload_n (pc := 73) d_Md_goBlock_73 rfl (.tail _ (.head _)) ?_
        refine v_getr (C := "") (pc := 74) (r := 20) d_Md_goBlock_74 fl_Md_197 cM_0.1 cM_0.2 (Or.inr ⟨_, rfl⟩) rM_0_25 ?_
        refine v_iload_n (pc := 77) d_Md_goBlock_77 rfl (.tail _ (.tail _ (.head _))) ?_
        refine v_iald (pc := 78) (x := (w1 20 x2_.toNat)) d_Md_goBlock_78 cM_20.1 cM_20.2 rfl h.1 ?_
        replace h := h.2
        refine v_callS (pc := 79) (J' := jMd_value) (d' := d) (As := [vA 0, vI (w1 20 x2_.toNat)]) d_Md_goBlock_79 ml_Md_591 rfl (Nat.le_of_ble_eq_true rfl) (Nat.le_refl _) rfl (Cal.weak h (fun o w2 h => ?_))
        rcases rIt_of h with ⟨x3, rfl, h⟩ | ⟨b, rfl, h⟩
        rotate_left
        · exact h
        refine v_istore (pc := 82) (ls' := [(4, vI x3), (3, vI (w1 24 x2_.toNat)), (0, vA 0), (2, vI x2_)]) d_Md_goBlock_82 (by decide) rfl ?_
        refine v_iload_n (pc := 84) d_Md_goBlock_84 rfl (.tail _ (.head _)) ?_
        refine v_bipush (pc := 85) d_Md_goBlock_85 (by decide) rfl ?_
        refine v_icmplt (pc := 87) (tgt := 104) d_Md_goBlock_87 (by decide) (fun c => ?_) (fun c => ?_)
        · replace h := h.1 c
          refine v_aload_n (pc := 104) d_Md_goBlock_104 rfl (.tail _ (.tail _ (.head _))) ?_
          refine v_getr (C := "") (pc := 105) (r := 41) d_Md_goBlock_105 fl_Md_267 cM_0.1 cM_0.2 (Or.inr ⟨_, rfl⟩) rM_0_67 ?_
          refine v_bipush (pc := 108) d_Md_goBlock_108 (by decide) rfl ?_
          refine v_aload_n (pc := 110) d_Md_goBlock_110 rfl (.tail _ (.tail _ (.head _))) ?_
          refine v_geti (pc := 111) (x := (w2 0 86)) d_Md_goBlock_111 fl_Md_610 cM_0.1 cM_0.2 (Or.inl rfl) rfl ?_
          refine v_imul (pc := 114) d_Md_goBlock_114 ?_
          refine v_iload_n (pc := 115) d_Md_goBlock_115 rfl (.tail _ (.head _)) ?_
          refine v_iadd (pc := 116) d_Md_goBlock_116 ?_
          refine v_iload (pc := 117) d_Md_goBlock_117 (.head _) ?_
          refine v_iast (pc := 119) d_Md_goBlock_119 cM_41.1 cM_41.2 (aM_41 _) h.1 ?_
          replace h := h.2
          refine v_goto (pc := 120) (tgt := 386) d_Md_goBlock_120 (by decide) ?_
          exact v_sub (List.forall_mem_cons.mpr ⟨(.tail _ (.tail _ (.head _))), (List.forall_mem_cons.mpr ⟨(.tail _ (.tail _ (.tail _ (.head _)))), (fun _ z => absurd z List.not_mem_nil)⟩)⟩) h
        · replace h := h.2 c
          refine v_aload_n (pc := 90) d_Md_goBlock_90 rfl (.tail _ (.tail _ (.head _))) ?_
          refine v_getr (C := "") (pc := 91) (r := 53) d_Md_goBlock_91 fl_Md_303 cM_0.1 cM_0.2 (Or.inr ⟨_, rfl⟩) rM_0_92 ?_
          refine v_iload_n (pc := 94) d_Md_goBlock_94 rfl (.tail _ (.head _)) ?_
          refine v_bipush (pc := 95) d_Md_goBlock_95 (by decide) rfl ?_
          refine v_isub (pc := 97) d_Md_goBlock_97 ?_
          refine v_iload (pc := 98) d_Md_goBlock_98 (.head _) ?_
          refine v_iast (pc := 100) d_Md_goBlock_100 cM_53.1 cM_53.2 (aM_53 _) h.1 ?_
          replace h := h.2
          refine v_goto (pc := 101) (tgt := 386) d_Md_goBlock_101 (by decide) ?_
          exact v_sub (List.forall_mem_cons.mpr ⟨(.tail _ (.tail _ (.head _))), (List.forall_mem_cons.mpr ⟨(.tail _ (.tail _ (.tail _ (.head _)))), (fun _ z => absurd z List.not_mem_nil)⟩)⟩) h
      · replace h := h.2.2.1 c
        refine v_aload_n (pc := 123) d_Md_goBlock_123 rfl (.tail _ (.head _)) ?_
        refine v_getr (C := "") (pc := 124) (r := 53) d_Md_goBlock_124 fl_Md_303 cM_0.1 cM_0.2 (Or.inr ⟨_, rfl⟩) rM_0_92 ?_
        refine v_iload_n (pc := 127) d_Md_goBlock_127 rfl (.head _) ?_
        refine v_aload_n (pc := 128) d_Md_goBlock_128 rfl (.tail _ (.head _)) ?_
        refine v_aload_n (pc := 129) d_Md_goBlock_129 rfl (.tail _ (.head _)) ?_
        refine v_getr (C := "") (pc := 130) (r := 20) d_Md_goBlock_130 fl_Md_197 cM_0.1 cM_0.2 (Or.inr ⟨_, rfl⟩) rM_0_25 ?_
        refine v_iload_n (pc := 133) d_Md_goBlock_133 rfl (.tail _ (.tail _ (.head _))) ?_
        refine v_iald (pc := 134) (x := (w1 20 x2_.toNat)) d_Md_goBlock_134 cM_20.1 cM_20.2 rfl h.1 ?_
        replace h := h.2
        refine v_callS (pc := 135) (J' := jMd_value) (d' := d) (As := [vA 0, vI (w1 20 x2_.toNat)]) d_Md_goBlock_135 ml_Md_591 rfl (Nat.le_of_ble_eq_true rfl) (Nat.le_refl _) rfl (Cal.weak h (fun o w4 h => ?_))
        rcases rIt_of h with ⟨x5, rfl, h⟩ | ⟨b, rfl, h⟩
        rotate_left
        · exact h
        refine v_iast (pc := 138) d_Md_goBlock_138 cM_53.1 cM_53.2 (aM_53 _) h.1 ?_
        replace h := h.2
        refine v_goto (pc := 139) (tgt := 386) d_Md_goBlock_139 (by decide) ?_
        exact v_sub (List.forall_mem_cons.mpr ⟨(.tail _ (.head _)), (List.forall_mem_cons.mpr ⟨(.tail _ (.tail _ (.head _))), (fun _ z => absurd z List.not_mem_nil)⟩)⟩) h
      · replace h := h.2.2.2.1 c
        refine v_iconst (pc := 142) d_Md_goBlock_142 (by decide) ?_
        refine v_istore (pc := 143) (ls' := [(5, vI 0), (3, vI (w1 24 x2_.toNat)), (0, vA 0), (2, vI x2_)]) d_Md_goBlock_143 (by decide) rfl ?_
        exact v_sub (List.forall_mem_cons.mpr ⟨(.tail _ (.tail _ (.head _))), (List.forall_mem_cons.mpr ⟨(.tail _ (.tail _ (.tail _ (.head _)))), (List.forall_mem_cons.mpr ⟨(.tail _ (.head _)), (List.forall_mem_cons.mpr ⟨(.head _), (fun _ z => absurd z List.not_mem_nil)⟩)⟩)⟩)⟩) h
      · replace h := h.2.2.2.2.1 c
        refine v_aload_n (pc := 251) d_Md_goBlock_251 rfl (.tail _ (.head _)) ?_
        refine v_iload_n (pc := 252) d_Md_goBlock_252 rfl (.head _) ?_
        refine v_aload_n (pc := 253) d_Md_goBlock_253 rfl (.tail _ (.head _)) ?_
        refine v_aload_n (pc := 254) d_Md_goBlock_254 rfl (.tail _ (.head _)) ?_
        refine v_getr (C := "") (pc := 255) (r := 20) d_Md_goBlock_255 fl_Md_197 cM_0.1 cM_0.2 (Or.inr ⟨_, rfl⟩) rM_0_25 ?_
        refine v_iload_n (pc := 258) d_Md_goBlock_258 rfl (.tail _ (.tail _ (.head _))) ?_
        refine v_iald (pc := 259) (x := (w1 20 x2_.toNat)) d_Md_goBlock_259 cM_20.1 cM_20.2 rfl h.1 ?_
        replace h := h.2
        refine v_callS (pc := 260) (J' := jMd_value) (d' := d) (As := [vA 0, vI (w1 20 x2_.toNat)]) d_Md_goBlock_260 ml_Md_591 rfl (Nat.le_of_ble_eq_true rfl) (Nat.le_refl _) rfl (Cal.weak h (fun o w6 h => ?_))
        rcases rIt_of h with ⟨x7, rfl, h⟩ | ⟨b, rfl, h⟩
        rotate_left
        · exact h
        refine v_callV (pc := 263) (J' := jMd_give) (d' := d) (o := 0) (ci := 13) (N := 93) (T := cT13) (As := [vI (w1 24 x2_.toNat), vI x7]) d_Md_goBlock_263 ml_Md_634 cM_0.1 cM_0.2 (by decide) rfl rfl (Nat.le_of_ble_eq_true rfl) (Nat.le_refl _) rfl (Cal.weak h (fun o w8 h => ?_))
        rcases rVt_of h with ⟨rfl, h⟩ | ⟨b, rfl, h⟩
        rotate_left
        · exact h
        refine v_goto (pc := 266) (tgt := 386) d_Md_goBlock_266 (by decide) ?_
        exact v_sub (List.forall_mem_cons.mpr ⟨(.tail _ (.head _)), (List.forall_mem_cons.mpr ⟨(.tail _ (.tail _ (.head _))), (fun _ z => absurd z List.not_mem_nil)⟩)⟩) h
      · replace h := h.2.2.2.2.2.1 c
        refine v_aload_n (pc := 269) d_Md_goBlock_269 rfl (.tail _ (.head _)) ?_
        refine v_aload_n (pc := 270) d_Md_goBlock_270 rfl (.tail _ (.head _)) ?_
        refine v_getr (C := "") (pc := 271) (r := 20) d_Md_goBlock_271 fl_Md_197 cM_0.1 cM_0.2 (Or.inr ⟨_, rfl⟩) rM_0_25 ?_
        refine v_iload_n (pc := 274) d_Md_goBlock_274 rfl (.tail _ (.tail _ (.head _))) ?_
        refine v_iald (pc := 275) (x := (w1 20 x2_.toNat)) d_Md_goBlock_275 cM_20.1 cM_20.2 rfl h.1 ?_
        replace h := h.2
        refine v_callS (pc := 276) (J' := jMd_value) (d' := d) (As := [vA 0, vI (w1 20 x2_.toNat)]) d_Md_goBlock_276 ml_Md_591 rfl (Nat.le_of_ble_eq_true rfl) (Nat.le_refl _) rfl (Cal.weak h (fun o w9 h => ?_))
        rcases rIt_of h with ⟨x10, rfl, h⟩ | ⟨b, rfl, h⟩
        rotate_left
        · exact h
        refine v_iconst (pc := 279) d_Md_goBlock_279 (by decide) ?_
        refine v_icmpne (pc := 280) (tgt := 287) d_Md_goBlock_280 (by decide) (fun c => ?_) (fun c => ?_)
        · replace h := h.1 c
          refine v_iconst (pc := 287) d_Md_goBlock_287 (by decide) ?_
          exact v_sub (List.forall_mem_cons.mpr ⟨(.tail _ (.head _)), (List.forall_mem_cons.mpr ⟨(.tail _ (.tail _ (.head _))), (fun _ z => absurd z List.not_mem_nil)⟩)⟩) h
        · replace h := h.2 c
          refine v_iconst (pc := 283) d_Md_goBlock_283 (by decide) ?_
          refine v_goto (pc := 284) (tgt := 288) d_Md_goBlock_284 (by decide) ?_
          exact v_sub (List.forall_mem_cons.mpr ⟨(.tail _ (.head _)), (List.forall_mem_cons.mpr ⟨(.tail _ (.tail _ (.head _))), (fun _ z => absurd z List.not_mem_nil)⟩)⟩) h
      · replace h := h.2.2.2.2.2.2 c
        refine v_iconst (pc := 317) d_Md_goBlock_317 (by decide) ?_
        refine v_istore (pc := 318) (ls' := [(6, vI 0), (3, vI (w1 24 x2_.toNat)), (0, vA 0), (2, vI x2_)]) d_Md_goBlock_318 (by decide) rfl ?_
        exact v_sub (List.forall_mem_cons.mpr ⟨(.tail _ (.tail _ (.head _))), (List.forall_mem_cons.mpr ⟨(.tail _ (.tail _ (.tail _ (.head _)))), (List.forall_mem_cons.mpr ⟨(.head _), (fun _ z => absurd z List.not_mem_nil)⟩)⟩)⟩) h
set_option maxHeartbeats 4000000 in
theorem s_Md_goBlock_396 {g : Mg} {d : Nat} {K : Ou → Wd → Prop} {w : Wd} (h : K (.inl none) w) : V g LM jMd_goBlock (d + 1) K 396 [] [] w := by
  exact v_vret (pc := 396) d_Md_goBlock_396 rfl h
set_option maxHeartbeats 4000000 in
theorem s_Md_goBlock_386 {g : Mg} {d : Nat} {K : Ou → Wd → Prop} {w : Wd} {x2_ : Int} (h : (0 ≤ x2_ ∧ x2_ < 130) ∧ (V g LM jMd_goBlock (d + 1) K 2 [(0, vA 0), (2, vI (w 23 x2_.toNat))] [] w)) : V g LM jMd_goBlock (d + 1) K 386 [(0, vA 0), (2, vI x2_)] [] w := by
  refine v_aload_n (pc := 386) d_Md_goBlock_386 rfl (.head _) ?_
  refine v_getr (C := "") (pc := 387) (r := 23) d_Md_goBlock_387 fl_Md_206 cM_0.1 cM_0.2 (Or.inr ⟨_, rfl⟩) rM_0_28 ?_
  refine v_iload_n (pc := 390) d_Md_goBlock_390 rfl (.tail _ (.head _)) ?_
  refine v_iald (pc := 391) (x := (w 23 x2_.toNat)) d_Md_goBlock_391 cM_23.1 cM_23.2 rfl h.1 ?_
  replace h := h.2
  refine v_istore_n (pc := 392) (ls' := [(2, vI (w 23 x2_.toNat)), (0, vA 0)]) d_Md_goBlock_392 rfl (by decide) rfl ?_
  refine v_goto (pc := 393) (tgt := 2) d_Md_goBlock_393 (by decide) ?_
  exact v_sub (List.forall_mem_cons.mpr ⟨(.tail _ (.head _)), (List.forall_mem_cons.mpr ⟨(.head _), (fun _ z => absurd z List.not_mem_nil)⟩)⟩) h
set_option maxHeartbeats 4000000 in
theorem s_Md_goBlock_145 {g : Mg} {d : Nat} {K : Ou → Wd → Prop} {w : Wd} {x2_ : Int} {x3_ : Int} {x5_ : Int} (h : ((w 0 60) ≤ x5_ → (V g LM jMd_goBlock (d + 1) K 386 [(0, vA 0), (2, vI x2_)] [] w)) ∧ (¬ (w 0 60) ≤ x5_ → ((0 ≤ x2_ ∧ x2_ < 130) ∧ (((w 25 x2_.toNat) = 0 → ((0 ≤ x5_ ∧ x5_ < 120) ∧ (V g LM jMd_goBlock (d + 1) K 180 [(0, vA 0), (2, vI x2_), (3, vI x3_), (5, vI x5_)] [vI (w 39 x5_.toNat)] w))) ∧ (¬ (w 25 x2_.toNat) = 0 → ((0 ≤ x5_ ∧ x5_ < 120) ∧ (V g LM jMd_goBlock (d + 1) K 180 [(0, vA 0), (2, vI x2_), (3, vI x3_), (5, vI x5_)] [vI (w 38 x5_.toNat)] w))))))) : V g LM jMd_goBlock (d + 1) K 145 [(0, vA 0), (2, vI x2_), (3, vI x3_), (5, vI x5_)] [] w := by
  refine v_iload (pc := 145) d_Md_goBlock_145 (.tail _ (.tail _ (.tail _ (.head _)))) ?_
  refine v_aload_n (pc := 147) d_Md_goBlock_147 rfl (.head _) ?_
  refine v_geti (pc := 148) (x := (w 0 60)) d_Md_goBlock_148 fl_Md_546 cM_0.1 cM_0.2 (Or.inl rfl) rfl ?_
  refine v_icmpge (pc := 151) (tgt := 248) d_Md_goBlock_151 (by decide) (fun c => ?_) (fun c => ?_)
  · replace h := h.1 c
    refine v_goto (pc := 248) (tgt := 386) d_Md_goBlock_248 (by decide) ?_
    exact v_sub (List.forall_mem_cons.mpr ⟨(.head _), (List.forall_mem_cons.mpr ⟨(.tail _ (.head _)), (fun _ z => absurd z List.not_mem_nil)⟩)⟩) h
  · replace h := h.2 c
    refine v_aload_n (pc := 154) d_Md_goBlock_154 rfl (.head _) ?_
    refine v_getr (C := "") (pc := 155) (r := 25) d_Md_goBlock_155 fl_Md_212 cM_0.1 cM_0.2 (Or.inr ⟨_, rfl⟩) rM_0_30 ?_
    refine v_iload_n (pc := 158) d_Md_goBlock_158 rfl (.tail _ (.head _)) ?_
    refine v_zald (pc := 159) (x := (w 25 x2_.toNat)) d_Md_goBlock_159 cM_25.1 cM_25.2 rfl h.1 ?_
    replace h := h.2
    refine v_ifeq (pc := 160) (tgt := 173) d_Md_goBlock_160 (by decide) (fun c => ?_) (fun c => ?_)
    · replace h := h.1 c
      refine v_aload_n (pc := 173) d_Md_goBlock_173 rfl (.head _) ?_
      refine v_getr (C := "") (pc := 174) (r := 39) d_Md_goBlock_174 fl_Md_261 cM_0.1 cM_0.2 (Or.inr ⟨_, rfl⟩) rM_0_62 ?_
      refine v_iload (pc := 177) d_Md_goBlock_177 (.tail _ (.tail _ (.tail _ (.head _)))) ?_
      refine v_iald (pc := 179) (x := (w 39 x5_.toNat)) d_Md_goBlock_179 cM_39.1 cM_39.2 rfl h.1 ?_
      replace h := h.2
      exact v_sub (List.forall_mem_cons.mpr ⟨(.head _), (List.forall_mem_cons.mpr ⟨(.tail _ (.head _)), (List.forall_mem_cons.mpr ⟨(.tail _ (.tail _ (.head _))), (List.forall_mem_cons.mpr ⟨(.tail _ (.tail _ (.tail _ (.head _)))), (fun _ z => absurd z List.not_mem_nil)⟩)⟩)⟩)⟩) h
    · replace h := h.2 c
      refine v_aload_n (pc := 163) d_Md_goBlock_163 rfl (.head _) ?_
      refine v_getr (C := "") (pc := 164) (r := 38) d_Md_goBlock_164 fl_Md_258 cM_0.1 cM_0.2 (Or.inr ⟨_, rfl⟩) rM_0_61 ?_
      refine v_iload (pc := 167) d_Md_goBlock_167 (.tail _ (.tail _ (.tail _ (.head _)))) ?_
      refine v_iald (pc := 169) (x := (w 38 x5_.toNat)) d_Md_goBlock_169 cM_38.1 cM_38.2 rfl h.1 ?_
      replace h := h.2
      refine v_goto (pc := 170) (tgt := 180) d_Md_goBlock_170 (by decide) ?_
      exact v_sub (List.forall_mem_cons.mpr ⟨(.head _), (List.forall_mem_cons.mpr ⟨(.tail _ (.head _)), (List.forall_mem_cons.mpr ⟨(.tail _ (.tail _ (.head _))), (List.forall_mem_cons.mpr ⟨(.tail _ (.tail _ (.tail _ (.head _)))), (fun _ z => absurd z List.not_mem_nil)⟩)⟩)⟩)⟩) h
set_option maxHeartbeats 4000000 in
theorem s_Md_goBlock_288 {g : Mg} {d : Nat} {K : Ou → Wd → Prop} {w : Wd} {x2_ : Int} {s0_ : Int} (h : (s0_ = 0 → ((0 ≤ x2_ ∧ x2_ < 130) ∧ (V g LM jMd_goBlock (d + 1) K 311 [(0, vA 0), (2, vI x2_)] [vI (w 22 x2_.toNat), vA 0] w))) ∧ (¬ s0_ = 0 → ((0 ≤ x2_ ∧ x2_ < 130) ∧ (V g LM jMd_goBlock (d + 1) K 311 [(0, vA 0), (2, vI x2_)] [vI (w 21 x2_.toNat), vA 0] w)))) : V g LM jMd_goBlock (d + 1) K 288 [(0, vA 0), (2, vI x2_)] [vI s0_] w := by
  refine v_istore (pc := 288) (ls' := [(5, vI s0_), (0, vA 0), (2, vI x2_)]) d_Md_goBlock_288 (by decide) rfl ?_
  refine v_aload_n (pc := 290) d_Md_goBlock_290 rfl (.tail _ (.head _)) ?_
  refine v_iload (pc := 291) d_Md_goBlock_291 (.head _) ?_
  refine v_ifeq (pc := 293) (tgt := 305) d_Md_goBlock_293 (by decide) (fun c => ?_) (fun c => ?_)
  · replace h := h.1 c
    refine v_aload_n (pc := 305) d_Md_goBlock_305 rfl (.tail _ (.head _)) ?_
    refine v_getr (C := "") (pc := 306) (r := 22) d_Md_goBlock_306 fl_Md_203 cM_0.1 cM_0.2 (Or.inr ⟨_, rfl⟩) rM_0_27 ?_
    refine v_iload_n (pc := 309) d_Md_goBlock_309 rfl (.tail _ (.tail _ (.head _))) ?_
    refine v_iald (pc := 310) (x := (w 22 x2_.toNat)) d_Md_goBlock_310 cM_22.1 cM_22.2 rfl h.1 ?_
    replace h := h.2
    exact v_sub (List.forall_mem_cons.mpr ⟨(.tail _ (.head _)), (List.forall_mem_cons.mpr ⟨(.tail _ (.tail _ (.head _))), (fun _ z => absurd z List.not_mem_nil)⟩)⟩) h
  · replace h := h.2 c
    refine v_aload_n (pc := 296) d_Md_goBlock_296 rfl (.tail _ (.head _)) ?_
    refine v_getr (C := "") (pc := 297) (r := 21) d_Md_goBlock_297 fl_Md_200 cM_0.1 cM_0.2 (Or.inr ⟨_, rfl⟩) rM_0_26 ?_
    refine v_iload_n (pc := 300) d_Md_goBlock_300 rfl (.tail _ (.tail _ (.head _))) ?_
    refine v_iald (pc := 301) (x := (w 21 x2_.toNat)) d_Md_goBlock_301 cM_21.1 cM_21.2 rfl h.1 ?_
    replace h := h.2
    refine v_goto (pc := 302) (tgt := 311) d_Md_goBlock_302 (by decide) ?_
    exact v_sub (List.forall_mem_cons.mpr ⟨(.tail _ (.head _)), (List.forall_mem_cons.mpr ⟨(.tail _ (.tail _ (.head _))), (fun _ z => absurd z List.not_mem_nil)⟩)⟩) h
set_option maxHeartbeats 4000000 in
theorem s_Md_goBlock_320 {g : Mg} {d : Nat} {K : Ou → Wd → Prop} {w : Wd} {x2_ : Int} {x6_ : Int} (h : (0 ≤ x2_ ∧ x2_ < 130) ∧ ((0 ≤ (w 19 x2_.toNat) ∧ (w 19 x2_.toNat) < 4022) ∧ (((w 7 ((w 19 x2_.toNat).toNat)) ≤ x6_ → (V g LM jMd_goBlock (d + 1) K 368 [(0, vA 0), (2, vI x2_)] [] w)) ∧ (¬ (w 7 ((w 19 x2_.toNat).toNat)) ≤ x6_ → ((¬ (w 0 89) = 0 → (V g LM jMd_goBlock (d + 1) K 368 [(0, vA 0), (2, vI x2_)] [] w)) ∧ ((w 0 89) = 0 → (Cal g LM jMd_step d [vA 0] (up w 0 91 x2_) (fun o w1 => rVt o (fun b => K (.inr b) w1) ((0 ≤ x2_ ∧ x2_ < 130) ∧ (Cal g LM jMd_goBlock d [vA 0, vI (w1 21 x2_.toNat)] w1 (fun o w2 => rVt o (fun b => K (.inr b) w2) (V g LM jMd_goBlock (d + 1) K 320 [(0, vA 0), (2, vI x2_), (6, vI (wr (x6_ + 1)))] [] w2)))))))))))) : V g LM jMd_goBlock (d + 1) K 320 [(0, vA 0), (2, vI x2_), (6, vI x6_)] [] w := by
  refine v_iload (pc := 320) d_Md_goBlock_320 (.tail _ (.tail _ (.head _))) ?_
  refine v_aload_n (pc := 322) d_Md_goBlock_322 rfl (.head _) ?_
  refine v_getr (C := "") (pc := 323) (r := 7) d_Md_goBlock_323 fl_Md_43 cM_0.1 cM_0.2 (Or.inr ⟨_, rfl⟩) rM_0_9 ?_
  refine v_aload_n (pc := 326) d_Md_goBlock_326 rfl (.head _) ?_
  refine v_getr (C := "") (pc := 327) (r := 19) d_Md_goBlock_327 fl_Md_194 cM_0.1 cM_0.2 (Or.inr ⟨_, rfl⟩) rM_0_24 ?_
  refine v_iload_n (pc := 330) d_Md_goBlock_330 rfl (.tail _ (.head _)) ?_
  refine v_iald (pc := 331) (x := (w 19 x2_.toNat)) d_Md_goBlock_331 cM_19.1 cM_19.2 rfl h.1 ?_
  replace h := h.2
  refine v_iald (pc := 332) (x := (w 7 ((w 19 x2_.toNat).toNat))) d_Md_goBlock_332 cM_7.1 cM_7.2 rfl h.1 ?_
  replace h := h.2
  refine v_icmpge (pc := 333) (tgt := 368) d_Md_goBlock_333 (by decide) (fun c => ?_) (fun c => ?_)
  · replace h := h.1 c
    exact v_sub (List.forall_mem_cons.mpr ⟨(.head _), (List.forall_mem_cons.mpr ⟨(.tail _ (.head _)), (fun _ z => absurd z List.not_mem_nil)⟩)⟩) h
  · replace h := h.2 c
    refine v_aload_n (pc := 336) d_Md_goBlock_336 rfl (.head _) ?_
    refine v_geti (pc := 337) (x := (w 0 89)) d_Md_goBlock_337 fl_Md_628 cM_0.1 cM_0.2 (Or.inr rfl) rfl ?_
    refine v_ifne (pc := 340) (tgt := 368) d_Md_goBlock_340 (by decide) (fun c => ?_) (fun c => ?_)
    · replace h := h.1 c
      exact v_sub (List.forall_mem_cons.mpr ⟨(.head _), (List.forall_mem_cons.mpr ⟨(.tail _ (.head _)), (fun _ z => absurd z List.not_mem_nil)⟩)⟩) h
    · replace h := h.2 c
      refine v_aload_n (pc := 343) d_Md_goBlock_343 rfl (.head _) ?_
      refine v_iload_n (pc := 344) d_Md_goBlock_344 rfl (.tail _ (.head _)) ?_
      refine v_puti (pc := 345) d_Md_goBlock_345 fp_Md_588 cM_0.1 cM_0.2 (by decide) rfl ?_
      refine v_aload_n (pc := 348) d_Md_goBlock_348 rfl (.head _) ?_
      refine v_callV (pc := 349) (J' := jMd_step) (d' := d) (o := 0) (ci := 13) (N := 93) (T := cT13) (As := []) d_Md_goBlock_349 ml_Md_595 cM_0.1 cM_0.2 (by decide) rfl rfl (Nat.le_of_ble_eq_true rfl) (Nat.le_refl _) rfl (Cal.weak h (fun o w1 h => ?_))
      rcases rVt_of h with ⟨rfl, h⟩ | ⟨b, rfl, h⟩
      rotate_left
      · exact h
      refine v_aload_n (pc := 352) d_Md_goBlock_352 rfl (.head _) ?_
      refine v_aload_n (pc := 353) d_Md_goBlock_353 rfl (.head _) ?_
      refine v_getr (C := "") (pc := 354) (r := 21) d_Md_goBlock_354 fl_Md_200 cM_0.1 cM_0.2 (Or.inr ⟨_, rfl⟩) rM_0_26 ?_
      refine v_iload_n (pc := 357) d_Md_goBlock_357 rfl (.tail _ (.head _)) ?_
      refine v_iald (pc := 358) (x := (w1 21 x2_.toNat)) d_Md_goBlock_358 cM_21.1 cM_21.2 rfl h.1 ?_
      replace h := h.2
      refine v_callS (pc := 359) (J' := jMd_goBlock) (d' := d) (As := [vA 0, vI (w1 21 x2_.toNat)]) d_Md_goBlock_359 ml_Md_636 rfl (Nat.le_of_ble_eq_true rfl) (Nat.le_refl _) rfl (Cal.weak h (fun o w2 h => ?_))
      rcases rVt_of h with ⟨rfl, h⟩ | ⟨b, rfl, h⟩
      rotate_left
      · exact h
      refine v_iinc (pc := 362) (ls' := [(6, vI (wr (x6_ + 1))), (0, vA 0), (2, vI x2_)]) d_Md_goBlock_362 (.tail _ (.tail _ (.head _))) (by decide) rfl ?_
      refine v_goto (pc := 365) (tgt := 320) d_Md_goBlock_365 (by decide) ?_
      exact v_sub (List.forall_mem_cons.mpr ⟨(.tail _ (.head _)), (List.forall_mem_cons.mpr ⟨(.tail _ (.tail _ (.head _))), (List.forall_mem_cons.mpr ⟨(.head _), (fun _ z => absurd z List.not_mem_nil)⟩)⟩)⟩) h
set_option maxHeartbeats 4000000 in
theorem s_Md_goBlock_180 {g : Mg} {d : Nat} {K : Ou → Wd → Prop} {w : Wd} {x2_ : Int} {x3_ : Int} {x5_ : Int} {s0_ : Int} (h : (¬ s0_ = (w 0 86) → (V g LM jMd_goBlock (d + 1) K 242 [(0, vA 0), (2, vI x2_), (3, vI x3_), (5, vI x5_)] [] w)) ∧ (s0_ = (w 0 86) → (Cal g LM jMd_step d [vA 0] w (fun o w1 => rVt o (fun b => K (.inr b) w1) ((0 ≤ x2_ ∧ x2_ < 130) ∧ (Cal g LM jMd_value d [vA 0, vI (w1 20 x2_.toNat)] (up w1 0 90 x5_) (fun o w2 => rIt o (fun b => K (.inr b) w2) (fun x3 => (0 ≤ x2_ ∧ x2_ < 130) ∧ (((w2 25 x2_.toNat) = 0 → ((0 ≤ x5_ ∧ x5_ < 120) ∧ (V g LM jMd_goBlock (d + 1) K 236 [(0, vA 0), (2, vI x2_), (3, vI x3_), (5, vI x5_), (6, vI x3)] [vI (w2 38 x5_.toNat), vA 0] w2))) ∧ (¬ (w2 25 x2_.toNat) = 0 → ((0 ≤ x5_ ∧ x5_ < 120) ∧ (V g LM jMd_goBlock (d + 1) K 236 [(0, vA 0), (2, vI x2_), (3, vI x3_), (5, vI x5_), (6, vI x3)] [vI (w2 39 x5_.toNat), vA 0] w2)))))))))))) : V g LM jMd_goBlock (d + 1) K 180 [(0, vA 0), (2, vI x2_), (3, vI x3_), (5, vI x5_)] [vI s0_] w := by
  refine v_aload_n (pc := 180) d_Md_goBlock_180 rfl (.head _) ?_
  refine v_geti (pc := 181) (x := (w 0 86)) d_Md_goBlock_181 fl_Md_610 cM_0.1 cM_0.2 (Or.inl rfl) rfl ?_
  refine v_icmpne (pc := 184) (tgt := 242) d_Md_goBlock_184 (by decide) (fun c => ?_) (fun c => ?_)
  · replace h := h.1 c
    exact v_sub (List.forall_mem_cons.mpr ⟨(.head _), (List.forall_mem_cons.mpr ⟨(.tail _ (.head _)), (List.forall_mem_cons.mpr ⟨(.tail _ (.tail _ (.head _))), (List.forall_mem_cons.mpr ⟨(.tail _ (.tail _ (.tail _ (.head _)))), (fun _ z => absurd z List.not_mem_nil)⟩)⟩)⟩)⟩) h
  · replace h := h.2 c
    refine v_aload_n (pc := 187) d_Md_goBlock_187 rfl (.head _) ?_
    refine v_callV (pc := 188) (J' := jMd_step) (d' := d) (o := 0) (ci := 13) (N := 93) (T := cT13) (As := []) d_Md_goBlock_188 ml_Md_595 cM_0.1 cM_0.2 (by decide) rfl rfl (Nat.le_of_ble_eq_true rfl) (Nat.le_refl _) rfl (Cal.weak h (fun o w1 h => ?_))
    rcases rVt_of h with ⟨rfl, h⟩ | ⟨b, rfl, h⟩
    rotate_left
    · exact h
    refine v_aload_n (pc := 191) d_Md_goBlock_191 rfl (.head _) ?_
    refine v_iload (pc := 192) d_Md_goBlock_192 (.tail _ (.tail _ (.tail _ (.head _)))) ?_
    refine v_puti (pc := 194) d_Md_goBlock_194 fp_Md_607 cM_0.1 cM_0.2 (by decide) rfl ?_
    refine v_aload_n (pc := 197) d_Md_goBlock_197 rfl (.head _) ?_
    refine v_aload_n (pc := 198) d_Md_goBlock_198 rfl (.head _) ?_
    refine v_getr (C := "") (pc := 199) (r := 20) d_Md_goBlock_199 fl_Md_197 cM_0.1 cM_0.2 (Or.inr ⟨_, rfl⟩) rM_0_25 ?_
    refine v_iload_n (pc := 202) d_Md_goBlock_202 rfl (.tail _ (.head _)) ?_
    refine v_iald (pc := 203) (x := (w1 20 x2_.toNat)) d_Md_goBlock_203 cM_20.1 cM_20.2 rfl h.1 ?_
    replace h := h.2
    refine v_callS (pc := 204) (J' := jMd_value) (d' := d) (As := [vA 0, vI (w1 20 x2_.toNat)]) d_Md_goBlock_204 ml_Md_591 rfl (Nat.le_of_ble_eq_true rfl) (Nat.le_refl _) rfl (Cal.weak h (fun o w2 h => ?_))
    rcases rIt_of h with ⟨x3, rfl, h⟩ | ⟨b, rfl, h⟩
    rotate_left
    · exact h
    refine v_istore (pc := 207) (ls' := [(6, vI x3), (0, vA 0), (2, vI x2_), (3, vI x3_), (5, vI x5_)]) d_Md_goBlock_207 (by decide) rfl ?_
    refine v_aload_n (pc := 209) d_Md_goBlock_209 rfl (.tail _ (.head _)) ?_
    refine v_aload_n (pc := 210) d_Md_goBlock_210 rfl (.tail _ (.head _)) ?_
    refine v_getr (C := "") (pc := 211) (r := 25) d_Md_goBlock_211 fl_Md_212 cM_0.1 cM_0.2 (Or.inr ⟨_, rfl⟩) rM_0_30 ?_
    refine v_iload_n (pc := 214) d_Md_goBlock_214 rfl (.tail _ (.tail _ (.head _))) ?_
    refine v_zald (pc := 215) (x := (w2 25 x2_.toNat)) d_Md_goBlock_215 cM_25.1 cM_25.2 rfl h.1 ?_
    replace h := h.2
    refine v_ifeq (pc := 216) (tgt := 229) d_Md_goBlock_216 (by decide) (fun c => ?_) (fun c => ?_)
    · replace h := h.1 c
      refine v_aload_n (pc := 229) d_Md_goBlock_229 rfl (.tail _ (.head _)) ?_
      refine v_getr (C := "") (pc := 230) (r := 38) d_Md_goBlock_230 fl_Md_258 cM_0.1 cM_0.2 (Or.inr ⟨_, rfl⟩) rM_0_61 ?_
      refine v_iload (pc := 233) d_Md_goBlock_233 (.tail _ (.tail _ (.tail _ (.tail _ (.head _))))) ?_
      refine v_iald (pc := 235) (x := (w2 38 x5_.toNat)) d_Md_goBlock_235 cM_38.1 cM_38.2 rfl h.1 ?_
      replace h := h.2
      exact v_sub (List.forall_mem_cons.mpr ⟨(.tail _ (.head _)), (List.forall_mem_cons.mpr ⟨(.tail _ (.tail _ (.head _))), (List.forall_mem_cons.mpr ⟨(.tail _ (.tail _ (.tail _ (.head _)))), (List.forall_mem_cons.mpr ⟨(.tail _ (.tail _ (.tail _ (.tail _ (.head _))))), (List.forall_mem_cons.mpr ⟨(.head _), (fun _ z => absurd z List.not_mem_nil)⟩)⟩)⟩)⟩)⟩) h
    · replace h := h.2 c
      refine v_aload_n (pc := 219) d_Md_goBlock_219 rfl (.tail _ (.head _)) ?_
      refine v_getr (C := "") (pc := 220) (r := 39) d_Md_goBlock_220 fl_Md_261 cM_0.1 cM_0.2 (Or.inr ⟨_, rfl⟩) rM_0_62 ?_
      refine v_iload (pc := 223) d_Md_goBlock_223 (.tail _ (.tail _ (.tail _ (.tail _ (.head _))))) ?_
      refine v_iald (pc := 225) (x := (w2 39 x5_.toNat)) d_Md_goBlock_225 cM_39.1 cM_39.2 rfl h.1 ?_
      replace h := h.2
      refine v_goto (pc := 226) (tgt := 236) d_Md_goBlock_226 (by decide) ?_
      exact v_sub (List.forall_mem_cons.mpr ⟨(.tail _ (.head _)), (List.forall_mem_cons.mpr ⟨(.tail _ (.tail _ (.head _))), (List.forall_mem_cons.mpr ⟨(.tail _ (.tail _ (.tail _ (.head _)))), (List.forall_mem_cons.mpr ⟨(.tail _ (.tail _ (.tail _ (.tail _ (.head _))))), (List.forall_mem_cons.mpr ⟨(.head _), (fun _ z => absurd z List.not_mem_nil)⟩)⟩)⟩)⟩)⟩) h
set_option maxHeartbeats 4000000 in
theorem s_Md_goBlock_311 {g : Mg} {d : Nat} {K : Ou → Wd → Prop} {w : Wd} {x2_ : Int} {s1_ : Int} (h : Cal g LM jMd_goBlock d [vA 0, vI s1_] w (fun o w1 => rVt o (fun b => K (.inr b) w1) (V g LM jMd_goBlock (d + 1) K 386 [(0, vA 0), (2, vI x2_)] [] w1))) : V g LM jMd_goBlock (d + 1) K 311 [(0, vA 0), (2, vI x2_)] [vI s1_, vA 0] w := by
  refine v_callS (pc := 311) (J' := jMd_goBlock) (d' := d) (As := [vA 0, vI s1_]) d_Md_goBlock_311 ml_Md_636 rfl (Nat.le_of_ble_eq_true rfl) (Nat.le_refl _) rfl (Cal.weak h (fun o w1 h => ?_))
  rcases rVt_of h with ⟨rfl, h⟩ | ⟨b, rfl, h⟩
  rotate_left
  · exact h
  refine v_goto (pc := 314) (tgt := 386) d_Md_goBlock_314 (by decide) ?_
  exact v_sub (List.forall_mem_cons.mpr ⟨(.head _), (List.forall_mem_cons.mpr ⟨(.tail _ (.head _)), (fun _ z => absurd z List.not_mem_nil)⟩)⟩) h
set_option maxHeartbeats 4000000 in
theorem s_Md_goBlock_368 {g : Mg} {d : Nat} {K : Ou → Wd → Prop} {w : Wd} {x2_ : Int} (h : V g LM jMd_goBlock (d + 1) K 386 [(0, vA 0), (2, vI x2_)] [] w) : V g LM jMd_goBlock (d + 1) K 368 [(0, vA 0), (2, vI x2_)] [] w := by
  refine v_goto (pc := 368) (tgt := 386) d_Md_goBlock_368 (by decide) ?_
  exact v_sub (List.forall_mem_cons.mpr ⟨(.head _), (List.forall_mem_cons.mpr ⟨(.tail _ (.head _)), (fun _ z => absurd z List.not_mem_nil)⟩)⟩) h
set_option maxHeartbeats 4000000 in
theorem s_Md_goBlock_242 {g : Mg} {d : Nat} {K : Ou → Wd → Prop} {w : Wd} {x2_ : Int} {x3_ : Int} {x5_ : Int} (h : V g LM jMd_goBlock (d + 1) K 145 [(0, vA 0), (2, vI x2_), (3, vI x3_), (5, vI (wr (x5_ + 1)))] [] w) : V g LM jMd_goBlock (d + 1) K 242 [(0, vA 0), (2, vI x2_), (3, vI x3_), (5, vI x5_)] [] w := by
  refine v_iinc (pc := 242) (ls' := [(5, vI (wr (x5_ + 1))), (0, vA 0), (2, vI x2_), (3, vI x3_)]) d_Md_goBlock_242 (.tail _ (.tail _ (.tail _ (.head _)))) (by decide) rfl ?_
  refine v_goto (pc := 245) (tgt := 145) d_Md_goBlock_245 (by decide) ?_
  exact v_sub (List.forall_mem_cons.mpr ⟨(.tail _ (.head _)), (List.forall_mem_cons.mpr ⟨(.tail _ (.tail _ (.head _))), (List.forall_mem_cons.mpr ⟨(.tail _ (.tail _ (.tail _ (.head _)))), (List.forall_mem_cons.mpr ⟨(.head _), (fun _ z => absurd z List.not_mem_nil)⟩)⟩)⟩)⟩) h
set_option maxHeartbeats 4000000 in
theorem s_Md_goBlock_236 {g : Mg} {d : Nat} {K : Ou → Wd → Prop} {w : Wd} {x2_ : Int} {x3_ : Int} {x5_ : Int} {x6_ : Int} {s1_ : Int} (h : Cal g LM jMd_deliver d [vA 0, vI s1_, vI x3_, vI x6_] w (fun o w1 => rVt o (fun b => K (.inr b) w1) (V g LM jMd_goBlock (d + 1) K 242 [(0, vA 0), (2, vI x2_), (3, vI x3_), (5, vI x5_)] [] w1))) : V g LM jMd_goBlock (d + 1) K 236 [(0, vA 0), (2, vI x2_), (3, vI x3_), (5, vI x5_), (6, vI x6_)] [vI s1_, vA 0] w := by
  refine v_iload_n (pc := 236) d_Md_goBlock_236 rfl (.tail _ (.tail _ (.head _))) ?_
  refine v_iload (pc := 237) d_Md_goBlock_237 (.tail _ (.tail _ (.tail _ (.tail _ (.head _))))) ?_
  refine v_callV (pc := 239) (J' := jMd_deliver) (d' := d) (o := 0) (ci := 13) (N := 93) (T := cT13) (As := [vI s1_, vI x3_, vI x6_]) d_Md_goBlock_239 ml_Md_631 cM_0.1 cM_0.2 (by decide) rfl rfl (Nat.le_of_ble_eq_true rfl) (Nat.le_refl _) rfl (Cal.weak h (fun o w1 h => ?_))
  rcases rVt_of h with ⟨rfl, h⟩ | ⟨b, rfl, h⟩
  rotate_left
  · exact h
  exact v_sub (List.forall_mem_cons.mpr ⟨(.head _), (List.forall_mem_cons.mpr ⟨(.tail _ (.head _)), (List.forall_mem_cons.mpr ⟨(.tail _ (.tail _ (.head _))), (List.forall_mem_cons.mpr ⟨(.tail _ (.tail _ (.tail _ (.head _)))), (fun _ z => absurd z List.not_mem_nil)⟩)⟩)⟩)⟩) h
theorem d_Md_oneTurn_0 : decode jMd_oneTurn.cc 0 = .ok (.aload_n 0, 1) := by decide +kernel
theorem d_Md_oneTurn_1 : decode jMd_oneTurn.cc 1 = .ok (.aload_n 0, 1) := by decide +kernel
theorem d_Md_oneTurn_2 : decode jMd_oneTurn.cc 2 = .ok (.getfield 300, 3) := by decide +kernel
theorem d_Md_oneTurn_5 : decode jMd_oneTurn.cc 5 = .ok (.iconst 0, 1) := by decide +kernel
theorem d_Md_oneTurn_6 : decode jMd_oneTurn.cc 6 = .ok (.invokevirtual 639, 3) := by decide +kernel
theorem d_Md_oneTurn_9 : decode jMd_oneTurn.cc 9 = .ok (.iconst 0, 1) := by decide +kernel
theorem d_Md_oneTurn_10 : decode jMd_oneTurn.cc 10 = .ok (.istore_n 1, 1) := by decide +kernel
theorem d_Md_oneTurn_11 : decode jMd_oneTurn.cc 11 = .ok (.iload_n 1, 1) := by decide +kernel
theorem d_Md_oneTurn_12 : decode jMd_oneTurn.cc 12 = .ok (.sipush 160, 3) := by decide +kernel
theorem d_Md_oneTurn_15 : decode jMd_oneTurn.cc 15 = .ok (.if_icmp .ge 23, 3) := by decide +kernel
theorem d_Md_oneTurn_18 : decode jMd_oneTurn.cc 18 = .ok (.aload_n 0, 1) := by decide +kernel
theorem d_Md_oneTurn_19 : decode jMd_oneTurn.cc 19 = .ok (.getfield 285, 3) := by decide +kernel
theorem d_Md_oneTurn_22 : decode jMd_oneTurn.cc 22 = .ok (.iload_n 1, 1) := by decide +kernel
theorem d_Md_oneTurn_23 : decode jMd_oneTurn.cc 23 = .ok (.iconst 0, 1) := by decide +kernel
theorem d_Md_oneTurn_24 : decode jMd_oneTurn.cc 24 = .ok (.iastore, 1) := by decide +kernel
theorem d_Md_oneTurn_25 : decode jMd_oneTurn.cc 25 = .ok (.aload_n 0, 1) := by decide +kernel
theorem d_Md_oneTurn_26 : decode jMd_oneTurn.cc 26 = .ok (.getfield 288, 3) := by decide +kernel
theorem d_Md_oneTurn_29 : decode jMd_oneTurn.cc 29 = .ok (.iload_n 1, 1) := by decide +kernel
theorem d_Md_oneTurn_30 : decode jMd_oneTurn.cc 30 = .ok (.iconst 0, 1) := by decide +kernel
theorem d_Md_oneTurn_31 : decode jMd_oneTurn.cc 31 = .ok (.iastore, 1) := by decide +kernel
theorem d_Md_oneTurn_32 : decode jMd_oneTurn.cc 32 = .ok (.iinc 1 1, 3) := by decide +kernel
theorem d_Md_oneTurn_35 : decode jMd_oneTurn.cc 35 = .ok (.goto (-24), 3) := by decide +kernel
theorem d_Md_oneTurn_38 : decode jMd_oneTurn.cc 38 = .ok (.iconst 0, 1) := by decide +kernel
theorem d_Md_oneTurn_39 : decode jMd_oneTurn.cc 39 = .ok (.istore_n 1, 1) := by decide +kernel
theorem d_Md_oneTurn_40 : decode jMd_oneTurn.cc 40 = .ok (.iload_n 1, 1) := by decide +kernel
theorem d_Md_oneTurn_41 : decode jMd_oneTurn.cc 41 = .ok (.iconst 4, 1) := by decide +kernel
theorem d_Md_oneTurn_42 : decode jMd_oneTurn.cc 42 = .ok (.if_icmp .ge 23, 3) := by decide +kernel
theorem d_Md_oneTurn_45 : decode jMd_oneTurn.cc 45 = .ok (.aload_n 0, 1) := by decide +kernel
theorem d_Md_oneTurn_46 : decode jMd_oneTurn.cc 46 = .ok (.getfield 291, 3) := by decide +kernel
theorem d_Md_oneTurn_49 : decode jMd_oneTurn.cc 49 = .ok (.iload_n 1, 1) := by decide +kernel
theorem d_Md_oneTurn_50 : decode jMd_oneTurn.cc 50 = .ok (.iconst 0, 1) := by decide +kernel
theorem d_Md_oneTurn_51 : decode jMd_oneTurn.cc 51 = .ok (.iastore, 1) := by decide +kernel
theorem d_Md_oneTurn_52 : decode jMd_oneTurn.cc 52 = .ok (.aload_n 0, 1) := by decide +kernel
theorem d_Md_oneTurn_53 : decode jMd_oneTurn.cc 53 = .ok (.getfield 294, 3) := by decide +kernel
theorem d_Md_oneTurn_56 : decode jMd_oneTurn.cc 56 = .ok (.iload_n 1, 1) := by decide +kernel
theorem d_Md_oneTurn_57 : decode jMd_oneTurn.cc 57 = .ok (.iconst 0, 1) := by decide +kernel
theorem d_Md_oneTurn_58 : decode jMd_oneTurn.cc 58 = .ok (.iastore, 1) := by decide +kernel
theorem d_Md_oneTurn_59 : decode jMd_oneTurn.cc 59 = .ok (.iinc 1 1, 3) := by decide +kernel
theorem d_Md_oneTurn_62 : decode jMd_oneTurn.cc 62 = .ok (.goto (-22), 3) := by decide +kernel
theorem d_Md_oneTurn_65 : decode jMd_oneTurn.cc 65 = .ok (.aload_n 0, 1) := by decide +kernel
theorem d_Md_oneTurn_66 : decode jMd_oneTurn.cc 66 = .ok (.iconst 0, 1) := by decide +kernel
theorem d_Md_oneTurn_67 : decode jMd_oneTurn.cc 67 = .ok (.putfield 643, 3) := by decide +kernel
theorem d_Md_oneTurn_70 : decode jMd_oneTurn.cc 70 = .ok (.iconst 0, 1) := by decide +kernel
theorem d_Md_oneTurn_71 : decode jMd_oneTurn.cc 71 = .ok (.istore_n 1, 1) := by decide +kernel
theorem d_Md_oneTurn_72 : decode jMd_oneTurn.cc 72 = .ok (.iload_n 1, 1) := by decide +kernel
theorem d_Md_oneTurn_73 : decode jMd_oneTurn.cc 73 = .ok (.aload_n 0, 1) := by decide +kernel
theorem d_Md_oneTurn_74 : decode jMd_oneTurn.cc 74 = .ok (.getfield 305, 3) := by decide +kernel
theorem d_Md_oneTurn_77 : decode jMd_oneTurn.cc 77 = .ok (.if_icmp .ge 122, 3) := by decide +kernel
theorem d_Md_oneTurn_80 : decode jMd_oneTurn.cc 80 = .ok (.iconst 0, 1) := by decide +kernel
theorem d_Md_oneTurn_81 : decode jMd_oneTurn.cc 81 = .ok (.istore_n 2, 1) := by decide +kernel
theorem d_Md_oneTurn_82 : decode jMd_oneTurn.cc 82 = .ok (.iconst 0, 1) := by decide +kernel
theorem d_Md_oneTurn_83 : decode jMd_oneTurn.cc 83 = .ok (.istore_n 3, 1) := by decide +kernel
theorem d_Md_oneTurn_84 : decode jMd_oneTurn.cc 84 = .ok (.iload_n 3, 1) := by decide +kernel
theorem d_Md_oneTurn_85 : decode jMd_oneTurn.cc 85 = .ok (.iconst 4, 1) := by decide +kernel
theorem d_Md_oneTurn_86 : decode jMd_oneTurn.cc 86 = .ok (.if_icmp .ge 32, 3) := by decide +kernel
theorem d_Md_oneTurn_89 : decode jMd_oneTurn.cc 89 = .ok (.iload_n 2, 1) := by decide +kernel
theorem d_Md_oneTurn_90 : decode jMd_oneTurn.cc 90 = .ok (.ifCond .ne 16, 3) := by decide +kernel
theorem d_Md_oneTurn_93 : decode jMd_oneTurn.cc 93 = .ok (.aload_n 0, 1) := by decide +kernel
theorem d_Md_oneTurn_94 : decode jMd_oneTurn.cc 94 = .ok (.getfield 273, 3) := by decide +kernel
theorem d_Md_oneTurn_97 : decode jMd_oneTurn.cc 97 = .ok (.iconst 4, 1) := by decide +kernel
theorem d_Md_oneTurn_98 : decode jMd_oneTurn.cc 98 = .ok (.iload_n 1, 1) := by decide +kernel
theorem d_Md_oneTurn_99 : decode jMd_oneTurn.cc 99 = .ok (.imul, 1) := by decide +kernel
theorem d_Md_oneTurn_100 : decode jMd_oneTurn.cc 100 = .ok (.iload_n 3, 1) := by decide +kernel
theorem d_Md_oneTurn_101 : decode jMd_oneTurn.cc 101 = .ok (.iadd, 1) := by decide +kernel
theorem d_Md_oneTurn_102 : decode jMd_oneTurn.cc 102 = .ok (.iaload, 1) := by decide +kernel
theorem d_Md_oneTurn_103 : decode jMd_oneTurn.cc 103 = .ok (.ifCond .le 7, 3) := by decide +kernel
theorem d_Md_oneTurn_106 : decode jMd_oneTurn.cc 106 = .ok (.iconst 1, 1) := by decide +kernel
theorem d_Md_oneTurn_107 : decode jMd_oneTurn.cc 107 = .ok (.goto 4, 3) := by decide +kernel
theorem d_Md_oneTurn_110 : decode jMd_oneTurn.cc 110 = .ok (.iconst 0, 1) := by decide +kernel
theorem d_Md_oneTurn_111 : decode jMd_oneTurn.cc 111 = .ok (.istore_n 2, 1) := by decide +kernel
theorem d_Md_oneTurn_112 : decode jMd_oneTurn.cc 112 = .ok (.iinc 3 1, 3) := by decide +kernel
theorem d_Md_oneTurn_115 : decode jMd_oneTurn.cc 115 = .ok (.goto (-31), 3) := by decide +kernel
theorem d_Md_oneTurn_118 : decode jMd_oneTurn.cc 118 = .ok (.aload_n 0, 1) := by decide +kernel
theorem d_Md_oneTurn_119 : decode jMd_oneTurn.cc 119 = .ok (.getfield 270, 3) := by decide +kernel
theorem d_Md_oneTurn_122 : decode jMd_oneTurn.cc 122 = .ok (.iload_n 1, 1) := by decide +kernel
theorem d_Md_oneTurn_123 : decode jMd_oneTurn.cc 123 = .ok (.baload, 1) := by decide +kernel
theorem d_Md_oneTurn_124 : decode jMd_oneTurn.cc 124 = .ok (.ifCond .eq 7, 3) := by decide +kernel
theorem d_Md_oneTurn_127 : decode jMd_oneTurn.cc 127 = .ok (.iload_n 2, 1) := by decide +kernel
theorem d_Md_oneTurn_128 : decode jMd_oneTurn.cc 128 = .ok (.ifCond .eq 65, 3) := by decide +kernel
theorem d_Md_oneTurn_131 : decode jMd_oneTurn.cc 131 = .ok (.aload_n 0, 1) := by decide +kernel
theorem d_Md_oneTurn_132 : decode jMd_oneTurn.cc 132 = .ok (.getfield 270, 3) := by decide +kernel
theorem d_Md_oneTurn_135 : decode jMd_oneTurn.cc 135 = .ok (.iload_n 1, 1) := by decide +kernel
theorem d_Md_oneTurn_136 : decode jMd_oneTurn.cc 136 = .ok (.iconst 0, 1) := by decide +kernel
theorem d_Md_oneTurn_137 : decode jMd_oneTurn.cc 137 = .ok (.bastore, 1) := by decide +kernel
theorem d_Md_oneTurn_138 : decode jMd_oneTurn.cc 138 = .ok (.aload_n 0, 1) := by decide +kernel
theorem d_Md_oneTurn_139 : decode jMd_oneTurn.cc 139 = .ok (.iload_n 1, 1) := by decide +kernel
theorem d_Md_oneTurn_140 : decode jMd_oneTurn.cc 140 = .ok (.putfield 610, 3) := by decide +kernel
theorem d_Md_oneTurn_143 : decode jMd_oneTurn.cc 143 = .ok (.aload_n 0, 1) := by decide +kernel
theorem d_Md_oneTurn_144 : decode jMd_oneTurn.cc 144 = .ok (.iconst 0, 1) := by decide +kernel
theorem d_Md_oneTurn_145 : decode jMd_oneTurn.cc 145 = .ok (.putfield 585, 3) := by decide +kernel
theorem d_Md_oneTurn_148 : decode jMd_oneTurn.cc 148 = .ok (.aload_n 0, 1) := by decide +kernel
theorem d_Md_oneTurn_149 : decode jMd_oneTurn.cc 149 = .ok (.iconst 0, 1) := by decide +kernel
theorem d_Md_oneTurn_150 : decode jMd_oneTurn.cc 150 = .ok (.putfield 619, 3) := by decide +kernel
theorem d_Md_oneTurn_153 : decode jMd_oneTurn.cc 153 = .ok (.aload_n 0, 1) := by decide +kernel
theorem d_Md_oneTurn_154 : decode jMd_oneTurn.cc 154 = .ok (.iconst 0, 1) := by decide +kernel
theorem d_Md_oneTurn_155 : decode jMd_oneTurn.cc 155 = .ok (.putfield 628, 3) := by decide +kernel
theorem d_Md_oneTurn_158 : decode jMd_oneTurn.cc 158 = .ok (.aload_n 0, 1) := by decide +kernel
theorem d_Md_oneTurn_159 : decode jMd_oneTurn.cc 159 = .ok (.aload_n 0, 1) := by decide +kernel
theorem d_Md_oneTurn_160 : decode jMd_oneTurn.cc 160 = .ok (.getfield 562, 3) := by decide +kernel
theorem d_Md_oneTurn_163 : decode jMd_oneTurn.cc 163 = .ok (.ifCond .ne 10, 3) := by decide +kernel
theorem d_Md_oneTurn_166 : decode jMd_oneTurn.cc 166 = .ok (.aload_n 0, 1) := by decide +kernel
theorem d_Md_oneTurn_167 : decode jMd_oneTurn.cc 167 = .ok (.getfield 450, 3) := by decide +kernel
theorem d_Md_oneTurn_170 : decode jMd_oneTurn.cc 170 = .ok (.goto 7, 3) := by decide +kernel
theorem d_Md_oneTurn_173 : decode jMd_oneTurn.cc 173 = .ok (.aload_n 0, 1) := by decide +kernel
theorem d_Md_oneTurn_174 : decode jMd_oneTurn.cc 174 = .ok (.getfield 453, 3) := by decide +kernel
theorem d_Md_oneTurn_177 : decode jMd_oneTurn.cc 177 = .ok (.invokestatic 636, 3) := by decide +kernel
theorem d_Md_oneTurn_180 : decode jMd_oneTurn.cc 180 = .ok (.aload_n 0, 1) := by decide +kernel
theorem d_Md_oneTurn_181 : decode jMd_oneTurn.cc 181 = .ok (.aload_n 0, 1) := by decide +kernel
theorem d_Md_oneTurn_182 : decode jMd_oneTurn.cc 182 = .ok (.getfield 643, 3) := by decide +kernel
theorem d_Md_oneTurn_185 : decode jMd_oneTurn.cc 185 = .ok (.aload_n 0, 1) := by decide +kernel
theorem d_Md_oneTurn_186 : decode jMd_oneTurn.cc 186 = .ok (.getfield 585, 3) := by decide +kernel
theorem d_Md_oneTurn_189 : decode jMd_oneTurn.cc 189 = .ok (.iadd, 1) := by decide +kernel
theorem d_Md_oneTurn_190 : decode jMd_oneTurn.cc 190 = .ok (.putfield 643, 3) := by decide +kernel
theorem d_Md_oneTurn_193 : decode jMd_oneTurn.cc 193 = .ok (.iinc 1 1, 3) := by decide +kernel
theorem d_Md_oneTurn_196 : decode jMd_oneTurn.cc 196 = .ok (.goto (-124), 3) := by decide +kernel
theorem d_Md_oneTurn_199 : decode jMd_oneTurn.cc 199 = .ok (.goto 47, 3) := by decide +kernel
theorem d_Md_oneTurn_202 : decode jMd_oneTurn.cc 202 = .ok (.astore_n 1, 1) := by decide +kernel
theorem d_Md_oneTurn_203 : decode jMd_oneTurn.cc 203 = .ok (.aload_n 0, 1) := by decide +kernel
theorem d_Md_oneTurn_204 : decode jMd_oneTurn.cc 204 = .ok (.aload_n 1, 1) := by decide +kernel
theorem d_Md_oneTurn_205 : decode jMd_oneTurn.cc 205 = .ok (.getfield 11, 3) := by decide +kernel
theorem d_Md_oneTurn_208 : decode jMd_oneTurn.cc 208 = .ok (.putfield 567, 3) := by decide +kernel
theorem d_Md_oneTurn_211 : decode jMd_oneTurn.cc 211 = .ok (.aload_n 0, 1) := by decide +kernel
theorem d_Md_oneTurn_212 : decode jMd_oneTurn.cc 212 = .ok (.aload_n 0, 1) := by decide +kernel
theorem d_Md_oneTurn_213 : decode jMd_oneTurn.cc 213 = .ok (.getfield 610, 3) := by decide +kernel
theorem d_Md_oneTurn_216 : decode jMd_oneTurn.cc 216 = .ok (.putfield 570, 3) := by decide +kernel
theorem d_Md_oneTurn_219 : decode jMd_oneTurn.cc 219 = .ok (.aload_n 0, 1) := by decide +kernel
theorem d_Md_oneTurn_220 : decode jMd_oneTurn.cc 220 = .ok (.aload_n 1, 1) := by decide +kernel
theorem d_Md_oneTurn_221 : decode jMd_oneTurn.cc 221 = .ok (.getfield 16, 3) := by decide +kernel
theorem d_Md_oneTurn_224 : decode jMd_oneTurn.cc 224 = .ok (.putfield 573, 3) := by decide +kernel
theorem d_Md_oneTurn_227 : decode jMd_oneTurn.cc 227 = .ok (.aload_n 0, 1) := by decide +kernel
theorem d_Md_oneTurn_228 : decode jMd_oneTurn.cc 228 = .ok (.aload_n 0, 1) := by decide +kernel
theorem d_Md_oneTurn_229 : decode jMd_oneTurn.cc 229 = .ok (.getfield 562, 3) := by decide +kernel
theorem d_Md_oneTurn_232 : decode jMd_oneTurn.cc 232 = .ok (.putfield 576, 3) := by decide +kernel
theorem d_Md_oneTurn_235 : decode jMd_oneTurn.cc 235 = .ok (.aload_n 0, 1) := by decide +kernel
theorem d_Md_oneTurn_236 : decode jMd_oneTurn.cc 236 = .ok (.aload_n 0, 1) := by decide +kernel
theorem d_Md_oneTurn_237 : decode jMd_oneTurn.cc 237 = .ok (.getfield 300, 3) := by decide +kernel
theorem d_Md_oneTurn_240 : decode jMd_oneTurn.cc 240 = .ok (.iconst 0, 1) := by decide +kernel
theorem d_Md_oneTurn_241 : decode jMd_oneTurn.cc 241 = .ok (.invokevirtual 646, 3) := by decide +kernel
theorem d_Md_oneTurn_244 : decode jMd_oneTurn.cc 244 = .ok (.iconst 0, 1) := by decide +kernel
theorem d_Md_oneTurn_245 : decode jMd_oneTurn.cc 245 = .ok (.ireturn, 1) := by decide +kernel
theorem d_Md_oneTurn_246 : decode jMd_oneTurn.cc 246 = .ok (.aload_n 0, 1) := by decide +kernel
theorem d_Md_oneTurn_247 : decode jMd_oneTurn.cc 247 = .ok (.getfield 564, 3) := by decide +kernel
theorem d_Md_oneTurn_250 : decode jMd_oneTurn.cc 250 = .ok (.bipush 6, 2) := by decide +kernel
theorem d_Md_oneTurn_252 : decode jMd_oneTurn.cc 252 = .ok (.if_icmp .ne 44, 3) := by decide +kernel
theorem d_Md_oneTurn_255 : decode jMd_oneTurn.cc 255 = .ok (.iconst 0, 1) := by decide +kernel
theorem d_Md_oneTurn_256 : decode jMd_oneTurn.cc 256 = .ok (.istore_n 1, 1) := by decide +kernel
theorem d_Md_oneTurn_257 : decode jMd_oneTurn.cc 257 = .ok (.iload_n 1, 1) := by decide +kernel
theorem d_Md_oneTurn_258 : decode jMd_oneTurn.cc 258 = .ok (.sipush 3500, 3) := by decide +kernel
theorem d_Md_oneTurn_261 : decode jMd_oneTurn.cc 261 = .ok (.if_icmp .ge 25, 3) := by decide +kernel
theorem d_Md_oneTurn_264 : decode jMd_oneTurn.cc 264 = .ok (.aload_n 0, 1) := by decide +kernel
theorem d_Md_oneTurn_265 : decode jMd_oneTurn.cc 265 = .ok (.getfield 297, 3) := by decide +kernel
theorem d_Md_oneTurn_268 : decode jMd_oneTurn.cc 268 = .ok (.iload_n 1, 1) := by decide +kernel
theorem d_Md_oneTurn_269 : decode jMd_oneTurn.cc 269 = .ok (.aload_n 0, 1) := by decide +kernel
theorem d_Md_oneTurn_270 : decode jMd_oneTurn.cc 270 = .ok (.getfield 297, 3) := by decide +kernel
theorem d_Md_oneTurn_273 : decode jMd_oneTurn.cc 273 = .ok (.iload_n 1, 1) := by decide +kernel
theorem d_Md_oneTurn_274 : decode jMd_oneTurn.cc 274 = .ok (.sipush 700, 3) := by decide +kernel
theorem d_Md_oneTurn_277 : decode jMd_oneTurn.cc 277 = .ok (.iadd, 1) := by decide +kernel
theorem d_Md_oneTurn_278 : decode jMd_oneTurn.cc 278 = .ok (.iaload, 1) := by decide +kernel
theorem d_Md_oneTurn_279 : decode jMd_oneTurn.cc 279 = .ok (.iastore, 1) := by decide +kernel
theorem d_Md_oneTurn_280 : decode jMd_oneTurn.cc 280 = .ok (.iinc 1 1, 3) := by decide +kernel
theorem d_Md_oneTurn_283 : decode jMd_oneTurn.cc 283 = .ok (.goto (-26), 3) := by decide +kernel
theorem d_Md_oneTurn_286 : decode jMd_oneTurn.cc 286 = .ok (.aload_n 0, 1) := by decide +kernel
theorem d_Md_oneTurn_287 : decode jMd_oneTurn.cc 287 = .ok (.dup, 1) := by decide +kernel
theorem d_Md_oneTurn_288 : decode jMd_oneTurn.cc 288 = .ok (.getfield 564, 3) := by decide +kernel
theorem d_Md_oneTurn_291 : decode jMd_oneTurn.cc 291 = .ok (.iconst 1, 1) := by decide +kernel
theorem d_Md_oneTurn_292 : decode jMd_oneTurn.cc 292 = .ok (.isub, 1) := by decide +kernel
theorem d_Md_oneTurn_293 : decode jMd_oneTurn.cc 293 = .ok (.putfield 564, 3) := by decide +kernel
theorem d_Md_oneTurn_296 : decode jMd_oneTurn.cc 296 = .ok (.iconst 0, 1) := by decide +kernel
theorem d_Md_oneTurn_297 : decode jMd_oneTurn.cc 297 = .ok (.istore_n 1, 1) := by decide +kernel
theorem d_Md_oneTurn_298 : decode jMd_oneTurn.cc 298 = .ok (.iload_n 1, 1) := by decide +kernel
theorem d_Md_oneTurn_299 : decode jMd_oneTurn.cc 299 = .ok (.sipush 700, 3) := by decide +kernel
theorem d_Md_oneTurn_302 : decode jMd_oneTurn.cc 302 = .ok (.if_icmp .ge 30, 3) := by decide +kernel
theorem d_Md_oneTurn_305 : decode jMd_oneTurn.cc 305 = .ok (.aload_n 0, 1) := by decide +kernel
theorem d_Md_oneTurn_306 : decode jMd_oneTurn.cc 306 = .ok (.getfield 297, 3) := by decide +kernel
theorem d_Md_oneTurn_309 : decode jMd_oneTurn.cc 309 = .ok (.sipush 700, 3) := by decide +kernel
theorem d_Md_oneTurn_312 : decode jMd_oneTurn.cc 312 = .ok (.aload_n 0, 1) := by decide +kernel
theorem d_Md_oneTurn_313 : decode jMd_oneTurn.cc 313 = .ok (.getfield 564, 3) := by decide +kernel
theorem d_Md_oneTurn_316 : decode jMd_oneTurn.cc 316 = .ok (.imul, 1) := by decide +kernel
theorem d_Md_oneTurn_317 : decode jMd_oneTurn.cc 317 = .ok (.iload_n 1, 1) := by decide +kernel
theorem d_Md_oneTurn_318 : decode jMd_oneTurn.cc 318 = .ok (.iadd, 1) := by decide +kernel
theorem d_Md_oneTurn_319 : decode jMd_oneTurn.cc 319 = .ok (.aload_n 0, 1) := by decide +kernel
theorem d_Md_oneTurn_320 : decode jMd_oneTurn.cc 320 = .ok (.getfield 300, 3) := by decide +kernel
theorem d_Md_oneTurn_323 : decode jMd_oneTurn.cc 323 = .ok (.iload_n 1, 1) := by decide +kernel
theorem d_Md_oneTurn_324 : decode jMd_oneTurn.cc 324 = .ok (.iaload, 1) := by decide +kernel
theorem d_Md_oneTurn_325 : decode jMd_oneTurn.cc 325 = .ok (.iastore, 1) := by decide +kernel
theorem d_Md_oneTurn_326 : decode jMd_oneTurn.cc 326 = .ok (.iinc 1 1, 3) := by decide +kernel
theorem d_Md_oneTurn_329 : decode jMd_oneTurn.cc 329 = .ok (.goto (-31), 3) := by decide +kernel
theorem d_Md_oneTurn_332 : decode jMd_oneTurn.cc 332 = .ok (.aload_n 0, 1) := by decide +kernel
theorem d_Md_oneTurn_333 : decode jMd_oneTurn.cc 333 = .ok (.dup, 1) := by decide +kernel
theorem d_Md_oneTurn_334 : decode jMd_oneTurn.cc 334 = .ok (.getfield 564, 3) := by decide +kernel
theorem d_Md_oneTurn_337 : decode jMd_oneTurn.cc 337 = .ok (.iconst 1, 1) := by decide +kernel
theorem d_Md_oneTurn_338 : decode jMd_oneTurn.cc 338 = .ok (.iadd, 1) := by decide +kernel
theorem d_Md_oneTurn_339 : decode jMd_oneTurn.cc 339 = .ok (.putfield 564, 3) := by decide +kernel
theorem d_Md_oneTurn_342 : decode jMd_oneTurn.cc 342 = .ok (.iconst 0, 1) := by decide +kernel
theorem d_Md_oneTurn_343 : decode jMd_oneTurn.cc 343 = .ok (.istore_n 1, 1) := by decide +kernel
theorem d_Md_oneTurn_344 : decode jMd_oneTurn.cc 344 = .ok (.iload_n 1, 1) := by decide +kernel
theorem d_Md_oneTurn_345 : decode jMd_oneTurn.cc 345 = .ok (.sipush 160, 3) := by decide +kernel
theorem d_Md_oneTurn_348 : decode jMd_oneTurn.cc 348 = .ok (.if_icmp .ge 33, 3) := by decide +kernel
theorem d_Md_oneTurn_351 : decode jMd_oneTurn.cc 351 = .ok (.aload_n 0, 1) := by decide +kernel
theorem d_Md_oneTurn_352 : decode jMd_oneTurn.cc 352 = .ok (.getfield 273, 3) := by decide +kernel
theorem d_Md_oneTurn_355 : decode jMd_oneTurn.cc 355 = .ok (.iload_n 1, 1) := by decide +kernel
theorem d_Md_oneTurn_356 : decode jMd_oneTurn.cc 356 = .ok (.aload_n 0, 1) := by decide +kernel
theorem d_Md_oneTurn_357 : decode jMd_oneTurn.cc 357 = .ok (.getfield 285, 3) := by decide +kernel
theorem d_Md_oneTurn_360 : decode jMd_oneTurn.cc 360 = .ok (.iload_n 1, 1) := by decide +kernel
theorem d_Md_oneTurn_361 : decode jMd_oneTurn.cc 361 = .ok (.iaload, 1) := by decide +kernel
theorem d_Md_oneTurn_362 : decode jMd_oneTurn.cc 362 = .ok (.iastore, 1) := by decide +kernel
theorem d_Md_oneTurn_363 : decode jMd_oneTurn.cc 363 = .ok (.aload_n 0, 1) := by decide +kernel
theorem d_Md_oneTurn_364 : decode jMd_oneTurn.cc 364 = .ok (.getfield 276, 3) := by decide +kernel
theorem d_Md_oneTurn_367 : decode jMd_oneTurn.cc 367 = .ok (.iload_n 1, 1) := by decide +kernel
theorem d_Md_oneTurn_368 : decode jMd_oneTurn.cc 368 = .ok (.aload_n 0, 1) := by decide +kernel
theorem d_Md_oneTurn_369 : decode jMd_oneTurn.cc 369 = .ok (.getfield 288, 3) := by decide +kernel
theorem d_Md_oneTurn_372 : decode jMd_oneTurn.cc 372 = .ok (.iload_n 1, 1) := by decide +kernel
theorem d_Md_oneTurn_373 : decode jMd_oneTurn.cc 373 = .ok (.iaload, 1) := by decide +kernel
theorem d_Md_oneTurn_374 : decode jMd_oneTurn.cc 374 = .ok (.iastore, 1) := by decide +kernel
theorem d_Md_oneTurn_375 : decode jMd_oneTurn.cc 375 = .ok (.iinc 1 1, 3) := by decide +kernel
theorem d_Md_oneTurn_378 : decode jMd_oneTurn.cc 378 = .ok (.goto (-34), 3) := by decide +kernel
theorem d_Md_oneTurn_381 : decode jMd_oneTurn.cc 381 = .ok (.iconst 0, 1) := by decide +kernel
theorem d_Md_oneTurn_382 : decode jMd_oneTurn.cc 382 = .ok (.istore_n 1, 1) := by decide +kernel
theorem d_Md_oneTurn_383 : decode jMd_oneTurn.cc 383 = .ok (.iload_n 1, 1) := by decide +kernel
theorem d_Md_oneTurn_384 : decode jMd_oneTurn.cc 384 = .ok (.iconst 4, 1) := by decide +kernel
theorem d_Md_oneTurn_385 : decode jMd_oneTurn.cc 385 = .ok (.if_icmp .ge 33, 3) := by decide +kernel
theorem d_Md_oneTurn_388 : decode jMd_oneTurn.cc 388 = .ok (.aload_n 0, 1) := by decide +kernel
theorem d_Md_oneTurn_389 : decode jMd_oneTurn.cc 389 = .ok (.getfield 279, 3) := by decide +kernel
theorem d_Md_oneTurn_392 : decode jMd_oneTurn.cc 392 = .ok (.iload_n 1, 1) := by decide +kernel
theorem d_Md_oneTurn_393 : decode jMd_oneTurn.cc 393 = .ok (.aload_n 0, 1) := by decide +kernel
theorem d_Md_oneTurn_394 : decode jMd_oneTurn.cc 394 = .ok (.getfield 291, 3) := by decide +kernel
theorem d_Md_oneTurn_397 : decode jMd_oneTurn.cc 397 = .ok (.iload_n 1, 1) := by decide +kernel
theorem d_Md_oneTurn_398 : decode jMd_oneTurn.cc 398 = .ok (.iaload, 1) := by decide +kernel
theorem d_Md_oneTurn_399 : decode jMd_oneTurn.cc 399 = .ok (.iastore, 1) := by decide +kernel
theorem d_Md_oneTurn_400 : decode jMd_oneTurn.cc 400 = .ok (.aload_n 0, 1) := by decide +kernel
theorem d_Md_oneTurn_401 : decode jMd_oneTurn.cc 401 = .ok (.getfield 282, 3) := by decide +kernel
theorem d_Md_oneTurn_404 : decode jMd_oneTurn.cc 404 = .ok (.iload_n 1, 1) := by decide +kernel
theorem d_Md_oneTurn_405 : decode jMd_oneTurn.cc 405 = .ok (.aload_n 0, 1) := by decide +kernel
theorem d_Md_oneTurn_406 : decode jMd_oneTurn.cc 406 = .ok (.getfield 294, 3) := by decide +kernel
theorem d_Md_oneTurn_409 : decode jMd_oneTurn.cc 409 = .ok (.iload_n 1, 1) := by decide +kernel
theorem d_Md_oneTurn_410 : decode jMd_oneTurn.cc 410 = .ok (.iaload, 1) := by decide +kernel
theorem d_Md_oneTurn_411 : decode jMd_oneTurn.cc 411 = .ok (.iastore, 1) := by decide +kernel
theorem d_Md_oneTurn_412 : decode jMd_oneTurn.cc 412 = .ok (.iinc 1 1, 3) := by decide +kernel
theorem d_Md_oneTurn_415 : decode jMd_oneTurn.cc 415 = .ok (.goto (-32), 3) := by decide +kernel
theorem d_Md_oneTurn_418 : decode jMd_oneTurn.cc 418 = .ok (.aload_n 0, 1) := by decide +kernel
theorem d_Md_oneTurn_419 : decode jMd_oneTurn.cc 419 = .ok (.aload_n 0, 1) := by decide +kernel
theorem d_Md_oneTurn_420 : decode jMd_oneTurn.cc 420 = .ok (.getfield 643, 3) := by decide +kernel
theorem d_Md_oneTurn_423 : decode jMd_oneTurn.cc 423 = .ok (.putfield 579, 3) := by decide +kernel
theorem d_Md_oneTurn_426 : decode jMd_oneTurn.cc 426 = .ok (.aload_n 0, 1) := by decide +kernel
theorem d_Md_oneTurn_427 : decode jMd_oneTurn.cc 427 = .ok (.dup, 1) := by decide +kernel
theorem d_Md_oneTurn_428 : decode jMd_oneTurn.cc 428 = .ok (.getfield 562, 3) := by decide +kernel
theorem d_Md_oneTurn_431 : decode jMd_oneTurn.cc 431 = .ok (.iconst 1, 1) := by decide +kernel
theorem d_Md_oneTurn_432 : decode jMd_oneTurn.cc 432 = .ok (.iadd, 1) := by decide +kernel
theorem d_Md_oneTurn_433 : decode jMd_oneTurn.cc 433 = .ok (.putfield 562, 3) := by decide +kernel
theorem d_Md_oneTurn_436 : decode jMd_oneTurn.cc 436 = .ok (.iconst 1, 1) := by decide +kernel
theorem d_Md_oneTurn_437 : decode jMd_oneTurn.cc 437 = .ok (.ireturn, 1) := by decide +kernel
set_option maxHeartbeats 4000000 in
theorem s_Md_oneTurn {g : Mg} {d : Nat} {K : Ou → Wd → Prop} {w : Wd} (h : Cal g LM jMd_save d [vA 0, vA 52, vI 0] w (fun o w1 => rVt o (fun b => K (.inr b) w1) (V g LM jMd_oneTurn (d + 1) K 11 [(0, vA 0), (1, vI 0)] [] w1))) : V g LM jMd_oneTurn (d + 1) K 0 [(0, vA 0)] [] w := by
  refine v_aload_n (pc := 0) d_Md_oneTurn_0 rfl (.head _) ?_
  refine v_aload_n (pc := 1) d_Md_oneTurn_1 rfl (.head _) ?_
  refine v_getr (C := "") (pc := 2) (r := 52) d_Md_oneTurn_2 fl_Md_300 cM_0.1 cM_0.2 (Or.inr ⟨_, rfl⟩) rM_0_79 ?_
  refine v_iconst (pc := 5) d_Md_oneTurn_5 (by decide) ?_
  refine v_callV (pc := 6) (J' := jMd_save) (d' := d) (o := 0) (ci := 13) (N := 93) (T := cT13) (As := [vA 52, vI 0]) d_Md_oneTurn_6 ml_Md_639 cM_0.1 cM_0.2 (by decide) rfl rfl (Nat.le_of_ble_eq_true rfl) (Nat.le_refl _) rfl (Cal.weak h (fun o w1 h => ?_))
  rcases rVt_of h with ⟨rfl, h⟩ | ⟨b, rfl, h⟩
  rotate_left
  · exact h
  refine v_iconst (pc := 9) d_Md_oneTurn_9 (by decide) ?_
  refine v_istore_n (pc := 10) (ls' := [(1, vI 0), (0, vA 0)]) d_Md_oneTurn_10 rfl (by decide) rfl ?_
  exact v_sub (List.forall_mem_cons.mpr ⟨(.tail _ (.head _)), (List.forall_mem_cons.mpr ⟨(.head _), (fun _ z => absurd z List.not_mem_nil)⟩)⟩) h
set_option maxHeartbeats 4000000 in
theorem s_Md_oneTurn_11 {g : Mg} {d : Nat} {K : Ou → Wd → Prop} {w : Wd} {x1_ : Int} (h : (160 ≤ x1_ → (V g LM jMd_oneTurn (d + 1) K 40 [(0, vA 0), (1, vI 0)] [] w)) ∧ (¬ 160 ≤ x1_ → ((0 ≤ x1_ ∧ x1_ < 160) ∧ ((0 ≤ x1_ ∧ x1_ < 160) ∧ (V g LM jMd_oneTurn (d + 1) K 11 [(0, vA 0), (1, vI (wr (x1_ + 1)))] [] (up (up w 47 (x1_.toNat) 0) 48 (x1_.toNat) 0)))))) : V g LM jMd_oneTurn (d + 1) K 11 [(0, vA 0), (1, vI x1_)] [] w := by
  refine v_iload_n (pc := 11) d_Md_oneTurn_11 rfl (.tail _ (.head _)) ?_
  refine v_sipush (pc := 12) d_Md_oneTurn_12 (by decide) rfl ?_
  refine v_icmpge (pc := 15) (tgt := 38) d_Md_oneTurn_15 (by decide) (fun c => ?_) (fun c => ?_)
  · replace h := h.1 c
    refine v_iconst (pc := 38) d_Md_oneTurn_38 (by decide) ?_
    refine v_istore_n (pc := 39) (ls' := [(1, vI 0), (0, vA 0)]) d_Md_oneTurn_39 rfl (by decide) rfl ?_
    exact v_sub (List.forall_mem_cons.mpr ⟨(.tail _ (.head _)), (List.forall_mem_cons.mpr ⟨(.head _), (fun _ z => absurd z List.not_mem_nil)⟩)⟩) h
  · replace h := h.2 c
    refine v_aload_n (pc := 18) d_Md_oneTurn_18 rfl (.head _) ?_
    refine v_getr (C := "") (pc := 19) (r := 47) d_Md_oneTurn_19 fl_Md_285 cM_0.1 cM_0.2 (Or.inr ⟨_, rfl⟩) rM_0_73 ?_
    refine v_iload_n (pc := 22) d_Md_oneTurn_22 rfl (.tail _ (.head _)) ?_
    refine v_iconst (pc := 23) d_Md_oneTurn_23 (by decide) ?_
    refine v_iast (pc := 24) d_Md_oneTurn_24 cM_47.1 cM_47.2 (aM_47 _) h.1 ?_
    replace h := h.2
    refine v_aload_n (pc := 25) d_Md_oneTurn_25 rfl (.head _) ?_
    refine v_getr (C := "") (pc := 26) (r := 48) d_Md_oneTurn_26 fl_Md_288 cM_0.1 cM_0.2 (Or.inr ⟨_, rfl⟩) rM_0_74 ?_
    refine v_iload_n (pc := 29) d_Md_oneTurn_29 rfl (.tail _ (.head _)) ?_
    refine v_iconst (pc := 30) d_Md_oneTurn_30 (by decide) ?_
    refine v_iast (pc := 31) d_Md_oneTurn_31 cM_48.1 cM_48.2 (aM_48 _) h.1 ?_
    replace h := h.2
    refine v_iinc (pc := 32) (ls' := [(1, vI (wr (x1_ + 1))), (0, vA 0)]) d_Md_oneTurn_32 (.tail _ (.head _)) (by decide) rfl ?_
    refine v_goto (pc := 35) (tgt := 11) d_Md_oneTurn_35 (by decide) ?_
    exact v_sub (List.forall_mem_cons.mpr ⟨(.tail _ (.head _)), (List.forall_mem_cons.mpr ⟨(.head _), (fun _ z => absurd z List.not_mem_nil)⟩)⟩) h
set_option maxHeartbeats 4000000 in
theorem s_Md_oneTurn_40 {g : Mg} {d : Nat} {K : Ou → Wd → Prop} {w : Wd} {x1_ : Int} (h : (4 ≤ x1_ → (V g LM jMd_oneTurn (d + 1) K 72 [(0, vA 0), (1, vI 0)] [] (up w 0 84 0))) ∧ (¬ 4 ≤ x1_ → ((0 ≤ x1_ ∧ x1_ < 4) ∧ ((0 ≤ x1_ ∧ x1_ < 4) ∧ (V g LM jMd_oneTurn (d + 1) K 40 [(0, vA 0), (1, vI (wr (x1_ + 1)))] [] (up (up w 49 (x1_.toNat) 0) 50 (x1_.toNat) 0)))))) : V g LM jMd_oneTurn (d + 1) K 40 [(0, vA 0), (1, vI x1_)] [] w := by
  refine v_iload_n (pc := 40) d_Md_oneTurn_40 rfl (.tail _ (.head _)) ?_
  refine v_iconst (pc := 41) d_Md_oneTurn_41 (by decide) ?_
  refine v_icmpge (pc := 42) (tgt := 65) d_Md_oneTurn_42 (by decide) (fun c => ?_) (fun c => ?_)
  · replace h := h.1 c
    refine v_aload_n (pc := 65) d_Md_oneTurn_65 rfl (.head _) ?_
    refine v_iconst (pc := 66) d_Md_oneTurn_66 (by decide) ?_
    refine v_puti (pc := 67) d_Md_oneTurn_67 fp_Md_643 cM_0.1 cM_0.2 (by decide) rfl ?_
    refine v_iconst (pc := 70) d_Md_oneTurn_70 (by decide) ?_
    refine v_istore_n (pc := 71) (ls' := [(1, vI 0), (0, vA 0)]) d_Md_oneTurn_71 rfl (by decide) rfl ?_
    exact v_sub (List.forall_mem_cons.mpr ⟨(.tail _ (.head _)), (List.forall_mem_cons.mpr ⟨(.head _), (fun _ z => absurd z List.not_mem_nil)⟩)⟩) h
  · replace h := h.2 c
    refine v_aload_n (pc := 45) d_Md_oneTurn_45 rfl (.head _) ?_
    refine v_getr (C := "") (pc := 46) (r := 49) d_Md_oneTurn_46 fl_Md_291 cM_0.1 cM_0.2 (Or.inr ⟨_, rfl⟩) rM_0_75 ?_
    refine v_iload_n (pc := 49) d_Md_oneTurn_49 rfl (.tail _ (.head _)) ?_
    refine v_iconst (pc := 50) d_Md_oneTurn_50 (by decide) ?_
    refine v_iast (pc := 51) d_Md_oneTurn_51 cM_49.1 cM_49.2 (aM_49 _) h.1 ?_
    replace h := h.2
    refine v_aload_n (pc := 52) d_Md_oneTurn_52 rfl (.head _) ?_
    refine v_getr (C := "") (pc := 53) (r := 50) d_Md_oneTurn_53 fl_Md_294 cM_0.1 cM_0.2 (Or.inr ⟨_, rfl⟩) rM_0_76 ?_
    refine v_iload_n (pc := 56) d_Md_oneTurn_56 rfl (.tail _ (.head _)) ?_
    refine v_iconst (pc := 57) d_Md_oneTurn_57 (by decide) ?_
    refine v_iast (pc := 58) d_Md_oneTurn_58 cM_50.1 cM_50.2 (aM_50 _) h.1 ?_
    replace h := h.2
    refine v_iinc (pc := 59) (ls' := [(1, vI (wr (x1_ + 1))), (0, vA 0)]) d_Md_oneTurn_59 (.tail _ (.head _)) (by decide) rfl ?_
    refine v_goto (pc := 62) (tgt := 40) d_Md_oneTurn_62 (by decide) ?_
    exact v_sub (List.forall_mem_cons.mpr ⟨(.tail _ (.head _)), (List.forall_mem_cons.mpr ⟨(.head _), (fun _ z => absurd z List.not_mem_nil)⟩)⟩) h
set_option maxHeartbeats 4000000 in
theorem s_Md_oneTurn_72 {g : Mg} {d : Nat} {K : Ou → Wd → Prop} {w : Wd} {x1_ : Int} (h : ((w 0 59) ≤ x1_ → ((¬ (w 0 78) = 6 → (V g LM jMd_oneTurn (d + 1) K 296 [(0, vA 0)] [] w)) ∧ ((w 0 78) = 6 → (V g LM jMd_oneTurn (d + 1) K 257 [(0, vA 0), (1, vI 0)] [] w)))) ∧ (¬ (w 0 59) ≤ x1_ → (V g LM jMd_oneTurn (d + 1) K 84 [(0, vA 0), (1, vI x1_), (2, vI 0), (3, vI 0)] [] w))) : V g LM jMd_oneTurn (d + 1) K 72 [(0, vA 0), (1, vI x1_)] [] w := by
  refine v_iload_n (pc := 72) d_Md_oneTurn_72 rfl (.tail _ (.head _)) ?_
  refine v_aload_n (pc := 73) d_Md_oneTurn_73 rfl (.head _) ?_
  refine v_geti (pc := 74) (x := (w 0 59)) d_Md_oneTurn_74 fl_Md_305 cM_0.1 cM_0.2 (Or.inl rfl) rfl ?_
  refine v_icmpge (pc := 77) (tgt := 199) d_Md_oneTurn_77 (by decide) (fun c => ?_) (fun c => ?_)
  · replace h := h.1 c
    refine v_goto (pc := 199) (tgt := 246) d_Md_oneTurn_199 (by decide) ?_
    refine v_aload_n (pc := 246) d_Md_oneTurn_246 rfl (.head _) ?_
    refine v_geti (pc := 247) (x := (w 0 78)) d_Md_oneTurn_247 fl_Md_564 cM_0.1 cM_0.2 (Or.inl rfl) rfl ?_
    refine v_bipush (pc := 250) d_Md_oneTurn_250 (by decide) rfl ?_
    refine v_icmpne (pc := 252) (tgt := 296) d_Md_oneTurn_252 (by decide) (fun c => ?_) (fun c => ?_)
    · replace h := h.1 c
      exact v_sub (List.forall_mem_cons.mpr ⟨(.head _), (fun _ z => absurd z List.not_mem_nil)⟩) h
    · replace h := h.2 c
      refine v_iconst (pc := 255) d_Md_oneTurn_255 (by decide) ?_
      refine v_istore_n (pc := 256) (ls' := [(1, vI 0), (0, vA 0)]) d_Md_oneTurn_256 rfl (by decide) rfl ?_
      exact v_sub (List.forall_mem_cons.mpr ⟨(.tail _ (.head _)), (List.forall_mem_cons.mpr ⟨(.head _), (fun _ z => absurd z List.not_mem_nil)⟩)⟩) h
  · replace h := h.2 c
    refine v_iconst (pc := 80) d_Md_oneTurn_80 (by decide) ?_
    refine v_istore_n (pc := 81) (ls' := [(2, vI 0), (0, vA 0), (1, vI x1_)]) d_Md_oneTurn_81 rfl (by decide) rfl ?_
    refine v_iconst (pc := 82) d_Md_oneTurn_82 (by decide) ?_
    refine v_istore_n (pc := 83) (ls' := [(3, vI 0), (2, vI 0), (0, vA 0), (1, vI x1_)]) d_Md_oneTurn_83 rfl (by decide) rfl ?_
    exact v_sub (List.forall_mem_cons.mpr ⟨(.tail _ (.tail _ (.head _))), (List.forall_mem_cons.mpr ⟨(.tail _ (.tail _ (.tail _ (.head _)))), (List.forall_mem_cons.mpr ⟨(.tail _ (.head _)), (List.forall_mem_cons.mpr ⟨(.head _), (fun _ z => absurd z List.not_mem_nil)⟩)⟩)⟩)⟩) h
set_option maxHeartbeats 4000000 in
theorem s_Md_oneTurn_296 {g : Mg} {d : Nat} {K : Ou → Wd → Prop} {w : Wd} (h : V g LM jMd_oneTurn (d + 1) K 298 [(0, vA 0), (1, vI 0)] [] w) : V g LM jMd_oneTurn (d + 1) K 296 [(0, vA 0)] [] w := by
  refine v_iconst (pc := 296) d_Md_oneTurn_296 (by decide) ?_
  refine v_istore_n (pc := 297) (ls' := [(1, vI 0), (0, vA 0)]) d_Md_oneTurn_297 rfl (by decide) rfl ?_
  exact v_sub (List.forall_mem_cons.mpr ⟨(.tail _ (.head _)), (List.forall_mem_cons.mpr ⟨(.head _), (fun _ z => absurd z List.not_mem_nil)⟩)⟩) h
set_option maxHeartbeats 4000000 in
theorem s_Md_oneTurn_257 {g : Mg} {d : Nat} {K : Ou → Wd → Prop} {w : Wd} {x1_ : Int} (h : (3500 ≤ x1_ → (V g LM jMd_oneTurn (d + 1) K 296 [(0, vA 0)] [] (up w 0 78 (wr ((w 0 78) - 1))))) ∧ (¬ 3500 ≤ x1_ → ((0 ≤ (wr (x1_ + 700)) ∧ (wr (x1_ + 700)) < 4200) ∧ ((0 ≤ x1_ ∧ x1_ < 4200) ∧ (V g LM jMd_oneTurn (d + 1) K 257 [(0, vA 0), (1, vI (wr (x1_ + 1)))] [] (up w 51 (x1_.toNat) (w 51 ((wr (x1_ + 700)).toNat)))))))) : V g LM jMd_oneTurn (d + 1) K 257 [(0, vA 0), (1, vI x1_)] [] w := by
  refine v_iload_n (pc := 257) d_Md_oneTurn_257 rfl (.tail _ (.head _)) ?_
  refine v_sipush (pc := 258) d_Md_oneTurn_258 (by decide) rfl ?_
  refine v_icmpge (pc := 261) (tgt := 286) d_Md_oneTurn_261 (by decide) (fun c => ?_) (fun c => ?_)
  · replace h := h.1 c
    refine v_aload_n (pc := 286) d_Md_oneTurn_286 rfl (.head _) ?_
    refine v_dup (pc := 287) d_Md_oneTurn_287 rfl ?_
    refine v_geti (pc := 288) (x := (w 0 78)) d_Md_oneTurn_288 fl_Md_564 cM_0.1 cM_0.2 (Or.inl rfl) rfl ?_
    refine v_iconst (pc := 291) d_Md_oneTurn_291 (by decide) ?_
    refine v_isub (pc := 292) d_Md_oneTurn_292 ?_
    refine v_puti (pc := 293) d_Md_oneTurn_293 fp_Md_564 cM_0.1 cM_0.2 (by decide) rfl ?_
    exact v_sub (List.forall_mem_cons.mpr ⟨(.head _), (fun _ z => absurd z List.not_mem_nil)⟩) h
  · replace h := h.2 c
    refine v_aload_n (pc := 264) d_Md_oneTurn_264 rfl (.head _) ?_
    refine v_getr (C := "") (pc := 265) (r := 51) d_Md_oneTurn_265 fl_Md_297 cM_0.1 cM_0.2 (Or.inr ⟨_, rfl⟩) rM_0_77 ?_
    refine v_iload_n (pc := 268) d_Md_oneTurn_268 rfl (.tail _ (.head _)) ?_
    refine v_aload_n (pc := 269) d_Md_oneTurn_269 rfl (.head _) ?_
    refine v_getr (C := "") (pc := 270) (r := 51) d_Md_oneTurn_270 fl_Md_297 cM_0.1 cM_0.2 (Or.inr ⟨_, rfl⟩) rM_0_77 ?_
    refine v_iload_n (pc := 273) d_Md_oneTurn_273 rfl (.tail _ (.head _)) ?_
    refine v_sipush (pc := 274) d_Md_oneTurn_274 (by decide) rfl ?_
    refine v_iadd (pc := 277) d_Md_oneTurn_277 ?_
    refine v_iald (pc := 278) (x := (w 51 ((wr (x1_ + 700)).toNat))) d_Md_oneTurn_278 cM_51.1 cM_51.2 rfl h.1 ?_
    replace h := h.2
    refine v_iast (pc := 279) d_Md_oneTurn_279 cM_51.1 cM_51.2 (aM_51 _) h.1 ?_
    replace h := h.2
    refine v_iinc (pc := 280) (ls' := [(1, vI (wr (x1_ + 1))), (0, vA 0)]) d_Md_oneTurn_280 (.tail _ (.head _)) (by decide) rfl ?_
    refine v_goto (pc := 283) (tgt := 257) d_Md_oneTurn_283 (by decide) ?_
    exact v_sub (List.forall_mem_cons.mpr ⟨(.tail _ (.head _)), (List.forall_mem_cons.mpr ⟨(.head _), (fun _ z => absurd z List.not_mem_nil)⟩)⟩) h
set_option maxHeartbeats 4000000 in
theorem s_Md_oneTurn_84 {g : Mg} {d : Nat} {K : Ou → Wd → Prop} {w : Wd} {x1_ : Int} {x2_ : Int} {x3_ : Int} (h : (4 ≤ x3_ → ((0 ≤ x1_ ∧ x1_ < 40) ∧ (((w 42 x1_.toNat) = 0 → (V g LM jMd_oneTurn (d + 1) K 131 [(0, vA 0), (1, vI x1_)] [] w)) ∧ (¬ (w 42 x1_.toNat) = 0 → ((x2_ = 0 → (V g LM jMd_oneTurn (d + 1) K 193 [(0, vA 0), (1, vI x1_)] [] w)) ∧ (¬ x2_ = 0 → (V g LM jMd_oneTurn (d + 1) K 131 [(0, vA 0), (1, vI x1_)] [] w))))))) ∧ (¬ 4 ≤ x3_ → ((¬ x2_ = 0 → (V g LM jMd_oneTurn (d + 1) K 106 [(0, vA 0), (1, vI x1_), (3, vI x3_)] [] w)) ∧ (x2_ = 0 → ((0 ≤ (wr ((wr (4 * x1_)) + x3_)) ∧ (wr ((wr (4 * x1_)) + x3_)) < 160) ∧ (((w 43 ((wr ((wr (4 * x1_)) + x3_)).toNat)) ≤ 0 → (V g LM jMd_oneTurn (d + 1) K 111 [(0, vA 0), (1, vI x1_), (3, vI x3_)] [vI 0] w)) ∧ (¬ (w 43 ((wr ((wr (4 * x1_)) + x3_)).toNat)) ≤ 0 → (V g LM jMd_oneTurn (d + 1) K 106 [(0, vA 0), (1, vI x1_), (3, vI x3_)] [] w)))))))) : V g LM jMd_oneTurn (d + 1) K 84 [(0, vA 0), (1, vI x1_), (2, vI x2_), (3, vI x3_)] [] w := by
  refine v_iload_n (pc := 84) d_Md_oneTurn_84 rfl (.tail _ (.tail _ (.tail _ (.head _)))) ?_
  refine v_iconst (pc := 85) d_Md_oneTurn_85 (by decide) ?_
  refine v_icmpge (pc := 86) (tgt := 118) d_Md_oneTurn_86 (by decide) (fun c => ?_) (fun c => ?_)
  · replace h := h.1 c
    refine v_aload_n (pc := 118) d_Md_oneTurn_118 rfl (.head _) ?_
    refine v_getr (C := "") (pc := 119) (r := 42) d_Md_oneTurn_119 fl_Md_270 cM_0.1 cM_0.2 (Or.inr ⟨_, rfl⟩) rM_0_68 ?_
    refine v_iload_n (pc := 122) d_Md_oneTurn_122 rfl (.tail _ (.head _)) ?_
    refine v_zald (pc := 123) (x := (w 42 x1_.toNat)) d_Md_oneTurn_123 cM_42.1 cM_42.2 rfl h.1 ?_
    replace h := h.2
    refine v_ifeq (pc := 124) (tgt := 131) d_Md_oneTurn_124 (by decide) (fun c => ?_) (fun c => ?_)
    · replace h := h.1 c
      exact v_sub (List.forall_mem_cons.mpr ⟨(.head _), (List.forall_mem_cons.mpr ⟨(.tail _ (.head _)), (fun _ z => absurd z List.not_mem_nil)⟩)⟩) h
    · replace h := h.2 c
      refine v_iload_n (pc := 127) d_Md_oneTurn_127 rfl (.tail _ (.tail _ (.head _))) ?_
      refine v_ifeq (pc := 128) (tgt := 193) d_Md_oneTurn_128 (by decide) (fun c => ?_) (fun c => ?_)
      · replace h := h.1 c
        exact v_sub (List.forall_mem_cons.mpr ⟨(.head _), (List.forall_mem_cons.mpr ⟨(.tail _ (.head _)), (fun _ z => absurd z List.not_mem_nil)⟩)⟩) h
      · replace h := h.2 c
        exact v_sub (List.forall_mem_cons.mpr ⟨(.head _), (List.forall_mem_cons.mpr ⟨(.tail _ (.head _)), (fun _ z => absurd z List.not_mem_nil)⟩)⟩) h
  · replace h := h.2 c
    refine v_iload_n (pc := 89) d_Md_oneTurn_89 rfl (.tail _ (.tail _ (.head _))) ?_
    refine v_ifne (pc := 90) (tgt := 106) d_Md_oneTurn_90 (by decide) (fun c => ?_) (fun c => ?_)
    · replace h := h.1 c
      exact v_sub (List.forall_mem_cons.mpr ⟨(.head _), (List.forall_mem_cons.mpr ⟨(.tail _ (.head _)), (List.forall_mem_cons.mpr ⟨(.tail _ (.tail _ (.tail _ (.head _)))), (fun _ z => absurd z List.not_mem_nil)⟩)⟩)⟩) h
    · replace h := h.2 c
      refine v_aload_n (pc := 93) d_Md_oneTurn_93 rfl (.head _) ?_
      refine v_getr (C := "") (pc := 94) (r := 43) d_Md_oneTurn_94 fl_Md_273 cM_0.1 cM_0.2 (Or.inr ⟨_, rfl⟩) rM_0_69 ?_
      refine v_iconst (pc := 97) d_Md_oneTurn_97 (by decide) ?_
      refine v_iload_n (pc := 98) d_Md_oneTurn_98 rfl (.tail _ (.head _)) ?_
      refine v_imul (pc := 99) d_Md_oneTurn_99 ?_
      refine v_iload_n (pc := 100) d_Md_oneTurn_100 rfl (.tail _ (.tail _ (.tail _ (.head _)))) ?_
      refine v_iadd (pc := 101) d_Md_oneTurn_101 ?_
      refine v_iald (pc := 102) (x := (w 43 ((wr ((wr (4 * x1_)) + x3_)).toNat))) d_Md_oneTurn_102 cM_43.1 cM_43.2 rfl h.1 ?_
      replace h := h.2
      refine v_ifle (pc := 103) (tgt := 110) d_Md_oneTurn_103 (by decide) (fun c => ?_) (fun c => ?_)
      · replace h := h.1 c
        refine v_iconst (pc := 110) d_Md_oneTurn_110 (by decide) ?_
        exact v_sub (List.forall_mem_cons.mpr ⟨(.head _), (List.forall_mem_cons.mpr ⟨(.tail _ (.head _)), (List.forall_mem_cons.mpr ⟨(.tail _ (.tail _ (.tail _ (.head _)))), (fun _ z => absurd z List.not_mem_nil)⟩)⟩)⟩) h
      · replace h := h.2 c
        exact v_sub (List.forall_mem_cons.mpr ⟨(.head _), (List.forall_mem_cons.mpr ⟨(.tail _ (.head _)), (List.forall_mem_cons.mpr ⟨(.tail _ (.tail _ (.tail _ (.head _)))), (fun _ z => absurd z List.not_mem_nil)⟩)⟩)⟩) h
set_option maxHeartbeats 4000000 in
theorem s_Md_oneTurn_298 {g : Mg} {d : Nat} {K : Ou → Wd → Prop} {w : Wd} {x1_ : Int} (h : (700 ≤ x1_ → (V g LM jMd_oneTurn (d + 1) K 344 [(0, vA 0), (1, vI 0)] [] (up w 0 78 (wr ((w 0 78) + 1))))) ∧ (¬ 700 ≤ x1_ → ((0 ≤ x1_ ∧ x1_ < 700) ∧ ((0 ≤ (wr ((wr (700 * (w 0 78))) + x1_)) ∧ (wr ((wr (700 * (w 0 78))) + x1_)) < 4200) ∧ (V g LM jMd_oneTurn (d + 1) K 298 [(0, vA 0), (1, vI (wr (x1_ + 1)))] [] (up w 51 ((wr ((wr (700 * (w 0 78))) + x1_)).toNat) (w 52 x1_.toNat))))))) : V g LM jMd_oneTurn (d + 1) K 298 [(0, vA 0), (1, vI x1_)] [] w := by
  refine v_iload_n (pc := 298) d_Md_oneTurn_298 rfl (.tail _ (.head _)) ?_
  refine v_sipush (pc := 299) d_Md_oneTurn_299 (by decide) rfl ?_
  refine v_icmpge (pc := 302) (tgt := 332) d_Md_oneTurn_302 (by decide) (fun c => ?_) (fun c => ?_)
  · replace h := h.1 c
    refine v_aload_n (pc := 332) d_Md_oneTurn_332 rfl (.head _) ?_
    refine v_dup (pc := 333) d_Md_oneTurn_333 rfl ?_
    refine v_geti (pc := 334) (x := (w 0 78)) d_Md_oneTurn_334 fl_Md_564 cM_0.1 cM_0.2 (Or.inl rfl) rfl ?_
    refine v_iconst (pc := 337) d_Md_oneTurn_337 (by decide) ?_
    refine v_iadd (pc := 338) d_Md_oneTurn_338 ?_
    refine v_puti (pc := 339) d_Md_oneTurn_339 fp_Md_564 cM_0.1 cM_0.2 (by decide) rfl ?_
    refine v_iconst (pc := 342) d_Md_oneTurn_342 (by decide) ?_
    refine v_istore_n (pc := 343) (ls' := [(1, vI 0), (0, vA 0)]) d_Md_oneTurn_343 rfl (by decide) rfl ?_
    exact v_sub (List.forall_mem_cons.mpr ⟨(.tail _ (.head _)), (List.forall_mem_cons.mpr ⟨(.head _), (fun _ z => absurd z List.not_mem_nil)⟩)⟩) h
  · replace h := h.2 c
    refine v_aload_n (pc := 305) d_Md_oneTurn_305 rfl (.head _) ?_
    refine v_getr (C := "") (pc := 306) (r := 51) d_Md_oneTurn_306 fl_Md_297 cM_0.1 cM_0.2 (Or.inr ⟨_, rfl⟩) rM_0_77 ?_
    refine v_sipush (pc := 309) d_Md_oneTurn_309 (by decide) rfl ?_
    refine v_aload_n (pc := 312) d_Md_oneTurn_312 rfl (.head _) ?_
    refine v_geti (pc := 313) (x := (w 0 78)) d_Md_oneTurn_313 fl_Md_564 cM_0.1 cM_0.2 (Or.inl rfl) rfl ?_
    refine v_imul (pc := 316) d_Md_oneTurn_316 ?_
    refine v_iload_n (pc := 317) d_Md_oneTurn_317 rfl (.tail _ (.head _)) ?_
    refine v_iadd (pc := 318) d_Md_oneTurn_318 ?_
    refine v_aload_n (pc := 319) d_Md_oneTurn_319 rfl (.head _) ?_
    refine v_getr (C := "") (pc := 320) (r := 52) d_Md_oneTurn_320 fl_Md_300 cM_0.1 cM_0.2 (Or.inr ⟨_, rfl⟩) rM_0_79 ?_
    refine v_iload_n (pc := 323) d_Md_oneTurn_323 rfl (.tail _ (.head _)) ?_
    refine v_iald (pc := 324) (x := (w 52 x1_.toNat)) d_Md_oneTurn_324 cM_52.1 cM_52.2 rfl h.1 ?_
    replace h := h.2
    refine v_iast (pc := 325) d_Md_oneTurn_325 cM_51.1 cM_51.2 (aM_51 _) h.1 ?_
    replace h := h.2
    refine v_iinc (pc := 326) (ls' := [(1, vI (wr (x1_ + 1))), (0, vA 0)]) d_Md_oneTurn_326 (.tail _ (.head _)) (by decide) rfl ?_
    refine v_goto (pc := 329) (tgt := 298) d_Md_oneTurn_329 (by decide) ?_
    exact v_sub (List.forall_mem_cons.mpr ⟨(.tail _ (.head _)), (List.forall_mem_cons.mpr ⟨(.head _), (fun _ z => absurd z List.not_mem_nil)⟩)⟩) h
set_option maxHeartbeats 4000000 in
theorem s_Md_oneTurn_131 {g : Mg} {d : Nat} {K : Ou → Wd → Prop} {w : Wd} {x1_ : Int} (h : (0 ≤ x1_ ∧ x1_ < 40) ∧ ((¬ (w 0 66) = 0 → (V g LM jMd_oneTurn (d + 1) K 177 [(0, vA 0), (1, vI x1_)] [vI (w 0 42), vA 0] (up (up (up (up (up w 42 (x1_.toNat) 0) 0 86 x1_) 0 87 0) 0 88 0) 0 89 0))) ∧ ((w 0 66) = 0 → (V g LM jMd_oneTurn (d + 1) K 177 [(0, vA 0), (1, vI x1_)] [vI (w 0 41), vA 0] (up (up (up (up (up w 42 (x1_.toNat) 0) 0 86 x1_) 0 87 0) 0 88 0) 0 89 0))))) : V g LM jMd_oneTurn (d + 1) K 131 [(0, vA 0), (1, vI x1_)] [] w := by
  refine v_aload_n (pc := 131) d_Md_oneTurn_131 rfl (.head _) ?_
  refine v_getr (C := "") (pc := 132) (r := 42) d_Md_oneTurn_132 fl_Md_270 cM_0.1 cM_0.2 (Or.inr ⟨_, rfl⟩) rM_0_68 ?_
  refine v_iload_n (pc := 135) d_Md_oneTurn_135 rfl (.tail _ (.head _)) ?_
  refine v_iconst (pc := 136) d_Md_oneTurn_136 (by decide) ?_
  refine v_zast (pc := 137) d_Md_oneTurn_137 cM_42.1 cM_42.2 (aM_42 _) (by decide) h.1 ?_
  replace h := h.2
  refine v_aload_n (pc := 138) d_Md_oneTurn_138 rfl (.head _) ?_
  refine v_iload_n (pc := 139) d_Md_oneTurn_139 rfl (.tail _ (.head _)) ?_
  refine v_puti (pc := 140) d_Md_oneTurn_140 fp_Md_610 cM_0.1 cM_0.2 (by decide) rfl ?_
  refine v_aload_n (pc := 143) d_Md_oneTurn_143 rfl (.head _) ?_
  refine v_iconst (pc := 144) d_Md_oneTurn_144 (by decide) ?_
  refine v_puti (pc := 145) d_Md_oneTurn_145 fp_Md_585 cM_0.1 cM_0.2 (by decide) rfl ?_
  refine v_aload_n (pc := 148) d_Md_oneTurn_148 rfl (.head _) ?_
  refine v_iconst (pc := 149) d_Md_oneTurn_149 (by decide) ?_
  refine v_puti (pc := 150) d_Md_oneTurn_150 fp_Md_619 cM_0.1 cM_0.2 (by decide) rfl ?_
  refine v_aload_n (pc := 153) d_Md_oneTurn_153 rfl (.head _) ?_
  refine v_iconst (pc := 154) d_Md_oneTurn_154 (by decide) ?_
  refine v_putz (pc := 155) d_Md_oneTurn_155 fp_Md_628 cM_0.1 cM_0.2 (by decide) rfl (by decide) ?_
  refine v_aload_n (pc := 158) d_Md_oneTurn_158 rfl (.head _) ?_
  refine v_aload_n (pc := 159) d_Md_oneTurn_159 rfl (.head _) ?_
  refine v_geti (pc := 160) (x := (w 0 66)) d_Md_oneTurn_160 fl_Md_562 cM_0.1 cM_0.2 (Or.inl rfl) rfl ?_
  refine v_ifne (pc := 163) (tgt := 173) d_Md_oneTurn_163 (by decide) (fun c => ?_) (fun c => ?_)
  · replace h := h.1 c
    refine v_aload_n (pc := 173) d_Md_oneTurn_173 rfl (.head _) ?_
    refine v_geti (pc := 174) (x := (w 0 42)) d_Md_oneTurn_174 fl_Md_453 cM_0.1 cM_0.2 (Or.inl rfl) rfl ?_
    exact v_sub (List.forall_mem_cons.mpr ⟨(.head _), (List.forall_mem_cons.mpr ⟨(.tail _ (.head _)), (fun _ z => absurd z List.not_mem_nil)⟩)⟩) h
  · replace h := h.2 c
    refine v_aload_n (pc := 166) d_Md_oneTurn_166 rfl (.head _) ?_
    refine v_geti (pc := 167) (x := (w 0 41)) d_Md_oneTurn_167 fl_Md_450 cM_0.1 cM_0.2 (Or.inl rfl) rfl ?_
    refine v_goto (pc := 170) (tgt := 177) d_Md_oneTurn_170 (by decide) ?_
    exact v_sub (List.forall_mem_cons.mpr ⟨(.head _), (List.forall_mem_cons.mpr ⟨(.tail _ (.head _)), (fun _ z => absurd z List.not_mem_nil)⟩)⟩) h
set_option maxHeartbeats 4000000 in
theorem s_Md_oneTurn_193 {g : Mg} {d : Nat} {K : Ou → Wd → Prop} {w : Wd} {x1_ : Int} (h : V g LM jMd_oneTurn (d + 1) K 72 [(0, vA 0), (1, vI (wr (x1_ + 1)))] [] w) : V g LM jMd_oneTurn (d + 1) K 193 [(0, vA 0), (1, vI x1_)] [] w := by
  refine v_iinc (pc := 193) (ls' := [(1, vI (wr (x1_ + 1))), (0, vA 0)]) d_Md_oneTurn_193 (.tail _ (.head _)) (by decide) rfl ?_
  refine v_goto (pc := 196) (tgt := 72) d_Md_oneTurn_196 (by decide) ?_
  exact v_sub (List.forall_mem_cons.mpr ⟨(.tail _ (.head _)), (List.forall_mem_cons.mpr ⟨(.head _), (fun _ z => absurd z List.not_mem_nil)⟩)⟩) h
set_option maxHeartbeats 4000000 in
theorem s_Md_oneTurn_106 {g : Mg} {d : Nat} {K : Ou → Wd → Prop} {w : Wd} {x1_ : Int} {x3_ : Int} (h : V g LM jMd_oneTurn (d + 1) K 111 [(0, vA 0), (1, vI x1_), (3, vI x3_)] [vI 1] w) : V g LM jMd_oneTurn (d + 1) K 106 [(0, vA 0), (1, vI x1_), (3, vI x3_)] [] w := by
  refine v_iconst (pc := 106) d_Md_oneTurn_106 (by decide) ?_
  refine v_goto (pc := 107) (tgt := 111) d_Md_oneTurn_107 (by decide) ?_
  exact v_sub (List.forall_mem_cons.mpr ⟨(.head _), (List.forall_mem_cons.mpr ⟨(.tail _ (.head _)), (List.forall_mem_cons.mpr ⟨(.tail _ (.tail _ (.head _))), (fun _ z => absurd z List.not_mem_nil)⟩)⟩)⟩) h
set_option maxHeartbeats 4000000 in
theorem s_Md_oneTurn_111 {g : Mg} {d : Nat} {K : Ou → Wd → Prop} {w : Wd} {x1_ : Int} {x3_ : Int} {s0_ : Int} (h : V g LM jMd_oneTurn (d + 1) K 84 [(0, vA 0), (1, vI x1_), (2, vI s0_), (3, vI (wr (x3_ + 1)))] [] w) : V g LM jMd_oneTurn (d + 1) K 111 [(0, vA 0), (1, vI x1_), (3, vI x3_)] [vI s0_] w := by
  refine v_istore_n (pc := 111) (ls' := [(2, vI s0_), (0, vA 0), (1, vI x1_), (3, vI x3_)]) d_Md_oneTurn_111 rfl (by decide) rfl ?_
  refine v_iinc (pc := 112) (ls' := [(3, vI (wr (x3_ + 1))), (2, vI s0_), (0, vA 0), (1, vI x1_)]) d_Md_oneTurn_112 (.tail _ (.tail _ (.tail _ (.head _)))) (by decide) rfl ?_
  refine v_goto (pc := 115) (tgt := 84) d_Md_oneTurn_115 (by decide) ?_
  exact v_sub (List.forall_mem_cons.mpr ⟨(.tail _ (.tail _ (.head _))), (List.forall_mem_cons.mpr ⟨(.tail _ (.tail _ (.tail _ (.head _)))), (List.forall_mem_cons.mpr ⟨(.tail _ (.head _)), (List.forall_mem_cons.mpr ⟨(.head _), (fun _ z => absurd z List.not_mem_nil)⟩)⟩)⟩)⟩) h
set_option maxHeartbeats 4000000 in
theorem s_Md_oneTurn_344 {g : Mg} {d : Nat} {K : Ou → Wd → Prop} {w : Wd} {x1_ : Int} (h : (160 ≤ x1_ → (V g LM jMd_oneTurn (d + 1) K 383 [(0, vA 0), (1, vI 0)] [] w)) ∧ (¬ 160 ≤ x1_ → ((0 ≤ x1_ ∧ x1_ < 160) ∧ ((0 ≤ x1_ ∧ x1_ < 160) ∧ ((0 ≤ x1_ ∧ x1_ < 160) ∧ ((0 ≤ x1_ ∧ x1_ < 160) ∧ (V g LM jMd_oneTurn (d + 1) K 344 [(0, vA 0), (1, vI (wr (x1_ + 1)))] [] (up (up w 43 (x1_.toNat) (w 47 x1_.toNat)) 44 (x1_.toNat) (w 48 x1_.toNat))))))))) : V g LM jMd_oneTurn (d + 1) K 344 [(0, vA 0), (1, vI x1_)] [] w := by
  refine v_iload_n (pc := 344) d_Md_oneTurn_344 rfl (.tail _ (.head _)) ?_
  refine v_sipush (pc := 345) d_Md_oneTurn_345 (by decide) rfl ?_
  refine v_icmpge (pc := 348) (tgt := 381) d_Md_oneTurn_348 (by decide) (fun c => ?_) (fun c => ?_)
  · replace h := h.1 c
    refine v_iconst (pc := 381) d_Md_oneTurn_381 (by decide) ?_
    refine v_istore_n (pc := 382) (ls' := [(1, vI 0), (0, vA 0)]) d_Md_oneTurn_382 rfl (by decide) rfl ?_
    exact v_sub (List.forall_mem_cons.mpr ⟨(.tail _ (.head _)), (List.forall_mem_cons.mpr ⟨(.head _), (fun _ z => absurd z List.not_mem_nil)⟩)⟩) h
  · replace h := h.2 c
    refine v_aload_n (pc := 351) d_Md_oneTurn_351 rfl (.head _) ?_
    refine v_getr (C := "") (pc := 352) (r := 43) d_Md_oneTurn_352 fl_Md_273 cM_0.1 cM_0.2 (Or.inr ⟨_, rfl⟩) rM_0_69 ?_
    refine v_iload_n (pc := 355) d_Md_oneTurn_355 rfl (.tail _ (.head _)) ?_
    refine v_aload_n (pc := 356) d_Md_oneTurn_356 rfl (.head _) ?_
    refine v_getr (C := "") (pc := 357) (r := 47) d_Md_oneTurn_357 fl_Md_285 cM_0.1 cM_0.2 (Or.inr ⟨_, rfl⟩) rM_0_73 ?_
    refine v_iload_n (pc := 360) d_Md_oneTurn_360 rfl (.tail _ (.head _)) ?_
    refine v_iald (pc := 361) (x := (w 47 x1_.toNat)) d_Md_oneTurn_361 cM_47.1 cM_47.2 rfl h.1 ?_
    replace h := h.2
    refine v_iast (pc := 362) d_Md_oneTurn_362 cM_43.1 cM_43.2 (aM_43 _) h.1 ?_
    replace h := h.2
    refine v_aload_n (pc := 363) d_Md_oneTurn_363 rfl (.head _) ?_
    refine v_getr (C := "") (pc := 364) (r := 44) d_Md_oneTurn_364 fl_Md_276 cM_0.1 cM_0.2 (Or.inr ⟨_, rfl⟩) rM_0_70 ?_
    refine v_iload_n (pc := 367) d_Md_oneTurn_367 rfl (.tail _ (.head _)) ?_
    refine v_aload_n (pc := 368) d_Md_oneTurn_368 rfl (.head _) ?_
    refine v_getr (C := "") (pc := 369) (r := 48) d_Md_oneTurn_369 fl_Md_288 cM_0.1 cM_0.2 (Or.inr ⟨_, rfl⟩) rM_0_74 ?_
    refine v_iload_n (pc := 372) d_Md_oneTurn_372 rfl (.tail _ (.head _)) ?_
    refine v_iald (pc := 373) (x := (w 48 x1_.toNat)) d_Md_oneTurn_373 cM_48.1 cM_48.2 rfl h.1 ?_
    replace h := h.2
    refine v_iast (pc := 374) d_Md_oneTurn_374 cM_44.1 cM_44.2 (aM_44 _) h.1 ?_
    replace h := h.2
    refine v_iinc (pc := 375) (ls' := [(1, vI (wr (x1_ + 1))), (0, vA 0)]) d_Md_oneTurn_375 (.tail _ (.head _)) (by decide) rfl ?_
    refine v_goto (pc := 378) (tgt := 344) d_Md_oneTurn_378 (by decide) ?_
    exact v_sub (List.forall_mem_cons.mpr ⟨(.tail _ (.head _)), (List.forall_mem_cons.mpr ⟨(.head _), (fun _ z => absurd z List.not_mem_nil)⟩)⟩) h
set_option maxHeartbeats 4000000 in
theorem s_Md_oneTurn_177 {g : Mg} {d : Nat} {K : Ou → Wd → Prop} {w : Wd} {x1_ : Int} {s1_ : Int} (h : Cal g LM jMd_goBlock d [vA 0, vI s1_] w (fun o w1 => rVt o (fun b => b = 1 ∧ V g LM jMd_oneTurn (d + 1) K 202 [(0, vA 0)] [vA 1] w1) (V g LM jMd_oneTurn (d + 1) K 193 [(0, vA 0), (1, vI x1_)] [] (up w1 0 84 (wr ((w1 0 84) + (w1 0 87))))))) : V g LM jMd_oneTurn (d + 1) K 177 [(0, vA 0), (1, vI x1_)] [vI s1_, vA 0] w := by
  refine v_callSH (pc := 177) (J' := jMd_goBlock) (d' := d) (As := [vA 0, vI s1_]) d_Md_oneTurn_177 ml_Md_636 rfl (Nat.le_of_ble_eq_true rfl) (Nat.le_refl _) rfl (by decide) (by decide) cl_stop (ci2 := 12) (T2 := cT12) (N2 := 2) rfl (by decide) (Cal.weak h (fun o w1 h => ?_))
  rcases rVt_of h with ⟨rfl, h⟩ | ⟨b, rfl, h⟩
  rotate_left
  · obtain ⟨rfl, h2⟩ := h; exact ⟨cM_1, v_sub (List.forall_mem_cons.mpr ⟨(.head _), (fun _ z => absurd z List.not_mem_nil)⟩) h2⟩
  refine v_aload_n (pc := 180) d_Md_oneTurn_180 rfl (.head _) ?_
  refine v_aload_n (pc := 181) d_Md_oneTurn_181 rfl (.head _) ?_
  refine v_geti (pc := 182) (x := (w1 0 84)) d_Md_oneTurn_182 fl_Md_643 cM_0.1 cM_0.2 (Or.inl rfl) rfl ?_
  refine v_aload_n (pc := 185) d_Md_oneTurn_185 rfl (.head _) ?_
  refine v_geti (pc := 186) (x := (w1 0 87)) d_Md_oneTurn_186 fl_Md_585 cM_0.1 cM_0.2 (Or.inl rfl) rfl ?_
  refine v_iadd (pc := 189) d_Md_oneTurn_189 ?_
  refine v_puti (pc := 190) d_Md_oneTurn_190 fp_Md_643 cM_0.1 cM_0.2 (by decide) rfl ?_
  exact v_sub (List.forall_mem_cons.mpr ⟨(.head _), (List.forall_mem_cons.mpr ⟨(.tail _ (.head _)), (fun _ z => absurd z List.not_mem_nil)⟩)⟩) h
set_option maxHeartbeats 4000000 in
theorem s_Md_oneTurn_383 {g : Mg} {d : Nat} {K : Ou → Wd → Prop} {w : Wd} {x1_ : Int} (h : (4 ≤ x1_ → (K (.inl (some (vI 1))) (up (up w 0 85 (w 0 84)) 0 66 (wr ((w 0 66) + 1))))) ∧ (¬ 4 ≤ x1_ → ((0 ≤ x1_ ∧ x1_ < 4) ∧ ((0 ≤ x1_ ∧ x1_ < 4) ∧ ((0 ≤ x1_ ∧ x1_ < 4) ∧ ((0 ≤ x1_ ∧ x1_ < 4) ∧ (V g LM jMd_oneTurn (d + 1) K 383 [(0, vA 0), (1, vI (wr (x1_ + 1)))] [] (up (up w 45 (x1_.toNat) (w 49 x1_.toNat)) 46 (x1_.toNat) (w 50 x1_.toNat))))))))) : V g LM jMd_oneTurn (d + 1) K 383 [(0, vA 0), (1, vI x1_)] [] w := by
  refine v_iload_n (pc := 383) d_Md_oneTurn_383 rfl (.tail _ (.head _)) ?_
  refine v_iconst (pc := 384) d_Md_oneTurn_384 (by decide) ?_
  refine v_icmpge (pc := 385) (tgt := 418) d_Md_oneTurn_385 (by decide) (fun c => ?_) (fun c => ?_)
  · replace h := h.1 c
    refine v_aload_n (pc := 418) d_Md_oneTurn_418 rfl (.head _) ?_
    refine v_aload_n (pc := 419) d_Md_oneTurn_419 rfl (.head _) ?_
    refine v_geti (pc := 420) (x := (w 0 84)) d_Md_oneTurn_420 fl_Md_643 cM_0.1 cM_0.2 (Or.inl rfl) rfl ?_
    refine v_puti (pc := 423) d_Md_oneTurn_423 fp_Md_579 cM_0.1 cM_0.2 (by decide) rfl ?_
    refine v_aload_n (pc := 426) d_Md_oneTurn_426 rfl (.head _) ?_
    refine v_dup (pc := 427) d_Md_oneTurn_427 rfl ?_
    refine v_geti (pc := 428) (x := (w 0 66)) d_Md_oneTurn_428 fl_Md_562 cM_0.1 cM_0.2 (Or.inl rfl) rfl ?_
    refine v_iconst (pc := 431) d_Md_oneTurn_431 (by decide) ?_
    refine v_iadd (pc := 432) d_Md_oneTurn_432 ?_
    refine v_puti (pc := 433) d_Md_oneTurn_433 fp_Md_562 cM_0.1 cM_0.2 (by decide) rfl ?_
    refine v_iconst (pc := 436) d_Md_oneTurn_436 (by decide) ?_
    exact v_zret (pc := 437) d_Md_oneTurn_437 rfl (by decide) h
  · replace h := h.2 c
    refine v_aload_n (pc := 388) d_Md_oneTurn_388 rfl (.head _) ?_
    refine v_getr (C := "") (pc := 389) (r := 45) d_Md_oneTurn_389 fl_Md_279 cM_0.1 cM_0.2 (Or.inr ⟨_, rfl⟩) rM_0_71 ?_
    refine v_iload_n (pc := 392) d_Md_oneTurn_392 rfl (.tail _ (.head _)) ?_
    refine v_aload_n (pc := 393) d_Md_oneTurn_393 rfl (.head _) ?_
    refine v_getr (C := "") (pc := 394) (r := 49) d_Md_oneTurn_394 fl_Md_291 cM_0.1 cM_0.2 (Or.inr ⟨_, rfl⟩) rM_0_75 ?_
    refine v_iload_n (pc := 397) d_Md_oneTurn_397 rfl (.tail _ (.head _)) ?_
    refine v_iald (pc := 398) (x := (w 49 x1_.toNat)) d_Md_oneTurn_398 cM_49.1 cM_49.2 rfl h.1 ?_
    replace h := h.2
    refine v_iast (pc := 399) d_Md_oneTurn_399 cM_45.1 cM_45.2 (aM_45 _) h.1 ?_
    replace h := h.2
    refine v_aload_n (pc := 400) d_Md_oneTurn_400 rfl (.head _) ?_
    refine v_getr (C := "") (pc := 401) (r := 46) d_Md_oneTurn_401 fl_Md_282 cM_0.1 cM_0.2 (Or.inr ⟨_, rfl⟩) rM_0_72 ?_
    refine v_iload_n (pc := 404) d_Md_oneTurn_404 rfl (.tail _ (.head _)) ?_
    refine v_aload_n (pc := 405) d_Md_oneTurn_405 rfl (.head _) ?_
    refine v_getr (C := "") (pc := 406) (r := 50) d_Md_oneTurn_406 fl_Md_294 cM_0.1 cM_0.2 (Or.inr ⟨_, rfl⟩) rM_0_76 ?_
    refine v_iload_n (pc := 409) d_Md_oneTurn_409 rfl (.tail _ (.head _)) ?_
    refine v_iald (pc := 410) (x := (w 50 x1_.toNat)) d_Md_oneTurn_410 cM_50.1 cM_50.2 rfl h.1 ?_
    replace h := h.2
    refine v_iast (pc := 411) d_Md_oneTurn_411 cM_46.1 cM_46.2 (aM_46 _) h.1 ?_
    replace h := h.2
    refine v_iinc (pc := 412) (ls' := [(1, vI (wr (x1_ + 1))), (0, vA 0)]) d_Md_oneTurn_412 (.tail _ (.head _)) (by decide) rfl ?_
    refine v_goto (pc := 415) (tgt := 383) d_Md_oneTurn_415 (by decide) ?_
    exact v_sub (List.forall_mem_cons.mpr ⟨(.tail _ (.head _)), (List.forall_mem_cons.mpr ⟨(.head _), (fun _ z => absurd z List.not_mem_nil)⟩)⟩) h
set_option maxHeartbeats 4000000 in
theorem s_Md_oneTurn_202 {g : Mg} {d : Nat} {K : Ou → Wd → Prop} {w : Wd} (h : Cal g LM jMd_bring d [vA 0, vA 52, vI 0] (up (up (up (up w 0 80 (w 1 0)) 0 81 (w 0 86)) 0 82 (w 1 1)) 0 83 (w 0 66)) (fun o w1 => rVt o (fun b => K (.inr b) w1) (K (.inl (some (vI 0))) w1))) : V g LM jMd_oneTurn (d + 1) K 202 [(0, vA 0)] [vA 1] w := by
  refine v_astore_n (pc := 202) (ls' := [(1, vA 1), (0, vA 0)]) d_Md_oneTurn_202 rfl (by decide) rfl ?_
  refine v_aload_n (pc := 203) d_Md_oneTurn_203 rfl (.tail _ (.head _)) ?_
  refine v_aload_n (pc := 204) d_Md_oneTurn_204 rfl (.head _) ?_
  refine v_getN (pc := 205) (x := (w 1 0)) fn_what d_Md_oneTurn_205 cM_1.1 cM_1.2 rfl ?_
  refine v_puti (pc := 208) d_Md_oneTurn_208 fp_Md_567 cM_0.1 cM_0.2 (by decide) rfl ?_
  refine v_aload_n (pc := 211) d_Md_oneTurn_211 rfl (.tail _ (.head _)) ?_
  refine v_aload_n (pc := 212) d_Md_oneTurn_212 rfl (.tail _ (.head _)) ?_
  refine v_geti (pc := 213) (x := (w 0 86)) d_Md_oneTurn_213 fl_Md_610 cM_0.1 cM_0.2 (Or.inl rfl) rfl ?_
  refine v_puti (pc := 216) d_Md_oneTurn_216 fp_Md_570 cM_0.1 cM_0.2 (by decide) rfl ?_
  refine v_aload_n (pc := 219) d_Md_oneTurn_219 rfl (.tail _ (.head _)) ?_
  refine v_aload_n (pc := 220) d_Md_oneTurn_220 rfl (.head _) ?_
  refine v_getN (pc := 221) (x := (w 1 1)) fn_place d_Md_oneTurn_221 cM_1.1 cM_1.2 rfl ?_
  refine v_puti (pc := 224) d_Md_oneTurn_224 fp_Md_573 cM_0.1 cM_0.2 (by decide) rfl ?_
  refine v_aload_n (pc := 227) d_Md_oneTurn_227 rfl (.tail _ (.head _)) ?_
  refine v_aload_n (pc := 228) d_Md_oneTurn_228 rfl (.tail _ (.head _)) ?_
  refine v_geti (pc := 229) (x := (w 0 66)) d_Md_oneTurn_229 fl_Md_562 cM_0.1 cM_0.2 (Or.inl rfl) rfl ?_
  refine v_puti (pc := 232) d_Md_oneTurn_232 fp_Md_576 cM_0.1 cM_0.2 (by decide) rfl ?_
  refine v_aload_n (pc := 235) d_Md_oneTurn_235 rfl (.tail _ (.head _)) ?_
  refine v_aload_n (pc := 236) d_Md_oneTurn_236 rfl (.tail _ (.head _)) ?_
  refine v_getr (C := "") (pc := 237) (r := 52) d_Md_oneTurn_237 fl_Md_300 cM_0.1 cM_0.2 (Or.inr ⟨_, rfl⟩) rM_0_79 ?_
  refine v_iconst (pc := 240) d_Md_oneTurn_240 (by decide) ?_
  refine v_callV (pc := 241) (J' := jMd_bring) (d' := d) (o := 0) (ci := 13) (N := 93) (T := cT13) (As := [vA 52, vI 0]) d_Md_oneTurn_241 ml_Md_646 cM_0.1 cM_0.2 (by decide) rfl rfl (Nat.le_of_ble_eq_true rfl) (Nat.le_refl _) rfl (Cal.weak h (fun o w1 h => ?_))
  rcases rVt_of h with ⟨rfl, h⟩ | ⟨b, rfl, h⟩
  rotate_left
  · exact h
  refine v_iconst (pc := 244) d_Md_oneTurn_244 (by decide) ?_
  exact v_zret (pc := 245) d_Md_oneTurn_245 rfl (by decide) h
theorem d_Md_underWay_0 : decode jMd_underWay.cc 0 = .ok (.iconst 0, 1) := by decide +kernel
theorem d_Md_underWay_1 : decode jMd_underWay.cc 1 = .ok (.istore_n 1, 1) := by decide +kernel
theorem d_Md_underWay_2 : decode jMd_underWay.cc 2 = .ok (.iconst 0, 1) := by decide +kernel
theorem d_Md_underWay_3 : decode jMd_underWay.cc 3 = .ok (.istore_n 2, 1) := by decide +kernel
theorem d_Md_underWay_4 : decode jMd_underWay.cc 4 = .ok (.iload_n 2, 1) := by decide +kernel
theorem d_Md_underWay_5 : decode jMd_underWay.cc 5 = .ok (.iconst 4, 1) := by decide +kernel
theorem d_Md_underWay_6 : decode jMd_underWay.cc 6 = .ok (.aload_n 0, 1) := by decide +kernel
theorem d_Md_underWay_7 : decode jMd_underWay.cc 7 = .ok (.getfield 305, 3) := by decide +kernel
theorem d_Md_underWay_10 : decode jMd_underWay.cc 10 = .ok (.imul, 1) := by decide +kernel
theorem d_Md_underWay_11 : decode jMd_underWay.cc 11 = .ok (.if_icmp .ge 18, 3) := by decide +kernel
theorem d_Md_underWay_14 : decode jMd_underWay.cc 14 = .ok (.iload_n 1, 1) := by decide +kernel
theorem d_Md_underWay_15 : decode jMd_underWay.cc 15 = .ok (.aload_n 0, 1) := by decide +kernel
theorem d_Md_underWay_16 : decode jMd_underWay.cc 16 = .ok (.getfield 273, 3) := by decide +kernel
theorem d_Md_underWay_19 : decode jMd_underWay.cc 19 = .ok (.iload_n 2, 1) := by decide +kernel
theorem d_Md_underWay_20 : decode jMd_underWay.cc 20 = .ok (.iaload, 1) := by decide +kernel
theorem d_Md_underWay_21 : decode jMd_underWay.cc 21 = .ok (.iadd, 1) := by decide +kernel
theorem d_Md_underWay_22 : decode jMd_underWay.cc 22 = .ok (.istore_n 1, 1) := by decide +kernel
theorem d_Md_underWay_23 : decode jMd_underWay.cc 23 = .ok (.iinc 2 1, 3) := by decide +kernel
theorem d_Md_underWay_26 : decode jMd_underWay.cc 26 = .ok (.goto (-22), 3) := by decide +kernel
theorem d_Md_underWay_29 : decode jMd_underWay.cc 29 = .ok (.iload_n 1, 1) := by decide +kernel
theorem d_Md_underWay_30 : decode jMd_underWay.cc 30 = .ok (.ireturn, 1) := by decide +kernel
set_option maxHeartbeats 4000000 in
theorem s_Md_underWay {g : Mg} {d : Nat} {K : Ou → Wd → Prop} {w : Wd} (h : V g LM jMd_underWay d K 4 [(0, vA 0), (1, vI 0), (2, vI 0)] [] w) : V g LM jMd_underWay d K 0 [(0, vA 0)] [] w := by
  refine v_iconst (pc := 0) d_Md_underWay_0 (by decide) ?_
  refine v_istore_n (pc := 1) (ls' := [(1, vI 0), (0, vA 0)]) d_Md_underWay_1 rfl (by decide) rfl ?_
  refine v_iconst (pc := 2) d_Md_underWay_2 (by decide) ?_
  refine v_istore_n (pc := 3) (ls' := [(2, vI 0), (1, vI 0), (0, vA 0)]) d_Md_underWay_3 rfl (by decide) rfl ?_
  exact v_sub (List.forall_mem_cons.mpr ⟨(.tail _ (.tail _ (.head _))), (List.forall_mem_cons.mpr ⟨(.tail _ (.head _)), (List.forall_mem_cons.mpr ⟨(.head _), (fun _ z => absurd z List.not_mem_nil)⟩)⟩)⟩) h
set_option maxHeartbeats 4000000 in
theorem s_Md_underWay_4 {g : Mg} {d : Nat} {K : Ou → Wd → Prop} {w : Wd} {x1_ : Int} {x2_ : Int} (h : ((wr (4 * (w 0 59))) ≤ x2_ → (K (.inl (some (vI x1_))) w)) ∧ (¬ (wr (4 * (w 0 59))) ≤ x2_ → ((0 ≤ x2_ ∧ x2_ < 160) ∧ (V g LM jMd_underWay d K 4 [(0, vA 0), (1, vI (wr (x1_ + (w 43 x2_.toNat)))), (2, vI (wr (x2_ + 1)))] [] w)))) : V g LM jMd_underWay d K 4 [(0, vA 0), (1, vI x1_), (2, vI x2_)] [] w := by
  refine v_iload_n (pc := 4) d_Md_underWay_4 rfl (.tail _ (.tail _ (.head _))) ?_
  refine v_iconst (pc := 5) d_Md_underWay_5 (by decide) ?_
  refine v_aload_n (pc := 6) d_Md_underWay_6 rfl (.head _) ?_
  refine v_geti (pc := 7) (x := (w 0 59)) d_Md_underWay_7 fl_Md_305 cM_0.1 cM_0.2 (Or.inl rfl) rfl ?_
  refine v_imul (pc := 10) d_Md_underWay_10 ?_
  refine v_icmpge (pc := 11) (tgt := 29) d_Md_underWay_11 (by decide) (fun c => ?_) (fun c => ?_)
  · replace h := h.1 c
    refine v_iload_n (pc := 29) d_Md_underWay_29 rfl (.tail _ (.head _)) ?_
    exact v_iret (pc := 30) d_Md_underWay_30 rfl h
  · replace h := h.2 c
    refine v_iload_n (pc := 14) d_Md_underWay_14 rfl (.tail _ (.head _)) ?_
    refine v_aload_n (pc := 15) d_Md_underWay_15 rfl (.head _) ?_
    refine v_getr (C := "") (pc := 16) (r := 43) d_Md_underWay_16 fl_Md_273 cM_0.1 cM_0.2 (Or.inr ⟨_, rfl⟩) rM_0_69 ?_
    refine v_iload_n (pc := 19) d_Md_underWay_19 rfl (.tail _ (.tail _ (.head _))) ?_
    refine v_iald (pc := 20) (x := (w 43 x2_.toNat)) d_Md_underWay_20 cM_43.1 cM_43.2 rfl h.1 ?_
    replace h := h.2
    refine v_iadd (pc := 21) d_Md_underWay_21 ?_
    refine v_istore_n (pc := 22) (ls' := [(1, vI (wr (x1_ + (w 43 x2_.toNat)))), (0, vA 0), (2, vI x2_)]) d_Md_underWay_22 rfl (by decide) rfl ?_
    refine v_iinc (pc := 23) (ls' := [(2, vI (wr (x2_ + 1))), (1, vI (wr (x1_ + (w 43 x2_.toNat)))), (0, vA 0)]) d_Md_underWay_23 (.tail _ (.tail _ (.head _))) (by decide) rfl ?_
    refine v_goto (pc := 26) (tgt := 4) d_Md_underWay_26 (by decide) ?_
    exact v_sub (List.forall_mem_cons.mpr ⟨(.tail _ (.tail _ (.head _))), (List.forall_mem_cons.mpr ⟨(.tail _ (.head _)), (List.forall_mem_cons.mpr ⟨(.head _), (fun _ z => absurd z List.not_mem_nil)⟩)⟩)⟩) h
theorem d_Md_haltedCount_0 : decode jMd_haltedCount.cc 0 = .ok (.iconst 0, 1) := by decide +kernel
theorem d_Md_haltedCount_1 : decode jMd_haltedCount.cc 1 = .ok (.istore_n 1, 1) := by decide +kernel
theorem d_Md_haltedCount_2 : decode jMd_haltedCount.cc 2 = .ok (.iconst 0, 1) := by decide +kernel
theorem d_Md_haltedCount_3 : decode jMd_haltedCount.cc 3 = .ok (.istore_n 2, 1) := by decide +kernel
theorem d_Md_haltedCount_4 : decode jMd_haltedCount.cc 4 = .ok (.iload_n 2, 1) := by decide +kernel
theorem d_Md_haltedCount_5 : decode jMd_haltedCount.cc 5 = .ok (.aload_n 0, 1) := by decide +kernel
theorem d_Md_haltedCount_6 : decode jMd_haltedCount.cc 6 = .ok (.getfield 305, 3) := by decide +kernel
theorem d_Md_haltedCount_9 : decode jMd_haltedCount.cc 9 = .ok (.if_icmp .ge 26, 3) := by decide +kernel
theorem d_Md_haltedCount_12 : decode jMd_haltedCount.cc 12 = .ok (.iload_n 1, 1) := by decide +kernel
theorem d_Md_haltedCount_13 : decode jMd_haltedCount.cc 13 = .ok (.aload_n 0, 1) := by decide +kernel
theorem d_Md_haltedCount_14 : decode jMd_haltedCount.cc 14 = .ok (.getfield 270, 3) := by decide +kernel
theorem d_Md_haltedCount_17 : decode jMd_haltedCount.cc 17 = .ok (.iload_n 2, 1) := by decide +kernel
theorem d_Md_haltedCount_18 : decode jMd_haltedCount.cc 18 = .ok (.baload, 1) := by decide +kernel
theorem d_Md_haltedCount_19 : decode jMd_haltedCount.cc 19 = .ok (.ifCond .eq 7, 3) := by decide +kernel
theorem d_Md_haltedCount_22 : decode jMd_haltedCount.cc 22 = .ok (.iconst 1, 1) := by decide +kernel
theorem d_Md_haltedCount_23 : decode jMd_haltedCount.cc 23 = .ok (.goto 4, 3) := by decide +kernel
theorem d_Md_haltedCount_26 : decode jMd_haltedCount.cc 26 = .ok (.iconst 0, 1) := by decide +kernel
theorem d_Md_haltedCount_27 : decode jMd_haltedCount.cc 27 = .ok (.iadd, 1) := by decide +kernel
theorem d_Md_haltedCount_28 : decode jMd_haltedCount.cc 28 = .ok (.istore_n 1, 1) := by decide +kernel
theorem d_Md_haltedCount_29 : decode jMd_haltedCount.cc 29 = .ok (.iinc 2 1, 3) := by decide +kernel
theorem d_Md_haltedCount_32 : decode jMd_haltedCount.cc 32 = .ok (.goto (-28), 3) := by decide +kernel
theorem d_Md_haltedCount_35 : decode jMd_haltedCount.cc 35 = .ok (.iload_n 1, 1) := by decide +kernel
theorem d_Md_haltedCount_36 : decode jMd_haltedCount.cc 36 = .ok (.ireturn, 1) := by decide +kernel
set_option maxHeartbeats 4000000 in
theorem s_Md_haltedCount {g : Mg} {d : Nat} {K : Ou → Wd → Prop} {w : Wd} (h : V g LM jMd_haltedCount d K 4 [(0, vA 0), (1, vI 0), (2, vI 0)] [] w) : V g LM jMd_haltedCount d K 0 [(0, vA 0)] [] w := by
  refine v_iconst (pc := 0) d_Md_haltedCount_0 (by decide) ?_
  refine v_istore_n (pc := 1) (ls' := [(1, vI 0), (0, vA 0)]) d_Md_haltedCount_1 rfl (by decide) rfl ?_
  refine v_iconst (pc := 2) d_Md_haltedCount_2 (by decide) ?_
  refine v_istore_n (pc := 3) (ls' := [(2, vI 0), (1, vI 0), (0, vA 0)]) d_Md_haltedCount_3 rfl (by decide) rfl ?_
  exact v_sub (List.forall_mem_cons.mpr ⟨(.tail _ (.tail _ (.head _))), (List.forall_mem_cons.mpr ⟨(.tail _ (.head _)), (List.forall_mem_cons.mpr ⟨(.head _), (fun _ z => absurd z List.not_mem_nil)⟩)⟩)⟩) h
set_option maxHeartbeats 4000000 in
theorem s_Md_haltedCount_4 {g : Mg} {d : Nat} {K : Ou → Wd → Prop} {w : Wd} {x1_ : Int} {x2_ : Int} (h : ((w 0 59) ≤ x2_ → (K (.inl (some (vI x1_))) w)) ∧ (¬ (w 0 59) ≤ x2_ → ((0 ≤ x2_ ∧ x2_ < 40) ∧ (((w 42 x2_.toNat) = 0 → (V g LM jMd_haltedCount d K 4 [(0, vA 0), (1, vI (wr (x1_ + 0))), (2, vI (wr (x2_ + 1)))] [] w)) ∧ (¬ (w 42 x2_.toNat) = 0 → (V g LM jMd_haltedCount d K 4 [(0, vA 0), (1, vI (wr (x1_ + 1))), (2, vI (wr (x2_ + 1)))] [] w)))))) : V g LM jMd_haltedCount d K 4 [(0, vA 0), (1, vI x1_), (2, vI x2_)] [] w := by
  refine v_iload_n (pc := 4) d_Md_haltedCount_4 rfl (.tail _ (.tail _ (.head _))) ?_
  refine v_aload_n (pc := 5) d_Md_haltedCount_5 rfl (.head _) ?_
  refine v_geti (pc := 6) (x := (w 0 59)) d_Md_haltedCount_6 fl_Md_305 cM_0.1 cM_0.2 (Or.inl rfl) rfl ?_
  refine v_icmpge (pc := 9) (tgt := 35) d_Md_haltedCount_9 (by decide) (fun c => ?_) (fun c => ?_)
  · replace h := h.1 c
    refine v_iload_n (pc := 35) d_Md_haltedCount_35 rfl (.tail _ (.head _)) ?_
    exact v_iret (pc := 36) d_Md_haltedCount_36 rfl h
  · replace h := h.2 c
    refine v_iload_n (pc := 12) d_Md_haltedCount_12 rfl (.tail _ (.head _)) ?_
    refine v_aload_n (pc := 13) d_Md_haltedCount_13 rfl (.head _) ?_
    refine v_getr (C := "") (pc := 14) (r := 42) d_Md_haltedCount_14 fl_Md_270 cM_0.1 cM_0.2 (Or.inr ⟨_, rfl⟩) rM_0_68 ?_
    refine v_iload_n (pc := 17) d_Md_haltedCount_17 rfl (.tail _ (.tail _ (.head _))) ?_
    refine v_zald (pc := 18) (x := (w 42 x2_.toNat)) d_Md_haltedCount_18 cM_42.1 cM_42.2 rfl h.1 ?_
    replace h := h.2
    refine v_ifeq (pc := 19) (tgt := 26) d_Md_haltedCount_19 (by decide) (fun c => ?_) (fun c => ?_)
    · replace h := h.1 c
      refine v_iconst (pc := 26) d_Md_haltedCount_26 (by decide) ?_
      refine v_iadd (pc := 27) d_Md_haltedCount_27 ?_
      refine v_istore_n (pc := 28) (ls' := [(1, vI (wr (x1_ + 0))), (0, vA 0), (2, vI x2_)]) d_Md_haltedCount_28 rfl (by decide) rfl ?_
      refine v_iinc (pc := 29) (ls' := [(2, vI (wr (x2_ + 1))), (1, vI (wr (x1_ + 0))), (0, vA 0)]) d_Md_haltedCount_29 (.tail _ (.tail _ (.head _))) (by decide) rfl ?_
      refine v_goto (pc := 32) (tgt := 4) d_Md_haltedCount_32 (by decide) ?_
      exact v_sub (List.forall_mem_cons.mpr ⟨(.tail _ (.tail _ (.head _))), (List.forall_mem_cons.mpr ⟨(.tail _ (.head _)), (List.forall_mem_cons.mpr ⟨(.head _), (fun _ z => absurd z List.not_mem_nil)⟩)⟩)⟩) h
    · replace h := h.2 c
      refine v_iconst (pc := 22) d_Md_haltedCount_22 (by decide) ?_
      refine v_goto (pc := 23) (tgt := 27) d_Md_haltedCount_23 (by decide) ?_
      refine v_iadd (pc := 27) d_Md_haltedCount_27 ?_
      refine v_istore_n (pc := 28) (ls' := [(1, vI (wr (x1_ + 1))), (0, vA 0), (2, vI x2_)]) d_Md_haltedCount_28 rfl (by decide) rfl ?_
      refine v_iinc (pc := 29) (ls' := [(2, vI (wr (x2_ + 1))), (1, vI (wr (x1_ + 1))), (0, vA 0)]) d_Md_haltedCount_29 (.tail _ (.tail _ (.head _))) (by decide) rfl ?_
      refine v_goto (pc := 32) (tgt := 4) d_Md_haltedCount_32 (by decide) ?_
      exact v_sub (List.forall_mem_cons.mpr ⟨(.tail _ (.tail _ (.head _))), (List.forall_mem_cons.mpr ⟨(.tail _ (.head _)), (List.forall_mem_cons.mpr ⟨(.head _), (fun _ z => absurd z List.not_mem_nil)⟩)⟩)⟩) h
theorem d_Md_hasEnded_0 : decode jMd_hasEnded.cc 0 = .ok (.aload_n 0, 1) := by decide +kernel
theorem d_Md_hasEnded_1 : decode jMd_hasEnded.cc 1 = .ok (.invokevirtual 649, 3) := by decide +kernel
theorem d_Md_hasEnded_4 : decode jMd_hasEnded.cc 4 = .ok (.ifCond .ne 18, 3) := by decide +kernel
theorem d_Md_hasEnded_7 : decode jMd_hasEnded.cc 7 = .ok (.aload_n 0, 1) := by decide +kernel
theorem d_Md_hasEnded_8 : decode jMd_hasEnded.cc 8 = .ok (.invokevirtual 652, 3) := by decide +kernel
theorem d_Md_hasEnded_11 : decode jMd_hasEnded.cc 11 = .ok (.aload_n 0, 1) := by decide +kernel
theorem d_Md_hasEnded_12 : decode jMd_hasEnded.cc 12 = .ok (.getfield 305, 3) := by decide +kernel
theorem d_Md_hasEnded_15 : decode jMd_hasEnded.cc 15 = .ok (.if_icmp .ne 7, 3) := by decide +kernel
theorem d_Md_hasEnded_18 : decode jMd_hasEnded.cc 18 = .ok (.iconst 1, 1) := by decide +kernel
theorem d_Md_hasEnded_19 : decode jMd_hasEnded.cc 19 = .ok (.goto 4, 3) := by decide +kernel
theorem d_Md_hasEnded_22 : decode jMd_hasEnded.cc 22 = .ok (.iconst 0, 1) := by decide +kernel
theorem d_Md_hasEnded_23 : decode jMd_hasEnded.cc 23 = .ok (.ireturn, 1) := by decide +kernel
set_option maxHeartbeats 4000000 in
theorem s_Md_hasEnded {g : Mg} {d : Nat} {K : Ou → Wd → Prop} {w : Wd} (h : Cal g LM jMd_underWay d [vA 0] w (fun o w1 => rIt o (fun b => K (.inr b) w1) (fun x2 => (¬ x2 = 0 → (K (.inl (some (vI 0))) w1)) ∧ (x2 = 0 → (Cal g LM jMd_haltedCount d [vA 0] w1 (fun o w3 => rIt o (fun b => K (.inr b) w3) (fun x4 => (¬ x4 = (w3 0 59) → (K (.inl (some (vI 0))) w3)) ∧ (x4 = (w3 0 59) → (K (.inl (some (vI 1))) w3))))))))) : V g LM jMd_hasEnded (d + 1) K 0 [(0, vA 0)] [] w := by
  refine v_aload_n (pc := 0) d_Md_hasEnded_0 rfl (.head _) ?_
  refine v_callV (pc := 1) (J' := jMd_underWay) (d' := d) (o := 0) (ci := 13) (N := 93) (T := cT13) (As := []) d_Md_hasEnded_1 ml_Md_649 cM_0.1 cM_0.2 (by decide) rfl rfl (Nat.le_of_ble_eq_true rfl) (Nat.le_refl _) rfl (Cal.weak h (fun o w1 h => ?_))
  rcases rIt_of h with ⟨x2, rfl, h⟩ | ⟨b, rfl, h⟩
  rotate_left
  · exact h
  refine v_ifne (pc := 4) (tgt := 22) d_Md_hasEnded_4 (by decide) (fun c => ?_) (fun c => ?_)
  · replace h := h.1 c
    refine v_iconst (pc := 22) d_Md_hasEnded_22 (by decide) ?_
    exact v_zret (pc := 23) d_Md_hasEnded_23 rfl (by decide) h
  · replace h := h.2 c
    refine v_aload_n (pc := 7) d_Md_hasEnded_7 rfl (.head _) ?_
    refine v_callV (pc := 8) (J' := jMd_haltedCount) (d' := d) (o := 0) (ci := 13) (N := 93) (T := cT13) (As := []) d_Md_hasEnded_8 ml_Md_652 cM_0.1 cM_0.2 (by decide) rfl rfl (Nat.le_of_ble_eq_true rfl) (Nat.le_refl _) rfl (Cal.weak h (fun o w3 h => ?_))
    rcases rIt_of h with ⟨x4, rfl, h⟩ | ⟨b, rfl, h⟩
    rotate_left
    · exact h
    refine v_aload_n (pc := 11) d_Md_hasEnded_11 rfl (.head _) ?_
    refine v_geti (pc := 12) (x := (w3 0 59)) d_Md_hasEnded_12 fl_Md_305 cM_0.1 cM_0.2 (Or.inl rfl) rfl ?_
    refine v_icmpne (pc := 15) (tgt := 22) d_Md_hasEnded_15 (by decide) (fun c => ?_) (fun c => ?_)
    · replace h := h.1 c
      refine v_iconst (pc := 22) d_Md_hasEnded_22 (by decide) ?_
      exact v_zret (pc := 23) d_Md_hasEnded_23 rfl (by decide) h
    · replace h := h.2 c
      refine v_iconst (pc := 18) d_Md_hasEnded_18 (by decide) ?_
      refine v_goto (pc := 19) (tgt := 23) d_Md_hasEnded_19 (by decide) ?_
      exact v_zret (pc := 23) d_Md_hasEnded_23 rfl (by decide) h
theorem d_Md_run_0 : decode jMd_run.cc 0 = .ok (.aload_n 0, 1) := by decide +kernel
theorem d_Md_run_1 : decode jMd_run.cc 1 = .ok (.iconst 0, 1) := by decide +kernel
theorem d_Md_run_2 : decode jMd_run.cc 2 = .ok (.putfield 1, 3) := by decide +kernel
theorem d_Md_run_5 : decode jMd_run.cc 5 = .ok (.aload_n 0, 1) := by decide +kernel
theorem d_Md_run_6 : decode jMd_run.cc 6 = .ok (.getfield 510, 3) := by decide +kernel
theorem d_Md_run_9 : decode jMd_run.cc 9 = .ok (.ifCond .eq 15, 3) := by decide +kernel
theorem d_Md_run_12 : decode jMd_run.cc 12 = .ok (.iload_n 1, 1) := by decide +kernel
theorem d_Md_run_13 : decode jMd_run.cc 13 = .ok (.i2l, 1) := by decide +kernel
theorem d_Md_run_14 : decode jMd_run.cc 14 = .ok (.lconst 1, 1) := by decide +kernel
theorem d_Md_run_15 : decode jMd_run.cc 15 = .ok (.ldc2_w 655, 3) := by decide +kernel
theorem d_Md_run_18 : decode jMd_run.cc 18 = .ok (.invokestatic 312, 3) := by decide +kernel
theorem d_Md_run_21 : decode jMd_run.cc 21 = .ok (.ifCond .ne 5, 3) := by decide +kernel
theorem d_Md_run_24 : decode jMd_run.cc 24 = .ok (.iconst (-1), 1) := by decide +kernel
theorem d_Md_run_25 : decode jMd_run.cc 25 = .ok (.ireturn, 1) := by decide +kernel
theorem d_Md_run_26 : decode jMd_run.cc 26 = .ok (.iconst 0, 1) := by decide +kernel
theorem d_Md_run_27 : decode jMd_run.cc 27 = .ok (.istore_n 2, 1) := by decide +kernel
theorem d_Md_run_28 : decode jMd_run.cc 28 = .ok (.iload_n 2, 1) := by decide +kernel
theorem d_Md_run_29 : decode jMd_run.cc 29 = .ok (.iload_n 1, 1) := by decide +kernel
theorem d_Md_run_30 : decode jMd_run.cc 30 = .ok (.if_icmp .ge 26, 3) := by decide +kernel
theorem d_Md_run_33 : decode jMd_run.cc 33 = .ok (.aload_n 0, 1) := by decide +kernel
theorem d_Md_run_34 : decode jMd_run.cc 34 = .ok (.invokevirtual 657, 3) := by decide +kernel
theorem d_Md_run_37 : decode jMd_run.cc 37 = .ok (.ifCond .ne 19, 3) := by decide +kernel
theorem d_Md_run_40 : decode jMd_run.cc 40 = .ok (.aload_n 0, 1) := by decide +kernel
theorem d_Md_run_41 : decode jMd_run.cc 41 = .ok (.invokevirtual 660, 3) := by decide +kernel
theorem d_Md_run_44 : decode jMd_run.cc 44 = .ok (.ifCond .ne 6, 3) := by decide +kernel
theorem d_Md_run_47 : decode jMd_run.cc 47 = .ok (.bipush (-4), 2) := by decide +kernel
theorem d_Md_run_49 : decode jMd_run.cc 49 = .ok (.ireturn, 1) := by decide +kernel
theorem d_Md_run_50 : decode jMd_run.cc 50 = .ok (.iinc 2 1, 3) := by decide +kernel
theorem d_Md_run_53 : decode jMd_run.cc 53 = .ok (.goto (-25), 3) := by decide +kernel
theorem d_Md_run_56 : decode jMd_run.cc 56 = .ok (.iload_n 2, 1) := by decide +kernel
theorem d_Md_run_57 : decode jMd_run.cc 57 = .ok (.ireturn, 1) := by decide +kernel
set_option maxHeartbeats 4000000 in
theorem s_Md_run {g : Mg} {d : Nat} {K : Ou → Wd → Prop} {w : Wd} {p1 : Int} (h : ((w 0 64) = 0 → (K (.inl (some (vI (-1)))) (up w 0 0 0))) ∧ (¬ (w 0 64) = 0 → (Cal g LM jMd_in d [vL p1, vL 1, vL 100] (up w 0 0 0) (fun o w1 => rIt o (fun b => K (.inr b) w1) (fun x2 => (¬ x2 = 0 → (V g LM jMd_run (d + 1) K 28 [(0, vA 0), (1, vI p1), (2, vI 0)] [] w1)) ∧ (x2 = 0 → (K (.inl (some (vI (-1)))) w1))))))) : V g LM jMd_run (d + 1) K 0 [(0, vA 0), (1, vI p1)] [] w := by
  refine v_aload_n (pc := 0) d_Md_run_0 rfl (.head _) ?_
  refine v_iconst (pc := 1) d_Md_run_1 (by decide) ?_
  refine v_puti (pc := 2) d_Md_run_2 fp_Md_1 cM_0.1 cM_0.2 (by decide) rfl ?_
  refine v_aload_n (pc := 5) d_Md_run_5 rfl (.head _) ?_
  refine v_geti (pc := 6) (x := (w 0 64)) d_Md_run_6 fl_Md_510 cM_0.1 cM_0.2 (Or.inr rfl) rfl ?_
  refine v_ifeq (pc := 9) (tgt := 24) d_Md_run_9 (by decide) (fun c => ?_) (fun c => ?_)
  · replace h := h.1 c
    refine v_iconst (pc := 24) d_Md_run_24 (by decide) ?_
    exact v_iret (pc := 25) d_Md_run_25 rfl h
  · replace h := h.2 c
    refine v_iload_n (pc := 12) d_Md_run_12 rfl (.tail _ (.head _)) ?_
    refine v_i2l (pc := 13) d_Md_run_13 ?_
    refine v_lconst (pc := 14) (x := 1) d_Md_run_14 (by decide) rfl ?_
    refine v_ldc2 (pc := 15) (n := 100) d_Md_run_15 (by decide) (mt_8 233 rfl rfl) ?_
    refine v_callS (pc := 18) (J' := jMd_in) (d' := d) (As := [vL p1, vL 1, vL 100]) d_Md_run_18 ml_Md_312 rfl (Nat.le_of_ble_eq_true rfl) (Nat.le_refl _) rfl (Cal.weak h (fun o w1 h => ?_))
    rcases rIt_of h with ⟨x2, rfl, h⟩ | ⟨b, rfl, h⟩
    rotate_left
    · exact h
    refine v_ifne (pc := 21) (tgt := 26) d_Md_run_21 (by decide) (fun c => ?_) (fun c => ?_)
    · replace h := h.1 c
      refine v_iconst (pc := 26) d_Md_run_26 (by decide) ?_
      refine v_istore_n (pc := 27) (ls' := [(2, vI 0), (0, vA 0), (1, vI p1)]) d_Md_run_27 rfl (by decide) rfl ?_
      exact v_sub (List.forall_mem_cons.mpr ⟨(.tail _ (.head _)), (List.forall_mem_cons.mpr ⟨(.tail _ (.tail _ (.head _))), (List.forall_mem_cons.mpr ⟨(.head _), (fun _ z => absurd z List.not_mem_nil)⟩)⟩)⟩) h
    · replace h := h.2 c
      refine v_iconst (pc := 24) d_Md_run_24 (by decide) ?_
      exact v_iret (pc := 25) d_Md_run_25 rfl h
set_option maxHeartbeats 4000000 in
theorem s_Md_run_28 {g : Mg} {d : Nat} {K : Ou → Wd → Prop} {w : Wd} {x1_ : Int} {x2_ : Int} (h : (x1_ ≤ x2_ → (K (.inl (some (vI x2_))) w)) ∧ (¬ x1_ ≤ x2_ → (Cal g LM jMd_hasEnded d [vA 0] w (fun o w1 => rIt o (fun b => K (.inr b) w1) (fun x2 => (¬ x2 = 0 → (K (.inl (some (vI x2_))) w1)) ∧ (x2 = 0 → (Cal g LM jMd_oneTurn d [vA 0] w1 (fun o w3 => rIt o (fun b => K (.inr b) w3) (fun x4 => (¬ x4 = 0 → (V g LM jMd_run (d + 1) K 28 [(0, vA 0), (1, vI x1_), (2, vI (wr (x2_ + 1)))] [] w3)) ∧ (x4 = 0 → (K (.inl (some (vI (-4)))) w3))))))))))) : V g LM jMd_run (d + 1) K 28 [(0, vA 0), (1, vI x1_), (2, vI x2_)] [] w := by
  refine v_iload_n (pc := 28) d_Md_run_28 rfl (.tail _ (.tail _ (.head _))) ?_
  refine v_iload_n (pc := 29) d_Md_run_29 rfl (.tail _ (.head _)) ?_
  refine v_icmpge (pc := 30) (tgt := 56) d_Md_run_30 (by decide) (fun c => ?_) (fun c => ?_)
  · replace h := h.1 c
    refine v_iload_n (pc := 56) d_Md_run_56 rfl (.tail _ (.tail _ (.head _))) ?_
    exact v_iret (pc := 57) d_Md_run_57 rfl h
  · replace h := h.2 c
    refine v_aload_n (pc := 33) d_Md_run_33 rfl (.head _) ?_
    refine v_callV (pc := 34) (J' := jMd_hasEnded) (d' := d) (o := 0) (ci := 13) (N := 93) (T := cT13) (As := []) d_Md_run_34 ml_Md_657 cM_0.1 cM_0.2 (by decide) rfl rfl (Nat.le_of_ble_eq_true rfl) (Nat.le_refl _) rfl (Cal.weak h (fun o w1 h => ?_))
    rcases rIt_of h with ⟨x2, rfl, h⟩ | ⟨b, rfl, h⟩
    rotate_left
    · exact h
    refine v_ifne (pc := 37) (tgt := 56) d_Md_run_37 (by decide) (fun c => ?_) (fun c => ?_)
    · replace h := h.1 c
      refine v_iload_n (pc := 56) d_Md_run_56 rfl (.tail _ (.tail _ (.head _))) ?_
      exact v_iret (pc := 57) d_Md_run_57 rfl h
    · replace h := h.2 c
      refine v_aload_n (pc := 40) d_Md_run_40 rfl (.head _) ?_
      refine v_callV (pc := 41) (J' := jMd_oneTurn) (d' := d) (o := 0) (ci := 13) (N := 93) (T := cT13) (As := []) d_Md_run_41 ml_Md_660 cM_0.1 cM_0.2 (by decide) rfl rfl (Nat.le_of_ble_eq_true rfl) (Nat.le_refl _) rfl (Cal.weak h (fun o w3 h => ?_))
      rcases rIt_of h with ⟨x4, rfl, h⟩ | ⟨b, rfl, h⟩
      rotate_left
      · exact h
      refine v_ifne (pc := 44) (tgt := 50) d_Md_run_44 (by decide) (fun c => ?_) (fun c => ?_)
      · replace h := h.1 c
        refine v_iinc (pc := 50) (ls' := [(2, vI (wr (x2_ + 1))), (0, vA 0), (1, vI x1_)]) d_Md_run_50 (.tail _ (.tail _ (.head _))) (by decide) rfl ?_
        refine v_goto (pc := 53) (tgt := 28) d_Md_run_53 (by decide) ?_
        exact v_sub (List.forall_mem_cons.mpr ⟨(.tail _ (.head _)), (List.forall_mem_cons.mpr ⟨(.tail _ (.tail _ (.head _))), (List.forall_mem_cons.mpr ⟨(.head _), (fun _ z => absurd z List.not_mem_nil)⟩)⟩)⟩) h
      · replace h := h.2 c
        refine v_bipush (pc := 47) d_Md_run_47 (by decide) rfl ?_
        exact v_iret (pc := 49) d_Md_run_49 rfl h
theorem d_Md_undo_0 : decode jMd_undo.cc 0 = .ok (.aload_n 0, 1) := by decide +kernel
theorem d_Md_undo_1 : decode jMd_undo.cc 1 = .ok (.iconst 0, 1) := by decide +kernel
theorem d_Md_undo_2 : decode jMd_undo.cc 2 = .ok (.putfield 1, 3) := by decide +kernel
theorem d_Md_undo_5 : decode jMd_undo.cc 5 = .ok (.aload_n 0, 1) := by decide +kernel
theorem d_Md_undo_6 : decode jMd_undo.cc 6 = .ok (.getfield 510, 3) := by decide +kernel
theorem d_Md_undo_9 : decode jMd_undo.cc 9 = .ok (.ifCond .ne 5, 3) := by decide +kernel
theorem d_Md_undo_12 : decode jMd_undo.cc 12 = .ok (.iconst (-1), 1) := by decide +kernel
theorem d_Md_undo_13 : decode jMd_undo.cc 13 = .ok (.ireturn, 1) := by decide +kernel
theorem d_Md_undo_14 : decode jMd_undo.cc 14 = .ok (.aload_n 0, 1) := by decide +kernel
theorem d_Md_undo_15 : decode jMd_undo.cc 15 = .ok (.getfield 564, 3) := by decide +kernel
theorem d_Md_undo_18 : decode jMd_undo.cc 18 = .ok (.ifCond .ne 6, 3) := by decide +kernel
theorem d_Md_undo_21 : decode jMd_undo.cc 21 = .ok (.bipush (-2), 2) := by decide +kernel
theorem d_Md_undo_23 : decode jMd_undo.cc 23 = .ok (.ireturn, 1) := by decide +kernel
theorem d_Md_undo_24 : decode jMd_undo.cc 24 = .ok (.aload_n 0, 1) := by decide +kernel
theorem d_Md_undo_25 : decode jMd_undo.cc 25 = .ok (.dup, 1) := by decide +kernel
theorem d_Md_undo_26 : decode jMd_undo.cc 26 = .ok (.getfield 564, 3) := by decide +kernel
theorem d_Md_undo_29 : decode jMd_undo.cc 29 = .ok (.iconst 1, 1) := by decide +kernel
theorem d_Md_undo_30 : decode jMd_undo.cc 30 = .ok (.isub, 1) := by decide +kernel
theorem d_Md_undo_31 : decode jMd_undo.cc 31 = .ok (.putfield 564, 3) := by decide +kernel
theorem d_Md_undo_34 : decode jMd_undo.cc 34 = .ok (.aload_n 0, 1) := by decide +kernel
theorem d_Md_undo_35 : decode jMd_undo.cc 35 = .ok (.aload_n 0, 1) := by decide +kernel
theorem d_Md_undo_36 : decode jMd_undo.cc 36 = .ok (.getfield 297, 3) := by decide +kernel
theorem d_Md_undo_39 : decode jMd_undo.cc 39 = .ok (.sipush 700, 3) := by decide +kernel
theorem d_Md_undo_42 : decode jMd_undo.cc 42 = .ok (.aload_n 0, 1) := by decide +kernel
theorem d_Md_undo_43 : decode jMd_undo.cc 43 = .ok (.getfield 564, 3) := by decide +kernel
theorem d_Md_undo_46 : decode jMd_undo.cc 46 = .ok (.imul, 1) := by decide +kernel
theorem d_Md_undo_47 : decode jMd_undo.cc 47 = .ok (.invokevirtual 646, 3) := by decide +kernel
theorem d_Md_undo_50 : decode jMd_undo.cc 50 = .ok (.aload_n 0, 1) := by decide +kernel
theorem d_Md_undo_51 : decode jMd_undo.cc 51 = .ok (.dup, 1) := by decide +kernel
theorem d_Md_undo_52 : decode jMd_undo.cc 52 = .ok (.getfield 562, 3) := by decide +kernel
theorem d_Md_undo_55 : decode jMd_undo.cc 55 = .ok (.iconst 1, 1) := by decide +kernel
theorem d_Md_undo_56 : decode jMd_undo.cc 56 = .ok (.isub, 1) := by decide +kernel
theorem d_Md_undo_57 : decode jMd_undo.cc 57 = .ok (.putfield 562, 3) := by decide +kernel
theorem d_Md_undo_60 : decode jMd_undo.cc 60 = .ok (.aload_n 0, 1) := by decide +kernel
theorem d_Md_undo_61 : decode jMd_undo.cc 61 = .ok (.getfield 562, 3) := by decide +kernel
theorem d_Md_undo_64 : decode jMd_undo.cc 64 = .ok (.ireturn, 1) := by decide +kernel
set_option maxHeartbeats 4000000 in
theorem s_Md_undo {g : Mg} {d : Nat} {K : Ou → Wd → Prop} {w : Wd} (h : (¬ (w 0 64) = 0 → ((¬ (w 0 78) = 0 → (Cal g LM jMd_bring d [vA 0, vA 51, vI (wr (700 * (wr ((w 0 78) - 1))))] (up (up w 0 0 0) 0 78 (wr ((w 0 78) - 1))) (fun o w1 => rVt o (fun b => K (.inr b) w1) (K (.inl (some (vI (wr ((w1 0 66) - 1))))) (up w1 0 66 (wr ((w1 0 66) - 1))))))) ∧ ((w 0 78) = 0 → (K (.inl (some (vI (-2)))) (up w 0 0 0))))) ∧ ((w 0 64) = 0 → (K (.inl (some (vI (-1)))) (up w 0 0 0)))) : V g LM jMd_undo (d + 1) K 0 [(0, vA 0)] [] w := by
  refine v_aload_n (pc := 0) d_Md_undo_0 rfl (.head _) ?_
  refine v_iconst (pc := 1) d_Md_undo_1 (by decide) ?_
  refine v_puti (pc := 2) d_Md_undo_2 fp_Md_1 cM_0.1 cM_0.2 (by decide) rfl ?_
  refine v_aload_n (pc := 5) d_Md_undo_5 rfl (.head _) ?_
  refine v_geti (pc := 6) (x := (w 0 64)) d_Md_undo_6 fl_Md_510 cM_0.1 cM_0.2 (Or.inr rfl) rfl ?_
  refine v_ifne (pc := 9) (tgt := 14) d_Md_undo_9 (by decide) (fun c => ?_) (fun c => ?_)
  · replace h := h.1 c
    refine v_aload_n (pc := 14) d_Md_undo_14 rfl (.head _) ?_
    refine v_geti (pc := 15) (x := (w 0 78)) d_Md_undo_15 fl_Md_564 cM_0.1 cM_0.2 (Or.inl rfl) rfl ?_
    refine v_ifne (pc := 18) (tgt := 24) d_Md_undo_18 (by decide) (fun c => ?_) (fun c => ?_)
    · replace h := h.1 c
      refine v_aload_n (pc := 24) d_Md_undo_24 rfl (.head _) ?_
      refine v_dup (pc := 25) d_Md_undo_25 rfl ?_
      refine v_geti (pc := 26) (x := (w 0 78)) d_Md_undo_26 fl_Md_564 cM_0.1 cM_0.2 (Or.inl rfl) rfl ?_
      refine v_iconst (pc := 29) d_Md_undo_29 (by decide) ?_
      refine v_isub (pc := 30) d_Md_undo_30 ?_
      refine v_puti (pc := 31) d_Md_undo_31 fp_Md_564 cM_0.1 cM_0.2 (by decide) rfl ?_
      refine v_aload_n (pc := 34) d_Md_undo_34 rfl (.head _) ?_
      refine v_aload_n (pc := 35) d_Md_undo_35 rfl (.head _) ?_
      refine v_getr (C := "") (pc := 36) (r := 51) d_Md_undo_36 fl_Md_297 cM_0.1 cM_0.2 (Or.inr ⟨_, rfl⟩) rM_0_77 ?_
      refine v_sipush (pc := 39) d_Md_undo_39 (by decide) rfl ?_
      refine v_aload_n (pc := 42) d_Md_undo_42 rfl (.head _) ?_
      refine v_geti (pc := 43) (x := (wr ((w 0 78) - 1))) d_Md_undo_43 fl_Md_564 cM_0.1 cM_0.2 (Or.inl rfl) rfl ?_
      refine v_imul (pc := 46) d_Md_undo_46 ?_
      refine v_callV (pc := 47) (J' := jMd_bring) (d' := d) (o := 0) (ci := 13) (N := 93) (T := cT13) (As := [vA 51, vI (wr (700 * (wr ((w 0 78) - 1))))]) d_Md_undo_47 ml_Md_646 cM_0.1 cM_0.2 (by decide) rfl rfl (Nat.le_of_ble_eq_true rfl) (Nat.le_refl _) rfl (Cal.weak h (fun o w1 h => ?_))
      rcases rVt_of h with ⟨rfl, h⟩ | ⟨b, rfl, h⟩
      rotate_left
      · exact h
      refine v_aload_n (pc := 50) d_Md_undo_50 rfl (.head _) ?_
      refine v_dup (pc := 51) d_Md_undo_51 rfl ?_
      refine v_geti (pc := 52) (x := (w1 0 66)) d_Md_undo_52 fl_Md_562 cM_0.1 cM_0.2 (Or.inl rfl) rfl ?_
      refine v_iconst (pc := 55) d_Md_undo_55 (by decide) ?_
      refine v_isub (pc := 56) d_Md_undo_56 ?_
      refine v_puti (pc := 57) d_Md_undo_57 fp_Md_562 cM_0.1 cM_0.2 (by decide) rfl ?_
      refine v_aload_n (pc := 60) d_Md_undo_60 rfl (.head _) ?_
      refine v_geti (pc := 61) (x := (wr ((w1 0 66) - 1))) d_Md_undo_61 fl_Md_562 cM_0.1 cM_0.2 (Or.inl rfl) rfl ?_
      exact v_iret (pc := 64) d_Md_undo_64 rfl h
    · replace h := h.2 c
      refine v_bipush (pc := 21) d_Md_undo_21 (by decide) rfl ?_
      exact v_iret (pc := 23) d_Md_undo_23 rfl h
  · replace h := h.2 c
    refine v_iconst (pc := 12) d_Md_undo_12 (by decide) ?_
    exact v_iret (pc := 13) d_Md_undo_13 rfl h
theorem d_Md_told_0 : decode jMd_told.cc 0 = .ok (.aload_n 0, 1) := by decide +kernel
theorem d_Md_told_1 : decode jMd_told.cc 1 = .ok (.iconst 0, 1) := by decide +kernel
theorem d_Md_told_2 : decode jMd_told.cc 2 = .ok (.putfield 1, 3) := by decide +kernel
theorem d_Md_told_5 : decode jMd_told.cc 5 = .ok (.aload_n 0, 1) := by decide +kernel
theorem d_Md_told_6 : decode jMd_told.cc 6 = .ok (.getfield 510, 3) := by decide +kernel
theorem d_Md_told_9 : decode jMd_told.cc 9 = .ok (.ifCond .ne 5, 3) := by decide +kernel
theorem d_Md_told_12 : decode jMd_told.cc 12 = .ok (.iconst (-1), 1) := by decide +kernel
theorem d_Md_told_13 : decode jMd_told.cc 13 = .ok (.ireturn, 1) := by decide +kernel
theorem d_Md_told_14 : decode jMd_told.cc 14 = .ok (.iload_n 1, 1) := by decide +kernel
theorem d_Md_told_15 : decode jMd_told.cc 15 = .ok (.tableswitch 111 0 9 #[53, 58, 71, 76, 81, 86, 91, 96, 101, 106], 53) := by decide +kernel
theorem d_Md_told_68 : decode jMd_told.cc 68 = .ok (.aload_n 0, 1) := by decide +kernel
theorem d_Md_told_69 : decode jMd_told.cc 69 = .ok (.getfield 562, 3) := by decide +kernel
theorem d_Md_told_72 : decode jMd_told.cc 72 = .ok (.ireturn, 1) := by decide +kernel
theorem d_Md_told_73 : decode jMd_told.cc 73 = .ok (.aload_n 0, 1) := by decide +kernel
theorem d_Md_told_74 : decode jMd_told.cc 74 = .ok (.invokevirtual 657, 3) := by decide +kernel
theorem d_Md_told_77 : decode jMd_told.cc 77 = .ok (.ifCond .eq 7, 3) := by decide +kernel
theorem d_Md_told_80 : decode jMd_told.cc 80 = .ok (.iconst 1, 1) := by decide +kernel
theorem d_Md_told_81 : decode jMd_told.cc 81 = .ok (.goto 4, 3) := by decide +kernel
theorem d_Md_told_84 : decode jMd_told.cc 84 = .ok (.iconst 0, 1) := by decide +kernel
theorem d_Md_told_85 : decode jMd_told.cc 85 = .ok (.ireturn, 1) := by decide +kernel
theorem d_Md_told_86 : decode jMd_told.cc 86 = .ok (.aload_n 0, 1) := by decide +kernel
theorem d_Md_told_87 : decode jMd_told.cc 87 = .ok (.invokevirtual 649, 3) := by decide +kernel
theorem d_Md_told_90 : decode jMd_told.cc 90 = .ok (.ireturn, 1) := by decide +kernel
theorem d_Md_told_91 : decode jMd_told.cc 91 = .ok (.aload_n 0, 1) := by decide +kernel
theorem d_Md_told_92 : decode jMd_told.cc 92 = .ok (.invokevirtual 652, 3) := by decide +kernel
theorem d_Md_told_95 : decode jMd_told.cc 95 = .ok (.ireturn, 1) := by decide +kernel
theorem d_Md_told_96 : decode jMd_told.cc 96 = .ok (.aload_n 0, 1) := by decide +kernel
theorem d_Md_told_97 : decode jMd_told.cc 97 = .ok (.getfield 567, 3) := by decide +kernel
theorem d_Md_told_100 : decode jMd_told.cc 100 = .ok (.ireturn, 1) := by decide +kernel
theorem d_Md_told_101 : decode jMd_told.cc 101 = .ok (.aload_n 0, 1) := by decide +kernel
theorem d_Md_told_102 : decode jMd_told.cc 102 = .ok (.getfield 570, 3) := by decide +kernel
theorem d_Md_told_105 : decode jMd_told.cc 105 = .ok (.ireturn, 1) := by decide +kernel
theorem d_Md_told_106 : decode jMd_told.cc 106 = .ok (.aload_n 0, 1) := by decide +kernel
theorem d_Md_told_107 : decode jMd_told.cc 107 = .ok (.getfield 573, 3) := by decide +kernel
theorem d_Md_told_110 : decode jMd_told.cc 110 = .ok (.ireturn, 1) := by decide +kernel
theorem d_Md_told_111 : decode jMd_told.cc 111 = .ok (.aload_n 0, 1) := by decide +kernel
theorem d_Md_told_112 : decode jMd_told.cc 112 = .ok (.getfield 576, 3) := by decide +kernel
theorem d_Md_told_115 : decode jMd_told.cc 115 = .ok (.ireturn, 1) := by decide +kernel
theorem d_Md_told_116 : decode jMd_told.cc 116 = .ok (.aload_n 0, 1) := by decide +kernel
theorem d_Md_told_117 : decode jMd_told.cc 117 = .ok (.getfield 564, 3) := by decide +kernel
theorem d_Md_told_120 : decode jMd_told.cc 120 = .ok (.ireturn, 1) := by decide +kernel
theorem d_Md_told_121 : decode jMd_told.cc 121 = .ok (.aload_n 0, 1) := by decide +kernel
theorem d_Md_told_122 : decode jMd_told.cc 122 = .ok (.getfield 579, 3) := by decide +kernel
theorem d_Md_told_125 : decode jMd_told.cc 125 = .ok (.ireturn, 1) := by decide +kernel
theorem d_Md_told_126 : decode jMd_told.cc 126 = .ok (.iconst (-1), 1) := by decide +kernel
theorem d_Md_told_127 : decode jMd_told.cc 127 = .ok (.ireturn, 1) := by decide +kernel
set_option maxHeartbeats 4000000 in
theorem s_Md_told {g : Mg} {d : Nat} {K : Ou → Wd → Prop} {w : Wd} {p1 : Int} (h : (¬ (w 0 64) = 0 → (((p1 < 0 ∨ 9 < p1) → (K (.inl (some (vI (-1)))) (up w 0 0 0))) ∧ (p1 = 0 → (K (.inl (some (vI (w 0 66)))) (up w 0 0 0))) ∧ (p1 = 1 → (Cal g LM jMd_hasEnded d [vA 0] (up w 0 0 0) (fun o w1 => rIt o (fun b => K (.inr b) w1) (fun x2 => (x2 = 0 → (K (.inl (some (vI 0))) w1)) ∧ (¬ x2 = 0 → (K (.inl (some (vI 1))) w1)))))) ∧ (p1 = 2 → (Cal g LM jMd_underWay d [vA 0] (up w 0 0 0) (fun o w3 => rIt o (fun b => K (.inr b) w3) (fun x4 => K (.inl (some (vI x4))) w3)))) ∧ (p1 = 3 → (Cal g LM jMd_haltedCount d [vA 0] (up w 0 0 0) (fun o w5 => rIt o (fun b => K (.inr b) w5) (fun x6 => K (.inl (some (vI x6))) w5)))) ∧ (p1 = 4 → (K (.inl (some (vI (w 0 80)))) (up w 0 0 0))) ∧ (p1 = 5 → (K (.inl (some (vI (w 0 81)))) (up w 0 0 0))) ∧ (p1 = 6 → (K (.inl (some (vI (w 0 82)))) (up w 0 0 0))) ∧ (p1 = 7 → (K (.inl (some (vI (w 0 83)))) (up w 0 0 0))) ∧ (p1 = 8 → (K (.inl (some (vI (w 0 78)))) (up w 0 0 0))) ∧ (p1 = 9 → (K (.inl (some (vI (w 0 85)))) (up w 0 0 0))))) ∧ ((w 0 64) = 0 → (K (.inl (some (vI (-1)))) (up w 0 0 0)))) : V g LM jMd_told (d + 1) K 0 [(0, vA 0), (1, vI p1)] [] w := by
  refine v_aload_n (pc := 0) d_Md_told_0 rfl (.head _) ?_
  refine v_iconst (pc := 1) d_Md_told_1 (by decide) ?_
  refine v_puti (pc := 2) d_Md_told_2 fp_Md_1 cM_0.1 cM_0.2 (by decide) rfl ?_
  refine v_aload_n (pc := 5) d_Md_told_5 rfl (.head _) ?_
  refine v_geti (pc := 6) (x := (w 0 64)) d_Md_told_6 fl_Md_510 cM_0.1 cM_0.2 (Or.inr rfl) rfl ?_
  refine v_ifne (pc := 9) (tgt := 14) d_Md_told_9 (by decide) (fun c => ?_) (fun c => ?_)
  · replace h := h.1 c
    refine v_iload_n (pc := 14) d_Md_told_14 rfl (.tail _ (.head _)) ?_
    refine v_table (pc := 15) (tgd := 126) (tgs := [68, 73, 86, 91, 96, 101, 106, 111, 116, 121]) d_Md_told_15 (by decide) (by decide) (by decide) (fun c => ?_) ⟨fun c => ?_, fun c => ?_, fun c => ?_, fun c => ?_, fun c => ?_, fun c => ?_, fun c => ?_, fun c => ?_, fun c => ?_, fun c => ?_, trivial⟩
    · replace h := h.1 c
      refine v_iconst (pc := 126) d_Md_told_126 (by decide) ?_
      exact v_iret (pc := 127) d_Md_told_127 rfl h
    · replace h := h.2.1 c
      refine v_aload_n (pc := 68) d_Md_told_68 rfl (.head _) ?_
      refine v_geti (pc := 69) (x := (w 0 66)) d_Md_told_69 fl_Md_562 cM_0.1 cM_0.2 (Or.inl rfl) rfl ?_
      exact v_iret (pc := 72) d_Md_told_72 rfl h
    · replace h := h.2.2.1 c
      refine v_aload_n (pc := 73) d_Md_told_73 rfl (.head _) ?_
      refine v_callV (pc := 74) (J' := jMd_hasEnded) (d' := d) (o := 0) (ci := 13) (N := 93) (T := cT13) (As := []) d_Md_told_74 ml_Md_657 cM_0.1 cM_0.2 (by decide) rfl rfl (Nat.le_of_ble_eq_true rfl) (Nat.le_refl _) rfl (Cal.weak h (fun o w1 h => ?_))
      rcases rIt_of h with ⟨x2, rfl, h⟩ | ⟨b, rfl, h⟩
      rotate_left
      · exact h
      refine v_ifeq (pc := 77) (tgt := 84) d_Md_told_77 (by decide) (fun c => ?_) (fun c => ?_)
      · replace h := h.1 c
        refine v_iconst (pc := 84) d_Md_told_84 (by decide) ?_
        exact v_iret (pc := 85) d_Md_told_85 rfl h
      · replace h := h.2 c
        refine v_iconst (pc := 80) d_Md_told_80 (by decide) ?_
        refine v_goto (pc := 81) (tgt := 85) d_Md_told_81 (by decide) ?_
        exact v_iret (pc := 85) d_Md_told_85 rfl h
    · replace h := h.2.2.2.1 c
      refine v_aload_n (pc := 86) d_Md_told_86 rfl (.head _) ?_
      refine v_callV (pc := 87) (J' := jMd_underWay) (d' := d) (o := 0) (ci := 13) (N := 93) (T := cT13) (As := []) d_Md_told_87 ml_Md_649 cM_0.1 cM_0.2 (by decide) rfl rfl (Nat.le_of_ble_eq_true rfl) (Nat.le_refl _) rfl (Cal.weak h (fun o w3 h => ?_))
      rcases rIt_of h with ⟨x4, rfl, h⟩ | ⟨b, rfl, h⟩
      rotate_left
      · exact h
      exact v_iret (pc := 90) d_Md_told_90 rfl h
    · replace h := h.2.2.2.2.1 c
      refine v_aload_n (pc := 91) d_Md_told_91 rfl (.head _) ?_
      refine v_callV (pc := 92) (J' := jMd_haltedCount) (d' := d) (o := 0) (ci := 13) (N := 93) (T := cT13) (As := []) d_Md_told_92 ml_Md_652 cM_0.1 cM_0.2 (by decide) rfl rfl (Nat.le_of_ble_eq_true rfl) (Nat.le_refl _) rfl (Cal.weak h (fun o w5 h => ?_))
      rcases rIt_of h with ⟨x6, rfl, h⟩ | ⟨b, rfl, h⟩
      rotate_left
      · exact h
      exact v_iret (pc := 95) d_Md_told_95 rfl h
    · replace h := h.2.2.2.2.2.1 c
      refine v_aload_n (pc := 96) d_Md_told_96 rfl (.head _) ?_
      refine v_geti (pc := 97) (x := (w 0 80)) d_Md_told_97 fl_Md_567 cM_0.1 cM_0.2 (Or.inl rfl) rfl ?_
      exact v_iret (pc := 100) d_Md_told_100 rfl h
    · replace h := h.2.2.2.2.2.2.1 c
      refine v_aload_n (pc := 101) d_Md_told_101 rfl (.head _) ?_
      refine v_geti (pc := 102) (x := (w 0 81)) d_Md_told_102 fl_Md_570 cM_0.1 cM_0.2 (Or.inl rfl) rfl ?_
      exact v_iret (pc := 105) d_Md_told_105 rfl h
    · replace h := h.2.2.2.2.2.2.2.1 c
      refine v_aload_n (pc := 106) d_Md_told_106 rfl (.head _) ?_
      refine v_geti (pc := 107) (x := (w 0 82)) d_Md_told_107 fl_Md_573 cM_0.1 cM_0.2 (Or.inl rfl) rfl ?_
      exact v_iret (pc := 110) d_Md_told_110 rfl h
    · replace h := h.2.2.2.2.2.2.2.2.1 c
      refine v_aload_n (pc := 111) d_Md_told_111 rfl (.head _) ?_
      refine v_geti (pc := 112) (x := (w 0 83)) d_Md_told_112 fl_Md_576 cM_0.1 cM_0.2 (Or.inl rfl) rfl ?_
      exact v_iret (pc := 115) d_Md_told_115 rfl h
    · replace h := h.2.2.2.2.2.2.2.2.2.1 c
      refine v_aload_n (pc := 116) d_Md_told_116 rfl (.head _) ?_
      refine v_geti (pc := 117) (x := (w 0 78)) d_Md_told_117 fl_Md_564 cM_0.1 cM_0.2 (Or.inl rfl) rfl ?_
      exact v_iret (pc := 120) d_Md_told_120 rfl h
    · replace h := h.2.2.2.2.2.2.2.2.2.2 c
      refine v_aload_n (pc := 121) d_Md_told_121 rfl (.head _) ?_
      refine v_geti (pc := 122) (x := (w 0 85)) d_Md_told_122 fl_Md_579 cM_0.1 cM_0.2 (Or.inl rfl) rfl ?_
      exact v_iret (pc := 125) d_Md_told_125 rfl h
  · replace h := h.2 c
    refine v_iconst (pc := 12) d_Md_told_12 (by decide) ?_
    exact v_iret (pc := 13) d_Md_told_13 rfl h
theorem d_Md_state_0 : decode jMd_state.cc 0 = .ok (.aload_n 0, 1) := by decide +kernel
theorem d_Md_state_1 : decode jMd_state.cc 1 = .ok (.iconst 0, 1) := by decide +kernel
theorem d_Md_state_2 : decode jMd_state.cc 2 = .ok (.putfield 1, 3) := by decide +kernel
theorem d_Md_state_5 : decode jMd_state.cc 5 = .ok (.aload_n 0, 1) := by decide +kernel
theorem d_Md_state_6 : decode jMd_state.cc 6 = .ok (.getfield 510, 3) := by decide +kernel
theorem d_Md_state_9 : decode jMd_state.cc 9 = .ok (.ifCond .eq 37, 3) := by decide +kernel
theorem d_Md_state_12 : decode jMd_state.cc 12 = .ok (.iload_n 1, 1) := by decide +kernel
theorem d_Md_state_13 : decode jMd_state.cc 13 = .ok (.i2l, 1) := by decide +kernel
theorem d_Md_state_14 : decode jMd_state.cc 14 = .ok (.lconst 0, 1) := by decide +kernel
theorem d_Md_state_15 : decode jMd_state.cc 15 = .ok (.aload_n 0, 1) := by decide +kernel
theorem d_Md_state_16 : decode jMd_state.cc 16 = .ok (.getfield 305, 3) := by decide +kernel
theorem d_Md_state_19 : decode jMd_state.cc 19 = .ok (.iconst 1, 1) := by decide +kernel
theorem d_Md_state_20 : decode jMd_state.cc 20 = .ok (.isub, 1) := by decide +kernel
theorem d_Md_state_21 : decode jMd_state.cc 21 = .ok (.i2l, 1) := by decide +kernel
theorem d_Md_state_22 : decode jMd_state.cc 22 = .ok (.invokestatic 312, 3) := by decide +kernel
theorem d_Md_state_25 : decode jMd_state.cc 25 = .ok (.ifCond .eq 21, 3) := by decide +kernel
theorem d_Md_state_28 : decode jMd_state.cc 28 = .ok (.iload_n 2, 1) := by decide +kernel
theorem d_Md_state_29 : decode jMd_state.cc 29 = .ok (.i2l, 1) := by decide +kernel
theorem d_Md_state_30 : decode jMd_state.cc 30 = .ok (.lconst 0, 1) := by decide +kernel
theorem d_Md_state_31 : decode jMd_state.cc 31 = .ok (.aload_n 0, 1) := by decide +kernel
theorem d_Md_state_32 : decode jMd_state.cc 32 = .ok (.getfield 185, 3) := by decide +kernel
theorem d_Md_state_35 : decode jMd_state.cc 35 = .ok (.iconst 1, 1) := by decide +kernel
theorem d_Md_state_36 : decode jMd_state.cc 36 = .ok (.iaload, 1) := by decide +kernel
theorem d_Md_state_37 : decode jMd_state.cc 37 = .ok (.iconst 1, 1) := by decide +kernel
theorem d_Md_state_38 : decode jMd_state.cc 38 = .ok (.isub, 1) := by decide +kernel
theorem d_Md_state_39 : decode jMd_state.cc 39 = .ok (.i2l, 1) := by decide +kernel
theorem d_Md_state_40 : decode jMd_state.cc 40 = .ok (.invokestatic 312, 3) := by decide +kernel
theorem d_Md_state_43 : decode jMd_state.cc 43 = .ok (.ifCond .ne 7, 3) := by decide +kernel
theorem d_Md_state_46 : decode jMd_state.cc 46 = .ok (.iconst 0, 1) := by decide +kernel
theorem d_Md_state_47 : decode jMd_state.cc 47 = .ok (.goto 14, 3) := by decide +kernel
theorem d_Md_state_50 : decode jMd_state.cc 50 = .ok (.aload_n 0, 1) := by decide +kernel
theorem d_Md_state_51 : decode jMd_state.cc 51 = .ok (.getfield 267, 3) := by decide +kernel
theorem d_Md_state_54 : decode jMd_state.cc 54 = .ok (.bipush 8, 2) := by decide +kernel
theorem d_Md_state_56 : decode jMd_state.cc 56 = .ok (.iload_n 1, 1) := by decide +kernel
theorem d_Md_state_57 : decode jMd_state.cc 57 = .ok (.imul, 1) := by decide +kernel
theorem d_Md_state_58 : decode jMd_state.cc 58 = .ok (.iload_n 2, 1) := by decide +kernel
theorem d_Md_state_59 : decode jMd_state.cc 59 = .ok (.iadd, 1) := by decide +kernel
theorem d_Md_state_60 : decode jMd_state.cc 60 = .ok (.iaload, 1) := by decide +kernel
theorem d_Md_state_61 : decode jMd_state.cc 61 = .ok (.ireturn, 1) := by decide +kernel
set_option maxHeartbeats 4000000 in
theorem s_Md_state {g : Mg} {d : Nat} {K : Ou → Wd → Prop} {w : Wd} {p1 : Int} {p2 : Int} (h : ((w 0 64) = 0 → (K (.inl (some (vI 0))) (up w 0 0 0))) ∧ (¬ (w 0 64) = 0 → (Cal g LM jMd_in d [vL p1, vL 0, vL (wr ((w 0 59) - 1))] (up w 0 0 0) (fun o w1 => rIt o (fun b => K (.inr b) w1) (fun x2 => (x2 = 0 → (K (.inl (some (vI 0))) w1)) ∧ (¬ x2 = 0 → (Cal g LM jMd_in d [vL p2, vL 0, vL (wr ((w1 16 1) - 1))] w1 (fun o w3 => rIt o (fun b => K (.inr b) w3) (fun x4 => (¬ x4 = 0 → ((0 ≤ (wr ((wr (8 * p1)) + p2)) ∧ (wr ((wr (8 * p1)) + p2)) < 320) ∧ (K (.inl (some (vI (w3 41 ((wr ((wr (8 * p1)) + p2)).toNat))))) w3))) ∧ (x4 = 0 → (K (.inl (some (vI 0))) w3))))))))))) : V g LM jMd_state (d + 1) K 0 [(0, vA 0), (1, vI p1), (2, vI p2)] [] w := by
  refine v_aload_n (pc := 0) d_Md_state_0 rfl (.head _) ?_
  refine v_iconst (pc := 1) d_Md_state_1 (by decide) ?_
  refine v_puti (pc := 2) d_Md_state_2 fp_Md_1 cM_0.1 cM_0.2 (by decide) rfl ?_
  refine v_aload_n (pc := 5) d_Md_state_5 rfl (.head _) ?_
  refine v_geti (pc := 6) (x := (w 0 64)) d_Md_state_6 fl_Md_510 cM_0.1 cM_0.2 (Or.inr rfl) rfl ?_
  refine v_ifeq (pc := 9) (tgt := 46) d_Md_state_9 (by decide) (fun c => ?_) (fun c => ?_)
  · replace h := h.1 c
    refine v_iconst (pc := 46) d_Md_state_46 (by decide) ?_
    refine v_goto (pc := 47) (tgt := 61) d_Md_state_47 (by decide) ?_
    exact v_iret (pc := 61) d_Md_state_61 rfl h
  · replace h := h.2 c
    refine v_iload_n (pc := 12) d_Md_state_12 rfl (.tail _ (.head _)) ?_
    refine v_i2l (pc := 13) d_Md_state_13 ?_
    refine v_lconst (pc := 14) (x := 0) d_Md_state_14 (by decide) rfl ?_
    refine v_aload_n (pc := 15) d_Md_state_15 rfl (.head _) ?_
    refine v_geti (pc := 16) (x := (w 0 59)) d_Md_state_16 fl_Md_305 cM_0.1 cM_0.2 (Or.inl rfl) rfl ?_
    refine v_iconst (pc := 19) d_Md_state_19 (by decide) ?_
    refine v_isub (pc := 20) d_Md_state_20 ?_
    refine v_i2l (pc := 21) d_Md_state_21 ?_
    refine v_callS (pc := 22) (J' := jMd_in) (d' := d) (As := [vL p1, vL 0, vL (wr ((w 0 59) - 1))]) d_Md_state_22 ml_Md_312 rfl (Nat.le_of_ble_eq_true rfl) (Nat.le_refl _) rfl (Cal.weak h (fun o w1 h => ?_))
    rcases rIt_of h with ⟨x2, rfl, h⟩ | ⟨b, rfl, h⟩
    rotate_left
    · exact h
    refine v_ifeq (pc := 25) (tgt := 46) d_Md_state_25 (by decide) (fun c => ?_) (fun c => ?_)
    · replace h := h.1 c
      refine v_iconst (pc := 46) d_Md_state_46 (by decide) ?_
      refine v_goto (pc := 47) (tgt := 61) d_Md_state_47 (by decide) ?_
      exact v_iret (pc := 61) d_Md_state_61 rfl h
    · replace h := h.2 c
      refine v_iload_n (pc := 28) d_Md_state_28 rfl (.tail _ (.tail _ (.head _))) ?_
      refine v_i2l (pc := 29) d_Md_state_29 ?_
      refine v_lconst (pc := 30) (x := 0) d_Md_state_30 (by decide) rfl ?_
      refine v_aload_n (pc := 31) d_Md_state_31 rfl (.head _) ?_
      refine v_getr (C := "") (pc := 32) (r := 16) d_Md_state_32 fl_Md_185 cM_0.1 cM_0.2 (Or.inr ⟨_, rfl⟩) rM_0_21 ?_
      refine v_iconst (pc := 35) d_Md_state_35 (by decide) ?_
      refine v_iald (pc := 36) (x := (w1 16 1)) d_Md_state_36 cM_16.1 cM_16.2 rfl (by decide) ?_
      refine v_iconst (pc := 37) d_Md_state_37 (by decide) ?_
      refine v_isub (pc := 38) d_Md_state_38 ?_
      refine v_i2l (pc := 39) d_Md_state_39 ?_
      refine v_callS (pc := 40) (J' := jMd_in) (d' := d) (As := [vL p2, vL 0, vL (wr ((w1 16 1) - 1))]) d_Md_state_40 ml_Md_312 rfl (Nat.le_of_ble_eq_true rfl) (Nat.le_refl _) rfl (Cal.weak h (fun o w3 h => ?_))
      rcases rIt_of h with ⟨x4, rfl, h⟩ | ⟨b, rfl, h⟩
      rotate_left
      · exact h
      refine v_ifne (pc := 43) (tgt := 50) d_Md_state_43 (by decide) (fun c => ?_) (fun c => ?_)
      · replace h := h.1 c
        refine v_aload_n (pc := 50) d_Md_state_50 rfl (.head _) ?_
        refine v_getr (C := "") (pc := 51) (r := 41) d_Md_state_51 fl_Md_267 cM_0.1 cM_0.2 (Or.inr ⟨_, rfl⟩) rM_0_67 ?_
        refine v_bipush (pc := 54) d_Md_state_54 (by decide) rfl ?_
        refine v_iload_n (pc := 56) d_Md_state_56 rfl (.tail _ (.head _)) ?_
        refine v_imul (pc := 57) d_Md_state_57 ?_
        refine v_iload_n (pc := 58) d_Md_state_58 rfl (.tail _ (.tail _ (.head _))) ?_
        refine v_iadd (pc := 59) d_Md_state_59 ?_
        refine v_iald (pc := 60) (x := (w3 41 ((wr ((wr (8 * p1)) + p2)).toNat))) d_Md_state_60 cM_41.1 cM_41.2 rfl h.1 ?_
        replace h := h.2
        exact v_iret (pc := 61) d_Md_state_61 rfl h
      · replace h := h.2 c
        refine v_iconst (pc := 46) d_Md_state_46 (by decide) ?_
        refine v_goto (pc := 47) (tgt := 61) d_Md_state_47 (by decide) ?_
        exact v_iret (pc := 61) d_Md_state_61 rfl h
theorem d_Md_noFold_0 : decode jMd_noFold.cc 0 = .ok (.aload_n 0, 1) := by decide +kernel
theorem d_Md_noFold_1 : decode jMd_noFold.cc 1 = .ok (.getfield 510, 3) := by decide +kernel
theorem d_Md_noFold_4 : decode jMd_noFold.cc 4 = .ok (.ifCond .eq 37, 3) := by decide +kernel
theorem d_Md_noFold_7 : decode jMd_noFold.cc 7 = .ok (.iload_n 1, 1) := by decide +kernel
theorem d_Md_noFold_8 : decode jMd_noFold.cc 8 = .ok (.i2l, 1) := by decide +kernel
theorem d_Md_noFold_9 : decode jMd_noFold.cc 9 = .ok (.lconst 0, 1) := by decide +kernel
theorem d_Md_noFold_10 : decode jMd_noFold.cc 10 = .ok (.aload_n 0, 1) := by decide +kernel
theorem d_Md_noFold_11 : decode jMd_noFold.cc 11 = .ok (.getfield 305, 3) := by decide +kernel
theorem d_Md_noFold_14 : decode jMd_noFold.cc 14 = .ok (.iconst 1, 1) := by decide +kernel
theorem d_Md_noFold_15 : decode jMd_noFold.cc 15 = .ok (.isub, 1) := by decide +kernel
theorem d_Md_noFold_16 : decode jMd_noFold.cc 16 = .ok (.i2l, 1) := by decide +kernel
theorem d_Md_noFold_17 : decode jMd_noFold.cc 17 = .ok (.invokestatic 312, 3) := by decide +kernel
theorem d_Md_noFold_20 : decode jMd_noFold.cc 20 = .ok (.ifCond .eq 21, 3) := by decide +kernel
theorem d_Md_noFold_23 : decode jMd_noFold.cc 23 = .ok (.iload_n 2, 1) := by decide +kernel
theorem d_Md_noFold_24 : decode jMd_noFold.cc 24 = .ok (.i2l, 1) := by decide +kernel
theorem d_Md_noFold_25 : decode jMd_noFold.cc 25 = .ok (.lconst 0, 1) := by decide +kernel
theorem d_Md_noFold_26 : decode jMd_noFold.cc 26 = .ok (.aload_n 0, 1) := by decide +kernel
theorem d_Md_noFold_27 : decode jMd_noFold.cc 27 = .ok (.getfield 185, 3) := by decide +kernel
theorem d_Md_noFold_30 : decode jMd_noFold.cc 30 = .ok (.iconst 2, 1) := by decide +kernel
theorem d_Md_noFold_31 : decode jMd_noFold.cc 31 = .ok (.iaload, 1) := by decide +kernel
theorem d_Md_noFold_32 : decode jMd_noFold.cc 32 = .ok (.iconst 1, 1) := by decide +kernel
theorem d_Md_noFold_33 : decode jMd_noFold.cc 33 = .ok (.isub, 1) := by decide +kernel
theorem d_Md_noFold_34 : decode jMd_noFold.cc 34 = .ok (.i2l, 1) := by decide +kernel
theorem d_Md_noFold_35 : decode jMd_noFold.cc 35 = .ok (.invokestatic 312, 3) := by decide +kernel
theorem d_Md_noFold_38 : decode jMd_noFold.cc 38 = .ok (.ifCond .ne 7, 3) := by decide +kernel
theorem d_Md_noFold_41 : decode jMd_noFold.cc 41 = .ok (.iconst 1, 1) := by decide +kernel
theorem d_Md_noFold_42 : decode jMd_noFold.cc 42 = .ok (.goto 4, 3) := by decide +kernel
theorem d_Md_noFold_45 : decode jMd_noFold.cc 45 = .ok (.iconst 0, 1) := by decide +kernel
theorem d_Md_noFold_46 : decode jMd_noFold.cc 46 = .ok (.ireturn, 1) := by decide +kernel
set_option maxHeartbeats 4000000 in
theorem s_Md_noFold {g : Mg} {d : Nat} {K : Ou → Wd → Prop} {w : Wd} {p1 : Int} {p2 : Int} (h : ((w 0 64) = 0 → (K (.inl (some (vI 1))) w)) ∧ (¬ (w 0 64) = 0 → (Cal g LM jMd_in d [vL p1, vL 0, vL (wr ((w 0 59) - 1))] w (fun o w1 => rIt o (fun b => K (.inr b) w1) (fun x2 => (x2 = 0 → (K (.inl (some (vI 1))) w1)) ∧ (¬ x2 = 0 → (Cal g LM jMd_in d [vL p2, vL 0, vL (wr ((w1 16 2) - 1))] w1 (fun o w3 => rIt o (fun b => K (.inr b) w3) (fun x4 => (¬ x4 = 0 → (K (.inl (some (vI 0))) w3)) ∧ (x4 = 0 → (K (.inl (some (vI 1))) w3))))))))))) : V g LM jMd_noFold (d + 1) K 0 [(0, vA 0), (1, vI p1), (2, vI p2)] [] w := by
  refine v_aload_n (pc := 0) d_Md_noFold_0 rfl (.head _) ?_
  refine v_geti (pc := 1) (x := (w 0 64)) d_Md_noFold_1 fl_Md_510 cM_0.1 cM_0.2 (Or.inr rfl) rfl ?_
  refine v_ifeq (pc := 4) (tgt := 41) d_Md_noFold_4 (by decide) (fun c => ?_) (fun c => ?_)
  · replace h := h.1 c
    refine v_iconst (pc := 41) d_Md_noFold_41 (by decide) ?_
    refine v_goto (pc := 42) (tgt := 46) d_Md_noFold_42 (by decide) ?_
    exact v_zret (pc := 46) d_Md_noFold_46 rfl (by decide) h
  · replace h := h.2 c
    refine v_iload_n (pc := 7) d_Md_noFold_7 rfl (.tail _ (.head _)) ?_
    refine v_i2l (pc := 8) d_Md_noFold_8 ?_
    refine v_lconst (pc := 9) (x := 0) d_Md_noFold_9 (by decide) rfl ?_
    refine v_aload_n (pc := 10) d_Md_noFold_10 rfl (.head _) ?_
    refine v_geti (pc := 11) (x := (w 0 59)) d_Md_noFold_11 fl_Md_305 cM_0.1 cM_0.2 (Or.inl rfl) rfl ?_
    refine v_iconst (pc := 14) d_Md_noFold_14 (by decide) ?_
    refine v_isub (pc := 15) d_Md_noFold_15 ?_
    refine v_i2l (pc := 16) d_Md_noFold_16 ?_
    refine v_callS (pc := 17) (J' := jMd_in) (d' := d) (As := [vL p1, vL 0, vL (wr ((w 0 59) - 1))]) d_Md_noFold_17 ml_Md_312 rfl (Nat.le_of_ble_eq_true rfl) (Nat.le_refl _) rfl (Cal.weak h (fun o w1 h => ?_))
    rcases rIt_of h with ⟨x2, rfl, h⟩ | ⟨b, rfl, h⟩
    rotate_left
    · exact h
    refine v_ifeq (pc := 20) (tgt := 41) d_Md_noFold_20 (by decide) (fun c => ?_) (fun c => ?_)
    · replace h := h.1 c
      refine v_iconst (pc := 41) d_Md_noFold_41 (by decide) ?_
      refine v_goto (pc := 42) (tgt := 46) d_Md_noFold_42 (by decide) ?_
      exact v_zret (pc := 46) d_Md_noFold_46 rfl (by decide) h
    · replace h := h.2 c
      refine v_iload_n (pc := 23) d_Md_noFold_23 rfl (.tail _ (.tail _ (.head _))) ?_
      refine v_i2l (pc := 24) d_Md_noFold_24 ?_
      refine v_lconst (pc := 25) (x := 0) d_Md_noFold_25 (by decide) rfl ?_
      refine v_aload_n (pc := 26) d_Md_noFold_26 rfl (.head _) ?_
      refine v_getr (C := "") (pc := 27) (r := 16) d_Md_noFold_27 fl_Md_185 cM_0.1 cM_0.2 (Or.inr ⟨_, rfl⟩) rM_0_21 ?_
      refine v_iconst (pc := 30) d_Md_noFold_30 (by decide) ?_
      refine v_iald (pc := 31) (x := (w1 16 2)) d_Md_noFold_31 cM_16.1 cM_16.2 rfl (by decide) ?_
      refine v_iconst (pc := 32) d_Md_noFold_32 (by decide) ?_
      refine v_isub (pc := 33) d_Md_noFold_33 ?_
      refine v_i2l (pc := 34) d_Md_noFold_34 ?_
      refine v_callS (pc := 35) (J' := jMd_in) (d' := d) (As := [vL p2, vL 0, vL (wr ((w1 16 2) - 1))]) d_Md_noFold_35 ml_Md_312 rfl (Nat.le_of_ble_eq_true rfl) (Nat.le_refl _) rfl (Cal.weak h (fun o w3 h => ?_))
      rcases rIt_of h with ⟨x4, rfl, h⟩ | ⟨b, rfl, h⟩
      rotate_left
      · exact h
      refine v_ifne (pc := 38) (tgt := 45) d_Md_noFold_38 (by decide) (fun c => ?_) (fun c => ?_)
      · replace h := h.1 c
        refine v_iconst (pc := 45) d_Md_noFold_45 (by decide) ?_
        exact v_zret (pc := 46) d_Md_noFold_46 rfl (by decide) h
      · replace h := h.2 c
        refine v_iconst (pc := 41) d_Md_noFold_41 (by decide) ?_
        refine v_goto (pc := 42) (tgt := 46) d_Md_noFold_42 (by decide) ?_
        exact v_zret (pc := 46) d_Md_noFold_46 rfl (by decide) h
theorem d_Md_message_0 : decode jMd_message.cc 0 = .ok (.aload_n 0, 1) := by decide +kernel
theorem d_Md_message_1 : decode jMd_message.cc 1 = .ok (.iconst 0, 1) := by decide +kernel
theorem d_Md_message_2 : decode jMd_message.cc 2 = .ok (.putfield 1, 3) := by decide +kernel
theorem d_Md_message_5 : decode jMd_message.cc 5 = .ok (.aload_n 0, 1) := by decide +kernel
theorem d_Md_message_6 : decode jMd_message.cc 6 = .ok (.iload_n 1, 1) := by decide +kernel
theorem d_Md_message_7 : decode jMd_message.cc 7 = .ok (.iload_n 2, 1) := by decide +kernel
theorem d_Md_message_8 : decode jMd_message.cc 8 = .ok (.invokevirtual 663, 3) := by decide +kernel
theorem d_Md_message_11 : decode jMd_message.cc 11 = .ok (.ifCond .eq 5, 3) := by decide +kernel
theorem d_Md_message_14 : decode jMd_message.cc 14 = .ok (.iconst 0, 1) := by decide +kernel
theorem d_Md_message_15 : decode jMd_message.cc 15 = .ok (.ireturn, 1) := by decide +kernel
theorem d_Md_message_16 : decode jMd_message.cc 16 = .ok (.aload_n 0, 1) := by decide +kernel
theorem d_Md_message_17 : decode jMd_message.cc 17 = .ok (.getfield 273, 3) := by decide +kernel
theorem d_Md_message_20 : decode jMd_message.cc 20 = .ok (.iconst 4, 1) := by decide +kernel
theorem d_Md_message_21 : decode jMd_message.cc 21 = .ok (.iload_n 1, 1) := by decide +kernel
theorem d_Md_message_22 : decode jMd_message.cc 22 = .ok (.imul, 1) := by decide +kernel
theorem d_Md_message_23 : decode jMd_message.cc 23 = .ok (.iload_n 2, 1) := by decide +kernel
theorem d_Md_message_24 : decode jMd_message.cc 24 = .ok (.iadd, 1) := by decide +kernel
theorem d_Md_message_25 : decode jMd_message.cc 25 = .ok (.iaload, 1) := by decide +kernel
theorem d_Md_message_26 : decode jMd_message.cc 26 = .ok (.ifCond .le 16, 3) := by decide +kernel
theorem d_Md_message_29 : decode jMd_message.cc 29 = .ok (.aload_n 0, 1) := by decide +kernel
theorem d_Md_message_30 : decode jMd_message.cc 30 = .ok (.getfield 276, 3) := by decide +kernel
theorem d_Md_message_33 : decode jMd_message.cc 33 = .ok (.iconst 4, 1) := by decide +kernel
theorem d_Md_message_34 : decode jMd_message.cc 34 = .ok (.iload_n 1, 1) := by decide +kernel
theorem d_Md_message_35 : decode jMd_message.cc 35 = .ok (.imul, 1) := by decide +kernel
theorem d_Md_message_36 : decode jMd_message.cc 36 = .ok (.iload_n 2, 1) := by decide +kernel
theorem d_Md_message_37 : decode jMd_message.cc 37 = .ok (.iadd, 1) := by decide +kernel
theorem d_Md_message_38 : decode jMd_message.cc 38 = .ok (.iaload, 1) := by decide +kernel
theorem d_Md_message_39 : decode jMd_message.cc 39 = .ok (.goto 12, 3) := by decide +kernel
theorem d_Md_message_42 : decode jMd_message.cc 42 = .ok (.aload_n 0, 1) := by decide +kernel
theorem d_Md_message_43 : decode jMd_message.cc 43 = .ok (.iconst 2, 1) := by decide +kernel
theorem d_Md_message_44 : decode jMd_message.cc 44 = .ok (.iload_n 2, 1) := by decide +kernel
theorem d_Md_message_45 : decode jMd_message.cc 45 = .ok (.invokevirtual 582, 3) := by decide +kernel
theorem d_Md_message_48 : decode jMd_message.cc 48 = .ok (.invokestatic 612, 3) := by decide +kernel
theorem d_Md_message_51 : decode jMd_message.cc 51 = .ok (.ireturn, 1) := by decide +kernel
set_option maxHeartbeats 4000000 in
theorem s_Md_message {g : Mg} {d : Nat} {K : Ou → Wd → Prop} {w : Wd} {p1 : Int} {p2 : Int} (h : Cal g LM jMd_noFold d [vA 0, vI p1, vI p2] (up w 0 0 0) (fun o w1 => rIt o (fun b => K (.inr b) w1) (fun x2 => (x2 = 0 → ((0 ≤ (wr ((wr (4 * p1)) + p2)) ∧ (wr ((wr (4 * p1)) + p2)) < 160) ∧ (((w1 43 ((wr ((wr (4 * p1)) + p2)).toNat)) ≤ 0 → (Cal g LM jMd_wayOf d [vA 0, vI 2, vI p2] w1 (fun o w3 => rIt o (fun b => K (.inr b) w3) (fun x4 => Cal g LM jMd_nothing d [vI x4] w3 (fun o w5 => rIt o (fun b => K (.inr b) w5) (fun x6 => K (.inl (some (vI x6))) w5)))))) ∧ (¬ (w1 43 ((wr ((wr (4 * p1)) + p2)).toNat)) ≤ 0 → ((0 ≤ (wr ((wr (4 * p1)) + p2)) ∧ (wr ((wr (4 * p1)) + p2)) < 160) ∧ (K (.inl (some (vI (w1 44 ((wr ((wr (4 * p1)) + p2)).toNat))))) w1)))))) ∧ (¬ x2 = 0 → (K (.inl (some (vI 0))) w1))))) : V g LM jMd_message (d + 1) K 0 [(0, vA 0), (1, vI p1), (2, vI p2)] [] w := by
  refine v_aload_n (pc := 0) d_Md_message_0 rfl (.head _) ?_
  refine v_iconst (pc := 1) d_Md_message_1 (by decide) ?_
  refine v_puti (pc := 2) d_Md_message_2 fp_Md_1 cM_0.1 cM_0.2 (by decide) rfl ?_
  refine v_aload_n (pc := 5) d_Md_message_5 rfl (.head _) ?_
  refine v_iload_n (pc := 6) d_Md_message_6 rfl (.tail _ (.head _)) ?_
  refine v_iload_n (pc := 7) d_Md_message_7 rfl (.tail _ (.tail _ (.head _))) ?_
  refine v_callV (pc := 8) (J' := jMd_noFold) (d' := d) (o := 0) (ci := 13) (N := 93) (T := cT13) (As := [vI p1, vI p2]) d_Md_message_8 ml_Md_663 cM_0.1 cM_0.2 (by decide) rfl rfl (Nat.le_of_ble_eq_true rfl) (Nat.le_refl _) rfl (Cal.weak h (fun o w1 h => ?_))
  rcases rIt_of h with ⟨x2, rfl, h⟩ | ⟨b, rfl, h⟩
  rotate_left
  · exact h
  refine v_ifeq (pc := 11) (tgt := 16) d_Md_message_11 (by decide) (fun c => ?_) (fun c => ?_)
  · replace h := h.1 c
    refine v_aload_n (pc := 16) d_Md_message_16 rfl (.head _) ?_
    refine v_getr (C := "") (pc := 17) (r := 43) d_Md_message_17 fl_Md_273 cM_0.1 cM_0.2 (Or.inr ⟨_, rfl⟩) rM_0_69 ?_
    refine v_iconst (pc := 20) d_Md_message_20 (by decide) ?_
    refine v_iload_n (pc := 21) d_Md_message_21 rfl (.tail _ (.head _)) ?_
    refine v_imul (pc := 22) d_Md_message_22 ?_
    refine v_iload_n (pc := 23) d_Md_message_23 rfl (.tail _ (.tail _ (.head _))) ?_
    refine v_iadd (pc := 24) d_Md_message_24 ?_
    refine v_iald (pc := 25) (x := (w1 43 ((wr ((wr (4 * p1)) + p2)).toNat))) d_Md_message_25 cM_43.1 cM_43.2 rfl h.1 ?_
    replace h := h.2
    refine v_ifle (pc := 26) (tgt := 42) d_Md_message_26 (by decide) (fun c => ?_) (fun c => ?_)
    · replace h := h.1 c
      refine v_aload_n (pc := 42) d_Md_message_42 rfl (.head _) ?_
      refine v_iconst (pc := 43) d_Md_message_43 (by decide) ?_
      refine v_iload_n (pc := 44) d_Md_message_44 rfl (.tail _ (.tail _ (.head _))) ?_
      refine v_callV (pc := 45) (J' := jMd_wayOf) (d' := d) (o := 0) (ci := 13) (N := 93) (T := cT13) (As := [vI 2, vI p2]) d_Md_message_45 ml_Md_582 cM_0.1 cM_0.2 (by decide) rfl rfl (Nat.le_of_ble_eq_true rfl) (Nat.le_refl _) rfl (Cal.weak h (fun o w3 h => ?_))
      rcases rIt_of h with ⟨x4, rfl, h⟩ | ⟨b, rfl, h⟩
      rotate_left
      · exact h
      refine v_callS (pc := 48) (J' := jMd_nothing) (d' := d) (As := [vI x4]) d_Md_message_48 ml_Md_612 rfl (Nat.le_of_ble_eq_true rfl) (Nat.le_refl _) rfl (Cal.weak h (fun o w5 h => ?_))
      rcases rIt_of h with ⟨x6, rfl, h⟩ | ⟨b, rfl, h⟩
      rotate_left
      · exact h
      exact v_iret (pc := 51) d_Md_message_51 rfl h
    · replace h := h.2 c
      refine v_aload_n (pc := 29) d_Md_message_29 rfl (.head _) ?_
      refine v_getr (C := "") (pc := 30) (r := 44) d_Md_message_30 fl_Md_276 cM_0.1 cM_0.2 (Or.inr ⟨_, rfl⟩) rM_0_70 ?_
      refine v_iconst (pc := 33) d_Md_message_33 (by decide) ?_
      refine v_iload_n (pc := 34) d_Md_message_34 rfl (.tail _ (.head _)) ?_
      refine v_imul (pc := 35) d_Md_message_35 ?_
      refine v_iload_n (pc := 36) d_Md_message_36 rfl (.tail _ (.tail _ (.head _))) ?_
      refine v_iadd (pc := 37) d_Md_message_37 ?_
      refine v_iald (pc := 38) (x := (w1 44 ((wr ((wr (4 * p1)) + p2)).toNat))) d_Md_message_38 cM_44.1 cM_44.2 rfl h.1 ?_
      replace h := h.2
      refine v_goto (pc := 39) (tgt := 51) d_Md_message_39 (by decide) ?_
      exact v_iret (pc := 51) d_Md_message_51 rfl h
  · replace h := h.2 c
    refine v_iconst (pc := 14) d_Md_message_14 (by decide) ?_
    exact v_iret (pc := 15) d_Md_message_15 rfl h
theorem d_Md_messages_0 : decode jMd_messages.cc 0 = .ok (.aload_n 0, 1) := by decide +kernel
theorem d_Md_messages_1 : decode jMd_messages.cc 1 = .ok (.iconst 0, 1) := by decide +kernel
theorem d_Md_messages_2 : decode jMd_messages.cc 2 = .ok (.putfield 1, 3) := by decide +kernel
theorem d_Md_messages_5 : decode jMd_messages.cc 5 = .ok (.aload_n 0, 1) := by decide +kernel
theorem d_Md_messages_6 : decode jMd_messages.cc 6 = .ok (.iload_n 1, 1) := by decide +kernel
theorem d_Md_messages_7 : decode jMd_messages.cc 7 = .ok (.iload_n 2, 1) := by decide +kernel
theorem d_Md_messages_8 : decode jMd_messages.cc 8 = .ok (.invokevirtual 663, 3) := by decide +kernel
theorem d_Md_messages_11 : decode jMd_messages.cc 11 = .ok (.ifCond .eq 7, 3) := by decide +kernel
theorem d_Md_messages_14 : decode jMd_messages.cc 14 = .ok (.iconst (-1), 1) := by decide +kernel
theorem d_Md_messages_15 : decode jMd_messages.cc 15 = .ok (.goto 13, 3) := by decide +kernel
theorem d_Md_messages_18 : decode jMd_messages.cc 18 = .ok (.aload_n 0, 1) := by decide +kernel
theorem d_Md_messages_19 : decode jMd_messages.cc 19 = .ok (.getfield 273, 3) := by decide +kernel
theorem d_Md_messages_22 : decode jMd_messages.cc 22 = .ok (.iconst 4, 1) := by decide +kernel
theorem d_Md_messages_23 : decode jMd_messages.cc 23 = .ok (.iload_n 1, 1) := by decide +kernel
theorem d_Md_messages_24 : decode jMd_messages.cc 24 = .ok (.imul, 1) := by decide +kernel
theorem d_Md_messages_25 : decode jMd_messages.cc 25 = .ok (.iload_n 2, 1) := by decide +kernel
theorem d_Md_messages_26 : decode jMd_messages.cc 26 = .ok (.iadd, 1) := by decide +kernel
theorem d_Md_messages_27 : decode jMd_messages.cc 27 = .ok (.iaload, 1) := by decide +kernel
theorem d_Md_messages_28 : decode jMd_messages.cc 28 = .ok (.ireturn, 1) := by decide +kernel
set_option maxHeartbeats 4000000 in
theorem s_Md_messages {g : Mg} {d : Nat} {K : Ou → Wd → Prop} {w : Wd} {p1 : Int} {p2 : Int} (h : Cal g LM jMd_noFold d [vA 0, vI p1, vI p2] (up w 0 0 0) (fun o w1 => rIt o (fun b => K (.inr b) w1) (fun x2 => (x2 = 0 → ((0 ≤ (wr ((wr (4 * p1)) + p2)) ∧ (wr ((wr (4 * p1)) + p2)) < 160) ∧ (K (.inl (some (vI (w1 43 ((wr ((wr (4 * p1)) + p2)).toNat))))) w1))) ∧ (¬ x2 = 0 → (K (.inl (some (vI (-1)))) w1))))) : V g LM jMd_messages (d + 1) K 0 [(0, vA 0), (1, vI p1), (2, vI p2)] [] w := by
  refine v_aload_n (pc := 0) d_Md_messages_0 rfl (.head _) ?_
  refine v_iconst (pc := 1) d_Md_messages_1 (by decide) ?_
  refine v_puti (pc := 2) d_Md_messages_2 fp_Md_1 cM_0.1 cM_0.2 (by decide) rfl ?_
  refine v_aload_n (pc := 5) d_Md_messages_5 rfl (.head _) ?_
  refine v_iload_n (pc := 6) d_Md_messages_6 rfl (.tail _ (.head _)) ?_
  refine v_iload_n (pc := 7) d_Md_messages_7 rfl (.tail _ (.tail _ (.head _))) ?_
  refine v_callV (pc := 8) (J' := jMd_noFold) (d' := d) (o := 0) (ci := 13) (N := 93) (T := cT13) (As := [vI p1, vI p2]) d_Md_messages_8 ml_Md_663 cM_0.1 cM_0.2 (by decide) rfl rfl (Nat.le_of_ble_eq_true rfl) (Nat.le_refl _) rfl (Cal.weak h (fun o w1 h => ?_))
  rcases rIt_of h with ⟨x2, rfl, h⟩ | ⟨b, rfl, h⟩
  rotate_left
  · exact h
  refine v_ifeq (pc := 11) (tgt := 18) d_Md_messages_11 (by decide) (fun c => ?_) (fun c => ?_)
  · replace h := h.1 c
    refine v_aload_n (pc := 18) d_Md_messages_18 rfl (.head _) ?_
    refine v_getr (C := "") (pc := 19) (r := 43) d_Md_messages_19 fl_Md_273 cM_0.1 cM_0.2 (Or.inr ⟨_, rfl⟩) rM_0_69 ?_
    refine v_iconst (pc := 22) d_Md_messages_22 (by decide) ?_
    refine v_iload_n (pc := 23) d_Md_messages_23 rfl (.tail _ (.head _)) ?_
    refine v_imul (pc := 24) d_Md_messages_24 ?_
    refine v_iload_n (pc := 25) d_Md_messages_25 rfl (.tail _ (.tail _ (.head _))) ?_
    refine v_iadd (pc := 26) d_Md_messages_26 ?_
    refine v_iald (pc := 27) (x := (w1 43 ((wr ((wr (4 * p1)) + p2)).toNat))) d_Md_messages_27 cM_43.1 cM_43.2 rfl h.1 ?_
    replace h := h.2
    exact v_iret (pc := 28) d_Md_messages_28 rfl h
  · replace h := h.2 c
    refine v_iconst (pc := 14) d_Md_messages_14 (by decide) ?_
    refine v_goto (pc := 15) (tgt := 28) d_Md_messages_15 (by decide) ?_
    exact v_iret (pc := 28) d_Md_messages_28 rfl h
theorem d_Md_global_0 : decode jMd_global.cc 0 = .ok (.aload_n 0, 1) := by decide +kernel
theorem d_Md_global_1 : decode jMd_global.cc 1 = .ok (.iconst 0, 1) := by decide +kernel
theorem d_Md_global_2 : decode jMd_global.cc 2 = .ok (.putfield 1, 3) := by decide +kernel
theorem d_Md_global_5 : decode jMd_global.cc 5 = .ok (.aload_n 0, 1) := by decide +kernel
theorem d_Md_global_6 : decode jMd_global.cc 6 = .ok (.getfield 510, 3) := by decide +kernel
theorem d_Md_global_9 : decode jMd_global.cc 9 = .ok (.ifCond .eq 21, 3) := by decide +kernel
theorem d_Md_global_12 : decode jMd_global.cc 12 = .ok (.iload_n 1, 1) := by decide +kernel
theorem d_Md_global_13 : decode jMd_global.cc 13 = .ok (.i2l, 1) := by decide +kernel
theorem d_Md_global_14 : decode jMd_global.cc 14 = .ok (.lconst 0, 1) := by decide +kernel
theorem d_Md_global_15 : decode jMd_global.cc 15 = .ok (.aload_n 0, 1) := by decide +kernel
theorem d_Md_global_16 : decode jMd_global.cc 16 = .ok (.getfield 185, 3) := by decide +kernel
theorem d_Md_global_19 : decode jMd_global.cc 19 = .ok (.iconst 3, 1) := by decide +kernel
theorem d_Md_global_20 : decode jMd_global.cc 20 = .ok (.iaload, 1) := by decide +kernel
theorem d_Md_global_21 : decode jMd_global.cc 21 = .ok (.iconst 1, 1) := by decide +kernel
theorem d_Md_global_22 : decode jMd_global.cc 22 = .ok (.isub, 1) := by decide +kernel
theorem d_Md_global_23 : decode jMd_global.cc 23 = .ok (.i2l, 1) := by decide +kernel
theorem d_Md_global_24 : decode jMd_global.cc 24 = .ok (.invokestatic 312, 3) := by decide +kernel
theorem d_Md_global_27 : decode jMd_global.cc 27 = .ok (.ifCond .ne 5, 3) := by decide +kernel
theorem d_Md_global_30 : decode jMd_global.cc 30 = .ok (.iconst 0, 1) := by decide +kernel
theorem d_Md_global_31 : decode jMd_global.cc 31 = .ok (.ireturn, 1) := by decide +kernel
theorem d_Md_global_32 : decode jMd_global.cc 32 = .ok (.aload_n 0, 1) := by decide +kernel
theorem d_Md_global_33 : decode jMd_global.cc 33 = .ok (.getfield 279, 3) := by decide +kernel
theorem d_Md_global_36 : decode jMd_global.cc 36 = .ok (.iload_n 1, 1) := by decide +kernel
theorem d_Md_global_37 : decode jMd_global.cc 37 = .ok (.iaload, 1) := by decide +kernel
theorem d_Md_global_38 : decode jMd_global.cc 38 = .ok (.ifCond .le 12, 3) := by decide +kernel
theorem d_Md_global_41 : decode jMd_global.cc 41 = .ok (.aload_n 0, 1) := by decide +kernel
theorem d_Md_global_42 : decode jMd_global.cc 42 = .ok (.getfield 282, 3) := by decide +kernel
theorem d_Md_global_45 : decode jMd_global.cc 45 = .ok (.iload_n 1, 1) := by decide +kernel
theorem d_Md_global_46 : decode jMd_global.cc 46 = .ok (.iaload, 1) := by decide +kernel
theorem d_Md_global_47 : decode jMd_global.cc 47 = .ok (.goto 12, 3) := by decide +kernel
theorem d_Md_global_50 : decode jMd_global.cc 50 = .ok (.aload_n 0, 1) := by decide +kernel
theorem d_Md_global_51 : decode jMd_global.cc 51 = .ok (.iconst 3, 1) := by decide +kernel
theorem d_Md_global_52 : decode jMd_global.cc 52 = .ok (.iload_n 1, 1) := by decide +kernel
theorem d_Md_global_53 : decode jMd_global.cc 53 = .ok (.invokevirtual 582, 3) := by decide +kernel
theorem d_Md_global_56 : decode jMd_global.cc 56 = .ok (.invokestatic 612, 3) := by decide +kernel
theorem d_Md_global_59 : decode jMd_global.cc 59 = .ok (.ireturn, 1) := by decide +kernel
set_option maxHeartbeats 4000000 in
theorem s_Md_global {g : Mg} {d : Nat} {K : Ou → Wd → Prop} {w : Wd} {p1 : Int} (h : ((w 0 64) = 0 → (K (.inl (some (vI 0))) (up w 0 0 0))) ∧ (¬ (w 0 64) = 0 → (Cal g LM jMd_in d [vL p1, vL 0, vL (wr ((w 16 3) - 1))] (up w 0 0 0) (fun o w1 => rIt o (fun b => K (.inr b) w1) (fun x2 => (¬ x2 = 0 → ((0 ≤ p1 ∧ p1 < 4) ∧ (((w1 45 p1.toNat) ≤ 0 → (Cal g LM jMd_wayOf d [vA 0, vI 3, vI p1] w1 (fun o w3 => rIt o (fun b => K (.inr b) w3) (fun x4 => Cal g LM jMd_nothing d [vI x4] w3 (fun o w5 => rIt o (fun b => K (.inr b) w5) (fun x6 => K (.inl (some (vI x6))) w5)))))) ∧ (¬ (w1 45 p1.toNat) ≤ 0 → ((0 ≤ p1 ∧ p1 < 4) ∧ (K (.inl (some (vI (w1 46 p1.toNat)))) w1)))))) ∧ (x2 = 0 → (K (.inl (some (vI 0))) w1))))))) : V g LM jMd_global (d + 1) K 0 [(0, vA 0), (1, vI p1)] [] w := by
  refine v_aload_n (pc := 0) d_Md_global_0 rfl (.head _) ?_
  refine v_iconst (pc := 1) d_Md_global_1 (by decide) ?_
  refine v_puti (pc := 2) d_Md_global_2 fp_Md_1 cM_0.1 cM_0.2 (by decide) rfl ?_
  refine v_aload_n (pc := 5) d_Md_global_5 rfl (.head _) ?_
  refine v_geti (pc := 6) (x := (w 0 64)) d_Md_global_6 fl_Md_510 cM_0.1 cM_0.2 (Or.inr rfl) rfl ?_
  refine v_ifeq (pc := 9) (tgt := 30) d_Md_global_9 (by decide) (fun c => ?_) (fun c => ?_)
  · replace h := h.1 c
    refine v_iconst (pc := 30) d_Md_global_30 (by decide) ?_
    exact v_iret (pc := 31) d_Md_global_31 rfl h
  · replace h := h.2 c
    refine v_iload_n (pc := 12) d_Md_global_12 rfl (.tail _ (.head _)) ?_
    refine v_i2l (pc := 13) d_Md_global_13 ?_
    refine v_lconst (pc := 14) (x := 0) d_Md_global_14 (by decide) rfl ?_
    refine v_aload_n (pc := 15) d_Md_global_15 rfl (.head _) ?_
    refine v_getr (C := "") (pc := 16) (r := 16) d_Md_global_16 fl_Md_185 cM_0.1 cM_0.2 (Or.inr ⟨_, rfl⟩) rM_0_21 ?_
    refine v_iconst (pc := 19) d_Md_global_19 (by decide) ?_
    refine v_iald (pc := 20) (x := (w 16 3)) d_Md_global_20 cM_16.1 cM_16.2 rfl (by decide) ?_
    refine v_iconst (pc := 21) d_Md_global_21 (by decide) ?_
    refine v_isub (pc := 22) d_Md_global_22 ?_
    refine v_i2l (pc := 23) d_Md_global_23 ?_
    refine v_callS (pc := 24) (J' := jMd_in) (d' := d) (As := [vL p1, vL 0, vL (wr ((w 16 3) - 1))]) d_Md_global_24 ml_Md_312 rfl (Nat.le_of_ble_eq_true rfl) (Nat.le_refl _) rfl (Cal.weak h (fun o w1 h => ?_))
    rcases rIt_of h with ⟨x2, rfl, h⟩ | ⟨b, rfl, h⟩
    rotate_left
    · exact h
    refine v_ifne (pc := 27) (tgt := 32) d_Md_global_27 (by decide) (fun c => ?_) (fun c => ?_)
    · replace h := h.1 c
      refine v_aload_n (pc := 32) d_Md_global_32 rfl (.head _) ?_
      refine v_getr (C := "") (pc := 33) (r := 45) d_Md_global_33 fl_Md_279 cM_0.1 cM_0.2 (Or.inr ⟨_, rfl⟩) rM_0_71 ?_
      refine v_iload_n (pc := 36) d_Md_global_36 rfl (.tail _ (.head _)) ?_
      refine v_iald (pc := 37) (x := (w1 45 p1.toNat)) d_Md_global_37 cM_45.1 cM_45.2 rfl h.1 ?_
      replace h := h.2
      refine v_ifle (pc := 38) (tgt := 50) d_Md_global_38 (by decide) (fun c => ?_) (fun c => ?_)
      · replace h := h.1 c
        refine v_aload_n (pc := 50) d_Md_global_50 rfl (.head _) ?_
        refine v_iconst (pc := 51) d_Md_global_51 (by decide) ?_
        refine v_iload_n (pc := 52) d_Md_global_52 rfl (.tail _ (.head _)) ?_
        refine v_callV (pc := 53) (J' := jMd_wayOf) (d' := d) (o := 0) (ci := 13) (N := 93) (T := cT13) (As := [vI 3, vI p1]) d_Md_global_53 ml_Md_582 cM_0.1 cM_0.2 (by decide) rfl rfl (Nat.le_of_ble_eq_true rfl) (Nat.le_refl _) rfl (Cal.weak h (fun o w3 h => ?_))
        rcases rIt_of h with ⟨x4, rfl, h⟩ | ⟨b, rfl, h⟩
        rotate_left
        · exact h
        refine v_callS (pc := 56) (J' := jMd_nothing) (d' := d) (As := [vI x4]) d_Md_global_56 ml_Md_612 rfl (Nat.le_of_ble_eq_true rfl) (Nat.le_refl _) rfl (Cal.weak h (fun o w5 h => ?_))
        rcases rIt_of h with ⟨x6, rfl, h⟩ | ⟨b, rfl, h⟩
        rotate_left
        · exact h
        exact v_iret (pc := 59) d_Md_global_59 rfl h
      · replace h := h.2 c
        refine v_aload_n (pc := 41) d_Md_global_41 rfl (.head _) ?_
        refine v_getr (C := "") (pc := 42) (r := 46) d_Md_global_42 fl_Md_282 cM_0.1 cM_0.2 (Or.inr ⟨_, rfl⟩) rM_0_72 ?_
        refine v_iload_n (pc := 45) d_Md_global_45 rfl (.tail _ (.head _)) ?_
        refine v_iald (pc := 46) (x := (w1 46 p1.toNat)) d_Md_global_46 cM_46.1 cM_46.2 rfl h.1 ?_
        replace h := h.2
        refine v_goto (pc := 47) (tgt := 59) d_Md_global_47 (by decide) ?_
        exact v_iret (pc := 59) d_Md_global_59 rfl h
    · replace h := h.2 c
      refine v_iconst (pc := 30) d_Md_global_30 (by decide) ?_
      exact v_iret (pc := 31) d_Md_global_31 rfl h
theorem d_Md_halted_0 : decode jMd_halted.cc 0 = .ok (.aload_n 0, 1) := by decide +kernel
theorem d_Md_halted_1 : decode jMd_halted.cc 1 = .ok (.iconst 0, 1) := by decide +kernel
theorem d_Md_halted_2 : decode jMd_halted.cc 2 = .ok (.putfield 1, 3) := by decide +kernel
theorem d_Md_halted_5 : decode jMd_halted.cc 5 = .ok (.aload_n 0, 1) := by decide +kernel
theorem d_Md_halted_6 : decode jMd_halted.cc 6 = .ok (.getfield 510, 3) := by decide +kernel
theorem d_Md_halted_9 : decode jMd_halted.cc 9 = .ok (.ifCond .eq 19, 3) := by decide +kernel
theorem d_Md_halted_12 : decode jMd_halted.cc 12 = .ok (.iload_n 1, 1) := by decide +kernel
theorem d_Md_halted_13 : decode jMd_halted.cc 13 = .ok (.i2l, 1) := by decide +kernel
theorem d_Md_halted_14 : decode jMd_halted.cc 14 = .ok (.lconst 0, 1) := by decide +kernel
theorem d_Md_halted_15 : decode jMd_halted.cc 15 = .ok (.aload_n 0, 1) := by decide +kernel
theorem d_Md_halted_16 : decode jMd_halted.cc 16 = .ok (.getfield 305, 3) := by decide +kernel
theorem d_Md_halted_19 : decode jMd_halted.cc 19 = .ok (.iconst 1, 1) := by decide +kernel
theorem d_Md_halted_20 : decode jMd_halted.cc 20 = .ok (.isub, 1) := by decide +kernel
theorem d_Md_halted_21 : decode jMd_halted.cc 21 = .ok (.i2l, 1) := by decide +kernel
theorem d_Md_halted_22 : decode jMd_halted.cc 22 = .ok (.invokestatic 312, 3) := by decide +kernel
theorem d_Md_halted_25 : decode jMd_halted.cc 25 = .ok (.ifCond .ne 7, 3) := by decide +kernel
theorem d_Md_halted_28 : decode jMd_halted.cc 28 = .ok (.iconst (-1), 1) := by decide +kernel
theorem d_Md_halted_29 : decode jMd_halted.cc 29 = .ok (.goto 17, 3) := by decide +kernel
theorem d_Md_halted_32 : decode jMd_halted.cc 32 = .ok (.aload_n 0, 1) := by decide +kernel
theorem d_Md_halted_33 : decode jMd_halted.cc 33 = .ok (.getfield 270, 3) := by decide +kernel
theorem d_Md_halted_36 : decode jMd_halted.cc 36 = .ok (.iload_n 1, 1) := by decide +kernel
theorem d_Md_halted_37 : decode jMd_halted.cc 37 = .ok (.baload, 1) := by decide +kernel
theorem d_Md_halted_38 : decode jMd_halted.cc 38 = .ok (.ifCond .eq 7, 3) := by decide +kernel
theorem d_Md_halted_41 : decode jMd_halted.cc 41 = .ok (.iconst 1, 1) := by decide +kernel
theorem d_Md_halted_42 : decode jMd_halted.cc 42 = .ok (.goto 4, 3) := by decide +kernel
theorem d_Md_halted_45 : decode jMd_halted.cc 45 = .ok (.iconst 0, 1) := by decide +kernel
theorem d_Md_halted_46 : decode jMd_halted.cc 46 = .ok (.ireturn, 1) := by decide +kernel
set_option maxHeartbeats 4000000 in
theorem s_Md_halted {g : Mg} {d : Nat} {K : Ou → Wd → Prop} {w : Wd} {p1 : Int} (h : ((w 0 64) = 0 → (K (.inl (some (vI (-1)))) (up w 0 0 0))) ∧ (¬ (w 0 64) = 0 → (Cal g LM jMd_in d [vL p1, vL 0, vL (wr ((w 0 59) - 1))] (up w 0 0 0) (fun o w1 => rIt o (fun b => K (.inr b) w1) (fun x2 => (¬ x2 = 0 → ((0 ≤ p1 ∧ p1 < 40) ∧ (((w1 42 p1.toNat) = 0 → (K (.inl (some (vI 0))) w1)) ∧ (¬ (w1 42 p1.toNat) = 0 → (K (.inl (some (vI 1))) w1))))) ∧ (x2 = 0 → (K (.inl (some (vI (-1)))) w1))))))) : V g LM jMd_halted (d + 1) K 0 [(0, vA 0), (1, vI p1)] [] w := by
  refine v_aload_n (pc := 0) d_Md_halted_0 rfl (.head _) ?_
  refine v_iconst (pc := 1) d_Md_halted_1 (by decide) ?_
  refine v_puti (pc := 2) d_Md_halted_2 fp_Md_1 cM_0.1 cM_0.2 (by decide) rfl ?_
  refine v_aload_n (pc := 5) d_Md_halted_5 rfl (.head _) ?_
  refine v_geti (pc := 6) (x := (w 0 64)) d_Md_halted_6 fl_Md_510 cM_0.1 cM_0.2 (Or.inr rfl) rfl ?_
  refine v_ifeq (pc := 9) (tgt := 28) d_Md_halted_9 (by decide) (fun c => ?_) (fun c => ?_)
  · replace h := h.1 c
    refine v_iconst (pc := 28) d_Md_halted_28 (by decide) ?_
    refine v_goto (pc := 29) (tgt := 46) d_Md_halted_29 (by decide) ?_
    exact v_iret (pc := 46) d_Md_halted_46 rfl h
  · replace h := h.2 c
    refine v_iload_n (pc := 12) d_Md_halted_12 rfl (.tail _ (.head _)) ?_
    refine v_i2l (pc := 13) d_Md_halted_13 ?_
    refine v_lconst (pc := 14) (x := 0) d_Md_halted_14 (by decide) rfl ?_
    refine v_aload_n (pc := 15) d_Md_halted_15 rfl (.head _) ?_
    refine v_geti (pc := 16) (x := (w 0 59)) d_Md_halted_16 fl_Md_305 cM_0.1 cM_0.2 (Or.inl rfl) rfl ?_
    refine v_iconst (pc := 19) d_Md_halted_19 (by decide) ?_
    refine v_isub (pc := 20) d_Md_halted_20 ?_
    refine v_i2l (pc := 21) d_Md_halted_21 ?_
    refine v_callS (pc := 22) (J' := jMd_in) (d' := d) (As := [vL p1, vL 0, vL (wr ((w 0 59) - 1))]) d_Md_halted_22 ml_Md_312 rfl (Nat.le_of_ble_eq_true rfl) (Nat.le_refl _) rfl (Cal.weak h (fun o w1 h => ?_))
    rcases rIt_of h with ⟨x2, rfl, h⟩ | ⟨b, rfl, h⟩
    rotate_left
    · exact h
    refine v_ifne (pc := 25) (tgt := 32) d_Md_halted_25 (by decide) (fun c => ?_) (fun c => ?_)
    · replace h := h.1 c
      refine v_aload_n (pc := 32) d_Md_halted_32 rfl (.head _) ?_
      refine v_getr (C := "") (pc := 33) (r := 42) d_Md_halted_33 fl_Md_270 cM_0.1 cM_0.2 (Or.inr ⟨_, rfl⟩) rM_0_68 ?_
      refine v_iload_n (pc := 36) d_Md_halted_36 rfl (.tail _ (.head _)) ?_
      refine v_zald (pc := 37) (x := (w1 42 p1.toNat)) d_Md_halted_37 cM_42.1 cM_42.2 rfl h.1 ?_
      replace h := h.2
      refine v_ifeq (pc := 38) (tgt := 45) d_Md_halted_38 (by decide) (fun c => ?_) (fun c => ?_)
      · replace h := h.1 c
        refine v_iconst (pc := 45) d_Md_halted_45 (by decide) ?_
        exact v_iret (pc := 46) d_Md_halted_46 rfl h
      · replace h := h.2 c
        refine v_iconst (pc := 41) d_Md_halted_41 (by decide) ?_
        refine v_goto (pc := 42) (tgt := 46) d_Md_halted_42 (by decide) ?_
        exact v_iret (pc := 46) d_Md_halted_46 rfl h
    · replace h := h.2 c
      refine v_iconst (pc := 28) d_Md_halted_28 (by decide) ?_
      refine v_goto (pc := 29) (tgt := 46) d_Md_halted_29 (by decide) ?_
      exact v_iret (pc := 46) d_Md_halted_46 rfl h
