theorem d_Re_read_0 : decode jRe_read.cc 0 = .ok (.aload_n 0, 1) := by decide +kernel
theorem d_Re_read_1 : decode jRe_read.cc 1 = .ok (.getfield 13, 3) := by decide +kernel
theorem d_Re_read_4 : decode jRe_read.cc 4 = .ok (.invokevirtual 47, 3) := by decide +kernel
theorem d_Re_read_7 : decode jRe_read.cc 7 = .ok (.aload_n 0, 1) := by decide +kernel
theorem d_Re_read_8 : decode jRe_read.cc 8 = .ok (.getfield 34, 3) := by decide +kernel
theorem d_Re_read_11 : decode jRe_read.cc 11 = .ok (.invokevirtual 50, 3) := by decide +kernel
theorem d_Re_read_14 : decode jRe_read.cc 14 = .ok (.aload_n 0, 1) := by decide +kernel
theorem d_Re_read_15 : decode jRe_read.cc 15 = .ok (.getfield 43, 3) := by decide +kernel
theorem d_Re_read_18 : decode jRe_read.cc 18 = .ok (.invokevirtual 53, 3) := by decide +kernel
theorem d_Re_read_21 : decode jRe_read.cc 21 = .ok (.aload_n 0, 1) := by decide +kernel
theorem d_Re_read_22 : decode jRe_read.cc 22 = .ok (.iconst 0, 1) := by decide +kernel
theorem d_Re_read_23 : decode jRe_read.cc 23 = .ok (.putfield 54, 3) := by decide +kernel
theorem d_Re_read_26 : decode jRe_read.cc 26 = .ok (.iconst 0, 1) := by decide +kernel
theorem d_Re_read_27 : decode jRe_read.cc 27 = .ok (.istore_n 1, 1) := by decide +kernel
theorem d_Re_read_28 : decode jRe_read.cc 28 = .ok (.iload_n 1, 1) := by decide +kernel
theorem d_Re_read_29 : decode jRe_read.cc 29 = .ok (.sipush 1000, 3) := by decide +kernel
theorem d_Re_read_32 : decode jRe_read.cc 32 = .ok (.if_icmp .ge 26, 3) := by decide +kernel
theorem d_Re_read_35 : decode jRe_read.cc 35 = .ok (.aload_n 0, 1) := by decide +kernel
theorem d_Re_read_36 : decode jRe_read.cc 36 = .ok (.getfield 34, 3) := by decide +kernel
theorem d_Re_read_39 : decode jRe_read.cc 39 = .ok (.invokevirtual 60, 3) := by decide +kernel
theorem d_Re_read_42 : decode jRe_read.cc 42 = .ok (.invokestatic 64, 3) := by decide +kernel
theorem d_Re_read_45 : decode jRe_read.cc 45 = .ok (.ifCond .eq 13, 3) := by decide +kernel
theorem d_Re_read_48 : decode jRe_read.cc 48 = .ok (.aload_n 0, 1) := by decide +kernel
theorem d_Re_read_49 : decode jRe_read.cc 49 = .ok (.invokevirtual 68, 3) := by decide +kernel
theorem d_Re_read_52 : decode jRe_read.cc 52 = .ok (.iinc 1 1, 3) := by decide +kernel
theorem d_Re_read_55 : decode jRe_read.cc 55 = .ok (.goto (-27), 3) := by decide +kernel
theorem d_Re_read_58 : decode jRe_read.cc 58 = .ok (.aload_n 0, 1) := by decide +kernel
theorem d_Re_read_59 : decode jRe_read.cc 59 = .ok (.getfield 34, 3) := by decide +kernel
theorem d_Re_read_62 : decode jRe_read.cc 62 = .ok (.bipush 41, 2) := by decide +kernel
theorem d_Re_read_64 : decode jRe_read.cc 64 = .ok (.invokevirtual 71, 3) := by decide +kernel
theorem d_Re_read_67 : decode jRe_read.cc 67 = .ok (.pop, 1) := by decide +kernel
theorem d_Re_read_68 : decode jRe_read.cc 68 = .ok (.aload_n 0, 1) := by decide +kernel
theorem d_Re_read_69 : decode jRe_read.cc 69 = .ok (.getfield 13, 3) := by decide +kernel
theorem d_Re_read_72 : decode jRe_read.cc 72 = .ok (.aload_n 0, 1) := by decide +kernel
theorem d_Re_read_73 : decode jRe_read.cc 73 = .ok (.getfield 28, 3) := by decide +kernel
theorem d_Re_read_76 : decode jRe_read.cc 76 = .ok (.getfield 75, 3) := by decide +kernel
theorem d_Re_read_79 : decode jRe_read.cc 79 = .ok (.putfield 80, 3) := by decide +kernel
theorem d_Re_read_82 : decode jRe_read.cc 82 = .ok (.aload_n 0, 1) := by decide +kernel
theorem d_Re_read_83 : decode jRe_read.cc 83 = .ok (.iconst 0, 1) := by decide +kernel
theorem d_Re_read_84 : decode jRe_read.cc 84 = .ok (.invokevirtual 83, 3) := by decide +kernel
theorem d_Re_read_87 : decode jRe_read.cc 87 = .ok (.aload_n 0, 1) := by decide +kernel
theorem d_Re_read_88 : decode jRe_read.cc 88 = .ok (.getfield 28, 3) := by decide +kernel
theorem d_Re_read_91 : decode jRe_read.cc 91 = .ok (.bipush 31, 2) := by decide +kernel
theorem d_Re_read_93 : decode jRe_read.cc 93 = .ok (.iconst 0, 1) := by decide +kernel
theorem d_Re_read_94 : decode jRe_read.cc 94 = .ok (.iconst 0, 1) := by decide +kernel
theorem d_Re_read_95 : decode jRe_read.cc 95 = .ok (.invokevirtual 87, 3) := by decide +kernel
theorem d_Re_read_98 : decode jRe_read.cc 98 = .ok (.pop, 1) := by decide +kernel
theorem d_Re_read_99 : decode jRe_read.cc 99 = .ok (.aload_n 0, 1) := by decide +kernel
theorem d_Re_read_100 : decode jRe_read.cc 100 = .ok (.getfield 34, 3) := by decide +kernel
theorem d_Re_read_103 : decode jRe_read.cc 103 = .ok (.bipush 42, 2) := by decide +kernel
theorem d_Re_read_105 : decode jRe_read.cc 105 = .ok (.invokevirtual 71, 3) := by decide +kernel
theorem d_Re_read_108 : decode jRe_read.cc 108 = .ok (.pop, 1) := by decide +kernel
theorem d_Re_read_109 : decode jRe_read.cc 109 = .ok (.aload_n 0, 1) := by decide +kernel
theorem d_Re_read_110 : decode jRe_read.cc 110 = .ok (.getfield 13, 3) := by decide +kernel
theorem d_Re_read_113 : decode jRe_read.cc 113 = .ok (.aload_n 0, 1) := by decide +kernel
theorem d_Re_read_114 : decode jRe_read.cc 114 = .ok (.getfield 28, 3) := by decide +kernel
theorem d_Re_read_117 : decode jRe_read.cc 117 = .ok (.getfield 75, 3) := by decide +kernel
theorem d_Re_read_120 : decode jRe_read.cc 120 = .ok (.putfield 91, 3) := by decide +kernel
theorem d_Re_read_123 : decode jRe_read.cc 123 = .ok (.aload_n 0, 1) := by decide +kernel
theorem d_Re_read_124 : decode jRe_read.cc 124 = .ok (.iconst 0, 1) := by decide +kernel
theorem d_Re_read_125 : decode jRe_read.cc 125 = .ok (.invokevirtual 83, 3) := by decide +kernel
theorem d_Re_read_128 : decode jRe_read.cc 128 = .ok (.aload_n 0, 1) := by decide +kernel
theorem d_Re_read_129 : decode jRe_read.cc 129 = .ok (.getfield 28, 3) := by decide +kernel
theorem d_Re_read_132 : decode jRe_read.cc 132 = .ok (.bipush 31, 2) := by decide +kernel
theorem d_Re_read_134 : decode jRe_read.cc 134 = .ok (.iconst 0, 1) := by decide +kernel
theorem d_Re_read_135 : decode jRe_read.cc 135 = .ok (.iconst 0, 1) := by decide +kernel
theorem d_Re_read_136 : decode jRe_read.cc 136 = .ok (.invokevirtual 87, 3) := by decide +kernel
theorem d_Re_read_139 : decode jRe_read.cc 139 = .ok (.pop, 1) := by decide +kernel
theorem d_Re_read_140 : decode jRe_read.cc 140 = .ok (.aload_n 0, 1) := by decide +kernel
theorem d_Re_read_141 : decode jRe_read.cc 141 = .ok (.getfield 34, 3) := by decide +kernel
theorem d_Re_read_144 : decode jRe_read.cc 144 = .ok (.iconst 0, 1) := by decide +kernel
theorem d_Re_read_145 : decode jRe_read.cc 145 = .ok (.invokevirtual 94, 3) := by decide +kernel
theorem d_Re_read_148 : decode jRe_read.cc 148 = .ok (.ifCond .ne 11, 3) := by decide +kernel
theorem d_Re_read_151 : decode jRe_read.cc 151 = .ok (.aload_n 0, 1) := by decide +kernel
theorem d_Re_read_152 : decode jRe_read.cc 152 = .ok (.getfield 34, 3) := by decide +kernel
theorem d_Re_read_155 : decode jRe_read.cc 155 = .ok (.iconst 1, 1) := by decide +kernel
theorem d_Re_read_156 : decode jRe_read.cc 156 = .ok (.invokevirtual 97, 3) := by decide +kernel
theorem d_Re_read_159 : decode jRe_read.cc 159 = .ok (.aload_n 0, 1) := by decide +kernel
theorem d_Re_read_160 : decode jRe_read.cc 160 = .ok (.getfield 34, 3) := by decide +kernel
theorem d_Re_read_163 : decode jRe_read.cc 163 = .ok (.invokevirtual 100, 3) := by decide +kernel
theorem d_Re_read_166 : decode jRe_read.cc 166 = .ok (.ifCond .ne 15, 3) := by decide +kernel
theorem d_Re_read_169 : decode jRe_read.cc 169 = .ok (.aload_n 0, 1) := by decide +kernel
theorem d_Re_read_170 : decode jRe_read.cc 170 = .ok (.invokevirtual 103, 3) := by decide +kernel
theorem d_Re_read_173 : decode jRe_read.cc 173 = .ok (.aload_n 0, 1) := by decide +kernel
theorem d_Re_read_174 : decode jRe_read.cc 174 = .ok (.getfield 13, 3) := by decide +kernel
theorem d_Re_read_177 : decode jRe_read.cc 177 = .ok (.iconst 1, 1) := by decide +kernel
theorem d_Re_read_178 : decode jRe_read.cc 178 = .ok (.putfield 106, 3) := by decide +kernel
theorem d_Re_read_181 : decode jRe_read.cc 181 = .ok (.aload_n 0, 1) := by decide +kernel
theorem d_Re_read_182 : decode jRe_read.cc 182 = .ok (.getfield 34, 3) := by decide +kernel
theorem d_Re_read_185 : decode jRe_read.cc 185 = .ok (.invokevirtual 100, 3) := by decide +kernel
theorem d_Re_read_188 : decode jRe_read.cc 188 = .ok (.ireturn, 1) := by decide +kernel
set_option maxHeartbeats 4000000 in
theorem s_Re_read {g : Mg} {d : Nat} {K : Ou → Wd → Prop} {w : Wd} (h : Cal g LC jPr_clear d [vA 8] w (fun o w1 => rV o (Cal g LC jCu_rewind d [vA 25] w1 (fun o w2 => rV o (Cal g LC jEx_clear d [vA 26] w2 (fun o w3 => rV o (V g LC jRe_read (d + 1) K 28 [(0, vA 24), (1, vI 0)] [] (up w3 24 6 0)))))))) : V g LC jRe_read (d + 1) K 0 [(0, vA 24)] [] w := by
  refine v_aload_n (pc := 0) d_Re_read_0 rfl (.head _) ?_
  refine v_getr (C := "") (pc := 1) (r := 8) d_Re_read_1 fl_Re_13 cC_24.1 cC_24.2 (Or.inl ⟨_, rfl⟩) rC_24_1 ?_
  refine v_callV (pc := 4) (J' := jPr_clear) (d' := d) (o := 8) (ci := 7) (N := 11) (T := cT7) (As := []) d_Re_read_4 ml_Re_47 cC_8.1 cC_8.2 (by decide) rfl rfl (Nat.le_of_ble_eq_true rfl) (Nat.le_refl _) rfl (Cal.weak h (fun o w1 h => ?_))
  rcases rV_of h with ⟨rfl, h⟩
  refine v_aload_n (pc := 7) d_Re_read_7 rfl (.head _) ?_
  refine v_getr (C := "") (pc := 8) (r := 25) d_Re_read_8 fl_Re_34 cC_24.1 cC_24.2 (Or.inl ⟨_, rfl⟩) rC_24_4 ?_
  refine v_callV (pc := 11) (J' := jCu_rewind) (d' := d) (o := 25) (ci := 1) (N := 6) (T := cT1) (As := []) d_Re_read_11 ml_Re_50 cC_25.1 cC_25.2 (by decide) rfl rfl (Nat.le_of_ble_eq_true rfl) (Nat.le_refl _) rfl (Cal.weak h (fun o w2 h => ?_))
  rcases rV_of h with ⟨rfl, h⟩
  refine v_aload_n (pc := 14) d_Re_read_14 rfl (.head _) ?_
  refine v_getr (C := "") (pc := 15) (r := 26) d_Re_read_15 fl_Re_43 cC_24.1 cC_24.2 (Or.inl ⟨_, rfl⟩) rC_24_5 ?_
  refine v_callV (pc := 18) (J' := jEx_clear) (d' := d) (o := 26) (ci := 2) (N := 9) (T := cT2) (As := []) d_Re_read_18 ml_Re_53 cC_26.1 cC_26.2 (by decide) rfl rfl (Nat.le_of_ble_eq_true rfl) (Nat.le_refl _) rfl (Cal.weak h (fun o w3 h => ?_))
  rcases rV_of h with ⟨rfl, h⟩
  refine v_aload_n (pc := 21) d_Re_read_21 rfl (.head _) ?_
  refine v_iconst (pc := 22) d_Re_read_22 (by decide) ?_
  refine v_puti (pc := 23) d_Re_read_23 fp_Re_54 cC_24.1 cC_24.2 (by decide) rfl ?_
  refine v_iconst (pc := 26) d_Re_read_26 (by decide) ?_
  refine v_istore_n (pc := 27) (ls' := [(1, vI 0), (0, vA 24)]) d_Re_read_27 rfl (by decide) rfl ?_
  exact v_sub (List.forall_mem_cons.mpr ⟨(.tail _ (.head _)), (List.forall_mem_cons.mpr ⟨(.head _), (fun _ z => absurd z List.not_mem_nil)⟩)⟩) h
set_option maxHeartbeats 4000000 in
theorem s_Re_read_28 {g : Mg} {d : Nat} {K : Ou → Wd → Prop} {w : Wd} {x1_ : Int} (h : (1000 ≤ x1_ → (V g LC jRe_read (d + 1) K 58 [(0, vA 24)] [] w)) ∧ (¬ 1000 ≤ x1_ → (Cal g LC jCu_kind d [vA 25] w (fun o w1 => rI o (fun x2 => Cal g LC jRe_tells d [vI x2] w1 (fun o w3 => rI o (fun x4 => (x4 = 0 → (V g LC jRe_read (d + 1) K 58 [(0, vA 24)] [] w3)) ∧ (¬ x4 = 0 → (Cal g LC jRe_readTold d [vA 24] w3 (fun o w5 => rV o (V g LC jRe_read (d + 1) K 28 [(0, vA 24), (1, vI (wr (x1_ + 1)))] [] w5))))))))))) : V g LC jRe_read (d + 1) K 28 [(0, vA 24), (1, vI x1_)] [] w := by
  refine v_iload_n (pc := 28) d_Re_read_28 rfl (.tail _ (.head _)) ?_
  refine v_sipush (pc := 29) d_Re_read_29 (by decide) rfl ?_
  refine v_icmpge (pc := 32) (tgt := 58) d_Re_read_32 (by decide) (fun c => ?_) (fun c => ?_)
  · replace h := h.1 c
    exact v_sub (List.forall_mem_cons.mpr ⟨(.head _), (fun _ z => absurd z List.not_mem_nil)⟩) h
  · replace h := h.2 c
    refine v_aload_n (pc := 35) d_Re_read_35 rfl (.head _) ?_
    refine v_getr (C := "") (pc := 36) (r := 25) d_Re_read_36 fl_Re_34 cC_24.1 cC_24.2 (Or.inl ⟨_, rfl⟩) rC_24_4 ?_
    refine v_callV (pc := 39) (J' := jCu_kind) (d' := d) (o := 25) (ci := 1) (N := 6) (T := cT1) (As := []) d_Re_read_39 ml_Re_60 cC_25.1 cC_25.2 (by decide) rfl rfl (Nat.le_of_ble_eq_true rfl) (Nat.le_refl _) rfl (Cal.weak h (fun o w1 h => ?_))
    rcases rI_of h with ⟨x2, rfl, h⟩
    refine v_callS (pc := 42) (J' := jRe_tells) (d' := d) (As := [vI x2]) d_Re_read_42 ml_Re_64 rfl (Nat.le_of_ble_eq_true rfl) (Nat.le_refl _) rfl (Cal.weak h (fun o w3 h => ?_))
    rcases rI_of h with ⟨x4, rfl, h⟩
    refine v_ifeq (pc := 45) (tgt := 58) d_Re_read_45 (by decide) (fun c => ?_) (fun c => ?_)
    · replace h := h.1 c
      exact v_sub (List.forall_mem_cons.mpr ⟨(.head _), (fun _ z => absurd z List.not_mem_nil)⟩) h
    · replace h := h.2 c
      refine v_aload_n (pc := 48) d_Re_read_48 rfl (.head _) ?_
      refine v_callV (pc := 49) (J' := jRe_readTold) (d' := d) (o := 24) (ci := 8) (N := 7) (T := cT8) (As := []) d_Re_read_49 ml_Re_68 cC_24.1 cC_24.2 (by decide) rfl rfl (Nat.le_of_ble_eq_true rfl) (Nat.le_refl _) rfl (Cal.weak h (fun o w5 h => ?_))
      rcases rV_of h with ⟨rfl, h⟩
      refine v_iinc (pc := 52) (ls' := [(1, vI (wr (x1_ + 1))), (0, vA 24)]) d_Re_read_52 (.tail _ (.head _)) (by decide) rfl ?_
      refine v_goto (pc := 55) (tgt := 28) d_Re_read_55 (by decide) ?_
      exact v_sub (List.forall_mem_cons.mpr ⟨(.tail _ (.head _)), (List.forall_mem_cons.mpr ⟨(.head _), (fun _ z => absurd z List.not_mem_nil)⟩)⟩) h
set_option maxHeartbeats 4000000 in
theorem s_Re_read_58 {g : Mg} {d : Nat} {K : Ou → Wd → Prop} {w : Wd} (h : Cal g LC jCu_take d [vA 25, vI 41] w (fun o w1 => rI o (fun x2 => Cal g LC jRe_readBlock d [vA 24, vI 0] (up w1 8 4 (w1 19 4)) (fun o w3 => rV o (Cal g LC jCo_add d [vA 19, vI 31, vI 0, vI 0] w3 (fun o w4 => rI o (fun x5 => Cal g LC jCu_take d [vA 25, vI 42] w4 (fun o w6 => rI o (fun x7 => Cal g LC jRe_readBlock d [vA 24, vI 0] (up w6 8 5 (w6 19 4)) (fun o w8 => rV o (Cal g LC jCo_add d [vA 19, vI 31, vI 0, vI 0] w8 (fun o w9 => rI o (fun x10 => Cal g LC jCu_sees d [vA 25, vI 0] w9 (fun o w11 => rI o (fun x12 => (¬ x12 = 0 → (V g LC jRe_read (d + 1) K 159 [(0, vA 24)] [] w11)) ∧ (x12 = 0 → (Cal g LC jCu_stop d [vA 25, vI 1] w11 (fun o w13 => rV o (V g LC jRe_read (d + 1) K 159 [(0, vA 24)] [] w13))))))))))))))))))) : V g LC jRe_read (d + 1) K 58 [(0, vA 24)] [] w := by
  refine v_aload_n (pc := 58) d_Re_read_58 rfl (.head _) ?_
  refine v_getr (C := "") (pc := 59) (r := 25) d_Re_read_59 fl_Re_34 cC_24.1 cC_24.2 (Or.inl ⟨_, rfl⟩) rC_24_4 ?_
  refine v_bipush (pc := 62) d_Re_read_62 (by decide) rfl ?_
  refine v_callV (pc := 64) (J' := jCu_take) (d' := d) (o := 25) (ci := 1) (N := 6) (T := cT1) (As := [vI 41]) d_Re_read_64 ml_Re_71 cC_25.1 cC_25.2 (by decide) rfl rfl (Nat.le_of_ble_eq_true rfl) (Nat.le_refl _) rfl (Cal.weak h (fun o w1 h => ?_))
  rcases rI_of h with ⟨x2, rfl, h⟩
  refine v_pop (pc := 67) d_Re_read_67 rfl ?_
  refine v_aload_n (pc := 68) d_Re_read_68 rfl (.head _) ?_
  refine v_getr (C := "") (pc := 69) (r := 8) d_Re_read_69 fl_Re_13 cC_24.1 cC_24.2 (Or.inl ⟨_, rfl⟩) rC_24_1 ?_
  refine v_aload_n (pc := 72) d_Re_read_72 rfl (.head _) ?_
  refine v_getr (C := "") (pc := 73) (r := 19) d_Re_read_73 fl_Re_28 cC_24.1 cC_24.2 (Or.inl ⟨_, rfl⟩) rC_24_3 ?_
  refine v_geti (pc := 76) (x := (w1 19 4)) d_Re_read_76 fl_Re_75 cC_19.1 cC_19.2 (Or.inl rfl) rfl ?_
  refine v_puti (pc := 79) d_Re_read_79 fp_Re_80 cC_8.1 cC_8.2 (by decide) rfl ?_
  refine v_aload_n (pc := 82) d_Re_read_82 rfl (.head _) ?_
  refine v_iconst (pc := 83) d_Re_read_83 (by decide) ?_
  refine v_callV (pc := 84) (J' := jRe_readBlock) (d' := d) (o := 24) (ci := 8) (N := 7) (T := cT8) (As := [vI 0]) d_Re_read_84 ml_Re_83 cC_24.1 cC_24.2 (by decide) rfl rfl (Nat.le_of_ble_eq_true rfl) (Nat.le_refl _) rfl (Cal.weak h (fun o w3 h => ?_))
  rcases rV_of h with ⟨rfl, h⟩
  refine v_aload_n (pc := 87) d_Re_read_87 rfl (.head _) ?_
  refine v_getr (C := "") (pc := 88) (r := 19) d_Re_read_88 fl_Re_28 cC_24.1 cC_24.2 (Or.inl ⟨_, rfl⟩) rC_24_3 ?_
  refine v_bipush (pc := 91) d_Re_read_91 (by decide) rfl ?_
  refine v_iconst (pc := 93) d_Re_read_93 (by decide) ?_
  refine v_iconst (pc := 94) d_Re_read_94 (by decide) ?_
  refine v_callV (pc := 95) (J' := jCo_add) (d' := d) (o := 19) (ci := 0) (N := 6) (T := cT0) (As := [vI 31, vI 0, vI 0]) d_Re_read_95 ml_Re_87 cC_19.1 cC_19.2 (by decide) rfl rfl (Nat.le_of_ble_eq_true rfl) (Nat.le_refl _) rfl (Cal.weak h (fun o w4 h => ?_))
  rcases rI_of h with ⟨x5, rfl, h⟩
  refine v_pop (pc := 98) d_Re_read_98 rfl ?_
  refine v_aload_n (pc := 99) d_Re_read_99 rfl (.head _) ?_
  refine v_getr (C := "") (pc := 100) (r := 25) d_Re_read_100 fl_Re_34 cC_24.1 cC_24.2 (Or.inl ⟨_, rfl⟩) rC_24_4 ?_
  refine v_bipush (pc := 103) d_Re_read_103 (by decide) rfl ?_
  refine v_callV (pc := 105) (J' := jCu_take) (d' := d) (o := 25) (ci := 1) (N := 6) (T := cT1) (As := [vI 42]) d_Re_read_105 ml_Re_71 cC_25.1 cC_25.2 (by decide) rfl rfl (Nat.le_of_ble_eq_true rfl) (Nat.le_refl _) rfl (Cal.weak h (fun o w6 h => ?_))
  rcases rI_of h with ⟨x7, rfl, h⟩
  refine v_pop (pc := 108) d_Re_read_108 rfl ?_
  refine v_aload_n (pc := 109) d_Re_read_109 rfl (.head _) ?_
  refine v_getr (C := "") (pc := 110) (r := 8) d_Re_read_110 fl_Re_13 cC_24.1 cC_24.2 (Or.inl ⟨_, rfl⟩) rC_24_1 ?_
  refine v_aload_n (pc := 113) d_Re_read_113 rfl (.head _) ?_
  refine v_getr (C := "") (pc := 114) (r := 19) d_Re_read_114 fl_Re_28 cC_24.1 cC_24.2 (Or.inl ⟨_, rfl⟩) rC_24_3 ?_
  refine v_geti (pc := 117) (x := (w6 19 4)) d_Re_read_117 fl_Re_75 cC_19.1 cC_19.2 (Or.inl rfl) rfl ?_
  refine v_puti (pc := 120) d_Re_read_120 fp_Re_91 cC_8.1 cC_8.2 (by decide) rfl ?_
  refine v_aload_n (pc := 123) d_Re_read_123 rfl (.head _) ?_
  refine v_iconst (pc := 124) d_Re_read_124 (by decide) ?_
  refine v_callV (pc := 125) (J' := jRe_readBlock) (d' := d) (o := 24) (ci := 8) (N := 7) (T := cT8) (As := [vI 0]) d_Re_read_125 ml_Re_83 cC_24.1 cC_24.2 (by decide) rfl rfl (Nat.le_of_ble_eq_true rfl) (Nat.le_refl _) rfl (Cal.weak h (fun o w8 h => ?_))
  rcases rV_of h with ⟨rfl, h⟩
  refine v_aload_n (pc := 128) d_Re_read_128 rfl (.head _) ?_
  refine v_getr (C := "") (pc := 129) (r := 19) d_Re_read_129 fl_Re_28 cC_24.1 cC_24.2 (Or.inl ⟨_, rfl⟩) rC_24_3 ?_
  refine v_bipush (pc := 132) d_Re_read_132 (by decide) rfl ?_
  refine v_iconst (pc := 134) d_Re_read_134 (by decide) ?_
  refine v_iconst (pc := 135) d_Re_read_135 (by decide) ?_
  refine v_callV (pc := 136) (J' := jCo_add) (d' := d) (o := 19) (ci := 0) (N := 6) (T := cT0) (As := [vI 31, vI 0, vI 0]) d_Re_read_136 ml_Re_87 cC_19.1 cC_19.2 (by decide) rfl rfl (Nat.le_of_ble_eq_true rfl) (Nat.le_refl _) rfl (Cal.weak h (fun o w9 h => ?_))
  rcases rI_of h with ⟨x10, rfl, h⟩
  refine v_pop (pc := 139) d_Re_read_139 rfl ?_
  refine v_aload_n (pc := 140) d_Re_read_140 rfl (.head _) ?_
  refine v_getr (C := "") (pc := 141) (r := 25) d_Re_read_141 fl_Re_34 cC_24.1 cC_24.2 (Or.inl ⟨_, rfl⟩) rC_24_4 ?_
  refine v_iconst (pc := 144) d_Re_read_144 (by decide) ?_
  refine v_callV (pc := 145) (J' := jCu_sees) (d' := d) (o := 25) (ci := 1) (N := 6) (T := cT1) (As := [vI 0]) d_Re_read_145 ml_Re_94 cC_25.1 cC_25.2 (by decide) rfl rfl (Nat.le_of_ble_eq_true rfl) (Nat.le_refl _) rfl (Cal.weak h (fun o w11 h => ?_))
  rcases rI_of h with ⟨x12, rfl, h⟩
  refine v_ifne (pc := 148) (tgt := 159) d_Re_read_148 (by decide) (fun c => ?_) (fun c => ?_)
  · replace h := h.1 c
    exact v_sub (List.forall_mem_cons.mpr ⟨(.head _), (fun _ z => absurd z List.not_mem_nil)⟩) h
  · replace h := h.2 c
    refine v_aload_n (pc := 151) d_Re_read_151 rfl (.head _) ?_
    refine v_getr (C := "") (pc := 152) (r := 25) d_Re_read_152 fl_Re_34 cC_24.1 cC_24.2 (Or.inl ⟨_, rfl⟩) rC_24_4 ?_
    refine v_iconst (pc := 155) d_Re_read_155 (by decide) ?_
    refine v_callV (pc := 156) (J' := jCu_stop) (d' := d) (o := 25) (ci := 1) (N := 6) (T := cT1) (As := [vI 1]) d_Re_read_156 ml_Re_97 cC_25.1 cC_25.2 (by decide) rfl rfl (Nat.le_of_ble_eq_true rfl) (Nat.le_refl _) rfl (Cal.weak h (fun o w13 h => ?_))
    rcases rV_of h with ⟨rfl, h⟩
    exact v_sub (List.forall_mem_cons.mpr ⟨(.head _), (fun _ z => absurd z List.not_mem_nil)⟩) h
set_option maxHeartbeats 4000000 in
theorem s_Re_read_159 {g : Mg} {d : Nat} {K : Ou → Wd → Prop} {w : Wd} (h : Cal g LC jCu_worst d [vA 25] w (fun o w1 => rI o (fun x2 => (¬ x2 = 0 → (V g LC jRe_read (d + 1) K 181 [(0, vA 24)] [] w1)) ∧ (x2 = 0 → (Cal g LC jRe_writeOut d [vA 24] w1 (fun o w3 => rV o (V g LC jRe_read (d + 1) K 181 [(0, vA 24)] [] (up w3 8 2 1)))))))) : V g LC jRe_read (d + 1) K 159 [(0, vA 24)] [] w := by
  refine v_aload_n (pc := 159) d_Re_read_159 rfl (.head _) ?_
  refine v_getr (C := "") (pc := 160) (r := 25) d_Re_read_160 fl_Re_34 cC_24.1 cC_24.2 (Or.inl ⟨_, rfl⟩) rC_24_4 ?_
  refine v_callV (pc := 163) (J' := jCu_worst) (d' := d) (o := 25) (ci := 1) (N := 6) (T := cT1) (As := []) d_Re_read_163 ml_Re_100 cC_25.1 cC_25.2 (by decide) rfl rfl (Nat.le_of_ble_eq_true rfl) (Nat.le_refl _) rfl (Cal.weak h (fun o w1 h => ?_))
  rcases rI_of h with ⟨x2, rfl, h⟩
  refine v_ifne (pc := 166) (tgt := 181) d_Re_read_166 (by decide) (fun c => ?_) (fun c => ?_)
  · replace h := h.1 c
    exact v_sub (List.forall_mem_cons.mpr ⟨(.head _), (fun _ z => absurd z List.not_mem_nil)⟩) h
  · replace h := h.2 c
    refine v_aload_n (pc := 169) d_Re_read_169 rfl (.head _) ?_
    refine v_callV (pc := 170) (J' := jRe_writeOut) (d' := d) (o := 24) (ci := 8) (N := 7) (T := cT8) (As := []) d_Re_read_170 ml_Re_103 cC_24.1 cC_24.2 (by decide) rfl rfl (Nat.le_of_ble_eq_true rfl) (Nat.le_refl _) rfl (Cal.weak h (fun o w3 h => ?_))
    rcases rV_of h with ⟨rfl, h⟩
    refine v_aload_n (pc := 173) d_Re_read_173 rfl (.head _) ?_
    refine v_getr (C := "") (pc := 174) (r := 8) d_Re_read_174 fl_Re_13 cC_24.1 cC_24.2 (Or.inl ⟨_, rfl⟩) rC_24_1 ?_
    refine v_iconst (pc := 177) d_Re_read_177 (by decide) ?_
    refine v_putz (pc := 178) d_Re_read_178 fp_Re_106 cC_8.1 cC_8.2 (by decide) rfl (by decide) ?_
    exact v_sub (List.forall_mem_cons.mpr ⟨(.head _), (fun _ z => absurd z List.not_mem_nil)⟩) h
set_option maxHeartbeats 4000000 in
theorem s_Re_read_181 {g : Mg} {d : Nat} {K : Ou → Wd → Prop} {w : Wd} (h : Cal g LC jCu_worst d [vA 25] w (fun o w1 => rI o (fun x2 => K (.inl (some (vI x2))) w1))) : V g LC jRe_read (d + 1) K 181 [(0, vA 24)] [] w := by
  refine v_aload_n (pc := 181) d_Re_read_181 rfl (.head _) ?_
  refine v_getr (C := "") (pc := 182) (r := 25) d_Re_read_182 fl_Re_34 cC_24.1 cC_24.2 (Or.inl ⟨_, rfl⟩) rC_24_4 ?_
  refine v_callV (pc := 185) (J' := jCu_worst) (d' := d) (o := 25) (ci := 1) (N := 6) (T := cT1) (As := []) d_Re_read_185 ml_Re_100 cC_25.1 cC_25.2 (by decide) rfl rfl (Nat.le_of_ble_eq_true rfl) (Nat.le_refl _) rfl (Cal.weak h (fun o w1 h => ?_))
  rcases rI_of h with ⟨x2, rfl, h⟩
  exact v_iret (pc := 188) d_Re_read_188 rfl h
theorem d_Re_faultPlace_0 : decode jRe_faultPlace.cc 0 = .ok (.aload_n 0, 1) := by decide +kernel
theorem d_Re_faultPlace_1 : decode jRe_faultPlace.cc 1 = .ok (.getfield 34, 3) := by decide +kernel
theorem d_Re_faultPlace_4 : decode jRe_faultPlace.cc 4 = .ok (.invokevirtual 100, 3) := by decide +kernel
theorem d_Re_faultPlace_7 : decode jRe_faultPlace.cc 7 = .ok (.ifCond .ne 7, 3) := by decide +kernel
theorem d_Re_faultPlace_10 : decode jRe_faultPlace.cc 10 = .ok (.iconst (-1), 1) := by decide +kernel
theorem d_Re_faultPlace_11 : decode jRe_faultPlace.cc 11 = .ok (.goto 10, 3) := by decide +kernel
theorem d_Re_faultPlace_14 : decode jRe_faultPlace.cc 14 = .ok (.aload_n 0, 1) := by decide +kernel
theorem d_Re_faultPlace_15 : decode jRe_faultPlace.cc 15 = .ok (.getfield 34, 3) := by decide +kernel
theorem d_Re_faultPlace_18 : decode jRe_faultPlace.cc 18 = .ok (.invokevirtual 110, 3) := by decide +kernel
theorem d_Re_faultPlace_21 : decode jRe_faultPlace.cc 21 = .ok (.ireturn, 1) := by decide +kernel
set_option maxHeartbeats 4000000 in
theorem s_Re_faultPlace {g : Mg} {d : Nat} {K : Ou → Wd → Prop} {w : Wd} (h : Cal g LC jCu_worst d [vA 25] w (fun o w1 => rI o (fun x2 => (¬ x2 = 0 → (Cal g LC jCu_worstPlace d [vA 25] w1 (fun o w3 => rI o (fun x4 => K (.inl (some (vI x4))) w3)))) ∧ (x2 = 0 → (K (.inl (some (vI (-1)))) w1))))) : V g LC jRe_faultPlace (d + 1) K 0 [(0, vA 24)] [] w := by
  refine v_aload_n (pc := 0) d_Re_faultPlace_0 rfl (.head _) ?_
  refine v_getr (C := "") (pc := 1) (r := 25) d_Re_faultPlace_1 fl_Re_34 cC_24.1 cC_24.2 (Or.inl ⟨_, rfl⟩) rC_24_4 ?_
  refine v_callV (pc := 4) (J' := jCu_worst) (d' := d) (o := 25) (ci := 1) (N := 6) (T := cT1) (As := []) d_Re_faultPlace_4 ml_Re_100 cC_25.1 cC_25.2 (by decide) rfl rfl (Nat.le_of_ble_eq_true rfl) (Nat.le_refl _) rfl (Cal.weak h (fun o w1 h => ?_))
  rcases rI_of h with ⟨x2, rfl, h⟩
  refine v_ifne (pc := 7) (tgt := 14) d_Re_faultPlace_7 (by decide) (fun c => ?_) (fun c => ?_)
  · replace h := h.1 c
    refine v_aload_n (pc := 14) d_Re_faultPlace_14 rfl (.head _) ?_
    refine v_getr (C := "") (pc := 15) (r := 25) d_Re_faultPlace_15 fl_Re_34 cC_24.1 cC_24.2 (Or.inl ⟨_, rfl⟩) rC_24_4 ?_
    refine v_callV (pc := 18) (J' := jCu_worstPlace) (d' := d) (o := 25) (ci := 1) (N := 6) (T := cT1) (As := []) d_Re_faultPlace_18 ml_Re_110 cC_25.1 cC_25.2 (by decide) rfl rfl (Nat.le_of_ble_eq_true rfl) (Nat.le_refl _) rfl (Cal.weak h (fun o w3 h => ?_))
    rcases rI_of h with ⟨x4, rfl, h⟩
    exact v_iret (pc := 21) d_Re_faultPlace_21 rfl h
  · replace h := h.2 c
    refine v_iconst (pc := 10) d_Re_faultPlace_10 (by decide) ?_
    refine v_goto (pc := 11) (tgt := 21) d_Re_faultPlace_11 (by decide) ?_
    exact v_iret (pc := 21) d_Re_faultPlace_21 rfl h
theorem d_Re_writeOut_0 : decode jRe_writeOut.cc 0 = .ok (.iconst 0, 1) := by decide +kernel
theorem d_Re_writeOut_1 : decode jRe_writeOut.cc 1 = .ok (.istore_n 1, 1) := by decide +kernel
theorem d_Re_writeOut_2 : decode jRe_writeOut.cc 2 = .ok (.iload_n 1, 1) := by decide +kernel
theorem d_Re_writeOut_3 : decode jRe_writeOut.cc 3 = .ok (.aload_n 0, 1) := by decide +kernel
theorem d_Re_writeOut_4 : decode jRe_writeOut.cc 4 = .ok (.getfield 7, 3) := by decide +kernel
theorem d_Re_writeOut_7 : decode jRe_writeOut.cc 7 = .ok (.getfield 113, 3) := by decide +kernel
theorem d_Re_writeOut_10 : decode jRe_writeOut.cc 10 = .ok (.if_icmp .ge 52, 3) := by decide +kernel
theorem d_Re_writeOut_13 : decode jRe_writeOut.cc 13 = .ok (.aload_n 0, 1) := by decide +kernel
theorem d_Re_writeOut_14 : decode jRe_writeOut.cc 14 = .ok (.getfield 43, 3) := by decide +kernel
theorem d_Re_writeOut_17 : decode jRe_writeOut.cc 17 = .ok (.iload_n 1, 1) := by decide +kernel
theorem d_Re_writeOut_18 : decode jRe_writeOut.cc 18 = .ok (.invokevirtual 116, 3) := by decide +kernel
theorem d_Re_writeOut_21 : decode jRe_writeOut.cc 21 = .ok (.ifCond .ne 35, 3) := by decide +kernel
theorem d_Re_writeOut_24 : decode jRe_writeOut.cc 24 = .ok (.aload_n 0, 1) := by decide +kernel
theorem d_Re_writeOut_25 : decode jRe_writeOut.cc 25 = .ok (.getfield 13, 3) := by decide +kernel
theorem d_Re_writeOut_28 : decode jRe_writeOut.cc 28 = .ok (.aload_n 0, 1) := by decide +kernel
theorem d_Re_writeOut_29 : decode jRe_writeOut.cc 29 = .ok (.getfield 7, 3) := by decide +kernel
theorem d_Re_writeOut_32 : decode jRe_writeOut.cc 32 = .ok (.getfield 119, 3) := by decide +kernel
theorem d_Re_writeOut_35 : decode jRe_writeOut.cc 35 = .ok (.aload_n 0, 1) := by decide +kernel
theorem d_Re_writeOut_36 : decode jRe_writeOut.cc 36 = .ok (.getfield 7, 3) := by decide +kernel
theorem d_Re_writeOut_39 : decode jRe_writeOut.cc 39 = .ok (.getfield 123, 3) := by decide +kernel
theorem d_Re_writeOut_42 : decode jRe_writeOut.cc 42 = .ok (.iload_n 1, 1) := by decide +kernel
theorem d_Re_writeOut_43 : decode jRe_writeOut.cc 43 = .ok (.iaload, 1) := by decide +kernel
theorem d_Re_writeOut_44 : decode jRe_writeOut.cc 44 = .ok (.aload_n 0, 1) := by decide +kernel
theorem d_Re_writeOut_45 : decode jRe_writeOut.cc 45 = .ok (.getfield 7, 3) := by decide +kernel
theorem d_Re_writeOut_48 : decode jRe_writeOut.cc 48 = .ok (.getfield 127, 3) := by decide +kernel
theorem d_Re_writeOut_51 : decode jRe_writeOut.cc 51 = .ok (.iload_n 1, 1) := by decide +kernel
theorem d_Re_writeOut_52 : decode jRe_writeOut.cc 52 = .ok (.iaload, 1) := by decide +kernel
theorem d_Re_writeOut_53 : decode jRe_writeOut.cc 53 = .ok (.invokevirtual 130, 3) := by decide +kernel
theorem d_Re_writeOut_56 : decode jRe_writeOut.cc 56 = .ok (.iinc 1 1, 3) := by decide +kernel
theorem d_Re_writeOut_59 : decode jRe_writeOut.cc 59 = .ok (.goto (-57), 3) := by decide +kernel
theorem d_Re_writeOut_62 : decode jRe_writeOut.cc 62 = .ok (.return_, 1) := by decide +kernel
set_option maxHeartbeats 4000000 in
theorem s_Re_writeOut {g : Mg} {d : Nat} {K : Ou → Wd → Prop} {w : Wd} (h : V g LC jRe_writeOut (d + 1) K 2 [(0, vA 24), (1, vI 0)] [] w) : V g LC jRe_writeOut (d + 1) K 0 [(0, vA 24)] [] w := by
  refine v_iconst (pc := 0) d_Re_writeOut_0 (by decide) ?_
  refine v_istore_n (pc := 1) (ls' := [(1, vI 0), (0, vA 24)]) d_Re_writeOut_1 rfl (by decide) rfl ?_
  exact v_sub (List.forall_mem_cons.mpr ⟨(.tail _ (.head _)), (List.forall_mem_cons.mpr ⟨(.head _), (fun _ z => absurd z List.not_mem_nil)⟩)⟩) h
set_option maxHeartbeats 4000000 in
theorem s_Re_writeOut_2 {g : Mg} {d : Nat} {K : Ou → Wd → Prop} {w : Wd} {x1_ : Int} (h : ((w 2 6) ≤ x1_ → (K (.inl none) w)) ∧ (¬ (w 2 6) ≤ x1_ → (Cal g LC jEx_isDropped d [vA 26, vI x1_] w (fun o w1 => rI o (fun x2 => (¬ x2 = 0 → (V g LC jRe_writeOut (d + 1) K 2 [(0, vA 24), (1, vI (wr (x1_ + 1)))] [] w1)) ∧ (x2 = 0 → ((0 ≤ x1_ ∧ x1_ < 1002) ∧ ((0 ≤ x1_ ∧ x1_ < 1002) ∧ (Cal g LC jPr_write d [vA 8, vA 3, vI (w1 5 x1_.toNat), vI (w1 6 x1_.toNat)] w1 (fun o w3 => rV o (V g LC jRe_writeOut (d + 1) K 2 [(0, vA 24), (1, vI (wr (x1_ + 1)))] [] w3))))))))))) : V g LC jRe_writeOut (d + 1) K 2 [(0, vA 24), (1, vI x1_)] [] w := by
  refine v_iload_n (pc := 2) d_Re_writeOut_2 rfl (.tail _ (.head _)) ?_
  refine v_aload_n (pc := 3) d_Re_writeOut_3 rfl (.head _) ?_
  refine v_getr (C := "") (pc := 4) (r := 2) d_Re_writeOut_4 fl_Re_7 cC_24.1 cC_24.2 (Or.inl ⟨_, rfl⟩) rC_24_0 ?_
  refine v_geti (pc := 7) (x := (w 2 6)) d_Re_writeOut_7 fl_Re_113 cC_2.1 cC_2.2 (Or.inl rfl) rfl ?_
  refine v_icmpge (pc := 10) (tgt := 62) d_Re_writeOut_10 (by decide) (fun c => ?_) (fun c => ?_)
  · replace h := h.1 c
    exact v_vret (pc := 62) d_Re_writeOut_62 rfl h
  · replace h := h.2 c
    refine v_aload_n (pc := 13) d_Re_writeOut_13 rfl (.head _) ?_
    refine v_getr (C := "") (pc := 14) (r := 26) d_Re_writeOut_14 fl_Re_43 cC_24.1 cC_24.2 (Or.inl ⟨_, rfl⟩) rC_24_5 ?_
    refine v_iload_n (pc := 17) d_Re_writeOut_17 rfl (.tail _ (.head _)) ?_
    refine v_callV (pc := 18) (J' := jEx_isDropped) (d' := d) (o := 26) (ci := 2) (N := 9) (T := cT2) (As := [vI x1_]) d_Re_writeOut_18 ml_Re_116 cC_26.1 cC_26.2 (by decide) rfl rfl (Nat.le_of_ble_eq_true rfl) (Nat.le_refl _) rfl (Cal.weak h (fun o w1 h => ?_))
    rcases rI_of h with ⟨x2, rfl, h⟩
    refine v_ifne (pc := 21) (tgt := 56) d_Re_writeOut_21 (by decide) (fun c => ?_) (fun c => ?_)
    · replace h := h.1 c
      refine v_iinc (pc := 56) (ls' := [(1, vI (wr (x1_ + 1))), (0, vA 24)]) d_Re_writeOut_56 (.tail _ (.head _)) (by decide) rfl ?_
      refine v_goto (pc := 59) (tgt := 2) d_Re_writeOut_59 (by decide) ?_
      exact v_sub (List.forall_mem_cons.mpr ⟨(.tail _ (.head _)), (List.forall_mem_cons.mpr ⟨(.head _), (fun _ z => absurd z List.not_mem_nil)⟩)⟩) h
    · replace h := h.2 c
      refine v_aload_n (pc := 24) d_Re_writeOut_24 rfl (.head _) ?_
      refine v_getr (C := "") (pc := 25) (r := 8) d_Re_writeOut_25 fl_Re_13 cC_24.1 cC_24.2 (Or.inl ⟨_, rfl⟩) rC_24_1 ?_
      refine v_aload_n (pc := 28) d_Re_writeOut_28 rfl (.head _) ?_
      refine v_getr (C := "") (pc := 29) (r := 2) d_Re_writeOut_29 fl_Re_7 cC_24.1 cC_24.2 (Or.inl ⟨_, rfl⟩) rC_24_0 ?_
      refine v_getr (C := "") (pc := 32) (r := 3) d_Re_writeOut_32 fl_Re_119 cC_2.1 cC_2.2 (Or.inr ⟨_, rfl⟩) rC_2_0 ?_
      refine v_aload_n (pc := 35) d_Re_writeOut_35 rfl (.head _) ?_
      refine v_getr (C := "") (pc := 36) (r := 2) d_Re_writeOut_36 fl_Re_7 cC_24.1 cC_24.2 (Or.inl ⟨_, rfl⟩) rC_24_0 ?_
      refine v_getr (C := "") (pc := 39) (r := 5) d_Re_writeOut_39 fl_Re_123 cC_2.1 cC_2.2 (Or.inr ⟨_, rfl⟩) rC_2_3 ?_
      refine v_iload_n (pc := 42) d_Re_writeOut_42 rfl (.tail _ (.head _)) ?_
      refine v_iald (pc := 43) (x := (w1 5 x1_.toNat)) d_Re_writeOut_43 cC_5.1 cC_5.2 rfl h.1 ?_
      replace h := h.2
      refine v_aload_n (pc := 44) d_Re_writeOut_44 rfl (.head _) ?_
      refine v_getr (C := "") (pc := 45) (r := 2) d_Re_writeOut_45 fl_Re_7 cC_24.1 cC_24.2 (Or.inl ⟨_, rfl⟩) rC_24_0 ?_
      refine v_getr (C := "") (pc := 48) (r := 6) d_Re_writeOut_48 fl_Re_127 cC_2.1 cC_2.2 (Or.inr ⟨_, rfl⟩) rC_2_4 ?_
      refine v_iload_n (pc := 51) d_Re_writeOut_51 rfl (.tail _ (.head _)) ?_
      refine v_iald (pc := 52) (x := (w1 6 x1_.toNat)) d_Re_writeOut_52 cC_6.1 cC_6.2 rfl h.1 ?_
      replace h := h.2
      refine v_callV (pc := 53) (J' := jPr_write) (d' := d) (o := 8) (ci := 7) (N := 11) (T := cT7) (As := [vA 3, vI (w1 5 x1_.toNat), vI (w1 6 x1_.toNat)]) d_Re_writeOut_53 ml_Re_130 cC_8.1 cC_8.2 (by decide) rfl rfl (Nat.le_of_ble_eq_true rfl) (Nat.le_refl _) rfl (Cal.weak h (fun o w3 h => ?_))
      rcases rV_of h with ⟨rfl, h⟩
      refine v_iinc (pc := 56) (ls' := [(1, vI (wr (x1_ + 1))), (0, vA 24)]) d_Re_writeOut_56 (.tail _ (.head _)) (by decide) rfl ?_
      refine v_goto (pc := 59) (tgt := 2) d_Re_writeOut_59 (by decide) ?_
      exact v_sub (List.forall_mem_cons.mpr ⟨(.tail _ (.head _)), (List.forall_mem_cons.mpr ⟨(.head _), (fun _ z => absurd z List.not_mem_nil)⟩)⟩) h
theorem d_Re_tells_0 : decode jRe_tells.cc 0 = .ok (.iload_n 0, 1) := by decide +kernel
theorem d_Re_tells_1 : decode jRe_tells.cc 1 = .ok (.bipush 27, 2) := by decide +kernel
theorem d_Re_tells_3 : decode jRe_tells.cc 3 = .ok (.if_icmp .eq 21, 3) := by decide +kernel
theorem d_Re_tells_6 : decode jRe_tells.cc 6 = .ok (.iload_n 0, 1) := by decide +kernel
theorem d_Re_tells_7 : decode jRe_tells.cc 7 = .ok (.bipush 28, 2) := by decide +kernel
theorem d_Re_tells_9 : decode jRe_tells.cc 9 = .ok (.if_icmp .eq 15, 3) := by decide +kernel
theorem d_Re_tells_12 : decode jRe_tells.cc 12 = .ok (.iload_n 0, 1) := by decide +kernel
theorem d_Re_tells_13 : decode jRe_tells.cc 13 = .ok (.bipush 33, 2) := by decide +kernel
theorem d_Re_tells_15 : decode jRe_tells.cc 15 = .ok (.if_icmp .eq 9, 3) := by decide +kernel
theorem d_Re_tells_18 : decode jRe_tells.cc 18 = .ok (.iload_n 0, 1) := by decide +kernel
theorem d_Re_tells_19 : decode jRe_tells.cc 19 = .ok (.bipush 34, 2) := by decide +kernel
theorem d_Re_tells_21 : decode jRe_tells.cc 21 = .ok (.if_icmp .ne 7, 3) := by decide +kernel
theorem d_Re_tells_24 : decode jRe_tells.cc 24 = .ok (.iconst 1, 1) := by decide +kernel
theorem d_Re_tells_25 : decode jRe_tells.cc 25 = .ok (.goto 4, 3) := by decide +kernel
theorem d_Re_tells_28 : decode jRe_tells.cc 28 = .ok (.iconst 0, 1) := by decide +kernel
theorem d_Re_tells_29 : decode jRe_tells.cc 29 = .ok (.ireturn, 1) := by decide +kernel
set_option maxHeartbeats 4000000 in
theorem s_Re_tells {g : Mg} {d : Nat} {K : Ou → Wd → Prop} {w : Wd} {p0 : Int} (h : (p0 = 27 → (K (.inl (some (vI 1))) w)) ∧ (¬ p0 = 27 → ((p0 = 28 → (K (.inl (some (vI 1))) w)) ∧ (¬ p0 = 28 → ((p0 = 33 → (K (.inl (some (vI 1))) w)) ∧ (¬ p0 = 33 → ((¬ p0 = 34 → (K (.inl (some (vI 0))) w)) ∧ (p0 = 34 → (K (.inl (some (vI 1))) w))))))))) : V g LC jRe_tells d K 0 [(0, vI p0)] [] w := by
  refine v_iload_n (pc := 0) d_Re_tells_0 rfl (.head _) ?_
  refine v_bipush (pc := 1) d_Re_tells_1 (by decide) rfl ?_
  refine v_icmpeq (pc := 3) (tgt := 24) d_Re_tells_3 (by decide) (fun c => ?_) (fun c => ?_)
  · replace h := h.1 c
    refine v_iconst (pc := 24) d_Re_tells_24 (by decide) ?_
    refine v_goto (pc := 25) (tgt := 29) d_Re_tells_25 (by decide) ?_
    exact v_zret (pc := 29) d_Re_tells_29 rfl (by decide) h
  · replace h := h.2 c
    refine v_iload_n (pc := 6) d_Re_tells_6 rfl (.head _) ?_
    refine v_bipush (pc := 7) d_Re_tells_7 (by decide) rfl ?_
    refine v_icmpeq (pc := 9) (tgt := 24) d_Re_tells_9 (by decide) (fun c => ?_) (fun c => ?_)
    · replace h := h.1 c
      refine v_iconst (pc := 24) d_Re_tells_24 (by decide) ?_
      refine v_goto (pc := 25) (tgt := 29) d_Re_tells_25 (by decide) ?_
      exact v_zret (pc := 29) d_Re_tells_29 rfl (by decide) h
    · replace h := h.2 c
      refine v_iload_n (pc := 12) d_Re_tells_12 rfl (.head _) ?_
      refine v_bipush (pc := 13) d_Re_tells_13 (by decide) rfl ?_
      refine v_icmpeq (pc := 15) (tgt := 24) d_Re_tells_15 (by decide) (fun c => ?_) (fun c => ?_)
      · replace h := h.1 c
        refine v_iconst (pc := 24) d_Re_tells_24 (by decide) ?_
        refine v_goto (pc := 25) (tgt := 29) d_Re_tells_25 (by decide) ?_
        exact v_zret (pc := 29) d_Re_tells_29 rfl (by decide) h
      · replace h := h.2 c
        refine v_iload_n (pc := 18) d_Re_tells_18 rfl (.head _) ?_
        refine v_bipush (pc := 19) d_Re_tells_19 (by decide) rfl ?_
        refine v_icmpne (pc := 21) (tgt := 28) d_Re_tells_21 (by decide) (fun c => ?_) (fun c => ?_)
        · replace h := h.1 c
          refine v_iconst (pc := 28) d_Re_tells_28 (by decide) ?_
          exact v_zret (pc := 29) d_Re_tells_29 rfl (by decide) h
        · replace h := h.2 c
          refine v_iconst (pc := 24) d_Re_tells_24 (by decide) ?_
          refine v_goto (pc := 25) (tgt := 29) d_Re_tells_25 (by decide) ?_
          exact v_zret (pc := 29) d_Re_tells_29 rfl (by decide) h
theorem d_Re_readTold_0 : decode jRe_readTold.cc 0 = .ok (.aload_n 0, 1) := by decide +kernel
theorem d_Re_readTold_1 : decode jRe_readTold.cc 1 = .ok (.getfield 34, 3) := by decide +kernel
theorem d_Re_readTold_4 : decode jRe_readTold.cc 4 = .ok (.invokevirtual 60, 3) := by decide +kernel
theorem d_Re_readTold_7 : decode jRe_readTold.cc 7 = .ok (.lookupswitch 83 #[(27, 33), (28, 61), (33, 68)], 33) := by decide +kernel
theorem d_Re_readTold_40 : decode jRe_readTold.cc 40 = .ok (.aload_n 0, 1) := by decide +kernel
theorem d_Re_readTold_41 : decode jRe_readTold.cc 41 = .ok (.getfield 34, 3) := by decide +kernel
theorem d_Re_readTold_44 : decode jRe_readTold.cc 44 = .ok (.bipush 27, 2) := by decide +kernel
theorem d_Re_readTold_46 : decode jRe_readTold.cc 46 = .ok (.invokevirtual 71, 3) := by decide +kernel
theorem d_Re_readTold_49 : decode jRe_readTold.cc 49 = .ok (.pop, 1) := by decide +kernel
theorem d_Re_readTold_50 : decode jRe_readTold.cc 50 = .ok (.aload_n 0, 1) := by decide +kernel
theorem d_Re_readTold_51 : decode jRe_readTold.cc 51 = .ok (.getfield 23, 3) := by decide +kernel
theorem d_Re_readTold_54 : decode jRe_readTold.cc 54 = .ok (.aload_n 0, 1) := by decide +kernel
theorem d_Re_readTold_55 : decode jRe_readTold.cc 55 = .ok (.iconst 0, 1) := by decide +kernel
theorem d_Re_readTold_56 : decode jRe_readTold.cc 56 = .ok (.invokevirtual 136, 3) := by decide +kernel
theorem d_Re_readTold_59 : decode jRe_readTold.cc 59 = .ok (.iconst 0, 1) := by decide +kernel
theorem d_Re_readTold_60 : decode jRe_readTold.cc 60 = .ok (.iconst 1, 1) := by decide +kernel
theorem d_Re_readTold_61 : decode jRe_readTold.cc 61 = .ok (.invokevirtual 139, 3) := by decide +kernel
theorem d_Re_readTold_64 : decode jRe_readTold.cc 64 = .ok (.pop, 1) := by decide +kernel
theorem d_Re_readTold_65 : decode jRe_readTold.cc 65 = .ok (.goto 37, 3) := by decide +kernel
theorem d_Re_readTold_68 : decode jRe_readTold.cc 68 = .ok (.aload_n 0, 1) := by decide +kernel
theorem d_Re_readTold_69 : decode jRe_readTold.cc 69 = .ok (.invokevirtual 140, 3) := by decide +kernel
theorem d_Re_readTold_72 : decode jRe_readTold.cc 72 = .ok (.goto 30, 3) := by decide +kernel
theorem d_Re_readTold_75 : decode jRe_readTold.cc 75 = .ok (.aload_n 0, 1) := by decide +kernel
theorem d_Re_readTold_76 : decode jRe_readTold.cc 76 = .ok (.iconst 2, 1) := by decide +kernel
theorem d_Re_readTold_77 : decode jRe_readTold.cc 77 = .ok (.aload_n 0, 1) := by decide +kernel
theorem d_Re_readTold_78 : decode jRe_readTold.cc 78 = .ok (.getfield 13, 3) := by decide +kernel
theorem d_Re_readTold_81 : decode jRe_readTold.cc 81 = .ok (.getfield 143, 3) := by decide +kernel
theorem d_Re_readTold_84 : decode jRe_readTold.cc 84 = .ok (.invokevirtual 146, 3) := by decide +kernel
theorem d_Re_readTold_87 : decode jRe_readTold.cc 87 = .ok (.goto 15, 3) := by decide +kernel
theorem d_Re_readTold_90 : decode jRe_readTold.cc 90 = .ok (.aload_n 0, 1) := by decide +kernel
theorem d_Re_readTold_91 : decode jRe_readTold.cc 91 = .ok (.iconst 3, 1) := by decide +kernel
theorem d_Re_readTold_92 : decode jRe_readTold.cc 92 = .ok (.aload_n 0, 1) := by decide +kernel
theorem d_Re_readTold_93 : decode jRe_readTold.cc 93 = .ok (.getfield 13, 3) := by decide +kernel
theorem d_Re_readTold_96 : decode jRe_readTold.cc 96 = .ok (.getfield 150, 3) := by decide +kernel
theorem d_Re_readTold_99 : decode jRe_readTold.cc 99 = .ok (.invokevirtual 146, 3) := by decide +kernel
theorem d_Re_readTold_102 : decode jRe_readTold.cc 102 = .ok (.aload_n 0, 1) := by decide +kernel
theorem d_Re_readTold_103 : decode jRe_readTold.cc 103 = .ok (.getfield 34, 3) := by decide +kernel
theorem d_Re_readTold_106 : decode jRe_readTold.cc 106 = .ok (.iconst 4, 1) := by decide +kernel
theorem d_Re_readTold_107 : decode jRe_readTold.cc 107 = .ok (.invokevirtual 71, 3) := by decide +kernel
theorem d_Re_readTold_110 : decode jRe_readTold.cc 110 = .ok (.pop, 1) := by decide +kernel
theorem d_Re_readTold_111 : decode jRe_readTold.cc 111 = .ok (.return_, 1) := by decide +kernel
set_option maxHeartbeats 4000000 in
theorem s_Re_readTold {g : Mg} {d : Nat} {K : Ou → Wd → Prop} {w : Wd} (h : Cal g LC jCu_kind d [vA 25] w (fun o w1 => rI o (fun x2 => (x2 = 27 → (Cal g LC jCu_take d [vA 25, vI 27] w1 (fun o w3 => rI o (fun x4 => Cal g LC jRe_newName d [vA 24, vI 0] w3 (fun o w5 => rI o (fun x6 => Cal g LC jLo_add d [vA 13, vI x6, vI 0, vI 1] w5 (fun o w7 => rI o (fun x8 => Cal g LC jCu_take d [vA 25, vI 4] w7 (fun o w9 => rI o (fun x10 => K (.inl none) w9)))))))))) ∧ (¬ x2 = 27 → ((x2 = 28 → (Cal g LC jRe_readState d [vA 24] w1 (fun o w11 => rV o (Cal g LC jCu_take d [vA 25, vI 4] w11 (fun o w12 => rI o (fun x13 => K (.inl none) w12)))))) ∧ (¬ x2 = 28 → ((x2 = 33 → (Cal g LC jRe_readFolded d [vA 24, vI 2, vA 10] w1 (fun o w14 => rV o (Cal g LC jCu_take d [vA 25, vI 4] w14 (fun o w15 => rI o (fun x16 => K (.inl none) w15)))))) ∧ (¬ x2 = 33 → (Cal g LC jRe_readFolded d [vA 24, vI 3, vA 11] w1 (fun o w17 => rV o (Cal g LC jCu_take d [vA 25, vI 4] w17 (fun o w18 => rI o (fun x19 => K (.inl none) w18))))))))))))) : V g LC jRe_readTold (d + 1) K 0 [(0, vA 24)] [] w := by
  refine v_aload_n (pc := 0) d_Re_readTold_0 rfl (.head _) ?_
  refine v_getr (C := "") (pc := 1) (r := 25) d_Re_readTold_1 fl_Re_34 cC_24.1 cC_24.2 (Or.inl ⟨_, rfl⟩) rC_24_4 ?_
  refine v_callV (pc := 4) (J' := jCu_kind) (d' := d) (o := 25) (ci := 1) (N := 6) (T := cT1) (As := []) d_Re_readTold_4 ml_Re_60 cC_25.1 cC_25.2 (by decide) rfl rfl (Nat.le_of_ble_eq_true rfl) (Nat.le_refl _) rfl (Cal.weak h (fun o w1 h => ?_))
  rcases rI_of h with ⟨x2, rfl, h⟩
  refine v_lookup (pc := 7) (tgd := 90) (prs := [(27, 40), (28, 68), (33, 75)]) d_Re_readTold_7 (by decide) (by decide) (by decide) ⟨fun c => ?_, fun c0 => ⟨fun c => ?_, fun c1 => ⟨fun c => ?_, fun c2 => ?_⟩⟩⟩
  · replace h := h.1 c
    refine v_aload_n (pc := 40) d_Re_readTold_40 rfl (.head _) ?_
    refine v_getr (C := "") (pc := 41) (r := 25) d_Re_readTold_41 fl_Re_34 cC_24.1 cC_24.2 (Or.inl ⟨_, rfl⟩) rC_24_4 ?_
    refine v_bipush (pc := 44) d_Re_readTold_44 (by decide) rfl ?_
    refine v_callV (pc := 46) (J' := jCu_take) (d' := d) (o := 25) (ci := 1) (N := 6) (T := cT1) (As := [vI 27]) d_Re_readTold_46 ml_Re_71 cC_25.1 cC_25.2 (by decide) rfl rfl (Nat.le_of_ble_eq_true rfl) (Nat.le_refl _) rfl (Cal.weak h (fun o w3 h => ?_))
    rcases rI_of h with ⟨x4, rfl, h⟩
    refine v_pop (pc := 49) d_Re_readTold_49 rfl ?_
    refine v_aload_n (pc := 50) d_Re_readTold_50 rfl (.head _) ?_
    refine v_getr (C := "") (pc := 51) (r := 13) d_Re_readTold_51 fl_Re_23 cC_24.1 cC_24.2 (Or.inl ⟨_, rfl⟩) rC_24_2 ?_
    refine v_aload_n (pc := 54) d_Re_readTold_54 rfl (.head _) ?_
    refine v_iconst (pc := 55) d_Re_readTold_55 (by decide) ?_
    refine v_callV (pc := 56) (J' := jRe_newName) (d' := d) (o := 24) (ci := 8) (N := 7) (T := cT8) (As := [vI 0]) d_Re_readTold_56 ml_Re_136 cC_24.1 cC_24.2 (by decide) rfl rfl (Nat.le_of_ble_eq_true rfl) (Nat.le_refl _) rfl (Cal.weak h (fun o w5 h => ?_))
    rcases rI_of h with ⟨x6, rfl, h⟩
    refine v_iconst (pc := 59) d_Re_readTold_59 (by decide) ?_
    refine v_iconst (pc := 60) d_Re_readTold_60 (by decide) ?_
    refine v_callV (pc := 61) (J' := jLo_add) (d' := d) (o := 13) (ci := 4) (N := 7) (T := cT4) (As := [vI x6, vI 0, vI 1]) d_Re_readTold_61 ml_Re_139 cC_13.1 cC_13.2 (by decide) rfl rfl (Nat.le_of_ble_eq_true rfl) (Nat.le_refl _) rfl (Cal.weak h (fun o w7 h => ?_))
    rcases rI_of h with ⟨x8, rfl, h⟩
    refine v_pop (pc := 64) d_Re_readTold_64 rfl ?_
    refine v_goto (pc := 65) (tgt := 102) d_Re_readTold_65 (by decide) ?_
    refine v_aload_n (pc := 102) d_Re_readTold_102 rfl (.head _) ?_
    refine v_getr (C := "") (pc := 103) (r := 25) d_Re_readTold_103 fl_Re_34 cC_24.1 cC_24.2 (Or.inl ⟨_, rfl⟩) rC_24_4 ?_
    refine v_iconst (pc := 106) d_Re_readTold_106 (by decide) ?_
    refine v_callV (pc := 107) (J' := jCu_take) (d' := d) (o := 25) (ci := 1) (N := 6) (T := cT1) (As := [vI 4]) d_Re_readTold_107 ml_Re_71 cC_25.1 cC_25.2 (by decide) rfl rfl (Nat.le_of_ble_eq_true rfl) (Nat.le_refl _) rfl (Cal.weak h (fun o w9 h => ?_))
    rcases rI_of h with ⟨x10, rfl, h⟩
    refine v_pop (pc := 110) d_Re_readTold_110 rfl ?_
    exact v_vret (pc := 111) d_Re_readTold_111 rfl h
  · replace h := (h.2 c0).1 c
    refine v_aload_n (pc := 68) d_Re_readTold_68 rfl (.head _) ?_
    refine v_callV (pc := 69) (J' := jRe_readState) (d' := d) (o := 24) (ci := 8) (N := 7) (T := cT8) (As := []) d_Re_readTold_69 ml_Re_140 cC_24.1 cC_24.2 (by decide) rfl rfl (Nat.le_of_ble_eq_true rfl) (Nat.le_refl _) rfl (Cal.weak h (fun o w11 h => ?_))
    rcases rV_of h with ⟨rfl, h⟩
    refine v_goto (pc := 72) (tgt := 102) d_Re_readTold_72 (by decide) ?_
    refine v_aload_n (pc := 102) d_Re_readTold_102 rfl (.head _) ?_
    refine v_getr (C := "") (pc := 103) (r := 25) d_Re_readTold_103 fl_Re_34 cC_24.1 cC_24.2 (Or.inl ⟨_, rfl⟩) rC_24_4 ?_
    refine v_iconst (pc := 106) d_Re_readTold_106 (by decide) ?_
    refine v_callV (pc := 107) (J' := jCu_take) (d' := d) (o := 25) (ci := 1) (N := 6) (T := cT1) (As := [vI 4]) d_Re_readTold_107 ml_Re_71 cC_25.1 cC_25.2 (by decide) rfl rfl (Nat.le_of_ble_eq_true rfl) (Nat.le_refl _) rfl (Cal.weak h (fun o w12 h => ?_))
    rcases rI_of h with ⟨x13, rfl, h⟩
    refine v_pop (pc := 110) d_Re_readTold_110 rfl ?_
    exact v_vret (pc := 111) d_Re_readTold_111 rfl h
  · replace h := ((h.2 c0).2 c1).1 c
    refine v_aload_n (pc := 75) d_Re_readTold_75 rfl (.head _) ?_
    refine v_iconst (pc := 76) d_Re_readTold_76 (by decide) ?_
    refine v_aload_n (pc := 77) d_Re_readTold_77 rfl (.head _) ?_
    refine v_getr (C := "") (pc := 78) (r := 8) d_Re_readTold_78 fl_Re_13 cC_24.1 cC_24.2 (Or.inl ⟨_, rfl⟩) rC_24_1 ?_
    refine v_getr (C := "") (pc := 81) (r := 10) d_Re_readTold_81 fl_Re_143 cC_8.1 cC_8.2 (Or.inr ⟨_, rfl⟩) rC_8_7 ?_
    refine v_callV (pc := 84) (J' := jRe_readFolded) (d' := d) (o := 24) (ci := 8) (N := 7) (T := cT8) (As := [vI 2, vA 10]) d_Re_readTold_84 ml_Re_146 cC_24.1 cC_24.2 (by decide) rfl rfl (Nat.le_of_ble_eq_true rfl) (Nat.le_refl _) rfl (Cal.weak h (fun o w14 h => ?_))
    rcases rV_of h with ⟨rfl, h⟩
    refine v_goto (pc := 87) (tgt := 102) d_Re_readTold_87 (by decide) ?_
    refine v_aload_n (pc := 102) d_Re_readTold_102 rfl (.head _) ?_
    refine v_getr (C := "") (pc := 103) (r := 25) d_Re_readTold_103 fl_Re_34 cC_24.1 cC_24.2 (Or.inl ⟨_, rfl⟩) rC_24_4 ?_
    refine v_iconst (pc := 106) d_Re_readTold_106 (by decide) ?_
    refine v_callV (pc := 107) (J' := jCu_take) (d' := d) (o := 25) (ci := 1) (N := 6) (T := cT1) (As := [vI 4]) d_Re_readTold_107 ml_Re_71 cC_25.1 cC_25.2 (by decide) rfl rfl (Nat.le_of_ble_eq_true rfl) (Nat.le_refl _) rfl (Cal.weak h (fun o w15 h => ?_))
    rcases rI_of h with ⟨x16, rfl, h⟩
    refine v_pop (pc := 110) d_Re_readTold_110 rfl ?_
    exact v_vret (pc := 111) d_Re_readTold_111 rfl h
  · replace h := (((h.2 c0).2 c1).2 c2)
    refine v_aload_n (pc := 90) d_Re_readTold_90 rfl (.head _) ?_
    refine v_iconst (pc := 91) d_Re_readTold_91 (by decide) ?_
    refine v_aload_n (pc := 92) d_Re_readTold_92 rfl (.head _) ?_
    refine v_getr (C := "") (pc := 93) (r := 8) d_Re_readTold_93 fl_Re_13 cC_24.1 cC_24.2 (Or.inl ⟨_, rfl⟩) rC_24_1 ?_
    refine v_getr (C := "") (pc := 96) (r := 11) d_Re_readTold_96 fl_Re_150 cC_8.1 cC_8.2 (Or.inr ⟨_, rfl⟩) rC_8_8 ?_
    refine v_callV (pc := 99) (J' := jRe_readFolded) (d' := d) (o := 24) (ci := 8) (N := 7) (T := cT8) (As := [vI 3, vA 11]) d_Re_readTold_99 ml_Re_146 cC_24.1 cC_24.2 (by decide) rfl rfl (Nat.le_of_ble_eq_true rfl) (Nat.le_refl _) rfl (Cal.weak h (fun o w17 h => ?_))
    rcases rV_of h with ⟨rfl, h⟩
    refine v_aload_n (pc := 102) d_Re_readTold_102 rfl (.head _) ?_
    refine v_getr (C := "") (pc := 103) (r := 25) d_Re_readTold_103 fl_Re_34 cC_24.1 cC_24.2 (Or.inl ⟨_, rfl⟩) rC_24_4 ?_
    refine v_iconst (pc := 106) d_Re_readTold_106 (by decide) ?_
    refine v_callV (pc := 107) (J' := jCu_take) (d' := d) (o := 25) (ci := 1) (N := 6) (T := cT1) (As := [vI 4]) d_Re_readTold_107 ml_Re_71 cC_25.1 cC_25.2 (by decide) rfl rfl (Nat.le_of_ble_eq_true rfl) (Nat.le_refl _) rfl (Cal.weak h (fun o w18 h => ?_))
    rcases rI_of h with ⟨x19, rfl, h⟩
    refine v_pop (pc := 110) d_Re_readTold_110 rfl ?_
    exact v_vret (pc := 111) d_Re_readTold_111 rfl h
theorem d_Re_newName_0 : decode jRe_newName.cc 0 = .ok (.aload_n 0, 1) := by decide +kernel
theorem d_Re_newName_1 : decode jRe_newName.cc 1 = .ok (.getfield 34, 3) := by decide +kernel
theorem d_Re_newName_4 : decode jRe_newName.cc 4 = .ok (.iconst 2, 1) := by decide +kernel
theorem d_Re_newName_5 : decode jRe_newName.cc 5 = .ok (.invokevirtual 94, 3) := by decide +kernel
theorem d_Re_newName_8 : decode jRe_newName.cc 8 = .ok (.ifCond .eq 22, 3) := by decide +kernel
theorem d_Re_newName_11 : decode jRe_newName.cc 11 = .ok (.aload_n 0, 1) := by decide +kernel
theorem d_Re_newName_12 : decode jRe_newName.cc 12 = .ok (.getfield 23, 3) := by decide +kernel
theorem d_Re_newName_15 : decode jRe_newName.cc 15 = .ok (.iload_n 1, 1) := by decide +kernel
theorem d_Re_newName_16 : decode jRe_newName.cc 16 = .ok (.invokevirtual 153, 3) := by decide +kernel
theorem d_Re_newName_19 : decode jRe_newName.cc 19 = .ok (.ifCond .eq 11, 3) := by decide +kernel
theorem d_Re_newName_22 : decode jRe_newName.cc 22 = .ok (.aload_n 0, 1) := by decide +kernel
theorem d_Re_newName_23 : decode jRe_newName.cc 23 = .ok (.getfield 34, 3) := by decide +kernel
theorem d_Re_newName_26 : decode jRe_newName.cc 26 = .ok (.iconst 2, 1) := by decide +kernel
theorem d_Re_newName_27 : decode jRe_newName.cc 27 = .ok (.invokevirtual 97, 3) := by decide +kernel
theorem d_Re_newName_30 : decode jRe_newName.cc 30 = .ok (.aload_n 0, 1) := by decide +kernel
theorem d_Re_newName_31 : decode jRe_newName.cc 31 = .ok (.getfield 34, 3) := by decide +kernel
theorem d_Re_newName_34 : decode jRe_newName.cc 34 = .ok (.iconst 2, 1) := by decide +kernel
theorem d_Re_newName_35 : decode jRe_newName.cc 35 = .ok (.invokevirtual 71, 3) := by decide +kernel
theorem d_Re_newName_38 : decode jRe_newName.cc 38 = .ok (.istore_n 2, 1) := by decide +kernel
theorem d_Re_newName_39 : decode jRe_newName.cc 39 = .ok (.aload_n 0, 1) := by decide +kernel
theorem d_Re_newName_40 : decode jRe_newName.cc 40 = .ok (.getfield 23, 3) := by decide +kernel
theorem d_Re_newName_43 : decode jRe_newName.cc 43 = .ok (.iload_n 2, 1) := by decide +kernel
theorem d_Re_newName_44 : decode jRe_newName.cc 44 = .ok (.invokevirtual 156, 3) := by decide +kernel
theorem d_Re_newName_47 : decode jRe_newName.cc 47 = .ok (.ifCond .lt 12, 3) := by decide +kernel
theorem d_Re_newName_50 : decode jRe_newName.cc 50 = .ok (.aload_n 0, 1) := by decide +kernel
theorem d_Re_newName_51 : decode jRe_newName.cc 51 = .ok (.getfield 34, 3) := by decide +kernel
theorem d_Re_newName_54 : decode jRe_newName.cc 54 = .ok (.iconst 3, 1) := by decide +kernel
theorem d_Re_newName_55 : decode jRe_newName.cc 55 = .ok (.iload_n 2, 1) := by decide +kernel
theorem d_Re_newName_56 : decode jRe_newName.cc 56 = .ok (.invokevirtual 159, 3) := by decide +kernel
theorem d_Re_newName_59 : decode jRe_newName.cc 59 = .ok (.iload_n 2, 1) := by decide +kernel
theorem d_Re_newName_60 : decode jRe_newName.cc 60 = .ok (.ireturn, 1) := by decide +kernel
set_option maxHeartbeats 4000000 in
theorem s_Re_newName {g : Mg} {d : Nat} {K : Ou → Wd → Prop} {w : Wd} {p1 : Int} (h : Cal g LC jCu_sees d [vA 25, vI 2] w (fun o w1 => rI o (fun x2 => (x2 = 0 → (Cal g LC jCu_take d [vA 25, vI 2] w1 (fun o w3 => rI o (fun x4 => Cal g LC jLo_find d [vA 13, vI x4] w3 (fun o w5 => rI o (fun x6 => (x6 < 0 → (K (.inl (some (vI x4))) w5)) ∧ (¬ x6 < 0 → (Cal g LC jCu_blame d [vA 25, vI 3, vI x4] w5 (fun o w7 => rV o (K (.inl (some (vI x4))) w7)))))))))) ∧ (¬ x2 = 0 → (Cal g LC jLo_isFull d [vA 13, vI p1] w1 (fun o w8 => rI o (fun x9 => (x9 = 0 → (Cal g LC jCu_take d [vA 25, vI 2] w8 (fun o w10 => rI o (fun x11 => Cal g LC jLo_find d [vA 13, vI x11] w10 (fun o w12 => rI o (fun x13 => (x13 < 0 → (K (.inl (some (vI x11))) w12)) ∧ (¬ x13 < 0 → (Cal g LC jCu_blame d [vA 25, vI 3, vI x11] w12 (fun o w14 => rV o (K (.inl (some (vI x11))) w14)))))))))) ∧ (¬ x9 = 0 → (Cal g LC jCu_stop d [vA 25, vI 2] w8 (fun o w15 => rV o (Cal g LC jCu_take d [vA 25, vI 2] w15 (fun o w16 => rI o (fun x17 => Cal g LC jLo_find d [vA 13, vI x17] w16 (fun o w18 => rI o (fun x19 => (x19 < 0 → (K (.inl (some (vI x17))) w18)) ∧ (¬ x19 < 0 → (Cal g LC jCu_blame d [vA 25, vI 3, vI x17] w18 (fun o w20 => rV o (K (.inl (some (vI x17))) w20))))))))))))))))))) : V g LC jRe_newName (d + 1) K 0 [(0, vA 24), (1, vI p1)] [] w := by
  refine v_aload_n (pc := 0) d_Re_newName_0 rfl (.head _) ?_
  refine v_getr (C := "") (pc := 1) (r := 25) d_Re_newName_1 fl_Re_34 cC_24.1 cC_24.2 (Or.inl ⟨_, rfl⟩) rC_24_4 ?_
  refine v_iconst (pc := 4) d_Re_newName_4 (by decide) ?_
  refine v_callV (pc := 5) (J' := jCu_sees) (d' := d) (o := 25) (ci := 1) (N := 6) (T := cT1) (As := [vI 2]) d_Re_newName_5 ml_Re_94 cC_25.1 cC_25.2 (by decide) rfl rfl (Nat.le_of_ble_eq_true rfl) (Nat.le_refl _) rfl (Cal.weak h (fun o w1 h => ?_))
  rcases rI_of h with ⟨x2, rfl, h⟩
  refine v_ifeq (pc := 8) (tgt := 30) d_Re_newName_8 (by decide) (fun c => ?_) (fun c => ?_)
  · replace h := h.1 c
    refine v_aload_n (pc := 30) d_Re_newName_30 rfl (.head _) ?_
    refine v_getr (C := "") (pc := 31) (r := 25) d_Re_newName_31 fl_Re_34 cC_24.1 cC_24.2 (Or.inl ⟨_, rfl⟩) rC_24_4 ?_
    refine v_iconst (pc := 34) d_Re_newName_34 (by decide) ?_
    refine v_callV (pc := 35) (J' := jCu_take) (d' := d) (o := 25) (ci := 1) (N := 6) (T := cT1) (As := [vI 2]) d_Re_newName_35 ml_Re_71 cC_25.1 cC_25.2 (by decide) rfl rfl (Nat.le_of_ble_eq_true rfl) (Nat.le_refl _) rfl (Cal.weak h (fun o w3 h => ?_))
    rcases rI_of h with ⟨x4, rfl, h⟩
    refine v_istore_n (pc := 38) (ls' := [(2, vI x4), (0, vA 24), (1, vI p1)]) d_Re_newName_38 rfl (by decide) rfl ?_
    refine v_aload_n (pc := 39) d_Re_newName_39 rfl (.tail _ (.head _)) ?_
    refine v_getr (C := "") (pc := 40) (r := 13) d_Re_newName_40 fl_Re_23 cC_24.1 cC_24.2 (Or.inl ⟨_, rfl⟩) rC_24_2 ?_
    refine v_iload_n (pc := 43) d_Re_newName_43 rfl (.head _) ?_
    refine v_callV (pc := 44) (J' := jLo_find) (d' := d) (o := 13) (ci := 4) (N := 7) (T := cT4) (As := [vI x4]) d_Re_newName_44 ml_Re_156 cC_13.1 cC_13.2 (by decide) rfl rfl (Nat.le_of_ble_eq_true rfl) (Nat.le_refl _) rfl (Cal.weak h (fun o w5 h => ?_))
    rcases rI_of h with ⟨x6, rfl, h⟩
    refine v_iflt (pc := 47) (tgt := 59) d_Re_newName_47 (by decide) (fun c => ?_) (fun c => ?_)
    · replace h := h.1 c
      refine v_iload_n (pc := 59) d_Re_newName_59 rfl (.head _) ?_
      exact v_iret (pc := 60) d_Re_newName_60 rfl h
    · replace h := h.2 c
      refine v_aload_n (pc := 50) d_Re_newName_50 rfl (.tail _ (.head _)) ?_
      refine v_getr (C := "") (pc := 51) (r := 25) d_Re_newName_51 fl_Re_34 cC_24.1 cC_24.2 (Or.inl ⟨_, rfl⟩) rC_24_4 ?_
      refine v_iconst (pc := 54) d_Re_newName_54 (by decide) ?_
      refine v_iload_n (pc := 55) d_Re_newName_55 rfl (.head _) ?_
      refine v_callV (pc := 56) (J' := jCu_blame) (d' := d) (o := 25) (ci := 1) (N := 6) (T := cT1) (As := [vI 3, vI x4]) d_Re_newName_56 ml_Re_159 cC_25.1 cC_25.2 (by decide) rfl rfl (Nat.le_of_ble_eq_true rfl) (Nat.le_refl _) rfl (Cal.weak h (fun o w7 h => ?_))
      rcases rV_of h with ⟨rfl, h⟩
      refine v_iload_n (pc := 59) d_Re_newName_59 rfl (.head _) ?_
      exact v_iret (pc := 60) d_Re_newName_60 rfl h
  · replace h := h.2 c
    refine v_aload_n (pc := 11) d_Re_newName_11 rfl (.head _) ?_
    refine v_getr (C := "") (pc := 12) (r := 13) d_Re_newName_12 fl_Re_23 cC_24.1 cC_24.2 (Or.inl ⟨_, rfl⟩) rC_24_2 ?_
    refine v_iload_n (pc := 15) d_Re_newName_15 rfl (.tail _ (.head _)) ?_
    refine v_callV (pc := 16) (J' := jLo_isFull) (d' := d) (o := 13) (ci := 4) (N := 7) (T := cT4) (As := [vI p1]) d_Re_newName_16 ml_Re_153 cC_13.1 cC_13.2 (by decide) rfl rfl (Nat.le_of_ble_eq_true rfl) (Nat.le_refl _) rfl (Cal.weak h (fun o w8 h => ?_))
    rcases rI_of h with ⟨x9, rfl, h⟩
    refine v_ifeq (pc := 19) (tgt := 30) d_Re_newName_19 (by decide) (fun c => ?_) (fun c => ?_)
    · replace h := h.1 c
      refine v_aload_n (pc := 30) d_Re_newName_30 rfl (.head _) ?_
      refine v_getr (C := "") (pc := 31) (r := 25) d_Re_newName_31 fl_Re_34 cC_24.1 cC_24.2 (Or.inl ⟨_, rfl⟩) rC_24_4 ?_
      refine v_iconst (pc := 34) d_Re_newName_34 (by decide) ?_
      refine v_callV (pc := 35) (J' := jCu_take) (d' := d) (o := 25) (ci := 1) (N := 6) (T := cT1) (As := [vI 2]) d_Re_newName_35 ml_Re_71 cC_25.1 cC_25.2 (by decide) rfl rfl (Nat.le_of_ble_eq_true rfl) (Nat.le_refl _) rfl (Cal.weak h (fun o w10 h => ?_))
      rcases rI_of h with ⟨x11, rfl, h⟩
      refine v_istore_n (pc := 38) (ls' := [(2, vI x11), (0, vA 24), (1, vI p1)]) d_Re_newName_38 rfl (by decide) rfl ?_
      refine v_aload_n (pc := 39) d_Re_newName_39 rfl (.tail _ (.head _)) ?_
      refine v_getr (C := "") (pc := 40) (r := 13) d_Re_newName_40 fl_Re_23 cC_24.1 cC_24.2 (Or.inl ⟨_, rfl⟩) rC_24_2 ?_
      refine v_iload_n (pc := 43) d_Re_newName_43 rfl (.head _) ?_
      refine v_callV (pc := 44) (J' := jLo_find) (d' := d) (o := 13) (ci := 4) (N := 7) (T := cT4) (As := [vI x11]) d_Re_newName_44 ml_Re_156 cC_13.1 cC_13.2 (by decide) rfl rfl (Nat.le_of_ble_eq_true rfl) (Nat.le_refl _) rfl (Cal.weak h (fun o w12 h => ?_))
      rcases rI_of h with ⟨x13, rfl, h⟩
      refine v_iflt (pc := 47) (tgt := 59) d_Re_newName_47 (by decide) (fun c => ?_) (fun c => ?_)
      · replace h := h.1 c
        refine v_iload_n (pc := 59) d_Re_newName_59 rfl (.head _) ?_
        exact v_iret (pc := 60) d_Re_newName_60 rfl h
      · replace h := h.2 c
        refine v_aload_n (pc := 50) d_Re_newName_50 rfl (.tail _ (.head _)) ?_
        refine v_getr (C := "") (pc := 51) (r := 25) d_Re_newName_51 fl_Re_34 cC_24.1 cC_24.2 (Or.inl ⟨_, rfl⟩) rC_24_4 ?_
        refine v_iconst (pc := 54) d_Re_newName_54 (by decide) ?_
        refine v_iload_n (pc := 55) d_Re_newName_55 rfl (.head _) ?_
        refine v_callV (pc := 56) (J' := jCu_blame) (d' := d) (o := 25) (ci := 1) (N := 6) (T := cT1) (As := [vI 3, vI x11]) d_Re_newName_56 ml_Re_159 cC_25.1 cC_25.2 (by decide) rfl rfl (Nat.le_of_ble_eq_true rfl) (Nat.le_refl _) rfl (Cal.weak h (fun o w14 h => ?_))
        rcases rV_of h with ⟨rfl, h⟩
        refine v_iload_n (pc := 59) d_Re_newName_59 rfl (.head _) ?_
        exact v_iret (pc := 60) d_Re_newName_60 rfl h
    · replace h := h.2 c
      refine v_aload_n (pc := 22) d_Re_newName_22 rfl (.head _) ?_
      refine v_getr (C := "") (pc := 23) (r := 25) d_Re_newName_23 fl_Re_34 cC_24.1 cC_24.2 (Or.inl ⟨_, rfl⟩) rC_24_4 ?_
      refine v_iconst (pc := 26) d_Re_newName_26 (by decide) ?_
      refine v_callV (pc := 27) (J' := jCu_stop) (d' := d) (o := 25) (ci := 1) (N := 6) (T := cT1) (As := [vI 2]) d_Re_newName_27 ml_Re_97 cC_25.1 cC_25.2 (by decide) rfl rfl (Nat.le_of_ble_eq_true rfl) (Nat.le_refl _) rfl (Cal.weak h (fun o w15 h => ?_))
      rcases rV_of h with ⟨rfl, h⟩
      refine v_aload_n (pc := 30) d_Re_newName_30 rfl (.head _) ?_
      refine v_getr (C := "") (pc := 31) (r := 25) d_Re_newName_31 fl_Re_34 cC_24.1 cC_24.2 (Or.inl ⟨_, rfl⟩) rC_24_4 ?_
      refine v_iconst (pc := 34) d_Re_newName_34 (by decide) ?_
      refine v_callV (pc := 35) (J' := jCu_take) (d' := d) (o := 25) (ci := 1) (N := 6) (T := cT1) (As := [vI 2]) d_Re_newName_35 ml_Re_71 cC_25.1 cC_25.2 (by decide) rfl rfl (Nat.le_of_ble_eq_true rfl) (Nat.le_refl _) rfl (Cal.weak h (fun o w16 h => ?_))
      rcases rI_of h with ⟨x17, rfl, h⟩
      refine v_istore_n (pc := 38) (ls' := [(2, vI x17), (0, vA 24), (1, vI p1)]) d_Re_newName_38 rfl (by decide) rfl ?_
      refine v_aload_n (pc := 39) d_Re_newName_39 rfl (.tail _ (.head _)) ?_
      refine v_getr (C := "") (pc := 40) (r := 13) d_Re_newName_40 fl_Re_23 cC_24.1 cC_24.2 (Or.inl ⟨_, rfl⟩) rC_24_2 ?_
      refine v_iload_n (pc := 43) d_Re_newName_43 rfl (.head _) ?_
      refine v_callV (pc := 44) (J' := jLo_find) (d' := d) (o := 13) (ci := 4) (N := 7) (T := cT4) (As := [vI x17]) d_Re_newName_44 ml_Re_156 cC_13.1 cC_13.2 (by decide) rfl rfl (Nat.le_of_ble_eq_true rfl) (Nat.le_refl _) rfl (Cal.weak h (fun o w18 h => ?_))
      rcases rI_of h with ⟨x19, rfl, h⟩
      refine v_iflt (pc := 47) (tgt := 59) d_Re_newName_47 (by decide) (fun c => ?_) (fun c => ?_)
      · replace h := h.1 c
        refine v_iload_n (pc := 59) d_Re_newName_59 rfl (.head _) ?_
        exact v_iret (pc := 60) d_Re_newName_60 rfl h
      · replace h := h.2 c
        refine v_aload_n (pc := 50) d_Re_newName_50 rfl (.tail _ (.head _)) ?_
        refine v_getr (C := "") (pc := 51) (r := 25) d_Re_newName_51 fl_Re_34 cC_24.1 cC_24.2 (Or.inl ⟨_, rfl⟩) rC_24_4 ?_
        refine v_iconst (pc := 54) d_Re_newName_54 (by decide) ?_
        refine v_iload_n (pc := 55) d_Re_newName_55 rfl (.head _) ?_
        refine v_callV (pc := 56) (J' := jCu_blame) (d' := d) (o := 25) (ci := 1) (N := 6) (T := cT1) (As := [vI 3, vI x17]) d_Re_newName_56 ml_Re_159 cC_25.1 cC_25.2 (by decide) rfl rfl (Nat.le_of_ble_eq_true rfl) (Nat.le_refl _) rfl (Cal.weak h (fun o w20 h => ?_))
        rcases rV_of h with ⟨rfl, h⟩
        refine v_iload_n (pc := 59) d_Re_newName_59 rfl (.head _) ?_
        exact v_iret (pc := 60) d_Re_newName_60 rfl h
theorem d_Re_readState_0 : decode jRe_readState.cc 0 = .ok (.aload_n 0, 1) := by decide +kernel
theorem d_Re_readState_1 : decode jRe_readState.cc 1 = .ok (.getfield 34, 3) := by decide +kernel
theorem d_Re_readState_4 : decode jRe_readState.cc 4 = .ok (.bipush 28, 2) := by decide +kernel
theorem d_Re_readState_6 : decode jRe_readState.cc 6 = .ok (.invokevirtual 71, 3) := by decide +kernel
theorem d_Re_readState_9 : decode jRe_readState.cc 9 = .ok (.pop, 1) := by decide +kernel
theorem d_Re_readState_10 : decode jRe_readState.cc 10 = .ok (.aload_n 0, 1) := by decide +kernel
theorem d_Re_readState_11 : decode jRe_readState.cc 11 = .ok (.iconst 1, 1) := by decide +kernel
theorem d_Re_readState_12 : decode jRe_readState.cc 12 = .ok (.invokevirtual 136, 3) := by decide +kernel
theorem d_Re_readState_15 : decode jRe_readState.cc 15 = .ok (.istore_n 1, 1) := by decide +kernel
theorem d_Re_readState_16 : decode jRe_readState.cc 16 = .ok (.aload_n 0, 1) := by decide +kernel
theorem d_Re_readState_17 : decode jRe_readState.cc 17 = .ok (.getfield 34, 3) := by decide +kernel
theorem d_Re_readState_20 : decode jRe_readState.cc 20 = .ok (.bipush 11, 2) := by decide +kernel
theorem d_Re_readState_22 : decode jRe_readState.cc 22 = .ok (.invokevirtual 71, 3) := by decide +kernel
theorem d_Re_readState_25 : decode jRe_readState.cc 25 = .ok (.pop, 1) := by decide +kernel
theorem d_Re_readState_26 : decode jRe_readState.cc 26 = .ok (.aload_n 0, 1) := by decide +kernel
theorem d_Re_readState_27 : decode jRe_readState.cc 27 = .ok (.getfield 34, 3) := by decide +kernel
theorem d_Re_readState_30 : decode jRe_readState.cc 30 = .ok (.bipush 30, 2) := by decide +kernel
theorem d_Re_readState_32 : decode jRe_readState.cc 32 = .ok (.invokevirtual 94, 3) := by decide +kernel
theorem d_Re_readState_35 : decode jRe_readState.cc 35 = .ok (.istore_n 2, 1) := by decide +kernel
theorem d_Re_readState_36 : decode jRe_readState.cc 36 = .ok (.aload_n 0, 1) := by decide +kernel
theorem d_Re_readState_37 : decode jRe_readState.cc 37 = .ok (.getfield 34, 3) := by decide +kernel
theorem d_Re_readState_40 : decode jRe_readState.cc 40 = .ok (.iload_n 2, 1) := by decide +kernel
theorem d_Re_readState_41 : decode jRe_readState.cc 41 = .ok (.ifCond .eq 8, 3) := by decide +kernel
theorem d_Re_readState_44 : decode jRe_readState.cc 44 = .ok (.bipush 30, 2) := by decide +kernel
theorem d_Re_readState_46 : decode jRe_readState.cc 46 = .ok (.goto 5, 3) := by decide +kernel
theorem d_Re_readState_49 : decode jRe_readState.cc 49 = .ok (.bipush 29, 2) := by decide +kernel
theorem d_Re_readState_51 : decode jRe_readState.cc 51 = .ok (.invokevirtual 71, 3) := by decide +kernel
theorem d_Re_readState_54 : decode jRe_readState.cc 54 = .ok (.pop, 1) := by decide +kernel
theorem d_Re_readState_55 : decode jRe_readState.cc 55 = .ok (.aload_n 0, 1) := by decide +kernel
theorem d_Re_readState_56 : decode jRe_readState.cc 56 = .ok (.getfield 34, 3) := by decide +kernel
theorem d_Re_readState_59 : decode jRe_readState.cc 59 = .ok (.bipush 12, 2) := by decide +kernel
theorem d_Re_readState_61 : decode jRe_readState.cc 61 = .ok (.invokevirtual 71, 3) := by decide +kernel
theorem d_Re_readState_64 : decode jRe_readState.cc 64 = .ok (.pop, 1) := by decide +kernel
theorem d_Re_readState_65 : decode jRe_readState.cc 65 = .ok (.iload_n 2, 1) := by decide +kernel
theorem d_Re_readState_66 : decode jRe_readState.cc 66 = .ok (.ifCond .eq 10, 3) := by decide +kernel
theorem d_Re_readState_69 : decode jRe_readState.cc 69 = .ok (.aload_n 0, 1) := by decide +kernel
theorem d_Re_readState_70 : decode jRe_readState.cc 70 = .ok (.invokevirtual 163, 3) := by decide +kernel
theorem d_Re_readState_73 : decode jRe_readState.cc 73 = .ok (.goto 7, 3) := by decide +kernel
theorem d_Re_readState_76 : decode jRe_readState.cc 76 = .ok (.aload_n 0, 1) := by decide +kernel
theorem d_Re_readState_77 : decode jRe_readState.cc 77 = .ok (.invokevirtual 166, 3) := by decide +kernel
theorem d_Re_readState_80 : decode jRe_readState.cc 80 = .ok (.istore_n 3, 1) := by decide +kernel
theorem d_Re_readState_81 : decode jRe_readState.cc 81 = .ok (.aload_n 0, 1) := by decide +kernel
theorem d_Re_readState_82 : decode jRe_readState.cc 82 = .ok (.getfield 23, 3) := by decide +kernel
theorem d_Re_readState_85 : decode jRe_readState.cc 85 = .ok (.iload_n 1, 1) := by decide +kernel
theorem d_Re_readState_86 : decode jRe_readState.cc 86 = .ok (.iconst 1, 1) := by decide +kernel
theorem d_Re_readState_87 : decode jRe_readState.cc 87 = .ok (.iload_n 2, 1) := by decide +kernel
theorem d_Re_readState_88 : decode jRe_readState.cc 88 = .ok (.ifCond .eq 7, 3) := by decide +kernel
theorem d_Re_readState_91 : decode jRe_readState.cc 91 = .ok (.iconst 2, 1) := by decide +kernel
theorem d_Re_readState_92 : decode jRe_readState.cc 92 = .ok (.goto 4, 3) := by decide +kernel
theorem d_Re_readState_95 : decode jRe_readState.cc 95 = .ok (.iconst 1, 1) := by decide +kernel
theorem d_Re_readState_96 : decode jRe_readState.cc 96 = .ok (.invokevirtual 139, 3) := by decide +kernel
theorem d_Re_readState_99 : decode jRe_readState.cc 99 = .ok (.istore 4, 2) := by decide +kernel
theorem d_Re_readState_101 : decode jRe_readState.cc 101 = .ok (.iload 4, 2) := by decide +kernel
theorem d_Re_readState_103 : decode jRe_readState.cc 103 = .ok (.ifCond .lt 27, 3) := by decide +kernel
theorem d_Re_readState_106 : decode jRe_readState.cc 106 = .ok (.iload 4, 2) := by decide +kernel
theorem d_Re_readState_108 : decode jRe_readState.cc 108 = .ok (.aload_n 0, 1) := by decide +kernel
theorem d_Re_readState_109 : decode jRe_readState.cc 109 = .ok (.getfield 13, 3) := by decide +kernel
theorem d_Re_readState_112 : decode jRe_readState.cc 112 = .ok (.getfield 169, 3) := by decide +kernel
theorem d_Re_readState_115 : decode jRe_readState.cc 115 = .ok (.arraylength, 1) := by decide +kernel
theorem d_Re_readState_116 : decode jRe_readState.cc 116 = .ok (.if_icmp .ge 14, 3) := by decide +kernel
theorem d_Re_readState_119 : decode jRe_readState.cc 119 = .ok (.aload_n 0, 1) := by decide +kernel
theorem d_Re_readState_120 : decode jRe_readState.cc 120 = .ok (.getfield 13, 3) := by decide +kernel
theorem d_Re_readState_123 : decode jRe_readState.cc 123 = .ok (.getfield 169, 3) := by decide +kernel
theorem d_Re_readState_126 : decode jRe_readState.cc 126 = .ok (.iload 4, 2) := by decide +kernel
theorem d_Re_readState_128 : decode jRe_readState.cc 128 = .ok (.iload_n 3, 1) := by decide +kernel
theorem d_Re_readState_129 : decode jRe_readState.cc 129 = .ok (.iastore, 1) := by decide +kernel
theorem d_Re_readState_130 : decode jRe_readState.cc 130 = .ok (.return_, 1) := by decide +kernel
set_option maxHeartbeats 4000000 in
theorem s_Re_readState {g : Mg} {d : Nat} {K : Ou → Wd → Prop} {w : Wd} (h : Cal g LC jCu_take d [vA 25, vI 28] w (fun o w1 => rI o (fun x2 => Cal g LC jRe_newName d [vA 24, vI 1] w1 (fun o w3 => rI o (fun x4 => Cal g LC jCu_take d [vA 25, vI 11] w3 (fun o w5 => rI o (fun x6 => Cal g LC jCu_sees d [vA 25, vI 30] w5 (fun o w7 => rI o (fun x8 => (x8 = 0 → (V g LC jRe_readState (d + 1) K 51 [(0, vA 24), (1, vI x4), (2, vI x8)] [vI 29, vA 25] w7)) ∧ (¬ x8 = 0 → (V g LC jRe_readState (d + 1) K 51 [(0, vA 24), (1, vI x4), (2, vI x8)] [vI 30, vA 25] w7))))))))))) : V g LC jRe_readState (d + 1) K 0 [(0, vA 24)] [] w := by
  refine v_aload_n (pc := 0) d_Re_readState_0 rfl (.head _) ?_
  refine v_getr (C := "") (pc := 1) (r := 25) d_Re_readState_1 fl_Re_34 cC_24.1 cC_24.2 (Or.inl ⟨_, rfl⟩) rC_24_4 ?_
  refine v_bipush (pc := 4) d_Re_readState_4 (by decide) rfl ?_
  refine v_callV (pc := 6) (J' := jCu_take) (d' := d) (o := 25) (ci := 1) (N := 6) (T := cT1) (As := [vI 28]) d_Re_readState_6 ml_Re_71 cC_25.1 cC_25.2 (by decide) rfl rfl (Nat.le_of_ble_eq_true rfl) (Nat.le_refl _) rfl (Cal.weak h (fun o w1 h => ?_))
  rcases rI_of h with ⟨x2, rfl, h⟩
  refine v_pop (pc := 9) d_Re_readState_9 rfl ?_
  refine v_aload_n (pc := 10) d_Re_readState_10 rfl (.head _) ?_
  refine v_iconst (pc := 11) d_Re_readState_11 (by decide) ?_
  refine v_callV (pc := 12) (J' := jRe_newName) (d' := d) (o := 24) (ci := 8) (N := 7) (T := cT8) (As := [vI 1]) d_Re_readState_12 ml_Re_136 cC_24.1 cC_24.2 (by decide) rfl rfl (Nat.le_of_ble_eq_true rfl) (Nat.le_refl _) rfl (Cal.weak h (fun o w3 h => ?_))
  rcases rI_of h with ⟨x4, rfl, h⟩
  refine v_istore_n (pc := 15) (ls' := [(1, vI x4), (0, vA 24)]) d_Re_readState_15 rfl (by decide) rfl ?_
  refine v_aload_n (pc := 16) d_Re_readState_16 rfl (.tail _ (.head _)) ?_
  refine v_getr (C := "") (pc := 17) (r := 25) d_Re_readState_17 fl_Re_34 cC_24.1 cC_24.2 (Or.inl ⟨_, rfl⟩) rC_24_4 ?_
  refine v_bipush (pc := 20) d_Re_readState_20 (by decide) rfl ?_
  refine v_callV (pc := 22) (J' := jCu_take) (d' := d) (o := 25) (ci := 1) (N := 6) (T := cT1) (As := [vI 11]) d_Re_readState_22 ml_Re_71 cC_25.1 cC_25.2 (by decide) rfl rfl (Nat.le_of_ble_eq_true rfl) (Nat.le_refl _) rfl (Cal.weak h (fun o w5 h => ?_))
  rcases rI_of h with ⟨x6, rfl, h⟩
  refine v_pop (pc := 25) d_Re_readState_25 rfl ?_
  refine v_aload_n (pc := 26) d_Re_readState_26 rfl (.tail _ (.head _)) ?_
  refine v_getr (C := "") (pc := 27) (r := 25) d_Re_readState_27 fl_Re_34 cC_24.1 cC_24.2 (Or.inl ⟨_, rfl⟩) rC_24_4 ?_
  refine v_bipush (pc := 30) d_Re_readState_30 (by decide) rfl ?_
  refine v_callV (pc := 32) (J' := jCu_sees) (d' := d) (o := 25) (ci := 1) (N := 6) (T := cT1) (As := [vI 30]) d_Re_readState_32 ml_Re_94 cC_25.1 cC_25.2 (by decide) rfl rfl (Nat.le_of_ble_eq_true rfl) (Nat.le_refl _) rfl (Cal.weak h (fun o w7 h => ?_))
  rcases rI_of h with ⟨x8, rfl, h⟩
  refine v_istore_n (pc := 35) (ls' := [(2, vI x8), (1, vI x4), (0, vA 24)]) d_Re_readState_35 rfl (by decide) rfl ?_
  refine v_aload_n (pc := 36) d_Re_readState_36 rfl (.tail _ (.tail _ (.head _))) ?_
  refine v_getr (C := "") (pc := 37) (r := 25) d_Re_readState_37 fl_Re_34 cC_24.1 cC_24.2 (Or.inl ⟨_, rfl⟩) rC_24_4 ?_
  refine v_iload_n (pc := 40) d_Re_readState_40 rfl (.head _) ?_
  refine v_ifeq (pc := 41) (tgt := 49) d_Re_readState_41 (by decide) (fun c => ?_) (fun c => ?_)
  · replace h := h.1 c
    refine v_bipush (pc := 49) d_Re_readState_49 (by decide) rfl ?_
    exact v_sub (List.forall_mem_cons.mpr ⟨(.tail _ (.tail _ (.head _))), (List.forall_mem_cons.mpr ⟨(.tail _ (.head _)), (List.forall_mem_cons.mpr ⟨(.head _), (fun _ z => absurd z List.not_mem_nil)⟩)⟩)⟩) h
  · replace h := h.2 c
    refine v_bipush (pc := 44) d_Re_readState_44 (by decide) rfl ?_
    refine v_goto (pc := 46) (tgt := 51) d_Re_readState_46 (by decide) ?_
    exact v_sub (List.forall_mem_cons.mpr ⟨(.tail _ (.tail _ (.head _))), (List.forall_mem_cons.mpr ⟨(.tail _ (.head _)), (List.forall_mem_cons.mpr ⟨(.head _), (fun _ z => absurd z List.not_mem_nil)⟩)⟩)⟩) h
set_option maxHeartbeats 4000000 in
theorem s_Re_readState_51 {g : Mg} {d : Nat} {K : Ou → Wd → Prop} {w : Wd} {x1_ : Int} {x2_ : Int} {s1_ : Int} (h : Cal g LC jCu_take d [vA 25, vI s1_] w (fun o w1 => rI o (fun x2 => Cal g LC jCu_take d [vA 25, vI 12] w1 (fun o w3 => rI o (fun x4 => (x2_ = 0 → (Cal g LC jRe_readInt d [vA 24] w3 (fun o w5 => rI o (fun x6 => V g LC jRe_readState (d + 1) K 80 [(0, vA 24), (1, vI x1_), (2, vI x2_)] [vI x6] w5)))) ∧ (¬ x2_ = 0 → (Cal g LC jRe_readBool d [vA 24] w3 (fun o w7 => rI o (fun x8 => V g LC jRe_readState (d + 1) K 80 [(0, vA 24), (1, vI x1_), (2, vI x2_)] [vI x8] w7))))))))) : V g LC jRe_readState (d + 1) K 51 [(0, vA 24), (1, vI x1_), (2, vI x2_)] [vI s1_, vA 25] w := by
  refine v_callV (pc := 51) (J' := jCu_take) (d' := d) (o := 25) (ci := 1) (N := 6) (T := cT1) (As := [vI s1_]) d_Re_readState_51 ml_Re_71 cC_25.1 cC_25.2 (by decide) rfl rfl (Nat.le_of_ble_eq_true rfl) (Nat.le_refl _) rfl (Cal.weak h (fun o w1 h => ?_))
  rcases rI_of h with ⟨x2, rfl, h⟩
  refine v_pop (pc := 54) d_Re_readState_54 rfl ?_
  refine v_aload_n (pc := 55) d_Re_readState_55 rfl (.head _) ?_
  refine v_getr (C := "") (pc := 56) (r := 25) d_Re_readState_56 fl_Re_34 cC_24.1 cC_24.2 (Or.inl ⟨_, rfl⟩) rC_24_4 ?_
  refine v_bipush (pc := 59) d_Re_readState_59 (by decide) rfl ?_
  refine v_callV (pc := 61) (J' := jCu_take) (d' := d) (o := 25) (ci := 1) (N := 6) (T := cT1) (As := [vI 12]) d_Re_readState_61 ml_Re_71 cC_25.1 cC_25.2 (by decide) rfl rfl (Nat.le_of_ble_eq_true rfl) (Nat.le_refl _) rfl (Cal.weak h (fun o w3 h => ?_))
  rcases rI_of h with ⟨x4, rfl, h⟩
  refine v_pop (pc := 64) d_Re_readState_64 rfl ?_
  refine v_iload_n (pc := 65) d_Re_readState_65 rfl (.tail _ (.tail _ (.head _))) ?_
  refine v_ifeq (pc := 66) (tgt := 76) d_Re_readState_66 (by decide) (fun c => ?_) (fun c => ?_)
  · replace h := h.1 c
    refine v_aload_n (pc := 76) d_Re_readState_76 rfl (.head _) ?_
    refine v_callV (pc := 77) (J' := jRe_readInt) (d' := d) (o := 24) (ci := 8) (N := 7) (T := cT8) (As := []) d_Re_readState_77 ml_Re_166 cC_24.1 cC_24.2 (by decide) rfl rfl (Nat.le_of_ble_eq_true rfl) (Nat.le_refl _) rfl (Cal.weak h (fun o w5 h => ?_))
    rcases rI_of h with ⟨x6, rfl, h⟩
    exact v_sub (List.forall_mem_cons.mpr ⟨(.head _), (List.forall_mem_cons.mpr ⟨(.tail _ (.head _)), (List.forall_mem_cons.mpr ⟨(.tail _ (.tail _ (.head _))), (fun _ z => absurd z List.not_mem_nil)⟩)⟩)⟩) h
  · replace h := h.2 c
    refine v_aload_n (pc := 69) d_Re_readState_69 rfl (.head _) ?_
    refine v_callV (pc := 70) (J' := jRe_readBool) (d' := d) (o := 24) (ci := 8) (N := 7) (T := cT8) (As := []) d_Re_readState_70 ml_Re_163 cC_24.1 cC_24.2 (by decide) rfl rfl (Nat.le_of_ble_eq_true rfl) (Nat.le_refl _) rfl (Cal.weak h (fun o w7 h => ?_))
    rcases rI_of h with ⟨x8, rfl, h⟩
    refine v_goto (pc := 73) (tgt := 80) d_Re_readState_73 (by decide) ?_
    exact v_sub (List.forall_mem_cons.mpr ⟨(.head _), (List.forall_mem_cons.mpr ⟨(.tail _ (.head _)), (List.forall_mem_cons.mpr ⟨(.tail _ (.tail _ (.head _))), (fun _ z => absurd z List.not_mem_nil)⟩)⟩)⟩) h
set_option maxHeartbeats 4000000 in
theorem s_Re_readState_80 {g : Mg} {d : Nat} {K : Ou → Wd → Prop} {w : Wd} {x1_ : Int} {x2_ : Int} {s0_ : Int} (h : (x2_ = 0 → (V g LC jRe_readState (d + 1) K 96 [(0, vA 24), (3, vI s0_)] [vI 1, vI 1, vI x1_, vA 13] w)) ∧ (¬ x2_ = 0 → (V g LC jRe_readState (d + 1) K 96 [(0, vA 24), (3, vI s0_)] [vI 2, vI 1, vI x1_, vA 13] w))) : V g LC jRe_readState (d + 1) K 80 [(0, vA 24), (1, vI x1_), (2, vI x2_)] [vI s0_] w := by
  refine v_istore_n (pc := 80) (ls' := [(3, vI s0_), (0, vA 24), (1, vI x1_), (2, vI x2_)]) d_Re_readState_80 rfl (by decide) rfl ?_
  refine v_aload_n (pc := 81) d_Re_readState_81 rfl (.tail _ (.head _)) ?_
  refine v_getr (C := "") (pc := 82) (r := 13) d_Re_readState_82 fl_Re_23 cC_24.1 cC_24.2 (Or.inl ⟨_, rfl⟩) rC_24_2 ?_
  refine v_iload_n (pc := 85) d_Re_readState_85 rfl (.tail _ (.tail _ (.head _))) ?_
  refine v_iconst (pc := 86) d_Re_readState_86 (by decide) ?_
  refine v_iload_n (pc := 87) d_Re_readState_87 rfl (.tail _ (.tail _ (.tail _ (.head _)))) ?_
  refine v_ifeq (pc := 88) (tgt := 95) d_Re_readState_88 (by decide) (fun c => ?_) (fun c => ?_)
  · replace h := h.1 c
    refine v_iconst (pc := 95) d_Re_readState_95 (by decide) ?_
    exact v_sub (List.forall_mem_cons.mpr ⟨(.tail _ (.head _)), (List.forall_mem_cons.mpr ⟨(.head _), (fun _ z => absurd z List.not_mem_nil)⟩)⟩) h
  · replace h := h.2 c
    refine v_iconst (pc := 91) d_Re_readState_91 (by decide) ?_
    refine v_goto (pc := 92) (tgt := 96) d_Re_readState_92 (by decide) ?_
    exact v_sub (List.forall_mem_cons.mpr ⟨(.tail _ (.head _)), (List.forall_mem_cons.mpr ⟨(.head _), (fun _ z => absurd z List.not_mem_nil)⟩)⟩) h
set_option maxHeartbeats 4000000 in
theorem s_Re_readState_96 {g : Mg} {d : Nat} {K : Ou → Wd → Prop} {w : Wd} {x3_ : Int} {s1_ : Int} {s2_ : Int} {s3_ : Int} (h : Cal g LC jLo_add d [vA 13, vI s1_, vI s2_, vI s3_] w (fun o w1 => rI o (fun x2 => (x2 < 0 → (V g LC jRe_readState (d + 1) K 130 [] [] w1)) ∧ (¬ x2 < 0 → ((8 ≤ x2 → (V g LC jRe_readState (d + 1) K 130 [] [] w1)) ∧ (¬ 8 ≤ x2 → ((0 ≤ x2 ∧ x2 < 8) ∧ (V g LC jRe_readState (d + 1) K 130 [] [] (up w1 9 (x2.toNat) x3_))))))))) : V g LC jRe_readState (d + 1) K 96 [(0, vA 24), (3, vI x3_)] [vI s3_, vI s2_, vI s1_, vA 13] w := by
  refine v_callV (pc := 96) (J' := jLo_add) (d' := d) (o := 13) (ci := 4) (N := 7) (T := cT4) (As := [vI s1_, vI s2_, vI s3_]) d_Re_readState_96 ml_Re_139 cC_13.1 cC_13.2 (by decide) rfl rfl (Nat.le_of_ble_eq_true rfl) (Nat.le_refl _) rfl (Cal.weak h (fun o w1 h => ?_))
  rcases rI_of h with ⟨x2, rfl, h⟩
  refine v_istore (pc := 99) (ls' := [(4, vI x2), (0, vA 24), (3, vI x3_)]) d_Re_readState_99 (by decide) rfl ?_
  refine v_iload (pc := 101) d_Re_readState_101 (.head _) ?_
  refine v_iflt (pc := 103) (tgt := 130) d_Re_readState_103 (by decide) (fun c => ?_) (fun c => ?_)
  · replace h := h.1 c
    exact v_sub (fun _ z => absurd z List.not_mem_nil) h
  · replace h := h.2 c
    refine v_iload (pc := 106) d_Re_readState_106 (.head _) ?_
    refine v_aload_n (pc := 108) d_Re_readState_108 rfl (.tail _ (.head _)) ?_
    refine v_getr (C := "") (pc := 109) (r := 8) d_Re_readState_109 fl_Re_13 cC_24.1 cC_24.2 (Or.inl ⟨_, rfl⟩) rC_24_1 ?_
    refine v_getr (C := "") (pc := 112) (r := 9) d_Re_readState_112 fl_Re_169 cC_8.1 cC_8.2 (Or.inr ⟨_, rfl⟩) rC_8_6 ?_
    refine v_alen (pc := 115) (n := 8) d_Re_readState_115 cC_9.1 cC_9.2 (by decide) (by decide) ?_
    refine v_icmpge (pc := 116) (tgt := 130) d_Re_readState_116 (by decide) (fun c => ?_) (fun c => ?_)
    · replace h := h.1 c
      exact v_sub (fun _ z => absurd z List.not_mem_nil) h
    · replace h := h.2 c
      refine v_aload_n (pc := 119) d_Re_readState_119 rfl (.tail _ (.head _)) ?_
      refine v_getr (C := "") (pc := 120) (r := 8) d_Re_readState_120 fl_Re_13 cC_24.1 cC_24.2 (Or.inl ⟨_, rfl⟩) rC_24_1 ?_
      refine v_getr (C := "") (pc := 123) (r := 9) d_Re_readState_123 fl_Re_169 cC_8.1 cC_8.2 (Or.inr ⟨_, rfl⟩) rC_8_6 ?_
      refine v_iload (pc := 126) d_Re_readState_126 (.head _) ?_
      refine v_iload_n (pc := 128) d_Re_readState_128 rfl (.tail _ (.tail _ (.head _))) ?_
      refine v_iast (pc := 129) d_Re_readState_129 cC_9.1 cC_9.2 (aC_9 _) h.1 ?_
      replace h := h.2
      exact v_sub (fun _ z => absurd z List.not_mem_nil) h
set_option maxHeartbeats 4000000 in
theorem s_Re_readState_130 {g : Mg} {d : Nat} {K : Ou → Wd → Prop} {w : Wd} (h : K (.inl none) w) : V g LC jRe_readState (d + 1) K 130 [] [] w := by
  exact v_vret (pc := 130) d_Re_readState_130 rfl h
theorem d_Re_readBool_0 : decode jRe_readBool.cc 0 = .ok (.aload_n 0, 1) := by decide +kernel
theorem d_Re_readBool_1 : decode jRe_readBool.cc 1 = .ok (.getfield 34, 3) := by decide +kernel
theorem d_Re_readBool_4 : decode jRe_readBool.cc 4 = .ok (.bipush 31, 2) := by decide +kernel
theorem d_Re_readBool_6 : decode jRe_readBool.cc 6 = .ok (.invokevirtual 94, 3) := by decide +kernel
theorem d_Re_readBool_9 : decode jRe_readBool.cc 9 = .ok (.istore_n 1, 1) := by decide +kernel
theorem d_Re_readBool_10 : decode jRe_readBool.cc 10 = .ok (.aload_n 0, 1) := by decide +kernel
theorem d_Re_readBool_11 : decode jRe_readBool.cc 11 = .ok (.getfield 34, 3) := by decide +kernel
theorem d_Re_readBool_14 : decode jRe_readBool.cc 14 = .ok (.iload_n 1, 1) := by decide +kernel
theorem d_Re_readBool_15 : decode jRe_readBool.cc 15 = .ok (.ifCond .eq 8, 3) := by decide +kernel
theorem d_Re_readBool_18 : decode jRe_readBool.cc 18 = .ok (.bipush 31, 2) := by decide +kernel
theorem d_Re_readBool_20 : decode jRe_readBool.cc 20 = .ok (.goto 5, 3) := by decide +kernel
theorem d_Re_readBool_23 : decode jRe_readBool.cc 23 = .ok (.bipush 32, 2) := by decide +kernel
theorem d_Re_readBool_25 : decode jRe_readBool.cc 25 = .ok (.invokevirtual 71, 3) := by decide +kernel
theorem d_Re_readBool_28 : decode jRe_readBool.cc 28 = .ok (.pop, 1) := by decide +kernel
theorem d_Re_readBool_29 : decode jRe_readBool.cc 29 = .ok (.iload_n 1, 1) := by decide +kernel
theorem d_Re_readBool_30 : decode jRe_readBool.cc 30 = .ok (.ifCond .eq 7, 3) := by decide +kernel
theorem d_Re_readBool_33 : decode jRe_readBool.cc 33 = .ok (.iconst 1, 1) := by decide +kernel
theorem d_Re_readBool_34 : decode jRe_readBool.cc 34 = .ok (.goto 4, 3) := by decide +kernel
theorem d_Re_readBool_37 : decode jRe_readBool.cc 37 = .ok (.iconst 0, 1) := by decide +kernel
theorem d_Re_readBool_38 : decode jRe_readBool.cc 38 = .ok (.ireturn, 1) := by decide +kernel
set_option maxHeartbeats 4000000 in
theorem s_Re_readBool {g : Mg} {d : Nat} {K : Ou → Wd → Prop} {w : Wd} (h : Cal g LC jCu_sees d [vA 25, vI 31] w (fun o w1 => rI o (fun x2 => (x2 = 0 → (Cal g LC jCu_take d [vA 25, vI 32] w1 (fun o w3 => rI o (fun x4 => (x2 = 0 → (K (.inl (some (vI 0))) w3)) ∧ (¬ x2 = 0 → (K (.inl (some (vI 1))) w3)))))) ∧ (¬ x2 = 0 → (Cal g LC jCu_take d [vA 25, vI 31] w1 (fun o w5 => rI o (fun x6 => (x2 = 0 → (K (.inl (some (vI 0))) w5)) ∧ (¬ x2 = 0 → (K (.inl (some (vI 1))) w5))))))))) : V g LC jRe_readBool (d + 1) K 0 [(0, vA 24)] [] w := by
  refine v_aload_n (pc := 0) d_Re_readBool_0 rfl (.head _) ?_
  refine v_getr (C := "") (pc := 1) (r := 25) d_Re_readBool_1 fl_Re_34 cC_24.1 cC_24.2 (Or.inl ⟨_, rfl⟩) rC_24_4 ?_
  refine v_bipush (pc := 4) d_Re_readBool_4 (by decide) rfl ?_
  refine v_callV (pc := 6) (J' := jCu_sees) (d' := d) (o := 25) (ci := 1) (N := 6) (T := cT1) (As := [vI 31]) d_Re_readBool_6 ml_Re_94 cC_25.1 cC_25.2 (by decide) rfl rfl (Nat.le_of_ble_eq_true rfl) (Nat.le_refl _) rfl (Cal.weak h (fun o w1 h => ?_))
  rcases rI_of h with ⟨x2, rfl, h⟩
  refine v_istore_n (pc := 9) (ls' := [(1, vI x2), (0, vA 24)]) d_Re_readBool_9 rfl (by decide) rfl ?_
  refine v_aload_n (pc := 10) d_Re_readBool_10 rfl (.tail _ (.head _)) ?_
  refine v_getr (C := "") (pc := 11) (r := 25) d_Re_readBool_11 fl_Re_34 cC_24.1 cC_24.2 (Or.inl ⟨_, rfl⟩) rC_24_4 ?_
  refine v_iload_n (pc := 14) d_Re_readBool_14 rfl (.head _) ?_
  refine v_ifeq (pc := 15) (tgt := 23) d_Re_readBool_15 (by decide) (fun c => ?_) (fun c => ?_)
  · replace h := h.1 c
    refine v_bipush (pc := 23) d_Re_readBool_23 (by decide) rfl ?_
    refine v_callV (pc := 25) (J' := jCu_take) (d' := d) (o := 25) (ci := 1) (N := 6) (T := cT1) (As := [vI 32]) d_Re_readBool_25 ml_Re_71 cC_25.1 cC_25.2 (by decide) rfl rfl (Nat.le_of_ble_eq_true rfl) (Nat.le_refl _) rfl (Cal.weak h (fun o w3 h => ?_))
    rcases rI_of h with ⟨x4, rfl, h⟩
    refine v_pop (pc := 28) d_Re_readBool_28 rfl ?_
    refine v_iload_n (pc := 29) d_Re_readBool_29 rfl (.head _) ?_
    refine v_ifeq (pc := 30) (tgt := 37) d_Re_readBool_30 (by decide) (fun c => ?_) (fun c => ?_)
    · replace h := h.1 c
      refine v_iconst (pc := 37) d_Re_readBool_37 (by decide) ?_
      exact v_iret (pc := 38) d_Re_readBool_38 rfl h
    · replace h := h.2 c
      refine v_iconst (pc := 33) d_Re_readBool_33 (by decide) ?_
      refine v_goto (pc := 34) (tgt := 38) d_Re_readBool_34 (by decide) ?_
      exact v_iret (pc := 38) d_Re_readBool_38 rfl h
  · replace h := h.2 c
    refine v_bipush (pc := 18) d_Re_readBool_18 (by decide) rfl ?_
    refine v_goto (pc := 20) (tgt := 25) d_Re_readBool_20 (by decide) ?_
    refine v_callV (pc := 25) (J' := jCu_take) (d' := d) (o := 25) (ci := 1) (N := 6) (T := cT1) (As := [vI 31]) d_Re_readBool_25 ml_Re_71 cC_25.1 cC_25.2 (by decide) rfl rfl (Nat.le_of_ble_eq_true rfl) (Nat.le_refl _) rfl (Cal.weak h (fun o w5 h => ?_))
    rcases rI_of h with ⟨x6, rfl, h⟩
    refine v_pop (pc := 28) d_Re_readBool_28 rfl ?_
    refine v_iload_n (pc := 29) d_Re_readBool_29 rfl (.head _) ?_
    refine v_ifeq (pc := 30) (tgt := 37) d_Re_readBool_30 (by decide) (fun c => ?_) (fun c => ?_)
    · replace h := h.1 c
      refine v_iconst (pc := 37) d_Re_readBool_37 (by decide) ?_
      exact v_iret (pc := 38) d_Re_readBool_38 rfl h
    · replace h := h.2 c
      refine v_iconst (pc := 33) d_Re_readBool_33 (by decide) ?_
      refine v_goto (pc := 34) (tgt := 38) d_Re_readBool_34 (by decide) ?_
      exact v_iret (pc := 38) d_Re_readBool_38 rfl h
theorem d_Re_readInt_0 : decode jRe_readInt.cc 0 = .ok (.aload_n 0, 1) := by decide +kernel
theorem d_Re_readInt_1 : decode jRe_readInt.cc 1 = .ok (.getfield 34, 3) := by decide +kernel
theorem d_Re_readInt_4 : decode jRe_readInt.cc 4 = .ok (.bipush 16, 2) := by decide +kernel
theorem d_Re_readInt_6 : decode jRe_readInt.cc 6 = .ok (.invokevirtual 94, 3) := by decide +kernel
theorem d_Re_readInt_9 : decode jRe_readInt.cc 9 = .ok (.istore_n 1, 1) := by decide +kernel
theorem d_Re_readInt_10 : decode jRe_readInt.cc 10 = .ok (.iload_n 1, 1) := by decide +kernel
theorem d_Re_readInt_11 : decode jRe_readInt.cc 11 = .ok (.ifCond .eq 13, 3) := by decide +kernel
theorem d_Re_readInt_14 : decode jRe_readInt.cc 14 = .ok (.aload_n 0, 1) := by decide +kernel
theorem d_Re_readInt_15 : decode jRe_readInt.cc 15 = .ok (.getfield 34, 3) := by decide +kernel
theorem d_Re_readInt_18 : decode jRe_readInt.cc 18 = .ok (.bipush 16, 2) := by decide +kernel
theorem d_Re_readInt_20 : decode jRe_readInt.cc 20 = .ok (.invokevirtual 71, 3) := by decide +kernel
theorem d_Re_readInt_23 : decode jRe_readInt.cc 23 = .ok (.pop, 1) := by decide +kernel
theorem d_Re_readInt_24 : decode jRe_readInt.cc 24 = .ok (.aload_n 0, 1) := by decide +kernel
theorem d_Re_readInt_25 : decode jRe_readInt.cc 25 = .ok (.getfield 7, 3) := by decide +kernel
theorem d_Re_readInt_28 : decode jRe_readInt.cc 28 = .ok (.getfield 172, 3) := by decide +kernel
theorem d_Re_readInt_31 : decode jRe_readInt.cc 31 = .ok (.aload_n 0, 1) := by decide +kernel
theorem d_Re_readInt_32 : decode jRe_readInt.cc 32 = .ok (.getfield 34, 3) := by decide +kernel
theorem d_Re_readInt_35 : decode jRe_readInt.cc 35 = .ok (.iconst 3, 1) := by decide +kernel
theorem d_Re_readInt_36 : decode jRe_readInt.cc 36 = .ok (.invokevirtual 71, 3) := by decide +kernel
theorem d_Re_readInt_39 : decode jRe_readInt.cc 39 = .ok (.iaload, 1) := by decide +kernel
theorem d_Re_readInt_40 : decode jRe_readInt.cc 40 = .ok (.istore_n 2, 1) := by decide +kernel
theorem d_Re_readInt_41 : decode jRe_readInt.cc 41 = .ok (.iload_n 1, 1) := by decide +kernel
theorem d_Re_readInt_42 : decode jRe_readInt.cc 42 = .ok (.ifCond .eq 8, 3) := by decide +kernel
theorem d_Re_readInt_45 : decode jRe_readInt.cc 45 = .ok (.iload_n 2, 1) := by decide +kernel
theorem d_Re_readInt_46 : decode jRe_readInt.cc 46 = .ok (.ineg, 1) := by decide +kernel
theorem d_Re_readInt_47 : decode jRe_readInt.cc 47 = .ok (.goto 4, 3) := by decide +kernel
theorem d_Re_readInt_50 : decode jRe_readInt.cc 50 = .ok (.iload_n 2, 1) := by decide +kernel
theorem d_Re_readInt_51 : decode jRe_readInt.cc 51 = .ok (.ireturn, 1) := by decide +kernel
set_option maxHeartbeats 4000000 in
theorem s_Re_readInt {g : Mg} {d : Nat} {K : Ou → Wd → Prop} {w : Wd} (h : Cal g LC jCu_sees d [vA 25, vI 16] w (fun o w1 => rI o (fun x2 => (x2 = 0 → (Cal g LC jCu_take d [vA 25, vI 3] w1 (fun o w3 => rI o (fun x4 => (0 ≤ x4 ∧ x4 < 1002) ∧ ((x2 = 0 → (K (.inl (some (vI (w3 7 x4.toNat)))) w3)) ∧ (¬ x2 = 0 → (K (.inl (some (vI (wr (-(w3 7 x4.toNat)))))) w3))))))) ∧ (¬ x2 = 0 → (Cal g LC jCu_take d [vA 25, vI 16] w1 (fun o w5 => rI o (fun x6 => Cal g LC jCu_take d [vA 25, vI 3] w5 (fun o w7 => rI o (fun x8 => (0 ≤ x8 ∧ x8 < 1002) ∧ ((x2 = 0 → (K (.inl (some (vI (w7 7 x8.toNat)))) w7)) ∧ (¬ x2 = 0 → (K (.inl (some (vI (wr (-(w7 7 x8.toNat)))))) w7)))))))))))) : V g LC jRe_readInt (d + 1) K 0 [(0, vA 24)] [] w := by
  refine v_aload_n (pc := 0) d_Re_readInt_0 rfl (.head _) ?_
  refine v_getr (C := "") (pc := 1) (r := 25) d_Re_readInt_1 fl_Re_34 cC_24.1 cC_24.2 (Or.inl ⟨_, rfl⟩) rC_24_4 ?_
  refine v_bipush (pc := 4) d_Re_readInt_4 (by decide) rfl ?_
  refine v_callV (pc := 6) (J' := jCu_sees) (d' := d) (o := 25) (ci := 1) (N := 6) (T := cT1) (As := [vI 16]) d_Re_readInt_6 ml_Re_94 cC_25.1 cC_25.2 (by decide) rfl rfl (Nat.le_of_ble_eq_true rfl) (Nat.le_refl _) rfl (Cal.weak h (fun o w1 h => ?_))
  rcases rI_of h with ⟨x2, rfl, h⟩
  refine v_istore_n (pc := 9) (ls' := [(1, vI x2), (0, vA 24)]) d_Re_readInt_9 rfl (by decide) rfl ?_
  refine v_iload_n (pc := 10) d_Re_readInt_10 rfl (.head _) ?_
  refine v_ifeq (pc := 11) (tgt := 24) d_Re_readInt_11 (by decide) (fun c => ?_) (fun c => ?_)
  · replace h := h.1 c
    refine v_aload_n (pc := 24) d_Re_readInt_24 rfl (.tail _ (.head _)) ?_
    refine v_getr (C := "") (pc := 25) (r := 2) d_Re_readInt_25 fl_Re_7 cC_24.1 cC_24.2 (Or.inl ⟨_, rfl⟩) rC_24_0 ?_
    refine v_getr (C := "") (pc := 28) (r := 7) d_Re_readInt_28 fl_Re_172 cC_2.1 cC_2.2 (Or.inr ⟨_, rfl⟩) rC_2_5 ?_
    refine v_aload_n (pc := 31) d_Re_readInt_31 rfl (.tail _ (.head _)) ?_
    refine v_getr (C := "") (pc := 32) (r := 25) d_Re_readInt_32 fl_Re_34 cC_24.1 cC_24.2 (Or.inl ⟨_, rfl⟩) rC_24_4 ?_
    refine v_iconst (pc := 35) d_Re_readInt_35 (by decide) ?_
    refine v_callV (pc := 36) (J' := jCu_take) (d' := d) (o := 25) (ci := 1) (N := 6) (T := cT1) (As := [vI 3]) d_Re_readInt_36 ml_Re_71 cC_25.1 cC_25.2 (by decide) rfl rfl (Nat.le_of_ble_eq_true rfl) (Nat.le_refl _) rfl (Cal.weak h (fun o w3 h => ?_))
    rcases rI_of h with ⟨x4, rfl, h⟩
    refine v_iald (pc := 39) (x := (w3 7 x4.toNat)) d_Re_readInt_39 cC_7.1 cC_7.2 rfl h.1 ?_
    replace h := h.2
    refine v_istore_n (pc := 40) (ls' := [(2, vI (w3 7 x4.toNat)), (1, vI x2), (0, vA 24)]) d_Re_readInt_40 rfl (by decide) rfl ?_
    refine v_iload_n (pc := 41) d_Re_readInt_41 rfl (.tail _ (.head _)) ?_
    refine v_ifeq (pc := 42) (tgt := 50) d_Re_readInt_42 (by decide) (fun c => ?_) (fun c => ?_)
    · replace h := h.1 c
      refine v_iload_n (pc := 50) d_Re_readInt_50 rfl (.head _) ?_
      exact v_iret (pc := 51) d_Re_readInt_51 rfl h
    · replace h := h.2 c
      refine v_iload_n (pc := 45) d_Re_readInt_45 rfl (.head _) ?_
      refine v_ineg (pc := 46) d_Re_readInt_46 ?_
      refine v_goto (pc := 47) (tgt := 51) d_Re_readInt_47 (by decide) ?_
      exact v_iret (pc := 51) d_Re_readInt_51 rfl h
  · replace h := h.2 c
    refine v_aload_n (pc := 14) d_Re_readInt_14 rfl (.tail _ (.head _)) ?_
    refine v_getr (C := "") (pc := 15) (r := 25) d_Re_readInt_15 fl_Re_34 cC_24.1 cC_24.2 (Or.inl ⟨_, rfl⟩) rC_24_4 ?_
    refine v_bipush (pc := 18) d_Re_readInt_18 (by decide) rfl ?_
    refine v_callV (pc := 20) (J' := jCu_take) (d' := d) (o := 25) (ci := 1) (N := 6) (T := cT1) (As := [vI 16]) d_Re_readInt_20 ml_Re_71 cC_25.1 cC_25.2 (by decide) rfl rfl (Nat.le_of_ble_eq_true rfl) (Nat.le_refl _) rfl (Cal.weak h (fun o w5 h => ?_))
    rcases rI_of h with ⟨x6, rfl, h⟩
    refine v_pop (pc := 23) d_Re_readInt_23 rfl ?_
    refine v_aload_n (pc := 24) d_Re_readInt_24 rfl (.tail _ (.head _)) ?_
    refine v_getr (C := "") (pc := 25) (r := 2) d_Re_readInt_25 fl_Re_7 cC_24.1 cC_24.2 (Or.inl ⟨_, rfl⟩) rC_24_0 ?_
    refine v_getr (C := "") (pc := 28) (r := 7) d_Re_readInt_28 fl_Re_172 cC_2.1 cC_2.2 (Or.inr ⟨_, rfl⟩) rC_2_5 ?_
    refine v_aload_n (pc := 31) d_Re_readInt_31 rfl (.tail _ (.head _)) ?_
    refine v_getr (C := "") (pc := 32) (r := 25) d_Re_readInt_32 fl_Re_34 cC_24.1 cC_24.2 (Or.inl ⟨_, rfl⟩) rC_24_4 ?_
    refine v_iconst (pc := 35) d_Re_readInt_35 (by decide) ?_
    refine v_callV (pc := 36) (J' := jCu_take) (d' := d) (o := 25) (ci := 1) (N := 6) (T := cT1) (As := [vI 3]) d_Re_readInt_36 ml_Re_71 cC_25.1 cC_25.2 (by decide) rfl rfl (Nat.le_of_ble_eq_true rfl) (Nat.le_refl _) rfl (Cal.weak h (fun o w7 h => ?_))
    rcases rI_of h with ⟨x8, rfl, h⟩
    refine v_iald (pc := 39) (x := (w7 7 x8.toNat)) d_Re_readInt_39 cC_7.1 cC_7.2 rfl h.1 ?_
    replace h := h.2
    refine v_istore_n (pc := 40) (ls' := [(2, vI (w7 7 x8.toNat)), (1, vI x2), (0, vA 24)]) d_Re_readInt_40 rfl (by decide) rfl ?_
    refine v_iload_n (pc := 41) d_Re_readInt_41 rfl (.tail _ (.head _)) ?_
    refine v_ifeq (pc := 42) (tgt := 50) d_Re_readInt_42 (by decide) (fun c => ?_) (fun c => ?_)
    · replace h := h.1 c
      refine v_iload_n (pc := 50) d_Re_readInt_50 rfl (.head _) ?_
      exact v_iret (pc := 51) d_Re_readInt_51 rfl h
    · replace h := h.2 c
      refine v_iload_n (pc := 45) d_Re_readInt_45 rfl (.head _) ?_
      refine v_ineg (pc := 46) d_Re_readInt_46 ?_
      refine v_goto (pc := 47) (tgt := 51) d_Re_readInt_47 (by decide) ?_
      exact v_iret (pc := 51) d_Re_readInt_51 rfl h
theorem d_Re_readFolded_0 : decode jRe_readFolded.cc 0 = .ok (.aload_n 0, 1) := by decide +kernel
theorem d_Re_readFolded_1 : decode jRe_readFolded.cc 1 = .ok (.getfield 34, 3) := by decide +kernel
theorem d_Re_readFolded_4 : decode jRe_readFolded.cc 4 = .ok (.aload_n 0, 1) := by decide +kernel
theorem d_Re_readFolded_5 : decode jRe_readFolded.cc 5 = .ok (.getfield 34, 3) := by decide +kernel
theorem d_Re_readFolded_8 : decode jRe_readFolded.cc 8 = .ok (.invokevirtual 60, 3) := by decide +kernel
theorem d_Re_readFolded_11 : decode jRe_readFolded.cc 11 = .ok (.invokevirtual 71, 3) := by decide +kernel
theorem d_Re_readFolded_14 : decode jRe_readFolded.cc 14 = .ok (.pop, 1) := by decide +kernel
theorem d_Re_readFolded_15 : decode jRe_readFolded.cc 15 = .ok (.aload_n 0, 1) := by decide +kernel
theorem d_Re_readFolded_16 : decode jRe_readFolded.cc 16 = .ok (.iload_n 1, 1) := by decide +kernel
theorem d_Re_readFolded_17 : decode jRe_readFolded.cc 17 = .ok (.invokevirtual 136, 3) := by decide +kernel
theorem d_Re_readFolded_20 : decode jRe_readFolded.cc 20 = .ok (.istore_n 3, 1) := by decide +kernel
theorem d_Re_readFolded_21 : decode jRe_readFolded.cc 21 = .ok (.aload_n 0, 1) := by decide +kernel
theorem d_Re_readFolded_22 : decode jRe_readFolded.cc 22 = .ok (.getfield 34, 3) := by decide +kernel
theorem d_Re_readFolded_25 : decode jRe_readFolded.cc 25 = .ok (.bipush 11, 2) := by decide +kernel
theorem d_Re_readFolded_27 : decode jRe_readFolded.cc 27 = .ok (.invokevirtual 71, 3) := by decide +kernel
theorem d_Re_readFolded_30 : decode jRe_readFolded.cc 30 = .ok (.pop, 1) := by decide +kernel
theorem d_Re_readFolded_31 : decode jRe_readFolded.cc 31 = .ok (.aload_n 0, 1) := by decide +kernel
theorem d_Re_readFolded_32 : decode jRe_readFolded.cc 32 = .ok (.getfield 34, 3) := by decide +kernel
theorem d_Re_readFolded_35 : decode jRe_readFolded.cc 35 = .ok (.invokevirtual 60, 3) := by decide +kernel
theorem d_Re_readFolded_38 : decode jRe_readFolded.cc 38 = .ok (.istore 4, 2) := by decide +kernel
theorem d_Re_readFolded_40 : decode jRe_readFolded.cc 40 = .ok (.iload 4, 2) := by decide +kernel
theorem d_Re_readFolded_42 : decode jRe_readFolded.cc 42 = .ok (.bipush 35, 2) := by decide +kernel
theorem d_Re_readFolded_44 : decode jRe_readFolded.cc 44 = .ok (.if_icmp .lt 10, 3) := by decide +kernel
theorem d_Re_readFolded_47 : decode jRe_readFolded.cc 47 = .ok (.iload 4, 2) := by decide +kernel
theorem d_Re_readFolded_49 : decode jRe_readFolded.cc 49 = .ok (.bipush 40, 2) := by decide +kernel
theorem d_Re_readFolded_51 : decode jRe_readFolded.cc 51 = .ok (.if_icmp .le 11, 3) := by decide +kernel
theorem d_Re_readFolded_54 : decode jRe_readFolded.cc 54 = .ok (.aload_n 0, 1) := by decide +kernel
theorem d_Re_readFolded_55 : decode jRe_readFolded.cc 55 = .ok (.getfield 34, 3) := by decide +kernel
theorem d_Re_readFolded_58 : decode jRe_readFolded.cc 58 = .ok (.iconst 1, 1) := by decide +kernel
theorem d_Re_readFolded_59 : decode jRe_readFolded.cc 59 = .ok (.invokevirtual 97, 3) := by decide +kernel
theorem d_Re_readFolded_62 : decode jRe_readFolded.cc 62 = .ok (.aload_n 0, 1) := by decide +kernel
theorem d_Re_readFolded_63 : decode jRe_readFolded.cc 63 = .ok (.getfield 34, 3) := by decide +kernel
theorem d_Re_readFolded_66 : decode jRe_readFolded.cc 66 = .ok (.iload 4, 2) := by decide +kernel
theorem d_Re_readFolded_68 : decode jRe_readFolded.cc 68 = .ok (.invokevirtual 71, 3) := by decide +kernel
theorem d_Re_readFolded_71 : decode jRe_readFolded.cc 71 = .ok (.pop, 1) := by decide +kernel
theorem d_Re_readFolded_72 : decode jRe_readFolded.cc 72 = .ok (.aload_n 0, 1) := by decide +kernel
theorem d_Re_readFolded_73 : decode jRe_readFolded.cc 73 = .ok (.getfield 23, 3) := by decide +kernel
theorem d_Re_readFolded_76 : decode jRe_readFolded.cc 76 = .ok (.iload_n 3, 1) := by decide +kernel
theorem d_Re_readFolded_77 : decode jRe_readFolded.cc 77 = .ok (.iload_n 1, 1) := by decide +kernel
theorem d_Re_readFolded_78 : decode jRe_readFolded.cc 78 = .ok (.iload 4, 2) := by decide +kernel
theorem d_Re_readFolded_80 : decode jRe_readFolded.cc 80 = .ok (.invokestatic 175, 3) := by decide +kernel
theorem d_Re_readFolded_83 : decode jRe_readFolded.cc 83 = .ok (.invokevirtual 139, 3) := by decide +kernel
theorem d_Re_readFolded_86 : decode jRe_readFolded.cc 86 = .ok (.istore 5, 2) := by decide +kernel
theorem d_Re_readFolded_88 : decode jRe_readFolded.cc 88 = .ok (.iload 5, 2) := by decide +kernel
theorem d_Re_readFolded_90 : decode jRe_readFolded.cc 90 = .ok (.ifCond .lt 16, 3) := by decide +kernel
theorem d_Re_readFolded_93 : decode jRe_readFolded.cc 93 = .ok (.iload 5, 2) := by decide +kernel
theorem d_Re_readFolded_95 : decode jRe_readFolded.cc 95 = .ok (.aload_n 2, 1) := by decide +kernel
theorem d_Re_readFolded_96 : decode jRe_readFolded.cc 96 = .ok (.arraylength, 1) := by decide +kernel
theorem d_Re_readFolded_97 : decode jRe_readFolded.cc 97 = .ok (.if_icmp .ge 9, 3) := by decide +kernel
theorem d_Re_readFolded_100 : decode jRe_readFolded.cc 100 = .ok (.aload_n 2, 1) := by decide +kernel
theorem d_Re_readFolded_101 : decode jRe_readFolded.cc 101 = .ok (.iload 5, 2) := by decide +kernel
theorem d_Re_readFolded_103 : decode jRe_readFolded.cc 103 = .ok (.iload 4, 2) := by decide +kernel
theorem d_Re_readFolded_105 : decode jRe_readFolded.cc 105 = .ok (.iastore, 1) := by decide +kernel
theorem d_Re_readFolded_106 : decode jRe_readFolded.cc 106 = .ok (.return_, 1) := by decide +kernel
set_option maxHeartbeats 4000000 in
theorem s_Re_readFolded {g : Mg} {d : Nat} {K : Ou → Wd → Prop} {w : Wd} {p1 : Int} {o2 : Nat} (ho2 : o2 < LC.nn ∧ LC.ly o2 = (100, 4)) (hr2 : ∀ k, LC.rf o2 k = none) (h : Cal g LC jCu_kind d [vA 25] w (fun o w1 => rI o (fun x2 => Cal g LC jCu_take d [vA 25, vI x2] w1 (fun o w3 => rI o (fun x4 => Cal g LC jRe_newName d [vA 24, vI p1] w3 (fun o w5 => rI o (fun x6 => Cal g LC jCu_take d [vA 25, vI 11] w5 (fun o w7 => rI o (fun x8 => Cal g LC jCu_kind d [vA 25] w7 (fun o w9 => rI o (fun x10 => (x10 < 35 → (Cal g LC jCu_stop d [vA 25, vI 1] w9 (fun o w11 => rV o (Cal g LC jCu_take d [vA 25, vI x10] w11 (fun o w12 => rI o (fun x13 => Cal g LC jPr_kindOfWay d [vI x10] w12 (fun o w14 => rI o (fun x15 => Cal g LC jLo_add d [vA 13, vI x6, vI p1, vI x15] w14 (fun o w16 => rI o (fun x17 => (x17 < 0 → (K (.inl none) w16)) ∧ (¬ x17 < 0 → ((4 ≤ x17 → (K (.inl none) w16)) ∧ (¬ 4 ≤ x17 → ((0 ≤ x17 ∧ x17 < 4) ∧ (K (.inl none) (up w16 o2 (x17.toNat) x10)))))))))))))))) ∧ (¬ x10 < 35 → ((x10 ≤ 40 → (Cal g LC jCu_take d [vA 25, vI x10] w9 (fun o w18 => rI o (fun x19 => Cal g LC jPr_kindOfWay d [vI x10] w18 (fun o w20 => rI o (fun x21 => Cal g LC jLo_add d [vA 13, vI x6, vI p1, vI x21] w20 (fun o w22 => rI o (fun x23 => (x23 < 0 → (K (.inl none) w22)) ∧ (¬ x23 < 0 → ((4 ≤ x23 → (K (.inl none) w22)) ∧ (¬ 4 ≤ x23 → ((0 ≤ x23 ∧ x23 < 4) ∧ (K (.inl none) (up w22 o2 (x23.toNat) x10)))))))))))))) ∧ (¬ x10 ≤ 40 → (Cal g LC jCu_stop d [vA 25, vI 1] w9 (fun o w24 => rV o (Cal g LC jCu_take d [vA 25, vI x10] w24 (fun o w25 => rI o (fun x26 => Cal g LC jPr_kindOfWay d [vI x10] w25 (fun o w27 => rI o (fun x28 => Cal g LC jLo_add d [vA 13, vI x6, vI p1, vI x28] w27 (fun o w29 => rI o (fun x30 => (x30 < 0 → (K (.inl none) w29)) ∧ (¬ x30 < 0 → ((4 ≤ x30 → (K (.inl none) w29)) ∧ (¬ 4 ≤ x30 → ((0 ≤ x30 ∧ x30 < 4) ∧ (K (.inl none) (up w29 o2 (x30.toNat) x10))))))))))))))))))))))))))))) : V g LC jRe_readFolded (d + 1) K 0 [(0, vA 24), (1, vI p1), (2, vA o2)] [] w := by
  refine v_aload_n (pc := 0) d_Re_readFolded_0 rfl (.head _) ?_
  refine v_getr (C := "") (pc := 1) (r := 25) d_Re_readFolded_1 fl_Re_34 cC_24.1 cC_24.2 (Or.inl ⟨_, rfl⟩) rC_24_4 ?_
  refine v_aload_n (pc := 4) d_Re_readFolded_4 rfl (.head _) ?_
  refine v_getr (C := "") (pc := 5) (r := 25) d_Re_readFolded_5 fl_Re_34 cC_24.1 cC_24.2 (Or.inl ⟨_, rfl⟩) rC_24_4 ?_
  refine v_callV (pc := 8) (J' := jCu_kind) (d' := d) (o := 25) (ci := 1) (N := 6) (T := cT1) (As := []) d_Re_readFolded_8 ml_Re_60 cC_25.1 cC_25.2 (by decide) rfl rfl (Nat.le_of_ble_eq_true rfl) (Nat.le_refl _) rfl (Cal.weak h (fun o w1 h => ?_))
  rcases rI_of h with ⟨x2, rfl, h⟩
  refine v_callV (pc := 11) (J' := jCu_take) (d' := d) (o := 25) (ci := 1) (N := 6) (T := cT1) (As := [vI x2]) d_Re_readFolded_11 ml_Re_71 cC_25.1 cC_25.2 (by decide) rfl rfl (Nat.le_of_ble_eq_true rfl) (Nat.le_refl _) rfl (Cal.weak h (fun o w3 h => ?_))
  rcases rI_of h with ⟨x4, rfl, h⟩
  refine v_pop (pc := 14) d_Re_readFolded_14 rfl ?_
  refine v_aload_n (pc := 15) d_Re_readFolded_15 rfl (.head _) ?_
  refine v_iload_n (pc := 16) d_Re_readFolded_16 rfl (.tail _ (.head _)) ?_
  refine v_callV (pc := 17) (J' := jRe_newName) (d' := d) (o := 24) (ci := 8) (N := 7) (T := cT8) (As := [vI p1]) d_Re_readFolded_17 ml_Re_136 cC_24.1 cC_24.2 (by decide) rfl rfl (Nat.le_of_ble_eq_true rfl) (Nat.le_refl _) rfl (Cal.weak h (fun o w5 h => ?_))
  rcases rI_of h with ⟨x6, rfl, h⟩
  refine v_istore_n (pc := 20) (ls' := [(3, vI x6), (0, vA 24), (1, vI p1), (2, vA o2)]) d_Re_readFolded_20 rfl (by decide) rfl ?_
  refine v_aload_n (pc := 21) d_Re_readFolded_21 rfl (.tail _ (.head _)) ?_
  refine v_getr (C := "") (pc := 22) (r := 25) d_Re_readFolded_22 fl_Re_34 cC_24.1 cC_24.2 (Or.inl ⟨_, rfl⟩) rC_24_4 ?_
  refine v_bipush (pc := 25) d_Re_readFolded_25 (by decide) rfl ?_
  refine v_callV (pc := 27) (J' := jCu_take) (d' := d) (o := 25) (ci := 1) (N := 6) (T := cT1) (As := [vI 11]) d_Re_readFolded_27 ml_Re_71 cC_25.1 cC_25.2 (by decide) rfl rfl (Nat.le_of_ble_eq_true rfl) (Nat.le_refl _) rfl (Cal.weak h (fun o w7 h => ?_))
  rcases rI_of h with ⟨x8, rfl, h⟩
  refine v_pop (pc := 30) d_Re_readFolded_30 rfl ?_
  refine v_aload_n (pc := 31) d_Re_readFolded_31 rfl (.tail _ (.head _)) ?_
  refine v_getr (C := "") (pc := 32) (r := 25) d_Re_readFolded_32 fl_Re_34 cC_24.1 cC_24.2 (Or.inl ⟨_, rfl⟩) rC_24_4 ?_
  refine v_callV (pc := 35) (J' := jCu_kind) (d' := d) (o := 25) (ci := 1) (N := 6) (T := cT1) (As := []) d_Re_readFolded_35 ml_Re_60 cC_25.1 cC_25.2 (by decide) rfl rfl (Nat.le_of_ble_eq_true rfl) (Nat.le_refl _) rfl (Cal.weak h (fun o w9 h => ?_))
  rcases rI_of h with ⟨x10, rfl, h⟩
  refine v_istore (pc := 38) (ls' := [(4, vI x10), (3, vI x6), (0, vA 24), (1, vI p1), (2, vA o2)]) d_Re_readFolded_38 (by decide) rfl ?_
  refine v_iload (pc := 40) d_Re_readFolded_40 (.head _) ?_
  refine v_bipush (pc := 42) d_Re_readFolded_42 (by decide) rfl ?_
  refine v_icmplt (pc := 44) (tgt := 54) d_Re_readFolded_44 (by decide) (fun c => ?_) (fun c => ?_)
  · replace h := h.1 c
    refine v_aload_n (pc := 54) d_Re_readFolded_54 rfl (.tail _ (.tail _ (.head _))) ?_
    refine v_getr (C := "") (pc := 55) (r := 25) d_Re_readFolded_55 fl_Re_34 cC_24.1 cC_24.2 (Or.inl ⟨_, rfl⟩) rC_24_4 ?_
    refine v_iconst (pc := 58) d_Re_readFolded_58 (by decide) ?_
    refine v_callV (pc := 59) (J' := jCu_stop) (d' := d) (o := 25) (ci := 1) (N := 6) (T := cT1) (As := [vI 1]) d_Re_readFolded_59 ml_Re_97 cC_25.1 cC_25.2 (by decide) rfl rfl (Nat.le_of_ble_eq_true rfl) (Nat.le_refl _) rfl (Cal.weak h (fun o w11 h => ?_))
    rcases rV_of h with ⟨rfl, h⟩
    refine v_aload_n (pc := 62) d_Re_readFolded_62 rfl (.tail _ (.tail _ (.head _))) ?_
    refine v_getr (C := "") (pc := 63) (r := 25) d_Re_readFolded_63 fl_Re_34 cC_24.1 cC_24.2 (Or.inl ⟨_, rfl⟩) rC_24_4 ?_
    refine v_iload (pc := 66) d_Re_readFolded_66 (.head _) ?_
    refine v_callV (pc := 68) (J' := jCu_take) (d' := d) (o := 25) (ci := 1) (N := 6) (T := cT1) (As := [vI x10]) d_Re_readFolded_68 ml_Re_71 cC_25.1 cC_25.2 (by decide) rfl rfl (Nat.le_of_ble_eq_true rfl) (Nat.le_refl _) rfl (Cal.weak h (fun o w12 h => ?_))
    rcases rI_of h with ⟨x13, rfl, h⟩
    refine v_pop (pc := 71) d_Re_readFolded_71 rfl ?_
    refine v_aload_n (pc := 72) d_Re_readFolded_72 rfl (.tail _ (.tail _ (.head _))) ?_
    refine v_getr (C := "") (pc := 73) (r := 13) d_Re_readFolded_73 fl_Re_23 cC_24.1 cC_24.2 (Or.inl ⟨_, rfl⟩) rC_24_2 ?_
    refine v_iload_n (pc := 76) d_Re_readFolded_76 rfl (.tail _ (.head _)) ?_
    refine v_iload_n (pc := 77) d_Re_readFolded_77 rfl (.tail _ (.tail _ (.tail _ (.head _)))) ?_
    refine v_iload (pc := 78) d_Re_readFolded_78 (.head _) ?_
    refine v_callS (pc := 80) (J' := jPr_kindOfWay) (d' := d) (As := [vI x10]) d_Re_readFolded_80 ml_Re_175 rfl (Nat.le_of_ble_eq_true rfl) (Nat.le_refl _) rfl (Cal.weak h (fun o w14 h => ?_))
    rcases rI_of h with ⟨x15, rfl, h⟩
    refine v_callV (pc := 83) (J' := jLo_add) (d' := d) (o := 13) (ci := 4) (N := 7) (T := cT4) (As := [vI x6, vI p1, vI x15]) d_Re_readFolded_83 ml_Re_139 cC_13.1 cC_13.2 (by decide) rfl rfl (Nat.le_of_ble_eq_true rfl) (Nat.le_refl _) rfl (Cal.weak h (fun o w16 h => ?_))
    rcases rI_of h with ⟨x17, rfl, h⟩
    refine v_istore (pc := 86) (ls' := [(5, vI x17), (4, vI x10), (3, vI x6), (0, vA 24), (1, vI p1), (2, vA o2)]) d_Re_readFolded_86 (by decide) rfl ?_
    refine v_iload (pc := 88) d_Re_readFolded_88 (.head _) ?_
    refine v_iflt (pc := 90) (tgt := 106) d_Re_readFolded_90 (by decide) (fun c => ?_) (fun c => ?_)
    · replace h := h.1 c
      exact v_vret (pc := 106) d_Re_readFolded_106 rfl h
    · replace h := h.2 c
      refine v_iload (pc := 93) d_Re_readFolded_93 (.head _) ?_
      refine v_aload_n (pc := 95) d_Re_readFolded_95 rfl (.tail _ (.tail _ (.tail _ (.tail _ (.tail _ (.head _)))))) ?_
      refine v_alen (pc := 96) (n := 4) d_Re_readFolded_96 ho2.1 ho2.2 (by decide) (by decide) ?_
      refine v_icmpge (pc := 97) (tgt := 106) d_Re_readFolded_97 (by decide) (fun c => ?_) (fun c => ?_)
      · replace h := h.1 c
        exact v_vret (pc := 106) d_Re_readFolded_106 rfl h
      · replace h := h.2 c
        refine v_aload_n (pc := 100) d_Re_readFolded_100 rfl (.tail _ (.tail _ (.tail _ (.tail _ (.tail _ (.head _)))))) ?_
        refine v_iload (pc := 101) d_Re_readFolded_101 (.head _) ?_
        refine v_iload (pc := 103) d_Re_readFolded_103 (.tail _ (.head _)) ?_
        refine v_iast (pc := 105) d_Re_readFolded_105 ho2.1 ho2.2 (hr2 _) h.1 ?_
        replace h := h.2
        exact v_vret (pc := 106) d_Re_readFolded_106 rfl h
  · replace h := h.2 c
    refine v_iload (pc := 47) d_Re_readFolded_47 (.head _) ?_
    refine v_bipush (pc := 49) d_Re_readFolded_49 (by decide) rfl ?_
    refine v_icmple (pc := 51) (tgt := 62) d_Re_readFolded_51 (by decide) (fun c => ?_) (fun c => ?_)
    · replace h := h.1 c
      refine v_aload_n (pc := 62) d_Re_readFolded_62 rfl (.tail _ (.tail _ (.head _))) ?_
      refine v_getr (C := "") (pc := 63) (r := 25) d_Re_readFolded_63 fl_Re_34 cC_24.1 cC_24.2 (Or.inl ⟨_, rfl⟩) rC_24_4 ?_
      refine v_iload (pc := 66) d_Re_readFolded_66 (.head _) ?_
      refine v_callV (pc := 68) (J' := jCu_take) (d' := d) (o := 25) (ci := 1) (N := 6) (T := cT1) (As := [vI x10]) d_Re_readFolded_68 ml_Re_71 cC_25.1 cC_25.2 (by decide) rfl rfl (Nat.le_of_ble_eq_true rfl) (Nat.le_refl _) rfl (Cal.weak h (fun o w18 h => ?_))
      rcases rI_of h with ⟨x19, rfl, h⟩
      refine v_pop (pc := 71) d_Re_readFolded_71 rfl ?_
      refine v_aload_n (pc := 72) d_Re_readFolded_72 rfl (.tail _ (.tail _ (.head _))) ?_
      refine v_getr (C := "") (pc := 73) (r := 13) d_Re_readFolded_73 fl_Re_23 cC_24.1 cC_24.2 (Or.inl ⟨_, rfl⟩) rC_24_2 ?_
      refine v_iload_n (pc := 76) d_Re_readFolded_76 rfl (.tail _ (.head _)) ?_
      refine v_iload_n (pc := 77) d_Re_readFolded_77 rfl (.tail _ (.tail _ (.tail _ (.head _)))) ?_
      refine v_iload (pc := 78) d_Re_readFolded_78 (.head _) ?_
      refine v_callS (pc := 80) (J' := jPr_kindOfWay) (d' := d) (As := [vI x10]) d_Re_readFolded_80 ml_Re_175 rfl (Nat.le_of_ble_eq_true rfl) (Nat.le_refl _) rfl (Cal.weak h (fun o w20 h => ?_))
      rcases rI_of h with ⟨x21, rfl, h⟩
      refine v_callV (pc := 83) (J' := jLo_add) (d' := d) (o := 13) (ci := 4) (N := 7) (T := cT4) (As := [vI x6, vI p1, vI x21]) d_Re_readFolded_83 ml_Re_139 cC_13.1 cC_13.2 (by decide) rfl rfl (Nat.le_of_ble_eq_true rfl) (Nat.le_refl _) rfl (Cal.weak h (fun o w22 h => ?_))
      rcases rI_of h with ⟨x23, rfl, h⟩
      refine v_istore (pc := 86) (ls' := [(5, vI x23), (4, vI x10), (3, vI x6), (0, vA 24), (1, vI p1), (2, vA o2)]) d_Re_readFolded_86 (by decide) rfl ?_
      refine v_iload (pc := 88) d_Re_readFolded_88 (.head _) ?_
      refine v_iflt (pc := 90) (tgt := 106) d_Re_readFolded_90 (by decide) (fun c => ?_) (fun c => ?_)
      · replace h := h.1 c
        exact v_vret (pc := 106) d_Re_readFolded_106 rfl h
      · replace h := h.2 c
        refine v_iload (pc := 93) d_Re_readFolded_93 (.head _) ?_
        refine v_aload_n (pc := 95) d_Re_readFolded_95 rfl (.tail _ (.tail _ (.tail _ (.tail _ (.tail _ (.head _)))))) ?_
        refine v_alen (pc := 96) (n := 4) d_Re_readFolded_96 ho2.1 ho2.2 (by decide) (by decide) ?_
        refine v_icmpge (pc := 97) (tgt := 106) d_Re_readFolded_97 (by decide) (fun c => ?_) (fun c => ?_)
        · replace h := h.1 c
          exact v_vret (pc := 106) d_Re_readFolded_106 rfl h
        · replace h := h.2 c
          refine v_aload_n (pc := 100) d_Re_readFolded_100 rfl (.tail _ (.tail _ (.tail _ (.tail _ (.tail _ (.head _)))))) ?_
          refine v_iload (pc := 101) d_Re_readFolded_101 (.head _) ?_
          refine v_iload (pc := 103) d_Re_readFolded_103 (.tail _ (.head _)) ?_
          refine v_iast (pc := 105) d_Re_readFolded_105 ho2.1 ho2.2 (hr2 _) h.1 ?_
          replace h := h.2
          exact v_vret (pc := 106) d_Re_readFolded_106 rfl h
    · replace h := h.2 c
      refine v_aload_n (pc := 54) d_Re_readFolded_54 rfl (.tail _ (.tail _ (.head _))) ?_
      refine v_getr (C := "") (pc := 55) (r := 25) d_Re_readFolded_55 fl_Re_34 cC_24.1 cC_24.2 (Or.inl ⟨_, rfl⟩) rC_24_4 ?_
      refine v_iconst (pc := 58) d_Re_readFolded_58 (by decide) ?_
      refine v_callV (pc := 59) (J' := jCu_stop) (d' := d) (o := 25) (ci := 1) (N := 6) (T := cT1) (As := [vI 1]) d_Re_readFolded_59 ml_Re_97 cC_25.1 cC_25.2 (by decide) rfl rfl (Nat.le_of_ble_eq_true rfl) (Nat.le_refl _) rfl (Cal.weak h (fun o w24 h => ?_))
      rcases rV_of h with ⟨rfl, h⟩
      refine v_aload_n (pc := 62) d_Re_readFolded_62 rfl (.tail _ (.tail _ (.head _))) ?_
      refine v_getr (C := "") (pc := 63) (r := 25) d_Re_readFolded_63 fl_Re_34 cC_24.1 cC_24.2 (Or.inl ⟨_, rfl⟩) rC_24_4 ?_
      refine v_iload (pc := 66) d_Re_readFolded_66 (.head _) ?_
      refine v_callV (pc := 68) (J' := jCu_take) (d' := d) (o := 25) (ci := 1) (N := 6) (T := cT1) (As := [vI x10]) d_Re_readFolded_68 ml_Re_71 cC_25.1 cC_25.2 (by decide) rfl rfl (Nat.le_of_ble_eq_true rfl) (Nat.le_refl _) rfl (Cal.weak h (fun o w25 h => ?_))
      rcases rI_of h with ⟨x26, rfl, h⟩
      refine v_pop (pc := 71) d_Re_readFolded_71 rfl ?_
      refine v_aload_n (pc := 72) d_Re_readFolded_72 rfl (.tail _ (.tail _ (.head _))) ?_
      refine v_getr (C := "") (pc := 73) (r := 13) d_Re_readFolded_73 fl_Re_23 cC_24.1 cC_24.2 (Or.inl ⟨_, rfl⟩) rC_24_2 ?_
      refine v_iload_n (pc := 76) d_Re_readFolded_76 rfl (.tail _ (.head _)) ?_
      refine v_iload_n (pc := 77) d_Re_readFolded_77 rfl (.tail _ (.tail _ (.tail _ (.head _)))) ?_
      refine v_iload (pc := 78) d_Re_readFolded_78 (.head _) ?_
      refine v_callS (pc := 80) (J' := jPr_kindOfWay) (d' := d) (As := [vI x10]) d_Re_readFolded_80 ml_Re_175 rfl (Nat.le_of_ble_eq_true rfl) (Nat.le_refl _) rfl (Cal.weak h (fun o w27 h => ?_))
      rcases rI_of h with ⟨x28, rfl, h⟩
      refine v_callV (pc := 83) (J' := jLo_add) (d' := d) (o := 13) (ci := 4) (N := 7) (T := cT4) (As := [vI x6, vI p1, vI x28]) d_Re_readFolded_83 ml_Re_139 cC_13.1 cC_13.2 (by decide) rfl rfl (Nat.le_of_ble_eq_true rfl) (Nat.le_refl _) rfl (Cal.weak h (fun o w29 h => ?_))
      rcases rI_of h with ⟨x30, rfl, h⟩
      refine v_istore (pc := 86) (ls' := [(5, vI x30), (4, vI x10), (3, vI x6), (0, vA 24), (1, vI p1), (2, vA o2)]) d_Re_readFolded_86 (by decide) rfl ?_
      refine v_iload (pc := 88) d_Re_readFolded_88 (.head _) ?_
      refine v_iflt (pc := 90) (tgt := 106) d_Re_readFolded_90 (by decide) (fun c => ?_) (fun c => ?_)
      · replace h := h.1 c
        exact v_vret (pc := 106) d_Re_readFolded_106 rfl h
      · replace h := h.2 c
        refine v_iload (pc := 93) d_Re_readFolded_93 (.head _) ?_
        refine v_aload_n (pc := 95) d_Re_readFolded_95 rfl (.tail _ (.tail _ (.tail _ (.tail _ (.tail _ (.head _)))))) ?_
        refine v_alen (pc := 96) (n := 4) d_Re_readFolded_96 ho2.1 ho2.2 (by decide) (by decide) ?_
        refine v_icmpge (pc := 97) (tgt := 106) d_Re_readFolded_97 (by decide) (fun c => ?_) (fun c => ?_)
        · replace h := h.1 c
          exact v_vret (pc := 106) d_Re_readFolded_106 rfl h
        · replace h := h.2 c
          refine v_aload_n (pc := 100) d_Re_readFolded_100 rfl (.tail _ (.tail _ (.tail _ (.tail _ (.tail _ (.head _)))))) ?_
          refine v_iload (pc := 101) d_Re_readFolded_101 (.head _) ?_
          refine v_iload (pc := 103) d_Re_readFolded_103 (.tail _ (.head _)) ?_
          refine v_iast (pc := 105) d_Re_readFolded_105 ho2.1 ho2.2 (hr2 _) h.1 ?_
          replace h := h.2
          exact v_vret (pc := 106) d_Re_readFolded_106 rfl h
theorem d_Re_readBlock_0 : decode jRe_readBlock.cc 0 = .ok (.aload_n 0, 1) := by decide +kernel
theorem d_Re_readBlock_1 : decode jRe_readBlock.cc 1 = .ok (.getfield 34, 3) := by decide +kernel
theorem d_Re_readBlock_4 : decode jRe_readBlock.cc 4 = .ok (.iconst 5, 1) := by decide +kernel
theorem d_Re_readBlock_5 : decode jRe_readBlock.cc 5 = .ok (.invokevirtual 94, 3) := by decide +kernel
theorem d_Re_readBlock_8 : decode jRe_readBlock.cc 8 = .ok (.ifCond .eq 17, 3) := by decide +kernel
theorem d_Re_readBlock_11 : decode jRe_readBlock.cc 11 = .ok (.iload_n 1, 1) := by decide +kernel
theorem d_Re_readBlock_12 : decode jRe_readBlock.cc 12 = .ok (.bipush 12, 2) := by decide +kernel
theorem d_Re_readBlock_14 : decode jRe_readBlock.cc 14 = .ok (.if_icmp .le 11, 3) := by decide +kernel
theorem d_Re_readBlock_17 : decode jRe_readBlock.cc 17 = .ok (.aload_n 0, 1) := by decide +kernel
theorem d_Re_readBlock_18 : decode jRe_readBlock.cc 18 = .ok (.getfield 34, 3) := by decide +kernel
theorem d_Re_readBlock_21 : decode jRe_readBlock.cc 21 = .ok (.iconst 2, 1) := by decide +kernel
theorem d_Re_readBlock_22 : decode jRe_readBlock.cc 22 = .ok (.invokevirtual 97, 3) := by decide +kernel
theorem d_Re_readBlock_25 : decode jRe_readBlock.cc 25 = .ok (.aload_n 0, 1) := by decide +kernel
theorem d_Re_readBlock_26 : decode jRe_readBlock.cc 26 = .ok (.getfield 34, 3) := by decide +kernel
theorem d_Re_readBlock_29 : decode jRe_readBlock.cc 29 = .ok (.iconst 5, 1) := by decide +kernel
theorem d_Re_readBlock_30 : decode jRe_readBlock.cc 30 = .ok (.invokevirtual 71, 3) := by decide +kernel
theorem d_Re_readBlock_33 : decode jRe_readBlock.cc 33 = .ok (.pop, 1) := by decide +kernel
theorem d_Re_readBlock_34 : decode jRe_readBlock.cc 34 = .ok (.aload_n 0, 1) := by decide +kernel
theorem d_Re_readBlock_35 : decode jRe_readBlock.cc 35 = .ok (.getfield 23, 3) := by decide +kernel
theorem d_Re_readBlock_38 : decode jRe_readBlock.cc 38 = .ok (.invokevirtual 178, 3) := by decide +kernel
theorem d_Re_readBlock_41 : decode jRe_readBlock.cc 41 = .ok (.istore_n 2, 1) := by decide +kernel
theorem d_Re_readBlock_42 : decode jRe_readBlock.cc 42 = .ok (.iconst 0, 1) := by decide +kernel
theorem d_Re_readBlock_43 : decode jRe_readBlock.cc 43 = .ok (.istore_n 3, 1) := by decide +kernel
theorem d_Re_readBlock_44 : decode jRe_readBlock.cc 44 = .ok (.iload_n 3, 1) := by decide +kernel
theorem d_Re_readBlock_45 : decode jRe_readBlock.cc 45 = .ok (.bipush 120, 2) := by decide +kernel
theorem d_Re_readBlock_47 : decode jRe_readBlock.cc 47 = .ok (.if_icmp .gt 29, 3) := by decide +kernel
theorem d_Re_readBlock_50 : decode jRe_readBlock.cc 50 = .ok (.aload_n 0, 1) := by decide +kernel
theorem d_Re_readBlock_51 : decode jRe_readBlock.cc 51 = .ok (.getfield 34, 3) := by decide +kernel
theorem d_Re_readBlock_54 : decode jRe_readBlock.cc 54 = .ok (.invokevirtual 60, 3) := by decide +kernel
theorem d_Re_readBlock_57 : decode jRe_readBlock.cc 57 = .ok (.invokestatic 180, 3) := by decide +kernel
theorem d_Re_readBlock_60 : decode jRe_readBlock.cc 60 = .ok (.ifCond .eq 16, 3) := by decide +kernel
theorem d_Re_readBlock_63 : decode jRe_readBlock.cc 63 = .ok (.aload_n 0, 1) := by decide +kernel
theorem d_Re_readBlock_64 : decode jRe_readBlock.cc 64 = .ok (.iload_n 1, 1) := by decide +kernel
theorem d_Re_readBlock_65 : decode jRe_readBlock.cc 65 = .ok (.iconst 1, 1) := by decide +kernel
theorem d_Re_readBlock_66 : decode jRe_readBlock.cc 66 = .ok (.iadd, 1) := by decide +kernel
theorem d_Re_readBlock_67 : decode jRe_readBlock.cc 67 = .ok (.invokevirtual 183, 3) := by decide +kernel
theorem d_Re_readBlock_70 : decode jRe_readBlock.cc 70 = .ok (.iinc 3 1, 3) := by decide +kernel
theorem d_Re_readBlock_73 : decode jRe_readBlock.cc 73 = .ok (.goto (-29), 3) := by decide +kernel
theorem d_Re_readBlock_76 : decode jRe_readBlock.cc 76 = .ok (.aload_n 0, 1) := by decide +kernel
theorem d_Re_readBlock_77 : decode jRe_readBlock.cc 77 = .ok (.getfield 34, 3) := by decide +kernel
theorem d_Re_readBlock_80 : decode jRe_readBlock.cc 80 = .ok (.bipush 6, 2) := by decide +kernel
theorem d_Re_readBlock_82 : decode jRe_readBlock.cc 82 = .ok (.invokevirtual 71, 3) := by decide +kernel
theorem d_Re_readBlock_85 : decode jRe_readBlock.cc 85 = .ok (.pop, 1) := by decide +kernel
theorem d_Re_readBlock_86 : decode jRe_readBlock.cc 86 = .ok (.aload_n 0, 1) := by decide +kernel
theorem d_Re_readBlock_87 : decode jRe_readBlock.cc 87 = .ok (.getfield 23, 3) := by decide +kernel
theorem d_Re_readBlock_90 : decode jRe_readBlock.cc 90 = .ok (.iload_n 2, 1) := by decide +kernel
theorem d_Re_readBlock_91 : decode jRe_readBlock.cc 91 = .ok (.invokevirtual 186, 3) := by decide +kernel
theorem d_Re_readBlock_94 : decode jRe_readBlock.cc 94 = .ok (.return_, 1) := by decide +kernel
set_option maxHeartbeats 4000000 in
theorem s_Re_readBlock {g : Mg} {d : Nat} {K : Ou → Wd → Prop} {w : Wd} {p1 : Int} (h : Cal g LC jCu_sees d [vA 25, vI 5] w (fun o w1 => rI o (fun x2 => (x2 = 0 → (Cal g LC jCu_take d [vA 25, vI 5] w1 (fun o w3 => rI o (fun x4 => Cal g LC jLo_size d [vA 13] w3 (fun o w5 => rI o (fun x6 => V g LC jRe_readBlock (d + 1) K 44 [(0, vA 24), (1, vI p1), (2, vI x6), (3, vI 0)] [] w5)))))) ∧ (¬ x2 = 0 → ((p1 ≤ 12 → (Cal g LC jCu_take d [vA 25, vI 5] w1 (fun o w7 => rI o (fun x8 => Cal g LC jLo_size d [vA 13] w7 (fun o w9 => rI o (fun x10 => V g LC jRe_readBlock (d + 1) K 44 [(0, vA 24), (1, vI p1), (2, vI x10), (3, vI 0)] [] w9)))))) ∧ (¬ p1 ≤ 12 → (Cal g LC jCu_stop d [vA 25, vI 2] w1 (fun o w11 => rV o (Cal g LC jCu_take d [vA 25, vI 5] w11 (fun o w12 => rI o (fun x13 => Cal g LC jLo_size d [vA 13] w12 (fun o w14 => rI o (fun x15 => V g LC jRe_readBlock (d + 1) K 44 [(0, vA 24), (1, vI p1), (2, vI x15), (3, vI 0)] [] w14))))))))))))) : V g LC jRe_readBlock (d + 1) K 0 [(0, vA 24), (1, vI p1)] [] w := by
  refine v_aload_n (pc := 0) d_Re_readBlock_0 rfl (.head _) ?_
  refine v_getr (C := "") (pc := 1) (r := 25) d_Re_readBlock_1 fl_Re_34 cC_24.1 cC_24.2 (Or.inl ⟨_, rfl⟩) rC_24_4 ?_
  refine v_iconst (pc := 4) d_Re_readBlock_4 (by decide) ?_
  refine v_callV (pc := 5) (J' := jCu_sees) (d' := d) (o := 25) (ci := 1) (N := 6) (T := cT1) (As := [vI 5]) d_Re_readBlock_5 ml_Re_94 cC_25.1 cC_25.2 (by decide) rfl rfl (Nat.le_of_ble_eq_true rfl) (Nat.le_refl _) rfl (Cal.weak h (fun o w1 h => ?_))
  rcases rI_of h with ⟨x2, rfl, h⟩
  refine v_ifeq (pc := 8) (tgt := 25) d_Re_readBlock_8 (by decide) (fun c => ?_) (fun c => ?_)
  · replace h := h.1 c
    refine v_aload_n (pc := 25) d_Re_readBlock_25 rfl (.head _) ?_
    refine v_getr (C := "") (pc := 26) (r := 25) d_Re_readBlock_26 fl_Re_34 cC_24.1 cC_24.2 (Or.inl ⟨_, rfl⟩) rC_24_4 ?_
    refine v_iconst (pc := 29) d_Re_readBlock_29 (by decide) ?_
    refine v_callV (pc := 30) (J' := jCu_take) (d' := d) (o := 25) (ci := 1) (N := 6) (T := cT1) (As := [vI 5]) d_Re_readBlock_30 ml_Re_71 cC_25.1 cC_25.2 (by decide) rfl rfl (Nat.le_of_ble_eq_true rfl) (Nat.le_refl _) rfl (Cal.weak h (fun o w3 h => ?_))
    rcases rI_of h with ⟨x4, rfl, h⟩
    refine v_pop (pc := 33) d_Re_readBlock_33 rfl ?_
    refine v_aload_n (pc := 34) d_Re_readBlock_34 rfl (.head _) ?_
    refine v_getr (C := "") (pc := 35) (r := 13) d_Re_readBlock_35 fl_Re_23 cC_24.1 cC_24.2 (Or.inl ⟨_, rfl⟩) rC_24_2 ?_
    refine v_callV (pc := 38) (J' := jLo_size) (d' := d) (o := 13) (ci := 4) (N := 7) (T := cT4) (As := []) d_Re_readBlock_38 ml_Re_178 cC_13.1 cC_13.2 (by decide) rfl rfl (Nat.le_of_ble_eq_true rfl) (Nat.le_refl _) rfl (Cal.weak h (fun o w5 h => ?_))
    rcases rI_of h with ⟨x6, rfl, h⟩
    refine v_istore_n (pc := 41) (ls' := [(2, vI x6), (0, vA 24), (1, vI p1)]) d_Re_readBlock_41 rfl (by decide) rfl ?_
    refine v_iconst (pc := 42) d_Re_readBlock_42 (by decide) ?_
    refine v_istore_n (pc := 43) (ls' := [(3, vI 0), (2, vI x6), (0, vA 24), (1, vI p1)]) d_Re_readBlock_43 rfl (by decide) rfl ?_
    exact v_sub (List.forall_mem_cons.mpr ⟨(.tail _ (.tail _ (.head _))), (List.forall_mem_cons.mpr ⟨(.tail _ (.tail _ (.tail _ (.head _)))), (List.forall_mem_cons.mpr ⟨(.tail _ (.head _)), (List.forall_mem_cons.mpr ⟨(.head _), (fun _ z => absurd z List.not_mem_nil)⟩)⟩)⟩)⟩) h
  · replace h := h.2 c
    refine v_iload_n (pc := 11) d_Re_readBlock_11 rfl (.tail _ (.head _)) ?_
    refine v_bipush (pc := 12) d_Re_readBlock_12 (by decide) rfl ?_
    refine v_icmple (pc := 14) (tgt := 25) d_Re_readBlock_14 (by decide) (fun c => ?_) (fun c => ?_)
    · replace h := h.1 c
      refine v_aload_n (pc := 25) d_Re_readBlock_25 rfl (.head _) ?_
      refine v_getr (C := "") (pc := 26) (r := 25) d_Re_readBlock_26 fl_Re_34 cC_24.1 cC_24.2 (Or.inl ⟨_, rfl⟩) rC_24_4 ?_
      refine v_iconst (pc := 29) d_Re_readBlock_29 (by decide) ?_
      refine v_callV (pc := 30) (J' := jCu_take) (d' := d) (o := 25) (ci := 1) (N := 6) (T := cT1) (As := [vI 5]) d_Re_readBlock_30 ml_Re_71 cC_25.1 cC_25.2 (by decide) rfl rfl (Nat.le_of_ble_eq_true rfl) (Nat.le_refl _) rfl (Cal.weak h (fun o w7 h => ?_))
      rcases rI_of h with ⟨x8, rfl, h⟩
      refine v_pop (pc := 33) d_Re_readBlock_33 rfl ?_
      refine v_aload_n (pc := 34) d_Re_readBlock_34 rfl (.head _) ?_
      refine v_getr (C := "") (pc := 35) (r := 13) d_Re_readBlock_35 fl_Re_23 cC_24.1 cC_24.2 (Or.inl ⟨_, rfl⟩) rC_24_2 ?_
      refine v_callV (pc := 38) (J' := jLo_size) (d' := d) (o := 13) (ci := 4) (N := 7) (T := cT4) (As := []) d_Re_readBlock_38 ml_Re_178 cC_13.1 cC_13.2 (by decide) rfl rfl (Nat.le_of_ble_eq_true rfl) (Nat.le_refl _) rfl (Cal.weak h (fun o w9 h => ?_))
      rcases rI_of h with ⟨x10, rfl, h⟩
      refine v_istore_n (pc := 41) (ls' := [(2, vI x10), (0, vA 24), (1, vI p1)]) d_Re_readBlock_41 rfl (by decide) rfl ?_
      refine v_iconst (pc := 42) d_Re_readBlock_42 (by decide) ?_
      refine v_istore_n (pc := 43) (ls' := [(3, vI 0), (2, vI x10), (0, vA 24), (1, vI p1)]) d_Re_readBlock_43 rfl (by decide) rfl ?_
      exact v_sub (List.forall_mem_cons.mpr ⟨(.tail _ (.tail _ (.head _))), (List.forall_mem_cons.mpr ⟨(.tail _ (.tail _ (.tail _ (.head _)))), (List.forall_mem_cons.mpr ⟨(.tail _ (.head _)), (List.forall_mem_cons.mpr ⟨(.head _), (fun _ z => absurd z List.not_mem_nil)⟩)⟩)⟩)⟩) h
    · replace h := h.2 c
      refine v_aload_n (pc := 17) d_Re_readBlock_17 rfl (.head _) ?_
      refine v_getr (C := "") (pc := 18) (r := 25) d_Re_readBlock_18 fl_Re_34 cC_24.1 cC_24.2 (Or.inl ⟨_, rfl⟩) rC_24_4 ?_
      refine v_iconst (pc := 21) d_Re_readBlock_21 (by decide) ?_
      refine v_callV (pc := 22) (J' := jCu_stop) (d' := d) (o := 25) (ci := 1) (N := 6) (T := cT1) (As := [vI 2]) d_Re_readBlock_22 ml_Re_97 cC_25.1 cC_25.2 (by decide) rfl rfl (Nat.le_of_ble_eq_true rfl) (Nat.le_refl _) rfl (Cal.weak h (fun o w11 h => ?_))
      rcases rV_of h with ⟨rfl, h⟩
      refine v_aload_n (pc := 25) d_Re_readBlock_25 rfl (.head _) ?_
      refine v_getr (C := "") (pc := 26) (r := 25) d_Re_readBlock_26 fl_Re_34 cC_24.1 cC_24.2 (Or.inl ⟨_, rfl⟩) rC_24_4 ?_
      refine v_iconst (pc := 29) d_Re_readBlock_29 (by decide) ?_
      refine v_callV (pc := 30) (J' := jCu_take) (d' := d) (o := 25) (ci := 1) (N := 6) (T := cT1) (As := [vI 5]) d_Re_readBlock_30 ml_Re_71 cC_25.1 cC_25.2 (by decide) rfl rfl (Nat.le_of_ble_eq_true rfl) (Nat.le_refl _) rfl (Cal.weak h (fun o w12 h => ?_))
      rcases rI_of h with ⟨x13, rfl, h⟩
      refine v_pop (pc := 33) d_Re_readBlock_33 rfl ?_
      refine v_aload_n (pc := 34) d_Re_readBlock_34 rfl (.head _) ?_
      refine v_getr (C := "") (pc := 35) (r := 13) d_Re_readBlock_35 fl_Re_23 cC_24.1 cC_24.2 (Or.inl ⟨_, rfl⟩) rC_24_2 ?_
      refine v_callV (pc := 38) (J' := jLo_size) (d' := d) (o := 13) (ci := 4) (N := 7) (T := cT4) (As := []) d_Re_readBlock_38 ml_Re_178 cC_13.1 cC_13.2 (by decide) rfl rfl (Nat.le_of_ble_eq_true rfl) (Nat.le_refl _) rfl (Cal.weak h (fun o w14 h => ?_))
      rcases rI_of h with ⟨x15, rfl, h⟩
      refine v_istore_n (pc := 41) (ls' := [(2, vI x15), (0, vA 24), (1, vI p1)]) d_Re_readBlock_41 rfl (by decide) rfl ?_
      refine v_iconst (pc := 42) d_Re_readBlock_42 (by decide) ?_
      refine v_istore_n (pc := 43) (ls' := [(3, vI 0), (2, vI x15), (0, vA 24), (1, vI p1)]) d_Re_readBlock_43 rfl (by decide) rfl ?_
      exact v_sub (List.forall_mem_cons.mpr ⟨(.tail _ (.tail _ (.head _))), (List.forall_mem_cons.mpr ⟨(.tail _ (.tail _ (.tail _ (.head _)))), (List.forall_mem_cons.mpr ⟨(.tail _ (.head _)), (List.forall_mem_cons.mpr ⟨(.head _), (fun _ z => absurd z List.not_mem_nil)⟩)⟩)⟩)⟩) h
set_option maxHeartbeats 4000000 in
theorem s_Re_readBlock_44 {g : Mg} {d : Nat} {K : Ou → Wd → Prop} {w : Wd} {x1_ : Int} {x2_ : Int} {x3_ : Int} (h : (120 < x3_ → (Cal g LC jCu_take d [vA 25, vI 6] w (fun o w1 => rI o (fun x2 => Cal g LC jLo_shrinkTo d [vA 13, vI x2_] w1 (fun o w3 => rV o (K (.inl none) w3)))))) ∧ (¬ 120 < x3_ → (Cal g LC jCu_kind d [vA 25] w (fun o w4 => rI o (fun x5 => Cal g LC jRe_beginsStatement d [vI x5] w4 (fun o w6 => rI o (fun x7 => (x7 = 0 → (Cal g LC jCu_take d [vA 25, vI 6] w6 (fun o w8 => rI o (fun x9 => Cal g LC jLo_shrinkTo d [vA 13, vI x2_] w8 (fun o w10 => rV o (K (.inl none) w10)))))) ∧ (¬ x7 = 0 → (Cal g LC jRe_readStatement d [vA 24, vI (wr (x1_ + 1))] w6 (fun o w11 => rV o (V g LC jRe_readBlock (d + 1) K 44 [(0, vA 24), (1, vI x1_), (2, vI x2_), (3, vI (wr (x3_ + 1)))] [] w11))))))))))) : V g LC jRe_readBlock (d + 1) K 44 [(0, vA 24), (1, vI x1_), (2, vI x2_), (3, vI x3_)] [] w := by
  refine v_iload_n (pc := 44) d_Re_readBlock_44 rfl (.tail _ (.tail _ (.tail _ (.head _)))) ?_
  refine v_bipush (pc := 45) d_Re_readBlock_45 (by decide) rfl ?_
  refine v_icmpgt (pc := 47) (tgt := 76) d_Re_readBlock_47 (by decide) (fun c => ?_) (fun c => ?_)
  · replace h := h.1 c
    refine v_aload_n (pc := 76) d_Re_readBlock_76 rfl (.head _) ?_
    refine v_getr (C := "") (pc := 77) (r := 25) d_Re_readBlock_77 fl_Re_34 cC_24.1 cC_24.2 (Or.inl ⟨_, rfl⟩) rC_24_4 ?_
    refine v_bipush (pc := 80) d_Re_readBlock_80 (by decide) rfl ?_
    refine v_callV (pc := 82) (J' := jCu_take) (d' := d) (o := 25) (ci := 1) (N := 6) (T := cT1) (As := [vI 6]) d_Re_readBlock_82 ml_Re_71 cC_25.1 cC_25.2 (by decide) rfl rfl (Nat.le_of_ble_eq_true rfl) (Nat.le_refl _) rfl (Cal.weak h (fun o w1 h => ?_))
    rcases rI_of h with ⟨x2, rfl, h⟩
    refine v_pop (pc := 85) d_Re_readBlock_85 rfl ?_
    refine v_aload_n (pc := 86) d_Re_readBlock_86 rfl (.head _) ?_
    refine v_getr (C := "") (pc := 87) (r := 13) d_Re_readBlock_87 fl_Re_23 cC_24.1 cC_24.2 (Or.inl ⟨_, rfl⟩) rC_24_2 ?_
    refine v_iload_n (pc := 90) d_Re_readBlock_90 rfl (.tail _ (.tail _ (.head _))) ?_
    refine v_callV (pc := 91) (J' := jLo_shrinkTo) (d' := d) (o := 13) (ci := 4) (N := 7) (T := cT4) (As := [vI x2_]) d_Re_readBlock_91 ml_Re_186 cC_13.1 cC_13.2 (by decide) rfl rfl (Nat.le_of_ble_eq_true rfl) (Nat.le_refl _) rfl (Cal.weak h (fun o w3 h => ?_))
    rcases rV_of h with ⟨rfl, h⟩
    exact v_vret (pc := 94) d_Re_readBlock_94 rfl h
  · replace h := h.2 c
    refine v_aload_n (pc := 50) d_Re_readBlock_50 rfl (.head _) ?_
    refine v_getr (C := "") (pc := 51) (r := 25) d_Re_readBlock_51 fl_Re_34 cC_24.1 cC_24.2 (Or.inl ⟨_, rfl⟩) rC_24_4 ?_
    refine v_callV (pc := 54) (J' := jCu_kind) (d' := d) (o := 25) (ci := 1) (N := 6) (T := cT1) (As := []) d_Re_readBlock_54 ml_Re_60 cC_25.1 cC_25.2 (by decide) rfl rfl (Nat.le_of_ble_eq_true rfl) (Nat.le_refl _) rfl (Cal.weak h (fun o w4 h => ?_))
    rcases rI_of h with ⟨x5, rfl, h⟩
    refine v_callS (pc := 57) (J' := jRe_beginsStatement) (d' := d) (As := [vI x5]) d_Re_readBlock_57 ml_Re_180 rfl (Nat.le_of_ble_eq_true rfl) (Nat.le_refl _) rfl (Cal.weak h (fun o w6 h => ?_))
    rcases rI_of h with ⟨x7, rfl, h⟩
    refine v_ifeq (pc := 60) (tgt := 76) d_Re_readBlock_60 (by decide) (fun c => ?_) (fun c => ?_)
    · replace h := h.1 c
      refine v_aload_n (pc := 76) d_Re_readBlock_76 rfl (.head _) ?_
      refine v_getr (C := "") (pc := 77) (r := 25) d_Re_readBlock_77 fl_Re_34 cC_24.1 cC_24.2 (Or.inl ⟨_, rfl⟩) rC_24_4 ?_
      refine v_bipush (pc := 80) d_Re_readBlock_80 (by decide) rfl ?_
      refine v_callV (pc := 82) (J' := jCu_take) (d' := d) (o := 25) (ci := 1) (N := 6) (T := cT1) (As := [vI 6]) d_Re_readBlock_82 ml_Re_71 cC_25.1 cC_25.2 (by decide) rfl rfl (Nat.le_of_ble_eq_true rfl) (Nat.le_refl _) rfl (Cal.weak h (fun o w8 h => ?_))
      rcases rI_of h with ⟨x9, rfl, h⟩
      refine v_pop (pc := 85) d_Re_readBlock_85 rfl ?_
      refine v_aload_n (pc := 86) d_Re_readBlock_86 rfl (.head _) ?_
      refine v_getr (C := "") (pc := 87) (r := 13) d_Re_readBlock_87 fl_Re_23 cC_24.1 cC_24.2 (Or.inl ⟨_, rfl⟩) rC_24_2 ?_
      refine v_iload_n (pc := 90) d_Re_readBlock_90 rfl (.tail _ (.tail _ (.head _))) ?_
      refine v_callV (pc := 91) (J' := jLo_shrinkTo) (d' := d) (o := 13) (ci := 4) (N := 7) (T := cT4) (As := [vI x2_]) d_Re_readBlock_91 ml_Re_186 cC_13.1 cC_13.2 (by decide) rfl rfl (Nat.le_of_ble_eq_true rfl) (Nat.le_refl _) rfl (Cal.weak h (fun o w10 h => ?_))
      rcases rV_of h with ⟨rfl, h⟩
      exact v_vret (pc := 94) d_Re_readBlock_94 rfl h
    · replace h := h.2 c
      refine v_aload_n (pc := 63) d_Re_readBlock_63 rfl (.head _) ?_
      refine v_iload_n (pc := 64) d_Re_readBlock_64 rfl (.tail _ (.head _)) ?_
      refine v_iconst (pc := 65) d_Re_readBlock_65 (by decide) ?_
      refine v_iadd (pc := 66) d_Re_readBlock_66 ?_
      refine v_callV (pc := 67) (J' := jRe_readStatement) (d' := d) (o := 24) (ci := 8) (N := 7) (T := cT8) (As := [vI (wr (x1_ + 1))]) d_Re_readBlock_67 ml_Re_183 cC_24.1 cC_24.2 (by decide) rfl rfl (Nat.le_of_ble_eq_true rfl) (Nat.le_refl _) rfl (Cal.weak h (fun o w11 h => ?_))
      rcases rV_of h with ⟨rfl, h⟩
      refine v_iinc (pc := 70) (ls' := [(3, vI (wr (x3_ + 1))), (0, vA 24), (1, vI x1_), (2, vI x2_)]) d_Re_readBlock_70 (.tail _ (.tail _ (.tail _ (.head _)))) (by decide) rfl ?_
      refine v_goto (pc := 73) (tgt := 44) d_Re_readBlock_73 (by decide) ?_
      exact v_sub (List.forall_mem_cons.mpr ⟨(.tail _ (.head _)), (List.forall_mem_cons.mpr ⟨(.tail _ (.tail _ (.head _))), (List.forall_mem_cons.mpr ⟨(.tail _ (.tail _ (.tail _ (.head _)))), (List.forall_mem_cons.mpr ⟨(.head _), (fun _ z => absurd z List.not_mem_nil)⟩)⟩)⟩)⟩) h
theorem d_Re_beginsStatement_0 : decode jRe_beginsStatement.cc 0 = .ok (.iload_n 0, 1) := by decide +kernel
theorem d_Re_beginsStatement_1 : decode jRe_beginsStatement.cc 1 = .ok (.iconst 2, 1) := by decide +kernel
theorem d_Re_beginsStatement_2 : decode jRe_beginsStatement.cc 2 = .ok (.if_icmp .eq 39, 3) := by decide +kernel
theorem d_Re_beginsStatement_5 : decode jRe_beginsStatement.cc 5 = .ok (.iload_n 0, 1) := by decide +kernel
theorem d_Re_beginsStatement_6 : decode jRe_beginsStatement.cc 6 = .ok (.bipush 43, 2) := by decide +kernel
theorem d_Re_beginsStatement_8 : decode jRe_beginsStatement.cc 8 = .ok (.if_icmp .eq 33, 3) := by decide +kernel
theorem d_Re_beginsStatement_11 : decode jRe_beginsStatement.cc 11 = .ok (.iload_n 0, 1) := by decide +kernel
theorem d_Re_beginsStatement_12 : decode jRe_beginsStatement.cc 12 = .ok (.bipush 44, 2) := by decide +kernel
theorem d_Re_beginsStatement_14 : decode jRe_beginsStatement.cc 14 = .ok (.if_icmp .eq 27, 3) := by decide +kernel
theorem d_Re_beginsStatement_17 : decode jRe_beginsStatement.cc 17 = .ok (.iload_n 0, 1) := by decide +kernel
theorem d_Re_beginsStatement_18 : decode jRe_beginsStatement.cc 18 = .ok (.bipush 47, 2) := by decide +kernel
theorem d_Re_beginsStatement_20 : decode jRe_beginsStatement.cc 20 = .ok (.if_icmp .eq 21, 3) := by decide +kernel
theorem d_Re_beginsStatement_23 : decode jRe_beginsStatement.cc 23 = .ok (.iload_n 0, 1) := by decide +kernel
theorem d_Re_beginsStatement_24 : decode jRe_beginsStatement.cc 24 = .ok (.bipush 48, 2) := by decide +kernel
theorem d_Re_beginsStatement_26 : decode jRe_beginsStatement.cc 26 = .ok (.if_icmp .eq 15, 3) := by decide +kernel
theorem d_Re_beginsStatement_29 : decode jRe_beginsStatement.cc 29 = .ok (.iload_n 0, 1) := by decide +kernel
theorem d_Re_beginsStatement_30 : decode jRe_beginsStatement.cc 30 = .ok (.bipush 50, 2) := by decide +kernel
theorem d_Re_beginsStatement_32 : decode jRe_beginsStatement.cc 32 = .ok (.if_icmp .eq 9, 3) := by decide +kernel
theorem d_Re_beginsStatement_35 : decode jRe_beginsStatement.cc 35 = .ok (.iload_n 0, 1) := by decide +kernel
theorem d_Re_beginsStatement_36 : decode jRe_beginsStatement.cc 36 = .ok (.bipush 51, 2) := by decide +kernel
theorem d_Re_beginsStatement_38 : decode jRe_beginsStatement.cc 38 = .ok (.if_icmp .ne 7, 3) := by decide +kernel
theorem d_Re_beginsStatement_41 : decode jRe_beginsStatement.cc 41 = .ok (.iconst 1, 1) := by decide +kernel
theorem d_Re_beginsStatement_42 : decode jRe_beginsStatement.cc 42 = .ok (.goto 4, 3) := by decide +kernel
theorem d_Re_beginsStatement_45 : decode jRe_beginsStatement.cc 45 = .ok (.iconst 0, 1) := by decide +kernel
theorem d_Re_beginsStatement_46 : decode jRe_beginsStatement.cc 46 = .ok (.ireturn, 1) := by decide +kernel
set_option maxHeartbeats 4000000 in
theorem s_Re_beginsStatement {g : Mg} {d : Nat} {K : Ou → Wd → Prop} {w : Wd} {p0 : Int} (h : (p0 = 2 → (K (.inl (some (vI 1))) w)) ∧ (¬ p0 = 2 → ((p0 = 43 → (K (.inl (some (vI 1))) w)) ∧ (¬ p0 = 43 → ((p0 = 44 → (K (.inl (some (vI 1))) w)) ∧ (¬ p0 = 44 → ((p0 = 47 → (K (.inl (some (vI 1))) w)) ∧ (¬ p0 = 47 → ((p0 = 48 → (K (.inl (some (vI 1))) w)) ∧ (¬ p0 = 48 → ((p0 = 50 → (K (.inl (some (vI 1))) w)) ∧ (¬ p0 = 50 → ((¬ p0 = 51 → (K (.inl (some (vI 0))) w)) ∧ (p0 = 51 → (K (.inl (some (vI 1))) w))))))))))))))) : V g LC jRe_beginsStatement d K 0 [(0, vI p0)] [] w := by
  refine v_iload_n (pc := 0) d_Re_beginsStatement_0 rfl (.head _) ?_
  refine v_iconst (pc := 1) d_Re_beginsStatement_1 (by decide) ?_
  refine v_icmpeq (pc := 2) (tgt := 41) d_Re_beginsStatement_2 (by decide) (fun c => ?_) (fun c => ?_)
  · replace h := h.1 c
    refine v_iconst (pc := 41) d_Re_beginsStatement_41 (by decide) ?_
    refine v_goto (pc := 42) (tgt := 46) d_Re_beginsStatement_42 (by decide) ?_
    exact v_zret (pc := 46) d_Re_beginsStatement_46 rfl (by decide) h
  · replace h := h.2 c
    refine v_iload_n (pc := 5) d_Re_beginsStatement_5 rfl (.head _) ?_
    refine v_bipush (pc := 6) d_Re_beginsStatement_6 (by decide) rfl ?_
    refine v_icmpeq (pc := 8) (tgt := 41) d_Re_beginsStatement_8 (by decide) (fun c => ?_) (fun c => ?_)
    · replace h := h.1 c
      refine v_iconst (pc := 41) d_Re_beginsStatement_41 (by decide) ?_
      refine v_goto (pc := 42) (tgt := 46) d_Re_beginsStatement_42 (by decide) ?_
      exact v_zret (pc := 46) d_Re_beginsStatement_46 rfl (by decide) h
    · replace h := h.2 c
      refine v_iload_n (pc := 11) d_Re_beginsStatement_11 rfl (.head _) ?_
      refine v_bipush (pc := 12) d_Re_beginsStatement_12 (by decide) rfl ?_
      refine v_icmpeq (pc := 14) (tgt := 41) d_Re_beginsStatement_14 (by decide) (fun c => ?_) (fun c => ?_)
      · replace h := h.1 c
        refine v_iconst (pc := 41) d_Re_beginsStatement_41 (by decide) ?_
        refine v_goto (pc := 42) (tgt := 46) d_Re_beginsStatement_42 (by decide) ?_
        exact v_zret (pc := 46) d_Re_beginsStatement_46 rfl (by decide) h
      · replace h := h.2 c
        refine v_iload_n (pc := 17) d_Re_beginsStatement_17 rfl (.head _) ?_
        refine v_bipush (pc := 18) d_Re_beginsStatement_18 (by decide) rfl ?_
        refine v_icmpeq (pc := 20) (tgt := 41) d_Re_beginsStatement_20 (by decide) (fun c => ?_) (fun c => ?_)
        · replace h := h.1 c
          refine v_iconst (pc := 41) d_Re_beginsStatement_41 (by decide) ?_
          refine v_goto (pc := 42) (tgt := 46) d_Re_beginsStatement_42 (by decide) ?_
          exact v_zret (pc := 46) d_Re_beginsStatement_46 rfl (by decide) h
        · replace h := h.2 c
          refine v_iload_n (pc := 23) d_Re_beginsStatement_23 rfl (.head _) ?_
          refine v_bipush (pc := 24) d_Re_beginsStatement_24 (by decide) rfl ?_
          refine v_icmpeq (pc := 26) (tgt := 41) d_Re_beginsStatement_26 (by decide) (fun c => ?_) (fun c => ?_)
          · replace h := h.1 c
            refine v_iconst (pc := 41) d_Re_beginsStatement_41 (by decide) ?_
            refine v_goto (pc := 42) (tgt := 46) d_Re_beginsStatement_42 (by decide) ?_
            exact v_zret (pc := 46) d_Re_beginsStatement_46 rfl (by decide) h
          · replace h := h.2 c
            refine v_iload_n (pc := 29) d_Re_beginsStatement_29 rfl (.head _) ?_
            refine v_bipush (pc := 30) d_Re_beginsStatement_30 (by decide) rfl ?_
            refine v_icmpeq (pc := 32) (tgt := 41) d_Re_beginsStatement_32 (by decide) (fun c => ?_) (fun c => ?_)
            · replace h := h.1 c
              refine v_iconst (pc := 41) d_Re_beginsStatement_41 (by decide) ?_
              refine v_goto (pc := 42) (tgt := 46) d_Re_beginsStatement_42 (by decide) ?_
              exact v_zret (pc := 46) d_Re_beginsStatement_46 rfl (by decide) h
            · replace h := h.2 c
              refine v_iload_n (pc := 35) d_Re_beginsStatement_35 rfl (.head _) ?_
              refine v_bipush (pc := 36) d_Re_beginsStatement_36 (by decide) rfl ?_
              refine v_icmpne (pc := 38) (tgt := 45) d_Re_beginsStatement_38 (by decide) (fun c => ?_) (fun c => ?_)
              · replace h := h.1 c
                refine v_iconst (pc := 45) d_Re_beginsStatement_45 (by decide) ?_
                exact v_zret (pc := 46) d_Re_beginsStatement_46 rfl (by decide) h
              · replace h := h.2 c
                refine v_iconst (pc := 41) d_Re_beginsStatement_41 (by decide) ?_
                refine v_goto (pc := 42) (tgt := 46) d_Re_beginsStatement_42 (by decide) ?_
                exact v_zret (pc := 46) d_Re_beginsStatement_46 rfl (by decide) h
theorem d_Re_readStatement_0 : decode jRe_readStatement.cc 0 = .ok (.aload_n 0, 1) := by decide +kernel
theorem d_Re_readStatement_1 : decode jRe_readStatement.cc 1 = .ok (.getfield 13, 3) := by decide +kernel
theorem d_Re_readStatement_4 : decode jRe_readStatement.cc 4 = .ok (.getfield 189, 3) := by decide +kernel
theorem d_Re_readStatement_7 : decode jRe_readStatement.cc 7 = .ok (.bipush 120, 2) := by decide +kernel
theorem d_Re_readStatement_9 : decode jRe_readStatement.cc 9 = .ok (.if_icmp .lt 12, 3) := by decide +kernel
theorem d_Re_readStatement_12 : decode jRe_readStatement.cc 12 = .ok (.aload_n 0, 1) := by decide +kernel
theorem d_Re_readStatement_13 : decode jRe_readStatement.cc 13 = .ok (.getfield 34, 3) := by decide +kernel
theorem d_Re_readStatement_16 : decode jRe_readStatement.cc 16 = .ok (.iconst 2, 1) := by decide +kernel
theorem d_Re_readStatement_17 : decode jRe_readStatement.cc 17 = .ok (.invokevirtual 97, 3) := by decide +kernel
theorem d_Re_readStatement_20 : decode jRe_readStatement.cc 20 = .ok (.return_, 1) := by decide +kernel
theorem d_Re_readStatement_21 : decode jRe_readStatement.cc 21 = .ok (.aload_n 0, 1) := by decide +kernel
theorem d_Re_readStatement_22 : decode jRe_readStatement.cc 22 = .ok (.getfield 13, 3) := by decide +kernel
theorem d_Re_readStatement_25 : decode jRe_readStatement.cc 25 = .ok (.dup, 1) := by decide +kernel
theorem d_Re_readStatement_26 : decode jRe_readStatement.cc 26 = .ok (.getfield 189, 3) := by decide +kernel
theorem d_Re_readStatement_29 : decode jRe_readStatement.cc 29 = .ok (.iconst 1, 1) := by decide +kernel
theorem d_Re_readStatement_30 : decode jRe_readStatement.cc 30 = .ok (.iadd, 1) := by decide +kernel
theorem d_Re_readStatement_31 : decode jRe_readStatement.cc 31 = .ok (.putfield 189, 3) := by decide +kernel
theorem d_Re_readStatement_34 : decode jRe_readStatement.cc 34 = .ok (.aload_n 0, 1) := by decide +kernel
theorem d_Re_readStatement_35 : decode jRe_readStatement.cc 35 = .ok (.getfield 28, 3) := by decide +kernel
theorem d_Re_readStatement_38 : decode jRe_readStatement.cc 38 = .ok (.getfield 192, 3) := by decide +kernel
theorem d_Re_readStatement_41 : decode jRe_readStatement.cc 41 = .ok (.istore_n 2, 1) := by decide +kernel
theorem d_Re_readStatement_42 : decode jRe_readStatement.cc 42 = .ok (.aload_n 0, 1) := by decide +kernel
theorem d_Re_readStatement_43 : decode jRe_readStatement.cc 43 = .ok (.getfield 28, 3) := by decide +kernel
theorem d_Re_readStatement_46 : decode jRe_readStatement.cc 46 = .ok (.aload_n 0, 1) := by decide +kernel
theorem d_Re_readStatement_47 : decode jRe_readStatement.cc 47 = .ok (.getfield 7, 3) := by decide +kernel
theorem d_Re_readStatement_50 : decode jRe_readStatement.cc 50 = .ok (.getfield 123, 3) := by decide +kernel
theorem d_Re_readStatement_53 : decode jRe_readStatement.cc 53 = .ok (.aload_n 0, 1) := by decide +kernel
theorem d_Re_readStatement_54 : decode jRe_readStatement.cc 54 = .ok (.getfield 34, 3) := by decide +kernel
theorem d_Re_readStatement_57 : decode jRe_readStatement.cc 57 = .ok (.invokevirtual 195, 3) := by decide +kernel
theorem d_Re_readStatement_60 : decode jRe_readStatement.cc 60 = .ok (.iaload, 1) := by decide +kernel
theorem d_Re_readStatement_61 : decode jRe_readStatement.cc 61 = .ok (.putfield 192, 3) := by decide +kernel
theorem d_Re_readStatement_64 : decode jRe_readStatement.cc 64 = .ok (.aload_n 0, 1) := by decide +kernel
theorem d_Re_readStatement_65 : decode jRe_readStatement.cc 65 = .ok (.getfield 28, 3) := by decide +kernel
theorem d_Re_readStatement_68 : decode jRe_readStatement.cc 68 = .ok (.bipush 19, 2) := by decide +kernel
theorem d_Re_readStatement_70 : decode jRe_readStatement.cc 70 = .ok (.iconst 0, 1) := by decide +kernel
theorem d_Re_readStatement_71 : decode jRe_readStatement.cc 71 = .ok (.iconst 0, 1) := by decide +kernel
theorem d_Re_readStatement_72 : decode jRe_readStatement.cc 72 = .ok (.invokevirtual 87, 3) := by decide +kernel
theorem d_Re_readStatement_75 : decode jRe_readStatement.cc 75 = .ok (.pop, 1) := by decide +kernel
theorem d_Re_readStatement_76 : decode jRe_readStatement.cc 76 = .ok (.aload_n 0, 1) := by decide +kernel
theorem d_Re_readStatement_77 : decode jRe_readStatement.cc 77 = .ok (.getfield 34, 3) := by decide +kernel
theorem d_Re_readStatement_80 : decode jRe_readStatement.cc 80 = .ok (.invokevirtual 60, 3) := by decide +kernel
theorem d_Re_readStatement_83 : decode jRe_readStatement.cc 83 = .ok (.lookupswitch 105 #[(2, 57), (43, 65), (44, 73), (47, 81), (48, 89), (50, 97)], 57) := by decide +kernel
theorem d_Re_readStatement_140 : decode jRe_readStatement.cc 140 = .ok (.aload_n 0, 1) := by decide +kernel
theorem d_Re_readStatement_141 : decode jRe_readStatement.cc 141 = .ok (.iload_n 1, 1) := by decide +kernel
theorem d_Re_readStatement_142 : decode jRe_readStatement.cc 142 = .ok (.invokevirtual 198, 3) := by decide +kernel
theorem d_Re_readStatement_145 : decode jRe_readStatement.cc 145 = .ok (.goto 47, 3) := by decide +kernel
theorem d_Re_readStatement_148 : decode jRe_readStatement.cc 148 = .ok (.aload_n 0, 1) := by decide +kernel
theorem d_Re_readStatement_149 : decode jRe_readStatement.cc 149 = .ok (.iload_n 1, 1) := by decide +kernel
theorem d_Re_readStatement_150 : decode jRe_readStatement.cc 150 = .ok (.invokevirtual 201, 3) := by decide +kernel
theorem d_Re_readStatement_153 : decode jRe_readStatement.cc 153 = .ok (.goto 39, 3) := by decide +kernel
theorem d_Re_readStatement_156 : decode jRe_readStatement.cc 156 = .ok (.aload_n 0, 1) := by decide +kernel
theorem d_Re_readStatement_157 : decode jRe_readStatement.cc 157 = .ok (.iload_n 1, 1) := by decide +kernel
theorem d_Re_readStatement_158 : decode jRe_readStatement.cc 158 = .ok (.invokevirtual 204, 3) := by decide +kernel
theorem d_Re_readStatement_161 : decode jRe_readStatement.cc 161 = .ok (.goto 31, 3) := by decide +kernel
theorem d_Re_readStatement_164 : decode jRe_readStatement.cc 164 = .ok (.aload_n 0, 1) := by decide +kernel
theorem d_Re_readStatement_165 : decode jRe_readStatement.cc 165 = .ok (.iload_n 1, 1) := by decide +kernel
theorem d_Re_readStatement_166 : decode jRe_readStatement.cc 166 = .ok (.invokevirtual 207, 3) := by decide +kernel
theorem d_Re_readStatement_169 : decode jRe_readStatement.cc 169 = .ok (.goto 23, 3) := by decide +kernel
theorem d_Re_readStatement_172 : decode jRe_readStatement.cc 172 = .ok (.aload_n 0, 1) := by decide +kernel
theorem d_Re_readStatement_173 : decode jRe_readStatement.cc 173 = .ok (.iload_n 1, 1) := by decide +kernel
theorem d_Re_readStatement_174 : decode jRe_readStatement.cc 174 = .ok (.invokevirtual 210, 3) := by decide +kernel
theorem d_Re_readStatement_177 : decode jRe_readStatement.cc 177 = .ok (.goto 15, 3) := by decide +kernel
theorem d_Re_readStatement_180 : decode jRe_readStatement.cc 180 = .ok (.aload_n 0, 1) := by decide +kernel
theorem d_Re_readStatement_181 : decode jRe_readStatement.cc 181 = .ok (.iload_n 1, 1) := by decide +kernel
theorem d_Re_readStatement_182 : decode jRe_readStatement.cc 182 = .ok (.invokevirtual 213, 3) := by decide +kernel
theorem d_Re_readStatement_185 : decode jRe_readStatement.cc 185 = .ok (.goto 7, 3) := by decide +kernel
theorem d_Re_readStatement_188 : decode jRe_readStatement.cc 188 = .ok (.aload_n 0, 1) := by decide +kernel
theorem d_Re_readStatement_189 : decode jRe_readStatement.cc 189 = .ok (.invokevirtual 216, 3) := by decide +kernel
theorem d_Re_readStatement_192 : decode jRe_readStatement.cc 192 = .ok (.aload_n 0, 1) := by decide +kernel
theorem d_Re_readStatement_193 : decode jRe_readStatement.cc 193 = .ok (.getfield 28, 3) := by decide +kernel
theorem d_Re_readStatement_196 : decode jRe_readStatement.cc 196 = .ok (.iload_n 2, 1) := by decide +kernel
theorem d_Re_readStatement_197 : decode jRe_readStatement.cc 197 = .ok (.putfield 192, 3) := by decide +kernel
theorem d_Re_readStatement_200 : decode jRe_readStatement.cc 200 = .ok (.return_, 1) := by decide +kernel
set_option maxHeartbeats 4000000 in
theorem s_Re_readStatement {g : Mg} {d : Nat} {K : Ou → Wd → Prop} {w : Wd} {p1 : Int} (h : ((w 8 3) < 120 → (Cal g LC jCu_here d [vA 25] (up w 8 3 (wr ((w 8 3) + 1))) (fun o w1 => rI o (fun x2 => (0 ≤ x2 ∧ x2 < 1002) ∧ (Cal g LC jCo_add d [vA 19, vI 19, vI 0, vI 0] (up w1 19 5 (w1 5 x2.toNat)) (fun o w3 => rI o (fun x4 => Cal g LC jCu_kind d [vA 25] w3 (fun o w5 => rI o (fun x6 => (x6 = 2 → (Cal g LC jRe_readSetting d [vA 24, vI p1] w5 (fun o w7 => rV o (K (.inl none) (up w7 19 5 (w 19 5)))))) ∧ (¬ x6 = 2 → ((x6 = 43 → (Cal g LC jRe_readLet d [vA 24, vI p1] w5 (fun o w8 => rV o (K (.inl none) (up w8 19 5 (w 19 5)))))) ∧ (¬ x6 = 43 → ((x6 = 44 → (Cal g LC jRe_readSend d [vA 24, vI p1] w5 (fun o w9 => rV o (K (.inl none) (up w9 19 5 (w 19 5)))))) ∧ (¬ x6 = 44 → ((x6 = 47 → (Cal g LC jRe_readGive d [vA 24, vI p1] w5 (fun o w10 => rV o (K (.inl none) (up w10 19 5 (w 19 5)))))) ∧ (¬ x6 = 47 → ((x6 = 48 → (Cal g LC jRe_readIf d [vA 24, vI p1] w5 (fun o w11 => rV o (K (.inl none) (up w11 19 5 (w 19 5)))))) ∧ (¬ x6 = 48 → ((x6 = 50 → (Cal g LC jRe_readLoop d [vA 24, vI p1] w5 (fun o w12 => rV o (K (.inl none) (up w12 19 5 (w 19 5)))))) ∧ (¬ x6 = 50 → (Cal g LC jRe_readHalt d [vA 24] w5 (fun o w13 => rV o (K (.inl none) (up w13 19 5 (w 19 5))))))))))))))))))))))))) ∧ (¬ (w 8 3) < 120 → (Cal g LC jCu_stop d [vA 25, vI 2] w (fun o w14 => rV o (K (.inl none) w14))))) : V g LC jRe_readStatement (d + 1) K 0 [(0, vA 24), (1, vI p1)] [] w := by
  refine v_aload_n (pc := 0) d_Re_readStatement_0 rfl (.head _) ?_
  refine v_getr (C := "") (pc := 1) (r := 8) d_Re_readStatement_1 fl_Re_13 cC_24.1 cC_24.2 (Or.inl ⟨_, rfl⟩) rC_24_1 ?_
  refine v_geti (pc := 4) (x := (w 8 3)) d_Re_readStatement_4 fl_Re_189 cC_8.1 cC_8.2 (Or.inl rfl) rfl ?_
  refine v_bipush (pc := 7) d_Re_readStatement_7 (by decide) rfl ?_
  refine v_icmplt (pc := 9) (tgt := 21) d_Re_readStatement_9 (by decide) (fun c => ?_) (fun c => ?_)
  · replace h := h.1 c
    refine v_aload_n (pc := 21) d_Re_readStatement_21 rfl (.head _) ?_
    refine v_getr (C := "") (pc := 22) (r := 8) d_Re_readStatement_22 fl_Re_13 cC_24.1 cC_24.2 (Or.inl ⟨_, rfl⟩) rC_24_1 ?_
    refine v_dup (pc := 25) d_Re_readStatement_25 rfl ?_
    refine v_geti (pc := 26) (x := (w 8 3)) d_Re_readStatement_26 fl_Re_189 cC_8.1 cC_8.2 (Or.inl rfl) rfl ?_
    refine v_iconst (pc := 29) d_Re_readStatement_29 (by decide) ?_
    refine v_iadd (pc := 30) d_Re_readStatement_30 ?_
    refine v_puti (pc := 31) d_Re_readStatement_31 fp_Re_189 cC_8.1 cC_8.2 (by decide) rfl ?_
    refine v_aload_n (pc := 34) d_Re_readStatement_34 rfl (.head _) ?_
    refine v_getr (C := "") (pc := 35) (r := 19) d_Re_readStatement_35 fl_Re_28 cC_24.1 cC_24.2 (Or.inl ⟨_, rfl⟩) rC_24_3 ?_
    refine v_geti (pc := 38) (x := (w 19 5)) d_Re_readStatement_38 fl_Re_192 cC_19.1 cC_19.2 (Or.inl rfl) rfl ?_
    refine v_istore_n (pc := 41) (ls' := [(2, vI (w 19 5)), (0, vA 24), (1, vI p1)]) d_Re_readStatement_41 rfl (by decide) rfl ?_
    refine v_aload_n (pc := 42) d_Re_readStatement_42 rfl (.tail _ (.head _)) ?_
    refine v_getr (C := "") (pc := 43) (r := 19) d_Re_readStatement_43 fl_Re_28 cC_24.1 cC_24.2 (Or.inl ⟨_, rfl⟩) rC_24_3 ?_
    refine v_aload_n (pc := 46) d_Re_readStatement_46 rfl (.tail _ (.head _)) ?_
    refine v_getr (C := "") (pc := 47) (r := 2) d_Re_readStatement_47 fl_Re_7 cC_24.1 cC_24.2 (Or.inl ⟨_, rfl⟩) rC_24_0 ?_
    refine v_getr (C := "") (pc := 50) (r := 5) d_Re_readStatement_50 fl_Re_123 cC_2.1 cC_2.2 (Or.inr ⟨_, rfl⟩) rC_2_3 ?_
    refine v_aload_n (pc := 53) d_Re_readStatement_53 rfl (.tail _ (.head _)) ?_
    refine v_getr (C := "") (pc := 54) (r := 25) d_Re_readStatement_54 fl_Re_34 cC_24.1 cC_24.2 (Or.inl ⟨_, rfl⟩) rC_24_4 ?_
    refine v_callV (pc := 57) (J' := jCu_here) (d' := d) (o := 25) (ci := 1) (N := 6) (T := cT1) (As := []) d_Re_readStatement_57 ml_Re_195 cC_25.1 cC_25.2 (by decide) rfl rfl (Nat.le_of_ble_eq_true rfl) (Nat.le_refl _) rfl (Cal.weak h (fun o w1 h => ?_))
    rcases rI_of h with ⟨x2, rfl, h⟩
    refine v_iald (pc := 60) (x := (w1 5 x2.toNat)) d_Re_readStatement_60 cC_5.1 cC_5.2 rfl h.1 ?_
    replace h := h.2
    refine v_puti (pc := 61) d_Re_readStatement_61 fp_Re_192 cC_19.1 cC_19.2 (by decide) rfl ?_
    refine v_aload_n (pc := 64) d_Re_readStatement_64 rfl (.tail _ (.head _)) ?_
    refine v_getr (C := "") (pc := 65) (r := 19) d_Re_readStatement_65 fl_Re_28 cC_24.1 cC_24.2 (Or.inl ⟨_, rfl⟩) rC_24_3 ?_
    refine v_bipush (pc := 68) d_Re_readStatement_68 (by decide) rfl ?_
    refine v_iconst (pc := 70) d_Re_readStatement_70 (by decide) ?_
    refine v_iconst (pc := 71) d_Re_readStatement_71 (by decide) ?_
    refine v_callV (pc := 72) (J' := jCo_add) (d' := d) (o := 19) (ci := 0) (N := 6) (T := cT0) (As := [vI 19, vI 0, vI 0]) d_Re_readStatement_72 ml_Re_87 cC_19.1 cC_19.2 (by decide) rfl rfl (Nat.le_of_ble_eq_true rfl) (Nat.le_refl _) rfl (Cal.weak h (fun o w3 h => ?_))
    rcases rI_of h with ⟨x4, rfl, h⟩
    refine v_pop (pc := 75) d_Re_readStatement_75 rfl ?_
    refine v_aload_n (pc := 76) d_Re_readStatement_76 rfl (.tail _ (.head _)) ?_
    refine v_getr (C := "") (pc := 77) (r := 25) d_Re_readStatement_77 fl_Re_34 cC_24.1 cC_24.2 (Or.inl ⟨_, rfl⟩) rC_24_4 ?_
    refine v_callV (pc := 80) (J' := jCu_kind) (d' := d) (o := 25) (ci := 1) (N := 6) (T := cT1) (As := []) d_Re_readStatement_80 ml_Re_60 cC_25.1 cC_25.2 (by decide) rfl rfl (Nat.le_of_ble_eq_true rfl) (Nat.le_refl _) rfl (Cal.weak h (fun o w5 h => ?_))
    rcases rI_of h with ⟨x6, rfl, h⟩
    refine v_lookup (pc := 83) (tgd := 188) (prs := [(2, 140), (43, 148), (44, 156), (47, 164), (48, 172), (50, 180)]) d_Re_readStatement_83 (by decide) (by decide) (by decide) ⟨fun c => ?_, fun c0 => ⟨fun c => ?_, fun c1 => ⟨fun c => ?_, fun c2 => ⟨fun c => ?_, fun c3 => ⟨fun c => ?_, fun c4 => ⟨fun c => ?_, fun c5 => ?_⟩⟩⟩⟩⟩⟩
    · replace h := h.1 c
      refine v_aload_n (pc := 140) d_Re_readStatement_140 rfl (.tail _ (.head _)) ?_
      refine v_iload_n (pc := 141) d_Re_readStatement_141 rfl (.tail _ (.tail _ (.head _))) ?_
      refine v_callV (pc := 142) (J' := jRe_readSetting) (d' := d) (o := 24) (ci := 8) (N := 7) (T := cT8) (As := [vI p1]) d_Re_readStatement_142 ml_Re_198 cC_24.1 cC_24.2 (by decide) rfl rfl (Nat.le_of_ble_eq_true rfl) (Nat.le_refl _) rfl (Cal.weak h (fun o w7 h => ?_))
      rcases rV_of h with ⟨rfl, h⟩
      refine v_goto (pc := 145) (tgt := 192) d_Re_readStatement_145 (by decide) ?_
      refine v_aload_n (pc := 192) d_Re_readStatement_192 rfl (.tail _ (.head _)) ?_
      refine v_getr (C := "") (pc := 193) (r := 19) d_Re_readStatement_193 fl_Re_28 cC_24.1 cC_24.2 (Or.inl ⟨_, rfl⟩) rC_24_3 ?_
      refine v_iload_n (pc := 196) d_Re_readStatement_196 rfl (.head _) ?_
      refine v_puti (pc := 197) d_Re_readStatement_197 fp_Re_192 cC_19.1 cC_19.2 (by decide) rfl ?_
      exact v_vret (pc := 200) d_Re_readStatement_200 rfl h
    · replace h := (h.2 c0).1 c
      refine v_aload_n (pc := 148) d_Re_readStatement_148 rfl (.tail _ (.head _)) ?_
      refine v_iload_n (pc := 149) d_Re_readStatement_149 rfl (.tail _ (.tail _ (.head _))) ?_
      refine v_callV (pc := 150) (J' := jRe_readLet) (d' := d) (o := 24) (ci := 8) (N := 7) (T := cT8) (As := [vI p1]) d_Re_readStatement_150 ml_Re_201 cC_24.1 cC_24.2 (by decide) rfl rfl (Nat.le_of_ble_eq_true rfl) (Nat.le_refl _) rfl (Cal.weak h (fun o w8 h => ?_))
      rcases rV_of h with ⟨rfl, h⟩
      refine v_goto (pc := 153) (tgt := 192) d_Re_readStatement_153 (by decide) ?_
      refine v_aload_n (pc := 192) d_Re_readStatement_192 rfl (.tail _ (.head _)) ?_
      refine v_getr (C := "") (pc := 193) (r := 19) d_Re_readStatement_193 fl_Re_28 cC_24.1 cC_24.2 (Or.inl ⟨_, rfl⟩) rC_24_3 ?_
      refine v_iload_n (pc := 196) d_Re_readStatement_196 rfl (.head _) ?_
      refine v_puti (pc := 197) d_Re_readStatement_197 fp_Re_192 cC_19.1 cC_19.2 (by decide) rfl ?_
      exact v_vret (pc := 200) d_Re_readStatement_200 rfl h
    · replace h := ((h.2 c0).2 c1).1 c
      refine v_aload_n (pc := 156) d_Re_readStatement_156 rfl (.tail _ (.head _)) ?_
      refine v_iload_n (pc := 157) d_Re_readStatement_157 rfl (.tail _ (.tail _ (.head _))) ?_
      refine v_callV (pc := 158) (J' := jRe_readSend) (d' := d) (o := 24) (ci := 8) (N := 7) (T := cT8) (As := [vI p1]) d_Re_readStatement_158 ml_Re_204 cC_24.1 cC_24.2 (by decide) rfl rfl (Nat.le_of_ble_eq_true rfl) (Nat.le_refl _) rfl (Cal.weak h (fun o w9 h => ?_))
      rcases rV_of h with ⟨rfl, h⟩
      refine v_goto (pc := 161) (tgt := 192) d_Re_readStatement_161 (by decide) ?_
      refine v_aload_n (pc := 192) d_Re_readStatement_192 rfl (.tail _ (.head _)) ?_
      refine v_getr (C := "") (pc := 193) (r := 19) d_Re_readStatement_193 fl_Re_28 cC_24.1 cC_24.2 (Or.inl ⟨_, rfl⟩) rC_24_3 ?_
      refine v_iload_n (pc := 196) d_Re_readStatement_196 rfl (.head _) ?_
      refine v_puti (pc := 197) d_Re_readStatement_197 fp_Re_192 cC_19.1 cC_19.2 (by decide) rfl ?_
      exact v_vret (pc := 200) d_Re_readStatement_200 rfl h
    · replace h := (((h.2 c0).2 c1).2 c2).1 c
      refine v_aload_n (pc := 164) d_Re_readStatement_164 rfl (.tail _ (.head _)) ?_
      refine v_iload_n (pc := 165) d_Re_readStatement_165 rfl (.tail _ (.tail _ (.head _))) ?_
      refine v_callV (pc := 166) (J' := jRe_readGive) (d' := d) (o := 24) (ci := 8) (N := 7) (T := cT8) (As := [vI p1]) d_Re_readStatement_166 ml_Re_207 cC_24.1 cC_24.2 (by decide) rfl rfl (Nat.le_of_ble_eq_true rfl) (Nat.le_refl _) rfl (Cal.weak h (fun o w10 h => ?_))
      rcases rV_of h with ⟨rfl, h⟩
      refine v_goto (pc := 169) (tgt := 192) d_Re_readStatement_169 (by decide) ?_
      refine v_aload_n (pc := 192) d_Re_readStatement_192 rfl (.tail _ (.head _)) ?_
      refine v_getr (C := "") (pc := 193) (r := 19) d_Re_readStatement_193 fl_Re_28 cC_24.1 cC_24.2 (Or.inl ⟨_, rfl⟩) rC_24_3 ?_
      refine v_iload_n (pc := 196) d_Re_readStatement_196 rfl (.head _) ?_
      refine v_puti (pc := 197) d_Re_readStatement_197 fp_Re_192 cC_19.1 cC_19.2 (by decide) rfl ?_
      exact v_vret (pc := 200) d_Re_readStatement_200 rfl h
    · replace h := ((((h.2 c0).2 c1).2 c2).2 c3).1 c
      refine v_aload_n (pc := 172) d_Re_readStatement_172 rfl (.tail _ (.head _)) ?_
      refine v_iload_n (pc := 173) d_Re_readStatement_173 rfl (.tail _ (.tail _ (.head _))) ?_
      refine v_callV (pc := 174) (J' := jRe_readIf) (d' := d) (o := 24) (ci := 8) (N := 7) (T := cT8) (As := [vI p1]) d_Re_readStatement_174 ml_Re_210 cC_24.1 cC_24.2 (by decide) rfl rfl (Nat.le_of_ble_eq_true rfl) (Nat.le_refl _) rfl (Cal.weak h (fun o w11 h => ?_))
      rcases rV_of h with ⟨rfl, h⟩
      refine v_goto (pc := 177) (tgt := 192) d_Re_readStatement_177 (by decide) ?_
      refine v_aload_n (pc := 192) d_Re_readStatement_192 rfl (.tail _ (.head _)) ?_
      refine v_getr (C := "") (pc := 193) (r := 19) d_Re_readStatement_193 fl_Re_28 cC_24.1 cC_24.2 (Or.inl ⟨_, rfl⟩) rC_24_3 ?_
      refine v_iload_n (pc := 196) d_Re_readStatement_196 rfl (.head _) ?_
      refine v_puti (pc := 197) d_Re_readStatement_197 fp_Re_192 cC_19.1 cC_19.2 (by decide) rfl ?_
      exact v_vret (pc := 200) d_Re_readStatement_200 rfl h
    · replace h := (((((h.2 c0).2 c1).2 c2).2 c3).2 c4).1 c
      refine v_aload_n (pc := 180) d_Re_readStatement_180 rfl (.tail _ (.head _)) ?_
      refine v_iload_n (pc := 181) d_Re_readStatement_181 rfl (.tail _ (.tail _ (.head _))) ?_
      refine v_callV (pc := 182) (J' := jRe_readLoop) (d' := d) (o := 24) (ci := 8) (N := 7) (T := cT8) (As := [vI p1]) d_Re_readStatement_182 ml_Re_213 cC_24.1 cC_24.2 (by decide) rfl rfl (Nat.le_of_ble_eq_true rfl) (Nat.le_refl _) rfl (Cal.weak h (fun o w12 h => ?_))
      rcases rV_of h with ⟨rfl, h⟩
      refine v_goto (pc := 185) (tgt := 192) d_Re_readStatement_185 (by decide) ?_
      refine v_aload_n (pc := 192) d_Re_readStatement_192 rfl (.tail _ (.head _)) ?_
      refine v_getr (C := "") (pc := 193) (r := 19) d_Re_readStatement_193 fl_Re_28 cC_24.1 cC_24.2 (Or.inl ⟨_, rfl⟩) rC_24_3 ?_
      refine v_iload_n (pc := 196) d_Re_readStatement_196 rfl (.head _) ?_
      refine v_puti (pc := 197) d_Re_readStatement_197 fp_Re_192 cC_19.1 cC_19.2 (by decide) rfl ?_
      exact v_vret (pc := 200) d_Re_readStatement_200 rfl h
    · replace h := ((((((h.2 c0).2 c1).2 c2).2 c3).2 c4).2 c5)
      refine v_aload_n (pc := 188) d_Re_readStatement_188 rfl (.tail _ (.head _)) ?_
      refine v_callV (pc := 189) (J' := jRe_readHalt) (d' := d) (o := 24) (ci := 8) (N := 7) (T := cT8) (As := []) d_Re_readStatement_189 ml_Re_216 cC_24.1 cC_24.2 (by decide) rfl rfl (Nat.le_of_ble_eq_true rfl) (Nat.le_refl _) rfl (Cal.weak h (fun o w13 h => ?_))
      rcases rV_of h with ⟨rfl, h⟩
      refine v_aload_n (pc := 192) d_Re_readStatement_192 rfl (.tail _ (.head _)) ?_
      refine v_getr (C := "") (pc := 193) (r := 19) d_Re_readStatement_193 fl_Re_28 cC_24.1 cC_24.2 (Or.inl ⟨_, rfl⟩) rC_24_3 ?_
      refine v_iload_n (pc := 196) d_Re_readStatement_196 rfl (.head _) ?_
      refine v_puti (pc := 197) d_Re_readStatement_197 fp_Re_192 cC_19.1 cC_19.2 (by decide) rfl ?_
      exact v_vret (pc := 200) d_Re_readStatement_200 rfl h
  · replace h := h.2 c
    refine v_aload_n (pc := 12) d_Re_readStatement_12 rfl (.head _) ?_
    refine v_getr (C := "") (pc := 13) (r := 25) d_Re_readStatement_13 fl_Re_34 cC_24.1 cC_24.2 (Or.inl ⟨_, rfl⟩) rC_24_4 ?_
    refine v_iconst (pc := 16) d_Re_readStatement_16 (by decide) ?_
    refine v_callV (pc := 17) (J' := jCu_stop) (d' := d) (o := 25) (ci := 1) (N := 6) (T := cT1) (As := [vI 2]) d_Re_readStatement_17 ml_Re_97 cC_25.1 cC_25.2 (by decide) rfl rfl (Nat.le_of_ble_eq_true rfl) (Nat.le_refl _) rfl (Cal.weak h (fun o w14 h => ?_))
    rcases rV_of h with ⟨rfl, h⟩
    exact v_vret (pc := 20) d_Re_readStatement_20 rfl h
theorem d_Re_readSetting_0 : decode jRe_readSetting.cc 0 = .ok (.aload_n 0, 1) := by decide +kernel
theorem d_Re_readSetting_1 : decode jRe_readSetting.cc 1 = .ok (.getfield 34, 3) := by decide +kernel
theorem d_Re_readSetting_4 : decode jRe_readSetting.cc 4 = .ok (.iconst 2, 1) := by decide +kernel
theorem d_Re_readSetting_5 : decode jRe_readSetting.cc 5 = .ok (.invokevirtual 71, 3) := by decide +kernel
theorem d_Re_readSetting_8 : decode jRe_readSetting.cc 8 = .ok (.istore_n 2, 1) := by decide +kernel
theorem d_Re_readSetting_9 : decode jRe_readSetting.cc 9 = .ok (.aload_n 0, 1) := by decide +kernel
theorem d_Re_readSetting_10 : decode jRe_readSetting.cc 10 = .ok (.getfield 23, 3) := by decide +kernel
theorem d_Re_readSetting_13 : decode jRe_readSetting.cc 13 = .ok (.iload_n 2, 1) := by decide +kernel
theorem d_Re_readSetting_14 : decode jRe_readSetting.cc 14 = .ok (.invokevirtual 156, 3) := by decide +kernel
theorem d_Re_readSetting_17 : decode jRe_readSetting.cc 17 = .ok (.istore_n 3, 1) := by decide +kernel
theorem d_Re_readSetting_18 : decode jRe_readSetting.cc 18 = .ok (.aload_n 0, 1) := by decide +kernel
theorem d_Re_readSetting_19 : decode jRe_readSetting.cc 19 = .ok (.getfield 23, 3) := by decide +kernel
theorem d_Re_readSetting_22 : decode jRe_readSetting.cc 22 = .ok (.iload_n 3, 1) := by decide +kernel
theorem d_Re_readSetting_23 : decode jRe_readSetting.cc 23 = .ok (.invokevirtual 219, 3) := by decide +kernel
theorem d_Re_readSetting_26 : decode jRe_readSetting.cc 26 = .ok (.istore 4, 2) := by decide +kernel
theorem d_Re_readSetting_28 : decode jRe_readSetting.cc 28 = .ok (.iload 4, 2) := by decide +kernel
theorem d_Re_readSetting_30 : decode jRe_readSetting.cc 30 = .ok (.iconst 1, 1) := by decide +kernel
theorem d_Re_readSetting_31 : decode jRe_readSetting.cc 31 = .ok (.if_icmp .eq 9, 3) := by decide +kernel
theorem d_Re_readSetting_34 : decode jRe_readSetting.cc 34 = .ok (.iload 4, 2) := by decide +kernel
theorem d_Re_readSetting_36 : decode jRe_readSetting.cc 36 = .ok (.iconst 4, 1) := by decide +kernel
theorem d_Re_readSetting_37 : decode jRe_readSetting.cc 37 = .ok (.if_icmp .ne 7, 3) := by decide +kernel
theorem d_Re_readSetting_40 : decode jRe_readSetting.cc 40 = .ok (.iconst 1, 1) := by decide +kernel
theorem d_Re_readSetting_41 : decode jRe_readSetting.cc 41 = .ok (.goto 4, 3) := by decide +kernel
theorem d_Re_readSetting_44 : decode jRe_readSetting.cc 44 = .ok (.iconst 0, 1) := by decide +kernel
theorem d_Re_readSetting_45 : decode jRe_readSetting.cc 45 = .ok (.istore 5, 2) := by decide +kernel
theorem d_Re_readSetting_47 : decode jRe_readSetting.cc 47 = .ok (.iload 5, 2) := by decide +kernel
theorem d_Re_readSetting_49 : decode jRe_readSetting.cc 49 = .ok (.ifCond .ne 12, 3) := by decide +kernel
theorem d_Re_readSetting_52 : decode jRe_readSetting.cc 52 = .ok (.aload_n 0, 1) := by decide +kernel
theorem d_Re_readSetting_53 : decode jRe_readSetting.cc 53 = .ok (.getfield 34, 3) := by decide +kernel
theorem d_Re_readSetting_56 : decode jRe_readSetting.cc 56 = .ok (.iconst 4, 1) := by decide +kernel
theorem d_Re_readSetting_57 : decode jRe_readSetting.cc 57 = .ok (.iload_n 2, 1) := by decide +kernel
theorem d_Re_readSetting_58 : decode jRe_readSetting.cc 58 = .ok (.invokevirtual 159, 3) := by decide +kernel
theorem d_Re_readSetting_61 : decode jRe_readSetting.cc 61 = .ok (.aload_n 0, 1) := by decide +kernel
theorem d_Re_readSetting_62 : decode jRe_readSetting.cc 62 = .ok (.getfield 34, 3) := by decide +kernel
theorem d_Re_readSetting_65 : decode jRe_readSetting.cc 65 = .ok (.bipush 12, 2) := by decide +kernel
theorem d_Re_readSetting_67 : decode jRe_readSetting.cc 67 = .ok (.invokevirtual 71, 3) := by decide +kernel
theorem d_Re_readSetting_70 : decode jRe_readSetting.cc 70 = .ok (.pop, 1) := by decide +kernel
theorem d_Re_readSetting_71 : decode jRe_readSetting.cc 71 = .ok (.aload_n 0, 1) := by decide +kernel
theorem d_Re_readSetting_72 : decode jRe_readSetting.cc 72 = .ok (.getfield 43, 3) := by decide +kernel
theorem d_Re_readSetting_75 : decode jRe_readSetting.cc 75 = .ok (.iload_n 1, 1) := by decide +kernel
theorem d_Re_readSetting_76 : decode jRe_readSetting.cc 76 = .ok (.invokevirtual 222, 3) := by decide +kernel
theorem d_Re_readSetting_79 : decode jRe_readSetting.cc 79 = .ok (.istore 6, 2) := by decide +kernel
theorem d_Re_readSetting_81 : decode jRe_readSetting.cc 81 = .ok (.aload_n 0, 1) := by decide +kernel
theorem d_Re_readSetting_82 : decode jRe_readSetting.cc 82 = .ok (.getfield 43, 3) := by decide +kernel
theorem d_Re_readSetting_85 : decode jRe_readSetting.cc 85 = .ok (.iload 6, 2) := by decide +kernel
theorem d_Re_readSetting_87 : decode jRe_readSetting.cc 87 = .ok (.iload 5, 2) := by decide +kernel
theorem d_Re_readSetting_89 : decode jRe_readSetting.cc 89 = .ok (.ifCond .eq 14, 3) := by decide +kernel
theorem d_Re_readSetting_92 : decode jRe_readSetting.cc 92 = .ok (.aload_n 0, 1) := by decide +kernel
theorem d_Re_readSetting_93 : decode jRe_readSetting.cc 93 = .ok (.getfield 23, 3) := by decide +kernel
theorem d_Re_readSetting_96 : decode jRe_readSetting.cc 96 = .ok (.iload_n 3, 1) := by decide +kernel
theorem d_Re_readSetting_97 : decode jRe_readSetting.cc 97 = .ok (.invokevirtual 225, 3) := by decide +kernel
theorem d_Re_readSetting_100 : decode jRe_readSetting.cc 100 = .ok (.goto 4, 3) := by decide +kernel
theorem d_Re_readSetting_103 : decode jRe_readSetting.cc 103 = .ok (.iconst 0, 1) := by decide +kernel
theorem d_Re_readSetting_104 : decode jRe_readSetting.cc 104 = .ok (.invokevirtual 228, 3) := by decide +kernel
theorem d_Re_readSetting_107 : decode jRe_readSetting.cc 107 = .ok (.aload_n 0, 1) := by decide +kernel
theorem d_Re_readSetting_108 : decode jRe_readSetting.cc 108 = .ok (.getfield 34, 3) := by decide +kernel
theorem d_Re_readSetting_111 : decode jRe_readSetting.cc 111 = .ok (.iconst 4, 1) := by decide +kernel
theorem d_Re_readSetting_112 : decode jRe_readSetting.cc 112 = .ok (.invokevirtual 71, 3) := by decide +kernel
theorem d_Re_readSetting_115 : decode jRe_readSetting.cc 115 = .ok (.pop, 1) := by decide +kernel
theorem d_Re_readSetting_116 : decode jRe_readSetting.cc 116 = .ok (.aload_n 0, 1) := by decide +kernel
theorem d_Re_readSetting_117 : decode jRe_readSetting.cc 117 = .ok (.getfield 28, 3) := by decide +kernel
theorem d_Re_readSetting_120 : decode jRe_readSetting.cc 120 = .ok (.iload 4, 2) := by decide +kernel
theorem d_Re_readSetting_122 : decode jRe_readSetting.cc 122 = .ok (.iconst 4, 1) := by decide +kernel
theorem d_Re_readSetting_123 : decode jRe_readSetting.cc 123 = .ok (.if_icmp .ne 8, 3) := by decide +kernel
theorem d_Re_readSetting_126 : decode jRe_readSetting.cc 126 = .ok (.bipush 27, 2) := by decide +kernel
theorem d_Re_readSetting_128 : decode jRe_readSetting.cc 128 = .ok (.goto 5, 3) := by decide +kernel
theorem d_Re_readSetting_131 : decode jRe_readSetting.cc 131 = .ok (.bipush 26, 2) := by decide +kernel
theorem d_Re_readSetting_133 : decode jRe_readSetting.cc 133 = .ok (.aload_n 0, 1) := by decide +kernel
theorem d_Re_readSetting_134 : decode jRe_readSetting.cc 134 = .ok (.getfield 23, 3) := by decide +kernel
theorem d_Re_readSetting_137 : decode jRe_readSetting.cc 137 = .ok (.iload_n 3, 1) := by decide +kernel
theorem d_Re_readSetting_138 : decode jRe_readSetting.cc 138 = .ok (.invokevirtual 231, 3) := by decide +kernel
theorem d_Re_readSetting_141 : decode jRe_readSetting.cc 141 = .ok (.iconst 0, 1) := by decide +kernel
theorem d_Re_readSetting_142 : decode jRe_readSetting.cc 142 = .ok (.invokevirtual 87, 3) := by decide +kernel
theorem d_Re_readSetting_145 : decode jRe_readSetting.cc 145 = .ok (.pop, 1) := by decide +kernel
theorem d_Re_readSetting_146 : decode jRe_readSetting.cc 146 = .ok (.return_, 1) := by decide +kernel
set_option maxHeartbeats 4000000 in
theorem s_Re_readSetting {g : Mg} {d : Nat} {K : Ou → Wd → Prop} {w : Wd} {p1 : Int} (h : Cal g LC jCu_take d [vA 25, vI 2] w (fun o w1 => rI o (fun x2 => Cal g LC jLo_find d [vA 13, vI x2] w1 (fun o w3 => rI o (fun x4 => Cal g LC jLo_sortOf d [vA 13, vI x4] w3 (fun o w5 => rI o (fun x6 => (x6 = 1 → (Cal g LC jCu_take d [vA 25, vI 12] w5 (fun o w7 => rI o (fun x8 => Cal g LC jEx_exp d [vA 26, vI p1] w7 (fun o w9 => rI o (fun x10 => Cal g LC jLo_kindOf d [vA 13, vI x4] w9 (fun o w11 => rI o (fun x12 => Cal g LC jEx_demand d [vA 26, vI x10, vI x12] w11 (fun o w13 => rV o (Cal g LC jCu_take d [vA 25, vI 4] w13 (fun o w14 => rI o (fun x15 => (¬ x6 = 4 → (Cal g LC jLo_numberOf d [vA 13, vI x4] w14 (fun o w16 => rI o (fun x17 => Cal g LC jCo_add d [vA 19, vI 26, vI x17, vI 0] w16 (fun o w18 => rI o (fun x19 => K (.inl none) w18)))))) ∧ (x6 = 4 → (Cal g LC jLo_numberOf d [vA 13, vI x4] w14 (fun o w20 => rI o (fun x21 => Cal g LC jCo_add d [vA 19, vI 27, vI x21, vI 0] w20 (fun o w22 => rI o (fun x23 => K (.inl none) w22)))))))))))))))))) ∧ (¬ x6 = 1 → ((¬ x6 = 4 → (Cal g LC jCu_blame d [vA 25, vI 4, vI x2] w5 (fun o w24 => rV o (Cal g LC jCu_take d [vA 25, vI 12] w24 (fun o w25 => rI o (fun x26 => Cal g LC jEx_exp d [vA 26, vI p1] w25 (fun o w27 => rI o (fun x28 => Cal g LC jEx_demand d [vA 26, vI x28, vI 0] w27 (fun o w29 => rV o (Cal g LC jCu_take d [vA 25, vI 4] w29 (fun o w30 => rI o (fun x31 => (¬ x6 = 4 → (Cal g LC jLo_numberOf d [vA 13, vI x4] w30 (fun o w32 => rI o (fun x33 => Cal g LC jCo_add d [vA 19, vI 26, vI x33, vI 0] w32 (fun o w34 => rI o (fun x35 => K (.inl none) w34)))))) ∧ (x6 = 4 → (Cal g LC jLo_numberOf d [vA 13, vI x4] w30 (fun o w36 => rI o (fun x37 => Cal g LC jCo_add d [vA 19, vI 27, vI x37, vI 0] w36 (fun o w38 => rI o (fun x39 => K (.inl none) w38)))))))))))))))))) ∧ (x6 = 4 → (Cal g LC jCu_take d [vA 25, vI 12] w5 (fun o w40 => rI o (fun x41 => Cal g LC jEx_exp d [vA 26, vI p1] w40 (fun o w42 => rI o (fun x43 => Cal g LC jLo_kindOf d [vA 13, vI x4] w42 (fun o w44 => rI o (fun x45 => Cal g LC jEx_demand d [vA 26, vI x43, vI x45] w44 (fun o w46 => rV o (Cal g LC jCu_take d [vA 25, vI 4] w46 (fun o w47 => rI o (fun x48 => (¬ x6 = 4 → (Cal g LC jLo_numberOf d [vA 13, vI x4] w47 (fun o w49 => rI o (fun x50 => Cal g LC jCo_add d [vA 19, vI 26, vI x50, vI 0] w49 (fun o w51 => rI o (fun x52 => K (.inl none) w51)))))) ∧ (x6 = 4 → (Cal g LC jLo_numberOf d [vA 13, vI x4] w47 (fun o w53 => rI o (fun x54 => Cal g LC jCo_add d [vA 19, vI 27, vI x54, vI 0] w53 (fun o w55 => rI o (fun x56 => K (.inl none) w55))))))))))))))))))))))))))) : V g LC jRe_readSetting (d + 1) K 0 [(0, vA 24), (1, vI p1)] [] w := by
  refine v_aload_n (pc := 0) d_Re_readSetting_0 rfl (.head _) ?_
  refine v_getr (C := "") (pc := 1) (r := 25) d_Re_readSetting_1 fl_Re_34 cC_24.1 cC_24.2 (Or.inl ⟨_, rfl⟩) rC_24_4 ?_
  refine v_iconst (pc := 4) d_Re_readSetting_4 (by decide) ?_
  refine v_callV (pc := 5) (J' := jCu_take) (d' := d) (o := 25) (ci := 1) (N := 6) (T := cT1) (As := [vI 2]) d_Re_readSetting_5 ml_Re_71 cC_25.1 cC_25.2 (by decide) rfl rfl (Nat.le_of_ble_eq_true rfl) (Nat.le_refl _) rfl (Cal.weak h (fun o w1 h => ?_))
  rcases rI_of h with ⟨x2, rfl, h⟩
  refine v_istore_n (pc := 8) (ls' := [(2, vI x2), (0, vA 24), (1, vI p1)]) d_Re_readSetting_8 rfl (by decide) rfl ?_
  refine v_aload_n (pc := 9) d_Re_readSetting_9 rfl (.tail _ (.head _)) ?_
  refine v_getr (C := "") (pc := 10) (r := 13) d_Re_readSetting_10 fl_Re_23 cC_24.1 cC_24.2 (Or.inl ⟨_, rfl⟩) rC_24_2 ?_
  refine v_iload_n (pc := 13) d_Re_readSetting_13 rfl (.head _) ?_
  refine v_callV (pc := 14) (J' := jLo_find) (d' := d) (o := 13) (ci := 4) (N := 7) (T := cT4) (As := [vI x2]) d_Re_readSetting_14 ml_Re_156 cC_13.1 cC_13.2 (by decide) rfl rfl (Nat.le_of_ble_eq_true rfl) (Nat.le_refl _) rfl (Cal.weak h (fun o w3 h => ?_))
  rcases rI_of h with ⟨x4, rfl, h⟩
  refine v_istore_n (pc := 17) (ls' := [(3, vI x4), (2, vI x2), (0, vA 24), (1, vI p1)]) d_Re_readSetting_17 rfl (by decide) rfl ?_
  refine v_aload_n (pc := 18) d_Re_readSetting_18 rfl (.tail _ (.tail _ (.head _))) ?_
  refine v_getr (C := "") (pc := 19) (r := 13) d_Re_readSetting_19 fl_Re_23 cC_24.1 cC_24.2 (Or.inl ⟨_, rfl⟩) rC_24_2 ?_
  refine v_iload_n (pc := 22) d_Re_readSetting_22 rfl (.head _) ?_
  refine v_callV (pc := 23) (J' := jLo_sortOf) (d' := d) (o := 13) (ci := 4) (N := 7) (T := cT4) (As := [vI x4]) d_Re_readSetting_23 ml_Re_219 cC_13.1 cC_13.2 (by decide) rfl rfl (Nat.le_of_ble_eq_true rfl) (Nat.le_refl _) rfl (Cal.weak h (fun o w5 h => ?_))
  rcases rI_of h with ⟨x6, rfl, h⟩
  refine v_istore (pc := 26) (ls' := [(4, vI x6), (3, vI x4), (2, vI x2), (0, vA 24), (1, vI p1)]) d_Re_readSetting_26 (by decide) rfl ?_
  refine v_iload (pc := 28) d_Re_readSetting_28 (.head _) ?_
  refine v_iconst (pc := 30) d_Re_readSetting_30 (by decide) ?_
  refine v_icmpeq (pc := 31) (tgt := 40) d_Re_readSetting_31 (by decide) (fun c => ?_) (fun c => ?_)
  · replace h := h.1 c
    refine v_iconst (pc := 40) d_Re_readSetting_40 (by decide) ?_
    refine v_goto (pc := 41) (tgt := 45) d_Re_readSetting_41 (by decide) ?_
    refine v_istore (pc := 45) (ls' := [(5, vI 1), (4, vI x6), (3, vI x4), (2, vI x2), (0, vA 24), (1, vI p1)]) d_Re_readSetting_45 (by decide) rfl ?_
    refine v_iload (pc := 47) d_Re_readSetting_47 (.head _) ?_
    refine v_ifne (pc := 49) (tgt := 61) d_Re_readSetting_49 (by decide) (fun _ => ?_) (fun z => absurd z (by decide))
    refine v_aload_n (pc := 61) d_Re_readSetting_61 rfl (.tail _ (.tail _ (.tail _ (.tail _ (.head _))))) ?_
    refine v_getr (C := "") (pc := 62) (r := 25) d_Re_readSetting_62 fl_Re_34 cC_24.1 cC_24.2 (Or.inl ⟨_, rfl⟩) rC_24_4 ?_
    refine v_bipush (pc := 65) d_Re_readSetting_65 (by decide) rfl ?_
    refine v_callV (pc := 67) (J' := jCu_take) (d' := d) (o := 25) (ci := 1) (N := 6) (T := cT1) (As := [vI 12]) d_Re_readSetting_67 ml_Re_71 cC_25.1 cC_25.2 (by decide) rfl rfl (Nat.le_of_ble_eq_true rfl) (Nat.le_refl _) rfl (Cal.weak h (fun o w7 h => ?_))
    rcases rI_of h with ⟨x8, rfl, h⟩
    refine v_pop (pc := 70) d_Re_readSetting_70 rfl ?_
    refine v_aload_n (pc := 71) d_Re_readSetting_71 rfl (.tail _ (.tail _ (.tail _ (.tail _ (.head _))))) ?_
    refine v_getr (C := "") (pc := 72) (r := 26) d_Re_readSetting_72 fl_Re_43 cC_24.1 cC_24.2 (Or.inl ⟨_, rfl⟩) rC_24_5 ?_
    refine v_iload_n (pc := 75) d_Re_readSetting_75 rfl (.tail _ (.tail _ (.tail _ (.tail _ (.tail _ (.head _)))))) ?_
    refine v_callV (pc := 76) (J' := jEx_exp) (d' := d) (o := 26) (ci := 2) (N := 9) (T := cT2) (As := [vI p1]) d_Re_readSetting_76 ml_Re_222 cC_26.1 cC_26.2 (by decide) rfl rfl (Nat.le_of_ble_eq_true rfl) (Nat.le_refl _) rfl (Cal.weak h (fun o w9 h => ?_))
    rcases rI_of h with ⟨x10, rfl, h⟩
    refine v_istore (pc := 79) (ls' := [(6, vI x10), (5, vI 1), (4, vI x6), (3, vI x4), (2, vI x2), (0, vA 24), (1, vI p1)]) d_Re_readSetting_79 (by decide) rfl ?_
    refine v_aload_n (pc := 81) d_Re_readSetting_81 rfl (.tail _ (.tail _ (.tail _ (.tail _ (.tail _ (.head _)))))) ?_
    refine v_getr (C := "") (pc := 82) (r := 26) d_Re_readSetting_82 fl_Re_43 cC_24.1 cC_24.2 (Or.inl ⟨_, rfl⟩) rC_24_5 ?_
    refine v_iload (pc := 85) d_Re_readSetting_85 (.head _) ?_
    refine v_iload (pc := 87) d_Re_readSetting_87 (.tail _ (.head _)) ?_
    refine v_ifeq (pc := 89) (tgt := 103) d_Re_readSetting_89 (by decide) (fun z => absurd z (by decide)) (fun _ => ?_)
    refine v_aload_n (pc := 92) d_Re_readSetting_92 rfl (.tail _ (.tail _ (.tail _ (.tail _ (.tail _ (.head _)))))) ?_
    refine v_getr (C := "") (pc := 93) (r := 13) d_Re_readSetting_93 fl_Re_23 cC_24.1 cC_24.2 (Or.inl ⟨_, rfl⟩) rC_24_2 ?_
    refine v_iload_n (pc := 96) d_Re_readSetting_96 rfl (.tail _ (.tail _ (.tail _ (.head _)))) ?_
    refine v_callV (pc := 97) (J' := jLo_kindOf) (d' := d) (o := 13) (ci := 4) (N := 7) (T := cT4) (As := [vI x4]) d_Re_readSetting_97 ml_Re_225 cC_13.1 cC_13.2 (by decide) rfl rfl (Nat.le_of_ble_eq_true rfl) (Nat.le_refl _) rfl (Cal.weak h (fun o w11 h => ?_))
    rcases rI_of h with ⟨x12, rfl, h⟩
    refine v_goto (pc := 100) (tgt := 104) d_Re_readSetting_100 (by decide) ?_
    refine v_callV (pc := 104) (J' := jEx_demand) (d' := d) (o := 26) (ci := 2) (N := 9) (T := cT2) (As := [vI x10, vI x12]) d_Re_readSetting_104 ml_Re_228 cC_26.1 cC_26.2 (by decide) rfl rfl (Nat.le_of_ble_eq_true rfl) (Nat.le_refl _) rfl (Cal.weak h (fun o w13 h => ?_))
    rcases rV_of h with ⟨rfl, h⟩
    refine v_aload_n (pc := 107) d_Re_readSetting_107 rfl (.tail _ (.tail _ (.tail _ (.tail _ (.tail _ (.head _)))))) ?_
    refine v_getr (C := "") (pc := 108) (r := 25) d_Re_readSetting_108 fl_Re_34 cC_24.1 cC_24.2 (Or.inl ⟨_, rfl⟩) rC_24_4 ?_
    refine v_iconst (pc := 111) d_Re_readSetting_111 (by decide) ?_
    refine v_callV (pc := 112) (J' := jCu_take) (d' := d) (o := 25) (ci := 1) (N := 6) (T := cT1) (As := [vI 4]) d_Re_readSetting_112 ml_Re_71 cC_25.1 cC_25.2 (by decide) rfl rfl (Nat.le_of_ble_eq_true rfl) (Nat.le_refl _) rfl (Cal.weak h (fun o w14 h => ?_))
    rcases rI_of h with ⟨x15, rfl, h⟩
    refine v_pop (pc := 115) d_Re_readSetting_115 rfl ?_
    refine v_aload_n (pc := 116) d_Re_readSetting_116 rfl (.tail _ (.tail _ (.tail _ (.tail _ (.tail _ (.head _)))))) ?_
    refine v_getr (C := "") (pc := 117) (r := 19) d_Re_readSetting_117 fl_Re_28 cC_24.1 cC_24.2 (Or.inl ⟨_, rfl⟩) rC_24_3 ?_
    refine v_iload (pc := 120) d_Re_readSetting_120 (.tail _ (.tail _ (.head _))) ?_
    refine v_iconst (pc := 122) d_Re_readSetting_122 (by decide) ?_
    refine v_icmpne (pc := 123) (tgt := 131) d_Re_readSetting_123 (by decide) (fun c => ?_) (fun c => ?_)
    · replace h := h.1 c
      refine v_bipush (pc := 131) d_Re_readSetting_131 (by decide) rfl ?_
      refine v_aload_n (pc := 133) d_Re_readSetting_133 rfl (.tail _ (.tail _ (.tail _ (.tail _ (.tail _ (.head _)))))) ?_
      refine v_getr (C := "") (pc := 134) (r := 13) d_Re_readSetting_134 fl_Re_23 cC_24.1 cC_24.2 (Or.inl ⟨_, rfl⟩) rC_24_2 ?_
      refine v_iload_n (pc := 137) d_Re_readSetting_137 rfl (.tail _ (.tail _ (.tail _ (.head _)))) ?_
      refine v_callV (pc := 138) (J' := jLo_numberOf) (d' := d) (o := 13) (ci := 4) (N := 7) (T := cT4) (As := [vI x4]) d_Re_readSetting_138 ml_Re_231 cC_13.1 cC_13.2 (by decide) rfl rfl (Nat.le_of_ble_eq_true rfl) (Nat.le_refl _) rfl (Cal.weak h (fun o w16 h => ?_))
      rcases rI_of h with ⟨x17, rfl, h⟩
      refine v_iconst (pc := 141) d_Re_readSetting_141 (by decide) ?_
      refine v_callV (pc := 142) (J' := jCo_add) (d' := d) (o := 19) (ci := 0) (N := 6) (T := cT0) (As := [vI 26, vI x17, vI 0]) d_Re_readSetting_142 ml_Re_87 cC_19.1 cC_19.2 (by decide) rfl rfl (Nat.le_of_ble_eq_true rfl) (Nat.le_refl _) rfl (Cal.weak h (fun o w18 h => ?_))
      rcases rI_of h with ⟨x19, rfl, h⟩
      refine v_pop (pc := 145) d_Re_readSetting_145 rfl ?_
      exact v_vret (pc := 146) d_Re_readSetting_146 rfl h
    · replace h := h.2 c
      refine v_bipush (pc := 126) d_Re_readSetting_126 (by decide) rfl ?_
      refine v_goto (pc := 128) (tgt := 133) d_Re_readSetting_128 (by decide) ?_
      refine v_aload_n (pc := 133) d_Re_readSetting_133 rfl (.tail _ (.tail _ (.tail _ (.tail _ (.tail _ (.head _)))))) ?_
      refine v_getr (C := "") (pc := 134) (r := 13) d_Re_readSetting_134 fl_Re_23 cC_24.1 cC_24.2 (Or.inl ⟨_, rfl⟩) rC_24_2 ?_
      refine v_iload_n (pc := 137) d_Re_readSetting_137 rfl (.tail _ (.tail _ (.tail _ (.head _)))) ?_
      refine v_callV (pc := 138) (J' := jLo_numberOf) (d' := d) (o := 13) (ci := 4) (N := 7) (T := cT4) (As := [vI x4]) d_Re_readSetting_138 ml_Re_231 cC_13.1 cC_13.2 (by decide) rfl rfl (Nat.le_of_ble_eq_true rfl) (Nat.le_refl _) rfl (Cal.weak h (fun o w20 h => ?_))
      rcases rI_of h with ⟨x21, rfl, h⟩
      refine v_iconst (pc := 141) d_Re_readSetting_141 (by decide) ?_
      refine v_callV (pc := 142) (J' := jCo_add) (d' := d) (o := 19) (ci := 0) (N := 6) (T := cT0) (As := [vI 27, vI x21, vI 0]) d_Re_readSetting_142 ml_Re_87 cC_19.1 cC_19.2 (by decide) rfl rfl (Nat.le_of_ble_eq_true rfl) (Nat.le_refl _) rfl (Cal.weak h (fun o w22 h => ?_))
      rcases rI_of h with ⟨x23, rfl, h⟩
      refine v_pop (pc := 145) d_Re_readSetting_145 rfl ?_
      exact v_vret (pc := 146) d_Re_readSetting_146 rfl h
  · replace h := h.2 c
    refine v_iload (pc := 34) d_Re_readSetting_34 (.head _) ?_
    refine v_iconst (pc := 36) d_Re_readSetting_36 (by decide) ?_
    refine v_icmpne (pc := 37) (tgt := 44) d_Re_readSetting_37 (by decide) (fun c => ?_) (fun c => ?_)
    · replace h := h.1 c
      refine v_iconst (pc := 44) d_Re_readSetting_44 (by decide) ?_
      refine v_istore (pc := 45) (ls' := [(5, vI 0), (4, vI x6), (3, vI x4), (2, vI x2), (0, vA 24), (1, vI p1)]) d_Re_readSetting_45 (by decide) rfl ?_
      refine v_iload (pc := 47) d_Re_readSetting_47 (.head _) ?_
      refine v_ifne (pc := 49) (tgt := 61) d_Re_readSetting_49 (by decide) (fun z => absurd z (by decide)) (fun _ => ?_)
      refine v_aload_n (pc := 52) d_Re_readSetting_52 rfl (.tail _ (.tail _ (.tail _ (.tail _ (.head _))))) ?_
      refine v_getr (C := "") (pc := 53) (r := 25) d_Re_readSetting_53 fl_Re_34 cC_24.1 cC_24.2 (Or.inl ⟨_, rfl⟩) rC_24_4 ?_
      refine v_iconst (pc := 56) d_Re_readSetting_56 (by decide) ?_
      refine v_iload_n (pc := 57) d_Re_readSetting_57 rfl (.tail _ (.tail _ (.tail _ (.head _)))) ?_
      refine v_callV (pc := 58) (J' := jCu_blame) (d' := d) (o := 25) (ci := 1) (N := 6) (T := cT1) (As := [vI 4, vI x2]) d_Re_readSetting_58 ml_Re_159 cC_25.1 cC_25.2 (by decide) rfl rfl (Nat.le_of_ble_eq_true rfl) (Nat.le_refl _) rfl (Cal.weak h (fun o w24 h => ?_))
      rcases rV_of h with ⟨rfl, h⟩
      refine v_aload_n (pc := 61) d_Re_readSetting_61 rfl (.tail _ (.tail _ (.tail _ (.tail _ (.head _))))) ?_
      refine v_getr (C := "") (pc := 62) (r := 25) d_Re_readSetting_62 fl_Re_34 cC_24.1 cC_24.2 (Or.inl ⟨_, rfl⟩) rC_24_4 ?_
      refine v_bipush (pc := 65) d_Re_readSetting_65 (by decide) rfl ?_
      refine v_callV (pc := 67) (J' := jCu_take) (d' := d) (o := 25) (ci := 1) (N := 6) (T := cT1) (As := [vI 12]) d_Re_readSetting_67 ml_Re_71 cC_25.1 cC_25.2 (by decide) rfl rfl (Nat.le_of_ble_eq_true rfl) (Nat.le_refl _) rfl (Cal.weak h (fun o w25 h => ?_))
      rcases rI_of h with ⟨x26, rfl, h⟩
      refine v_pop (pc := 70) d_Re_readSetting_70 rfl ?_
      refine v_aload_n (pc := 71) d_Re_readSetting_71 rfl (.tail _ (.tail _ (.tail _ (.tail _ (.head _))))) ?_
      refine v_getr (C := "") (pc := 72) (r := 26) d_Re_readSetting_72 fl_Re_43 cC_24.1 cC_24.2 (Or.inl ⟨_, rfl⟩) rC_24_5 ?_
      refine v_iload_n (pc := 75) d_Re_readSetting_75 rfl (.tail _ (.tail _ (.tail _ (.tail _ (.tail _ (.head _)))))) ?_
      refine v_callV (pc := 76) (J' := jEx_exp) (d' := d) (o := 26) (ci := 2) (N := 9) (T := cT2) (As := [vI p1]) d_Re_readSetting_76 ml_Re_222 cC_26.1 cC_26.2 (by decide) rfl rfl (Nat.le_of_ble_eq_true rfl) (Nat.le_refl _) rfl (Cal.weak h (fun o w27 h => ?_))
      rcases rI_of h with ⟨x28, rfl, h⟩
      refine v_istore (pc := 79) (ls' := [(6, vI x28), (5, vI 0), (4, vI x6), (3, vI x4), (2, vI x2), (0, vA 24), (1, vI p1)]) d_Re_readSetting_79 (by decide) rfl ?_
      refine v_aload_n (pc := 81) d_Re_readSetting_81 rfl (.tail _ (.tail _ (.tail _ (.tail _ (.tail _ (.head _)))))) ?_
      refine v_getr (C := "") (pc := 82) (r := 26) d_Re_readSetting_82 fl_Re_43 cC_24.1 cC_24.2 (Or.inl ⟨_, rfl⟩) rC_24_5 ?_
      refine v_iload (pc := 85) d_Re_readSetting_85 (.head _) ?_
      refine v_iload (pc := 87) d_Re_readSetting_87 (.tail _ (.head _)) ?_
      refine v_ifeq (pc := 89) (tgt := 103) d_Re_readSetting_89 (by decide) (fun _ => ?_) (fun z => absurd z (by decide))
      refine v_iconst (pc := 103) d_Re_readSetting_103 (by decide) ?_
      refine v_callV (pc := 104) (J' := jEx_demand) (d' := d) (o := 26) (ci := 2) (N := 9) (T := cT2) (As := [vI x28, vI 0]) d_Re_readSetting_104 ml_Re_228 cC_26.1 cC_26.2 (by decide) rfl rfl (Nat.le_of_ble_eq_true rfl) (Nat.le_refl _) rfl (Cal.weak h (fun o w29 h => ?_))
      rcases rV_of h with ⟨rfl, h⟩
      refine v_aload_n (pc := 107) d_Re_readSetting_107 rfl (.tail _ (.tail _ (.tail _ (.tail _ (.tail _ (.head _)))))) ?_
      refine v_getr (C := "") (pc := 108) (r := 25) d_Re_readSetting_108 fl_Re_34 cC_24.1 cC_24.2 (Or.inl ⟨_, rfl⟩) rC_24_4 ?_
      refine v_iconst (pc := 111) d_Re_readSetting_111 (by decide) ?_
      refine v_callV (pc := 112) (J' := jCu_take) (d' := d) (o := 25) (ci := 1) (N := 6) (T := cT1) (As := [vI 4]) d_Re_readSetting_112 ml_Re_71 cC_25.1 cC_25.2 (by decide) rfl rfl (Nat.le_of_ble_eq_true rfl) (Nat.le_refl _) rfl (Cal.weak h (fun o w30 h => ?_))
      rcases rI_of h with ⟨x31, rfl, h⟩
      refine v_pop (pc := 115) d_Re_readSetting_115 rfl ?_
      refine v_aload_n (pc := 116) d_Re_readSetting_116 rfl (.tail _ (.tail _ (.tail _ (.tail _ (.tail _ (.head _)))))) ?_
      refine v_getr (C := "") (pc := 117) (r := 19) d_Re_readSetting_117 fl_Re_28 cC_24.1 cC_24.2 (Or.inl ⟨_, rfl⟩) rC_24_3 ?_
      refine v_iload (pc := 120) d_Re_readSetting_120 (.tail _ (.tail _ (.head _))) ?_
      refine v_iconst (pc := 122) d_Re_readSetting_122 (by decide) ?_
      refine v_icmpne (pc := 123) (tgt := 131) d_Re_readSetting_123 (by decide) (fun c => ?_) (fun c => ?_)
      · replace h := h.1 c
        refine v_bipush (pc := 131) d_Re_readSetting_131 (by decide) rfl ?_
        refine v_aload_n (pc := 133) d_Re_readSetting_133 rfl (.tail _ (.tail _ (.tail _ (.tail _ (.tail _ (.head _)))))) ?_
        refine v_getr (C := "") (pc := 134) (r := 13) d_Re_readSetting_134 fl_Re_23 cC_24.1 cC_24.2 (Or.inl ⟨_, rfl⟩) rC_24_2 ?_
        refine v_iload_n (pc := 137) d_Re_readSetting_137 rfl (.tail _ (.tail _ (.tail _ (.head _)))) ?_
        refine v_callV (pc := 138) (J' := jLo_numberOf) (d' := d) (o := 13) (ci := 4) (N := 7) (T := cT4) (As := [vI x4]) d_Re_readSetting_138 ml_Re_231 cC_13.1 cC_13.2 (by decide) rfl rfl (Nat.le_of_ble_eq_true rfl) (Nat.le_refl _) rfl (Cal.weak h (fun o w32 h => ?_))
        rcases rI_of h with ⟨x33, rfl, h⟩
        refine v_iconst (pc := 141) d_Re_readSetting_141 (by decide) ?_
        refine v_callV (pc := 142) (J' := jCo_add) (d' := d) (o := 19) (ci := 0) (N := 6) (T := cT0) (As := [vI 26, vI x33, vI 0]) d_Re_readSetting_142 ml_Re_87 cC_19.1 cC_19.2 (by decide) rfl rfl (Nat.le_of_ble_eq_true rfl) (Nat.le_refl _) rfl (Cal.weak h (fun o w34 h => ?_))
        rcases rI_of h with ⟨x35, rfl, h⟩
        refine v_pop (pc := 145) d_Re_readSetting_145 rfl ?_
        exact v_vret (pc := 146) d_Re_readSetting_146 rfl h
      · replace h := h.2 c
        refine v_bipush (pc := 126) d_Re_readSetting_126 (by decide) rfl ?_
        refine v_goto (pc := 128) (tgt := 133) d_Re_readSetting_128 (by decide) ?_
        refine v_aload_n (pc := 133) d_Re_readSetting_133 rfl (.tail _ (.tail _ (.tail _ (.tail _ (.tail _ (.head _)))))) ?_
        refine v_getr (C := "") (pc := 134) (r := 13) d_Re_readSetting_134 fl_Re_23 cC_24.1 cC_24.2 (Or.inl ⟨_, rfl⟩) rC_24_2 ?_
        refine v_iload_n (pc := 137) d_Re_readSetting_137 rfl (.tail _ (.tail _ (.tail _ (.head _)))) ?_
        refine v_callV (pc := 138) (J' := jLo_numberOf) (d' := d) (o := 13) (ci := 4) (N := 7) (T := cT4) (As := [vI x4]) d_Re_readSetting_138 ml_Re_231 cC_13.1 cC_13.2 (by decide) rfl rfl (Nat.le_of_ble_eq_true rfl) (Nat.le_refl _) rfl (Cal.weak h (fun o w36 h => ?_))
        rcases rI_of h with ⟨x37, rfl, h⟩
        refine v_iconst (pc := 141) d_Re_readSetting_141 (by decide) ?_
        refine v_callV (pc := 142) (J' := jCo_add) (d' := d) (o := 19) (ci := 0) (N := 6) (T := cT0) (As := [vI 27, vI x37, vI 0]) d_Re_readSetting_142 ml_Re_87 cC_19.1 cC_19.2 (by decide) rfl rfl (Nat.le_of_ble_eq_true rfl) (Nat.le_refl _) rfl (Cal.weak h (fun o w38 h => ?_))
        rcases rI_of h with ⟨x39, rfl, h⟩
        refine v_pop (pc := 145) d_Re_readSetting_145 rfl ?_
        exact v_vret (pc := 146) d_Re_readSetting_146 rfl h
    · replace h := h.2 c
      refine v_iconst (pc := 40) d_Re_readSetting_40 (by decide) ?_
      refine v_goto (pc := 41) (tgt := 45) d_Re_readSetting_41 (by decide) ?_
      refine v_istore (pc := 45) (ls' := [(5, vI 1), (4, vI x6), (3, vI x4), (2, vI x2), (0, vA 24), (1, vI p1)]) d_Re_readSetting_45 (by decide) rfl ?_
      refine v_iload (pc := 47) d_Re_readSetting_47 (.head _) ?_
      refine v_ifne (pc := 49) (tgt := 61) d_Re_readSetting_49 (by decide) (fun _ => ?_) (fun z => absurd z (by decide))
      refine v_aload_n (pc := 61) d_Re_readSetting_61 rfl (.tail _ (.tail _ (.tail _ (.tail _ (.head _))))) ?_
      refine v_getr (C := "") (pc := 62) (r := 25) d_Re_readSetting_62 fl_Re_34 cC_24.1 cC_24.2 (Or.inl ⟨_, rfl⟩) rC_24_4 ?_
      refine v_bipush (pc := 65) d_Re_readSetting_65 (by decide) rfl ?_
      refine v_callV (pc := 67) (J' := jCu_take) (d' := d) (o := 25) (ci := 1) (N := 6) (T := cT1) (As := [vI 12]) d_Re_readSetting_67 ml_Re_71 cC_25.1 cC_25.2 (by decide) rfl rfl (Nat.le_of_ble_eq_true rfl) (Nat.le_refl _) rfl (Cal.weak h (fun o w40 h => ?_))
      rcases rI_of h with ⟨x41, rfl, h⟩
      refine v_pop (pc := 70) d_Re_readSetting_70 rfl ?_
      refine v_aload_n (pc := 71) d_Re_readSetting_71 rfl (.tail _ (.tail _ (.tail _ (.tail _ (.head _))))) ?_
      refine v_getr (C := "") (pc := 72) (r := 26) d_Re_readSetting_72 fl_Re_43 cC_24.1 cC_24.2 (Or.inl ⟨_, rfl⟩) rC_24_5 ?_
      refine v_iload_n (pc := 75) d_Re_readSetting_75 rfl (.tail _ (.tail _ (.tail _ (.tail _ (.tail _ (.head _)))))) ?_
      refine v_callV (pc := 76) (J' := jEx_exp) (d' := d) (o := 26) (ci := 2) (N := 9) (T := cT2) (As := [vI p1]) d_Re_readSetting_76 ml_Re_222 cC_26.1 cC_26.2 (by decide) rfl rfl (Nat.le_of_ble_eq_true rfl) (Nat.le_refl _) rfl (Cal.weak h (fun o w42 h => ?_))
      rcases rI_of h with ⟨x43, rfl, h⟩
      refine v_istore (pc := 79) (ls' := [(6, vI x43), (5, vI 1), (4, vI x6), (3, vI x4), (2, vI x2), (0, vA 24), (1, vI p1)]) d_Re_readSetting_79 (by decide) rfl ?_
      refine v_aload_n (pc := 81) d_Re_readSetting_81 rfl (.tail _ (.tail _ (.tail _ (.tail _ (.tail _ (.head _)))))) ?_
      refine v_getr (C := "") (pc := 82) (r := 26) d_Re_readSetting_82 fl_Re_43 cC_24.1 cC_24.2 (Or.inl ⟨_, rfl⟩) rC_24_5 ?_
      refine v_iload (pc := 85) d_Re_readSetting_85 (.head _) ?_
      refine v_iload (pc := 87) d_Re_readSetting_87 (.tail _ (.head _)) ?_
      refine v_ifeq (pc := 89) (tgt := 103) d_Re_readSetting_89 (by decide) (fun z => absurd z (by decide)) (fun _ => ?_)
      refine v_aload_n (pc := 92) d_Re_readSetting_92 rfl (.tail _ (.tail _ (.tail _ (.tail _ (.tail _ (.head _)))))) ?_
      refine v_getr (C := "") (pc := 93) (r := 13) d_Re_readSetting_93 fl_Re_23 cC_24.1 cC_24.2 (Or.inl ⟨_, rfl⟩) rC_24_2 ?_
      refine v_iload_n (pc := 96) d_Re_readSetting_96 rfl (.tail _ (.tail _ (.tail _ (.head _)))) ?_
      refine v_callV (pc := 97) (J' := jLo_kindOf) (d' := d) (o := 13) (ci := 4) (N := 7) (T := cT4) (As := [vI x4]) d_Re_readSetting_97 ml_Re_225 cC_13.1 cC_13.2 (by decide) rfl rfl (Nat.le_of_ble_eq_true rfl) (Nat.le_refl _) rfl (Cal.weak h (fun o w44 h => ?_))
      rcases rI_of h with ⟨x45, rfl, h⟩
      refine v_goto (pc := 100) (tgt := 104) d_Re_readSetting_100 (by decide) ?_
      refine v_callV (pc := 104) (J' := jEx_demand) (d' := d) (o := 26) (ci := 2) (N := 9) (T := cT2) (As := [vI x43, vI x45]) d_Re_readSetting_104 ml_Re_228 cC_26.1 cC_26.2 (by decide) rfl rfl (Nat.le_of_ble_eq_true rfl) (Nat.le_refl _) rfl (Cal.weak h (fun o w46 h => ?_))
      rcases rV_of h with ⟨rfl, h⟩
      refine v_aload_n (pc := 107) d_Re_readSetting_107 rfl (.tail _ (.tail _ (.tail _ (.tail _ (.tail _ (.head _)))))) ?_
      refine v_getr (C := "") (pc := 108) (r := 25) d_Re_readSetting_108 fl_Re_34 cC_24.1 cC_24.2 (Or.inl ⟨_, rfl⟩) rC_24_4 ?_
      refine v_iconst (pc := 111) d_Re_readSetting_111 (by decide) ?_
      refine v_callV (pc := 112) (J' := jCu_take) (d' := d) (o := 25) (ci := 1) (N := 6) (T := cT1) (As := [vI 4]) d_Re_readSetting_112 ml_Re_71 cC_25.1 cC_25.2 (by decide) rfl rfl (Nat.le_of_ble_eq_true rfl) (Nat.le_refl _) rfl (Cal.weak h (fun o w47 h => ?_))
      rcases rI_of h with ⟨x48, rfl, h⟩
      refine v_pop (pc := 115) d_Re_readSetting_115 rfl ?_
      refine v_aload_n (pc := 116) d_Re_readSetting_116 rfl (.tail _ (.tail _ (.tail _ (.tail _ (.tail _ (.head _)))))) ?_
      refine v_getr (C := "") (pc := 117) (r := 19) d_Re_readSetting_117 fl_Re_28 cC_24.1 cC_24.2 (Or.inl ⟨_, rfl⟩) rC_24_3 ?_
      refine v_iload (pc := 120) d_Re_readSetting_120 (.tail _ (.tail _ (.head _))) ?_
      refine v_iconst (pc := 122) d_Re_readSetting_122 (by decide) ?_
      refine v_icmpne (pc := 123) (tgt := 131) d_Re_readSetting_123 (by decide) (fun c => ?_) (fun c => ?_)
      · replace h := h.1 c
        refine v_bipush (pc := 131) d_Re_readSetting_131 (by decide) rfl ?_
        refine v_aload_n (pc := 133) d_Re_readSetting_133 rfl (.tail _ (.tail _ (.tail _ (.tail _ (.tail _ (.head _)))))) ?_
        refine v_getr (C := "") (pc := 134) (r := 13) d_Re_readSetting_134 fl_Re_23 cC_24.1 cC_24.2 (Or.inl ⟨_, rfl⟩) rC_24_2 ?_
        refine v_iload_n (pc := 137) d_Re_readSetting_137 rfl (.tail _ (.tail _ (.tail _ (.head _)))) ?_
        refine v_callV (pc := 138) (J' := jLo_numberOf) (d' := d) (o := 13) (ci := 4) (N := 7) (T := cT4) (As := [vI x4]) d_Re_readSetting_138 ml_Re_231 cC_13.1 cC_13.2 (by decide) rfl rfl (Nat.le_of_ble_eq_true rfl) (Nat.le_refl _) rfl (Cal.weak h (fun o w49 h => ?_))
        rcases rI_of h with ⟨x50, rfl, h⟩
        refine v_iconst (pc := 141) d_Re_readSetting_141 (by decide) ?_
        refine v_callV (pc := 142) (J' := jCo_add) (d' := d) (o := 19) (ci := 0) (N := 6) (T := cT0) (As := [vI 26, vI x50, vI 0]) d_Re_readSetting_142 ml_Re_87 cC_19.1 cC_19.2 (by decide) rfl rfl (Nat.le_of_ble_eq_true rfl) (Nat.le_refl _) rfl (Cal.weak h (fun o w51 h => ?_))
        rcases rI_of h with ⟨x52, rfl, h⟩
        refine v_pop (pc := 145) d_Re_readSetting_145 rfl ?_
        exact v_vret (pc := 146) d_Re_readSetting_146 rfl h
      · replace h := h.2 c
        refine v_bipush (pc := 126) d_Re_readSetting_126 (by decide) rfl ?_
        refine v_goto (pc := 128) (tgt := 133) d_Re_readSetting_128 (by decide) ?_
        refine v_aload_n (pc := 133) d_Re_readSetting_133 rfl (.tail _ (.tail _ (.tail _ (.tail _ (.tail _ (.head _)))))) ?_
        refine v_getr (C := "") (pc := 134) (r := 13) d_Re_readSetting_134 fl_Re_23 cC_24.1 cC_24.2 (Or.inl ⟨_, rfl⟩) rC_24_2 ?_
        refine v_iload_n (pc := 137) d_Re_readSetting_137 rfl (.tail _ (.tail _ (.tail _ (.head _)))) ?_
        refine v_callV (pc := 138) (J' := jLo_numberOf) (d' := d) (o := 13) (ci := 4) (N := 7) (T := cT4) (As := [vI x4]) d_Re_readSetting_138 ml_Re_231 cC_13.1 cC_13.2 (by decide) rfl rfl (Nat.le_of_ble_eq_true rfl) (Nat.le_refl _) rfl (Cal.weak h (fun o w53 h => ?_))
        rcases rI_of h with ⟨x54, rfl, h⟩
        refine v_iconst (pc := 141) d_Re_readSetting_141 (by decide) ?_
        refine v_callV (pc := 142) (J' := jCo_add) (d' := d) (o := 19) (ci := 0) (N := 6) (T := cT0) (As := [vI 27, vI x54, vI 0]) d_Re_readSetting_142 ml_Re_87 cC_19.1 cC_19.2 (by decide) rfl rfl (Nat.le_of_ble_eq_true rfl) (Nat.le_refl _) rfl (Cal.weak h (fun o w55 h => ?_))
        rcases rI_of h with ⟨x56, rfl, h⟩
        refine v_pop (pc := 145) d_Re_readSetting_145 rfl ?_
        exact v_vret (pc := 146) d_Re_readSetting_146 rfl h
theorem d_Re_readLet_0 : decode jRe_readLet.cc 0 = .ok (.aload_n 0, 1) := by decide +kernel
theorem d_Re_readLet_1 : decode jRe_readLet.cc 1 = .ok (.getfield 34, 3) := by decide +kernel
theorem d_Re_readLet_4 : decode jRe_readLet.cc 4 = .ok (.bipush 43, 2) := by decide +kernel
theorem d_Re_readLet_6 : decode jRe_readLet.cc 6 = .ok (.invokevirtual 71, 3) := by decide +kernel
theorem d_Re_readLet_9 : decode jRe_readLet.cc 9 = .ok (.pop, 1) := by decide +kernel
theorem d_Re_readLet_10 : decode jRe_readLet.cc 10 = .ok (.aload_n 0, 1) := by decide +kernel
theorem d_Re_readLet_11 : decode jRe_readLet.cc 11 = .ok (.iconst 4, 1) := by decide +kernel
theorem d_Re_readLet_12 : decode jRe_readLet.cc 12 = .ok (.invokevirtual 136, 3) := by decide +kernel
theorem d_Re_readLet_15 : decode jRe_readLet.cc 15 = .ok (.istore_n 2, 1) := by decide +kernel
theorem d_Re_readLet_16 : decode jRe_readLet.cc 16 = .ok (.aload_n 0, 1) := by decide +kernel
theorem d_Re_readLet_17 : decode jRe_readLet.cc 17 = .ok (.getfield 34, 3) := by decide +kernel
theorem d_Re_readLet_20 : decode jRe_readLet.cc 20 = .ok (.bipush 12, 2) := by decide +kernel
theorem d_Re_readLet_22 : decode jRe_readLet.cc 22 = .ok (.invokevirtual 71, 3) := by decide +kernel
theorem d_Re_readLet_25 : decode jRe_readLet.cc 25 = .ok (.pop, 1) := by decide +kernel
theorem d_Re_readLet_26 : decode jRe_readLet.cc 26 = .ok (.aload_n 0, 1) := by decide +kernel
theorem d_Re_readLet_27 : decode jRe_readLet.cc 27 = .ok (.getfield 43, 3) := by decide +kernel
theorem d_Re_readLet_30 : decode jRe_readLet.cc 30 = .ok (.iload_n 1, 1) := by decide +kernel
theorem d_Re_readLet_31 : decode jRe_readLet.cc 31 = .ok (.invokevirtual 222, 3) := by decide +kernel
theorem d_Re_readLet_34 : decode jRe_readLet.cc 34 = .ok (.istore_n 3, 1) := by decide +kernel
theorem d_Re_readLet_35 : decode jRe_readLet.cc 35 = .ok (.aload_n 0, 1) := by decide +kernel
theorem d_Re_readLet_36 : decode jRe_readLet.cc 36 = .ok (.getfield 34, 3) := by decide +kernel
theorem d_Re_readLet_39 : decode jRe_readLet.cc 39 = .ok (.iconst 4, 1) := by decide +kernel
theorem d_Re_readLet_40 : decode jRe_readLet.cc 40 = .ok (.invokevirtual 71, 3) := by decide +kernel
theorem d_Re_readLet_43 : decode jRe_readLet.cc 43 = .ok (.pop, 1) := by decide +kernel
theorem d_Re_readLet_44 : decode jRe_readLet.cc 44 = .ok (.aload_n 0, 1) := by decide +kernel
theorem d_Re_readLet_45 : decode jRe_readLet.cc 45 = .ok (.getfield 28, 3) := by decide +kernel
theorem d_Re_readLet_48 : decode jRe_readLet.cc 48 = .ok (.bipush 27, 2) := by decide +kernel
theorem d_Re_readLet_50 : decode jRe_readLet.cc 50 = .ok (.aload_n 0, 1) := by decide +kernel
theorem d_Re_readLet_51 : decode jRe_readLet.cc 51 = .ok (.getfield 23, 3) := by decide +kernel
theorem d_Re_readLet_54 : decode jRe_readLet.cc 54 = .ok (.iload_n 2, 1) := by decide +kernel
theorem d_Re_readLet_55 : decode jRe_readLet.cc 55 = .ok (.iconst 4, 1) := by decide +kernel
theorem d_Re_readLet_56 : decode jRe_readLet.cc 56 = .ok (.aload_n 0, 1) := by decide +kernel
theorem d_Re_readLet_57 : decode jRe_readLet.cc 57 = .ok (.getfield 43, 3) := by decide +kernel
theorem d_Re_readLet_60 : decode jRe_readLet.cc 60 = .ok (.iload_n 3, 1) := by decide +kernel
theorem d_Re_readLet_61 : decode jRe_readLet.cc 61 = .ok (.invokevirtual 234, 3) := by decide +kernel
theorem d_Re_readLet_64 : decode jRe_readLet.cc 64 = .ok (.invokevirtual 139, 3) := by decide +kernel
theorem d_Re_readLet_67 : decode jRe_readLet.cc 67 = .ok (.iconst 0, 1) := by decide +kernel
theorem d_Re_readLet_68 : decode jRe_readLet.cc 68 = .ok (.invokevirtual 87, 3) := by decide +kernel
theorem d_Re_readLet_71 : decode jRe_readLet.cc 71 = .ok (.pop, 1) := by decide +kernel
theorem d_Re_readLet_72 : decode jRe_readLet.cc 72 = .ok (.return_, 1) := by decide +kernel
set_option maxHeartbeats 4000000 in
theorem s_Re_readLet {g : Mg} {d : Nat} {K : Ou → Wd → Prop} {w : Wd} {p1 : Int} (h : Cal g LC jCu_take d [vA 25, vI 43] w (fun o w1 => rI o (fun x2 => Cal g LC jRe_newName d [vA 24, vI 4] w1 (fun o w3 => rI o (fun x4 => Cal g LC jCu_take d [vA 25, vI 12] w3 (fun o w5 => rI o (fun x6 => Cal g LC jEx_exp d [vA 26, vI p1] w5 (fun o w7 => rI o (fun x8 => Cal g LC jCu_take d [vA 25, vI 4] w7 (fun o w9 => rI o (fun x10 => Cal g LC jEx_kindOf d [vA 26, vI x8] w9 (fun o w11 => rI o (fun x12 => Cal g LC jLo_add d [vA 13, vI x4, vI 4, vI x12] w11 (fun o w13 => rI o (fun x14 => Cal g LC jCo_add d [vA 19, vI 27, vI x14, vI 0] w13 (fun o w15 => rI o (fun x16 => K (.inl none) w15))))))))))))))))) : V g LC jRe_readLet (d + 1) K 0 [(0, vA 24), (1, vI p1)] [] w := by
  refine v_aload_n (pc := 0) d_Re_readLet_0 rfl (.head _) ?_
  refine v_getr (C := "") (pc := 1) (r := 25) d_Re_readLet_1 fl_Re_34 cC_24.1 cC_24.2 (Or.inl ⟨_, rfl⟩) rC_24_4 ?_
  refine v_bipush (pc := 4) d_Re_readLet_4 (by decide) rfl ?_
  refine v_callV (pc := 6) (J' := jCu_take) (d' := d) (o := 25) (ci := 1) (N := 6) (T := cT1) (As := [vI 43]) d_Re_readLet_6 ml_Re_71 cC_25.1 cC_25.2 (by decide) rfl rfl (Nat.le_of_ble_eq_true rfl) (Nat.le_refl _) rfl (Cal.weak h (fun o w1 h => ?_))
  rcases rI_of h with ⟨x2, rfl, h⟩
  refine v_pop (pc := 9) d_Re_readLet_9 rfl ?_
  refine v_aload_n (pc := 10) d_Re_readLet_10 rfl (.head _) ?_
  refine v_iconst (pc := 11) d_Re_readLet_11 (by decide) ?_
  refine v_callV (pc := 12) (J' := jRe_newName) (d' := d) (o := 24) (ci := 8) (N := 7) (T := cT8) (As := [vI 4]) d_Re_readLet_12 ml_Re_136 cC_24.1 cC_24.2 (by decide) rfl rfl (Nat.le_of_ble_eq_true rfl) (Nat.le_refl _) rfl (Cal.weak h (fun o w3 h => ?_))
  rcases rI_of h with ⟨x4, rfl, h⟩
  refine v_istore_n (pc := 15) (ls' := [(2, vI x4), (0, vA 24), (1, vI p1)]) d_Re_readLet_15 rfl (by decide) rfl ?_
  refine v_aload_n (pc := 16) d_Re_readLet_16 rfl (.tail _ (.head _)) ?_
  refine v_getr (C := "") (pc := 17) (r := 25) d_Re_readLet_17 fl_Re_34 cC_24.1 cC_24.2 (Or.inl ⟨_, rfl⟩) rC_24_4 ?_
  refine v_bipush (pc := 20) d_Re_readLet_20 (by decide) rfl ?_
  refine v_callV (pc := 22) (J' := jCu_take) (d' := d) (o := 25) (ci := 1) (N := 6) (T := cT1) (As := [vI 12]) d_Re_readLet_22 ml_Re_71 cC_25.1 cC_25.2 (by decide) rfl rfl (Nat.le_of_ble_eq_true rfl) (Nat.le_refl _) rfl (Cal.weak h (fun o w5 h => ?_))
  rcases rI_of h with ⟨x6, rfl, h⟩
  refine v_pop (pc := 25) d_Re_readLet_25 rfl ?_
  refine v_aload_n (pc := 26) d_Re_readLet_26 rfl (.tail _ (.head _)) ?_
  refine v_getr (C := "") (pc := 27) (r := 26) d_Re_readLet_27 fl_Re_43 cC_24.1 cC_24.2 (Or.inl ⟨_, rfl⟩) rC_24_5 ?_
  refine v_iload_n (pc := 30) d_Re_readLet_30 rfl (.tail _ (.tail _ (.head _))) ?_
  refine v_callV (pc := 31) (J' := jEx_exp) (d' := d) (o := 26) (ci := 2) (N := 9) (T := cT2) (As := [vI p1]) d_Re_readLet_31 ml_Re_222 cC_26.1 cC_26.2 (by decide) rfl rfl (Nat.le_of_ble_eq_true rfl) (Nat.le_refl _) rfl (Cal.weak h (fun o w7 h => ?_))
  rcases rI_of h with ⟨x8, rfl, h⟩
  refine v_istore_n (pc := 34) (ls' := [(3, vI x8), (2, vI x4), (0, vA 24), (1, vI p1)]) d_Re_readLet_34 rfl (by decide) rfl ?_
  refine v_aload_n (pc := 35) d_Re_readLet_35 rfl (.tail _ (.tail _ (.head _))) ?_
  refine v_getr (C := "") (pc := 36) (r := 25) d_Re_readLet_36 fl_Re_34 cC_24.1 cC_24.2 (Or.inl ⟨_, rfl⟩) rC_24_4 ?_
  refine v_iconst (pc := 39) d_Re_readLet_39 (by decide) ?_
  refine v_callV (pc := 40) (J' := jCu_take) (d' := d) (o := 25) (ci := 1) (N := 6) (T := cT1) (As := [vI 4]) d_Re_readLet_40 ml_Re_71 cC_25.1 cC_25.2 (by decide) rfl rfl (Nat.le_of_ble_eq_true rfl) (Nat.le_refl _) rfl (Cal.weak h (fun o w9 h => ?_))
  rcases rI_of h with ⟨x10, rfl, h⟩
  refine v_pop (pc := 43) d_Re_readLet_43 rfl ?_
  refine v_aload_n (pc := 44) d_Re_readLet_44 rfl (.tail _ (.tail _ (.head _))) ?_
  refine v_getr (C := "") (pc := 45) (r := 19) d_Re_readLet_45 fl_Re_28 cC_24.1 cC_24.2 (Or.inl ⟨_, rfl⟩) rC_24_3 ?_
  refine v_bipush (pc := 48) d_Re_readLet_48 (by decide) rfl ?_
  refine v_aload_n (pc := 50) d_Re_readLet_50 rfl (.tail _ (.tail _ (.head _))) ?_
  refine v_getr (C := "") (pc := 51) (r := 13) d_Re_readLet_51 fl_Re_23 cC_24.1 cC_24.2 (Or.inl ⟨_, rfl⟩) rC_24_2 ?_
  refine v_iload_n (pc := 54) d_Re_readLet_54 rfl (.tail _ (.head _)) ?_
  refine v_iconst (pc := 55) d_Re_readLet_55 (by decide) ?_
  refine v_aload_n (pc := 56) d_Re_readLet_56 rfl (.tail _ (.tail _ (.head _))) ?_
  refine v_getr (C := "") (pc := 57) (r := 26) d_Re_readLet_57 fl_Re_43 cC_24.1 cC_24.2 (Or.inl ⟨_, rfl⟩) rC_24_5 ?_
  refine v_iload_n (pc := 60) d_Re_readLet_60 rfl (.head _) ?_
  refine v_callV (pc := 61) (J' := jEx_kindOf) (d' := d) (o := 26) (ci := 2) (N := 9) (T := cT2) (As := [vI x8]) d_Re_readLet_61 ml_Re_234 cC_26.1 cC_26.2 (by decide) rfl rfl (Nat.le_of_ble_eq_true rfl) (Nat.le_refl _) rfl (Cal.weak h (fun o w11 h => ?_))
  rcases rI_of h with ⟨x12, rfl, h⟩
  refine v_callV (pc := 64) (J' := jLo_add) (d' := d) (o := 13) (ci := 4) (N := 7) (T := cT4) (As := [vI x4, vI 4, vI x12]) d_Re_readLet_64 ml_Re_139 cC_13.1 cC_13.2 (by decide) rfl rfl (Nat.le_of_ble_eq_true rfl) (Nat.le_refl _) rfl (Cal.weak h (fun o w13 h => ?_))
  rcases rI_of h with ⟨x14, rfl, h⟩
  refine v_iconst (pc := 67) d_Re_readLet_67 (by decide) ?_
  refine v_callV (pc := 68) (J' := jCo_add) (d' := d) (o := 19) (ci := 0) (N := 6) (T := cT0) (As := [vI 27, vI x14, vI 0]) d_Re_readLet_68 ml_Re_87 cC_19.1 cC_19.2 (by decide) rfl rfl (Nat.le_of_ble_eq_true rfl) (Nat.le_refl _) rfl (Cal.weak h (fun o w15 h => ?_))
  rcases rI_of h with ⟨x16, rfl, h⟩
  refine v_pop (pc := 71) d_Re_readLet_71 rfl ?_
  exact v_vret (pc := 72) d_Re_readLet_72 rfl h
theorem d_Re_namedEntry_0 : decode jRe_namedEntry.cc 0 = .ok (.aload_n 0, 1) := by decide +kernel
theorem d_Re_namedEntry_1 : decode jRe_namedEntry.cc 1 = .ok (.getfield 34, 3) := by decide +kernel
theorem d_Re_namedEntry_4 : decode jRe_namedEntry.cc 4 = .ok (.iconst 2, 1) := by decide +kernel
theorem d_Re_namedEntry_5 : decode jRe_namedEntry.cc 5 = .ok (.invokevirtual 71, 3) := by decide +kernel
theorem d_Re_namedEntry_8 : decode jRe_namedEntry.cc 8 = .ok (.istore_n 2, 1) := by decide +kernel
theorem d_Re_namedEntry_9 : decode jRe_namedEntry.cc 9 = .ok (.aload_n 0, 1) := by decide +kernel
theorem d_Re_namedEntry_10 : decode jRe_namedEntry.cc 10 = .ok (.getfield 23, 3) := by decide +kernel
theorem d_Re_namedEntry_13 : decode jRe_namedEntry.cc 13 = .ok (.iload_n 2, 1) := by decide +kernel
theorem d_Re_namedEntry_14 : decode jRe_namedEntry.cc 14 = .ok (.invokevirtual 156, 3) := by decide +kernel
theorem d_Re_namedEntry_17 : decode jRe_namedEntry.cc 17 = .ok (.istore_n 3, 1) := by decide +kernel
theorem d_Re_namedEntry_18 : decode jRe_namedEntry.cc 18 = .ok (.aload_n 0, 1) := by decide +kernel
theorem d_Re_namedEntry_19 : decode jRe_namedEntry.cc 19 = .ok (.getfield 23, 3) := by decide +kernel
theorem d_Re_namedEntry_22 : decode jRe_namedEntry.cc 22 = .ok (.iload_n 3, 1) := by decide +kernel
theorem d_Re_namedEntry_23 : decode jRe_namedEntry.cc 23 = .ok (.invokevirtual 219, 3) := by decide +kernel
theorem d_Re_namedEntry_26 : decode jRe_namedEntry.cc 26 = .ok (.iload_n 1, 1) := by decide +kernel
theorem d_Re_namedEntry_27 : decode jRe_namedEntry.cc 27 = .ok (.if_icmp .eq 14, 3) := by decide +kernel
theorem d_Re_namedEntry_30 : decode jRe_namedEntry.cc 30 = .ok (.aload_n 0, 1) := by decide +kernel
theorem d_Re_namedEntry_31 : decode jRe_namedEntry.cc 31 = .ok (.getfield 34, 3) := by decide +kernel
theorem d_Re_namedEntry_34 : decode jRe_namedEntry.cc 34 = .ok (.iconst 4, 1) := by decide +kernel
theorem d_Re_namedEntry_35 : decode jRe_namedEntry.cc 35 = .ok (.iload_n 2, 1) := by decide +kernel
theorem d_Re_namedEntry_36 : decode jRe_namedEntry.cc 36 = .ok (.invokevirtual 159, 3) := by decide +kernel
theorem d_Re_namedEntry_39 : decode jRe_namedEntry.cc 39 = .ok (.iconst (-1), 1) := by decide +kernel
theorem d_Re_namedEntry_40 : decode jRe_namedEntry.cc 40 = .ok (.ireturn, 1) := by decide +kernel
theorem d_Re_namedEntry_41 : decode jRe_namedEntry.cc 41 = .ok (.iload_n 3, 1) := by decide +kernel
theorem d_Re_namedEntry_42 : decode jRe_namedEntry.cc 42 = .ok (.ireturn, 1) := by decide +kernel
set_option maxHeartbeats 4000000 in
theorem s_Re_namedEntry {g : Mg} {d : Nat} {K : Ou → Wd → Prop} {w : Wd} {p1 : Int} (h : Cal g LC jCu_take d [vA 25, vI 2] w (fun o w1 => rI o (fun x2 => Cal g LC jLo_find d [vA 13, vI x2] w1 (fun o w3 => rI o (fun x4 => Cal g LC jLo_sortOf d [vA 13, vI x4] w3 (fun o w5 => rI o (fun x6 => (x6 = p1 → (K (.inl (some (vI x4))) w5)) ∧ (¬ x6 = p1 → (Cal g LC jCu_blame d [vA 25, vI 4, vI x2] w5 (fun o w7 => rV o (K (.inl (some (vI (-1)))) w7))))))))))) : V g LC jRe_namedEntry (d + 1) K 0 [(0, vA 24), (1, vI p1)] [] w := by
  refine v_aload_n (pc := 0) d_Re_namedEntry_0 rfl (.head _) ?_
  refine v_getr (C := "") (pc := 1) (r := 25) d_Re_namedEntry_1 fl_Re_34 cC_24.1 cC_24.2 (Or.inl ⟨_, rfl⟩) rC_24_4 ?_
  refine v_iconst (pc := 4) d_Re_namedEntry_4 (by decide) ?_
  refine v_callV (pc := 5) (J' := jCu_take) (d' := d) (o := 25) (ci := 1) (N := 6) (T := cT1) (As := [vI 2]) d_Re_namedEntry_5 ml_Re_71 cC_25.1 cC_25.2 (by decide) rfl rfl (Nat.le_of_ble_eq_true rfl) (Nat.le_refl _) rfl (Cal.weak h (fun o w1 h => ?_))
  rcases rI_of h with ⟨x2, rfl, h⟩
  refine v_istore_n (pc := 8) (ls' := [(2, vI x2), (0, vA 24), (1, vI p1)]) d_Re_namedEntry_8 rfl (by decide) rfl ?_
  refine v_aload_n (pc := 9) d_Re_namedEntry_9 rfl (.tail _ (.head _)) ?_
  refine v_getr (C := "") (pc := 10) (r := 13) d_Re_namedEntry_10 fl_Re_23 cC_24.1 cC_24.2 (Or.inl ⟨_, rfl⟩) rC_24_2 ?_
  refine v_iload_n (pc := 13) d_Re_namedEntry_13 rfl (.head _) ?_
  refine v_callV (pc := 14) (J' := jLo_find) (d' := d) (o := 13) (ci := 4) (N := 7) (T := cT4) (As := [vI x2]) d_Re_namedEntry_14 ml_Re_156 cC_13.1 cC_13.2 (by decide) rfl rfl (Nat.le_of_ble_eq_true rfl) (Nat.le_refl _) rfl (Cal.weak h (fun o w3 h => ?_))
  rcases rI_of h with ⟨x4, rfl, h⟩
  refine v_istore_n (pc := 17) (ls' := [(3, vI x4), (2, vI x2), (0, vA 24), (1, vI p1)]) d_Re_namedEntry_17 rfl (by decide) rfl ?_
  refine v_aload_n (pc := 18) d_Re_namedEntry_18 rfl (.tail _ (.tail _ (.head _))) ?_
  refine v_getr (C := "") (pc := 19) (r := 13) d_Re_namedEntry_19 fl_Re_23 cC_24.1 cC_24.2 (Or.inl ⟨_, rfl⟩) rC_24_2 ?_
  refine v_iload_n (pc := 22) d_Re_namedEntry_22 rfl (.head _) ?_
  refine v_callV (pc := 23) (J' := jLo_sortOf) (d' := d) (o := 13) (ci := 4) (N := 7) (T := cT4) (As := [vI x4]) d_Re_namedEntry_23 ml_Re_219 cC_13.1 cC_13.2 (by decide) rfl rfl (Nat.le_of_ble_eq_true rfl) (Nat.le_refl _) rfl (Cal.weak h (fun o w5 h => ?_))
  rcases rI_of h with ⟨x6, rfl, h⟩
  refine v_iload_n (pc := 26) d_Re_namedEntry_26 rfl (.tail _ (.tail _ (.tail _ (.head _)))) ?_
  refine v_icmpeq (pc := 27) (tgt := 41) d_Re_namedEntry_27 (by decide) (fun c => ?_) (fun c => ?_)
  · replace h := h.1 c
    refine v_iload_n (pc := 41) d_Re_namedEntry_41 rfl (.head _) ?_
    exact v_iret (pc := 42) d_Re_namedEntry_42 rfl h
  · replace h := h.2 c
    refine v_aload_n (pc := 30) d_Re_namedEntry_30 rfl (.tail _ (.tail _ (.head _))) ?_
    refine v_getr (C := "") (pc := 31) (r := 25) d_Re_namedEntry_31 fl_Re_34 cC_24.1 cC_24.2 (Or.inl ⟨_, rfl⟩) rC_24_4 ?_
    refine v_iconst (pc := 34) d_Re_namedEntry_34 (by decide) ?_
    refine v_iload_n (pc := 35) d_Re_namedEntry_35 rfl (.tail _ (.head _)) ?_
    refine v_callV (pc := 36) (J' := jCu_blame) (d' := d) (o := 25) (ci := 1) (N := 6) (T := cT1) (As := [vI 4, vI x2]) d_Re_namedEntry_36 ml_Re_159 cC_25.1 cC_25.2 (by decide) rfl rfl (Nat.le_of_ble_eq_true rfl) (Nat.le_refl _) rfl (Cal.weak h (fun o w7 h => ?_))
    rcases rV_of h with ⟨rfl, h⟩
    refine v_iconst (pc := 39) d_Re_namedEntry_39 (by decide) ?_
    exact v_iret (pc := 40) d_Re_namedEntry_40 rfl h
theorem d_Re_readSend_0 : decode jRe_readSend.cc 0 = .ok (.aload_n 0, 1) := by decide +kernel
theorem d_Re_readSend_1 : decode jRe_readSend.cc 1 = .ok (.getfield 34, 3) := by decide +kernel
theorem d_Re_readSend_4 : decode jRe_readSend.cc 4 = .ok (.bipush 44, 2) := by decide +kernel
theorem d_Re_readSend_6 : decode jRe_readSend.cc 6 = .ok (.invokevirtual 71, 3) := by decide +kernel
theorem d_Re_readSend_9 : decode jRe_readSend.cc 9 = .ok (.pop, 1) := by decide +kernel
theorem d_Re_readSend_10 : decode jRe_readSend.cc 10 = .ok (.aload_n 0, 1) := by decide +kernel
theorem d_Re_readSend_11 : decode jRe_readSend.cc 11 = .ok (.iconst 2, 1) := by decide +kernel
theorem d_Re_readSend_12 : decode jRe_readSend.cc 12 = .ok (.invokevirtual 235, 3) := by decide +kernel
theorem d_Re_readSend_15 : decode jRe_readSend.cc 15 = .ok (.istore_n 2, 1) := by decide +kernel
theorem d_Re_readSend_16 : decode jRe_readSend.cc 16 = .ok (.aload_n 0, 1) := by decide +kernel
theorem d_Re_readSend_17 : decode jRe_readSend.cc 17 = .ok (.getfield 28, 3) := by decide +kernel
theorem d_Re_readSend_20 : decode jRe_readSend.cc 20 = .ok (.bipush 24, 2) := by decide +kernel
theorem d_Re_readSend_22 : decode jRe_readSend.cc 22 = .ok (.iconst 0, 1) := by decide +kernel
theorem d_Re_readSend_23 : decode jRe_readSend.cc 23 = .ok (.iconst 0, 1) := by decide +kernel
theorem d_Re_readSend_24 : decode jRe_readSend.cc 24 = .ok (.invokevirtual 87, 3) := by decide +kernel
theorem d_Re_readSend_27 : decode jRe_readSend.cc 27 = .ok (.istore_n 3, 1) := by decide +kernel
theorem d_Re_readSend_28 : decode jRe_readSend.cc 28 = .ok (.aload_n 0, 1) := by decide +kernel
theorem d_Re_readSend_29 : decode jRe_readSend.cc 29 = .ok (.getfield 43, 3) := by decide +kernel
theorem d_Re_readSend_32 : decode jRe_readSend.cc 32 = .ok (.iconst 1, 1) := by decide +kernel
theorem d_Re_readSend_33 : decode jRe_readSend.cc 33 = .ok (.putfield 238, 3) := by decide +kernel
theorem d_Re_readSend_36 : decode jRe_readSend.cc 36 = .ok (.aload_n 0, 1) := by decide +kernel
theorem d_Re_readSend_37 : decode jRe_readSend.cc 37 = .ok (.getfield 43, 3) := by decide +kernel
theorem d_Re_readSend_40 : decode jRe_readSend.cc 40 = .ok (.iload_n 1, 1) := by decide +kernel
theorem d_Re_readSend_41 : decode jRe_readSend.cc 41 = .ok (.invokevirtual 222, 3) := by decide +kernel
theorem d_Re_readSend_44 : decode jRe_readSend.cc 44 = .ok (.istore 4, 2) := by decide +kernel
theorem d_Re_readSend_46 : decode jRe_readSend.cc 46 = .ok (.aload_n 0, 1) := by decide +kernel
theorem d_Re_readSend_47 : decode jRe_readSend.cc 47 = .ok (.getfield 43, 3) := by decide +kernel
theorem d_Re_readSend_50 : decode jRe_readSend.cc 50 = .ok (.iconst 0, 1) := by decide +kernel
theorem d_Re_readSend_51 : decode jRe_readSend.cc 51 = .ok (.putfield 238, 3) := by decide +kernel
theorem d_Re_readSend_54 : decode jRe_readSend.cc 54 = .ok (.aload_n 0, 1) := by decide +kernel
theorem d_Re_readSend_55 : decode jRe_readSend.cc 55 = .ok (.getfield 43, 3) := by decide +kernel
theorem d_Re_readSend_58 : decode jRe_readSend.cc 58 = .ok (.iload 4, 2) := by decide +kernel
theorem d_Re_readSend_60 : decode jRe_readSend.cc 60 = .ok (.aload_n 0, 1) := by decide +kernel
theorem d_Re_readSend_61 : decode jRe_readSend.cc 61 = .ok (.getfield 23, 3) := by decide +kernel
theorem d_Re_readSend_64 : decode jRe_readSend.cc 64 = .ok (.iload_n 2, 1) := by decide +kernel
theorem d_Re_readSend_65 : decode jRe_readSend.cc 65 = .ok (.invokevirtual 225, 3) := by decide +kernel
theorem d_Re_readSend_68 : decode jRe_readSend.cc 68 = .ok (.invokevirtual 228, 3) := by decide +kernel
theorem d_Re_readSend_71 : decode jRe_readSend.cc 71 = .ok (.aload_n 0, 1) := by decide +kernel
theorem d_Re_readSend_72 : decode jRe_readSend.cc 72 = .ok (.getfield 34, 3) := by decide +kernel
theorem d_Re_readSend_75 : decode jRe_readSend.cc 75 = .ok (.bipush 46, 2) := by decide +kernel
theorem d_Re_readSend_77 : decode jRe_readSend.cc 77 = .ok (.invokevirtual 94, 3) := by decide +kernel
theorem d_Re_readSend_80 : decode jRe_readSend.cc 80 = .ok (.istore 5, 2) := by decide +kernel
theorem d_Re_readSend_82 : decode jRe_readSend.cc 82 = .ok (.aload_n 0, 1) := by decide +kernel
theorem d_Re_readSend_83 : decode jRe_readSend.cc 83 = .ok (.getfield 34, 3) := by decide +kernel
theorem d_Re_readSend_86 : decode jRe_readSend.cc 86 = .ok (.iload 5, 2) := by decide +kernel
theorem d_Re_readSend_88 : decode jRe_readSend.cc 88 = .ok (.ifCond .eq 8, 3) := by decide +kernel
theorem d_Re_readSend_91 : decode jRe_readSend.cc 91 = .ok (.bipush 46, 2) := by decide +kernel
theorem d_Re_readSend_93 : decode jRe_readSend.cc 93 = .ok (.goto 5, 3) := by decide +kernel
theorem d_Re_readSend_96 : decode jRe_readSend.cc 96 = .ok (.bipush 45, 2) := by decide +kernel
theorem d_Re_readSend_98 : decode jRe_readSend.cc 98 = .ok (.invokevirtual 71, 3) := by decide +kernel
theorem d_Re_readSend_101 : decode jRe_readSend.cc 101 = .ok (.pop, 1) := by decide +kernel
theorem d_Re_readSend_102 : decode jRe_readSend.cc 102 = .ok (.aload_n 0, 1) := by decide +kernel
theorem d_Re_readSend_103 : decode jRe_readSend.cc 103 = .ok (.getfield 34, 3) := by decide +kernel
theorem d_Re_readSend_106 : decode jRe_readSend.cc 106 = .ok (.iconst 4, 1) := by decide +kernel
theorem d_Re_readSend_107 : decode jRe_readSend.cc 107 = .ok (.invokevirtual 71, 3) := by decide +kernel
theorem d_Re_readSend_110 : decode jRe_readSend.cc 110 = .ok (.pop, 1) := by decide +kernel
theorem d_Re_readSend_111 : decode jRe_readSend.cc 111 = .ok (.aload_n 0, 1) := by decide +kernel
theorem d_Re_readSend_112 : decode jRe_readSend.cc 112 = .ok (.getfield 28, 3) := by decide +kernel
theorem d_Re_readSend_115 : decode jRe_readSend.cc 115 = .ok (.iload_n 3, 1) := by decide +kernel
theorem d_Re_readSend_116 : decode jRe_readSend.cc 116 = .ok (.iload 5, 2) := by decide +kernel
theorem d_Re_readSend_118 : decode jRe_readSend.cc 118 = .ok (.ifCond .eq 7, 3) := by decide +kernel
theorem d_Re_readSend_121 : decode jRe_readSend.cc 121 = .ok (.iconst 1, 1) := by decide +kernel
theorem d_Re_readSend_122 : decode jRe_readSend.cc 122 = .ok (.goto 4, 3) := by decide +kernel
theorem d_Re_readSend_125 : decode jRe_readSend.cc 125 = .ok (.iconst 0, 1) := by decide +kernel
theorem d_Re_readSend_126 : decode jRe_readSend.cc 126 = .ok (.invokevirtual 241, 3) := by decide +kernel
theorem d_Re_readSend_129 : decode jRe_readSend.cc 129 = .ok (.aload_n 0, 1) := by decide +kernel
theorem d_Re_readSend_130 : decode jRe_readSend.cc 130 = .ok (.getfield 28, 3) := by decide +kernel
theorem d_Re_readSend_133 : decode jRe_readSend.cc 133 = .ok (.bipush 28, 2) := by decide +kernel
theorem d_Re_readSend_135 : decode jRe_readSend.cc 135 = .ok (.aload_n 0, 1) := by decide +kernel
theorem d_Re_readSend_136 : decode jRe_readSend.cc 136 = .ok (.getfield 23, 3) := by decide +kernel
theorem d_Re_readSend_139 : decode jRe_readSend.cc 139 = .ok (.iload_n 2, 1) := by decide +kernel
theorem d_Re_readSend_140 : decode jRe_readSend.cc 140 = .ok (.invokevirtual 231, 3) := by decide +kernel
theorem d_Re_readSend_143 : decode jRe_readSend.cc 143 = .ok (.iconst 0, 1) := by decide +kernel
theorem d_Re_readSend_144 : decode jRe_readSend.cc 144 = .ok (.invokevirtual 87, 3) := by decide +kernel
theorem d_Re_readSend_147 : decode jRe_readSend.cc 147 = .ok (.pop, 1) := by decide +kernel
theorem d_Re_readSend_148 : decode jRe_readSend.cc 148 = .ok (.aload_n 0, 1) := by decide +kernel
theorem d_Re_readSend_149 : decode jRe_readSend.cc 149 = .ok (.getfield 28, 3) := by decide +kernel
theorem d_Re_readSend_152 : decode jRe_readSend.cc 152 = .ok (.bipush 25, 2) := by decide +kernel
theorem d_Re_readSend_154 : decode jRe_readSend.cc 154 = .ok (.iload_n 3, 1) := by decide +kernel
theorem d_Re_readSend_155 : decode jRe_readSend.cc 155 = .ok (.iconst 1, 1) := by decide +kernel
theorem d_Re_readSend_156 : decode jRe_readSend.cc 156 = .ok (.iadd, 1) := by decide +kernel
theorem d_Re_readSend_157 : decode jRe_readSend.cc 157 = .ok (.iconst 0, 1) := by decide +kernel
theorem d_Re_readSend_158 : decode jRe_readSend.cc 158 = .ok (.invokevirtual 87, 3) := by decide +kernel
theorem d_Re_readSend_161 : decode jRe_readSend.cc 161 = .ok (.pop, 1) := by decide +kernel
theorem d_Re_readSend_162 : decode jRe_readSend.cc 162 = .ok (.aload_n 0, 1) := by decide +kernel
theorem d_Re_readSend_163 : decode jRe_readSend.cc 163 = .ok (.getfield 28, 3) := by decide +kernel
theorem d_Re_readSend_166 : decode jRe_readSend.cc 166 = .ok (.iload_n 3, 1) := by decide +kernel
theorem d_Re_readSend_167 : decode jRe_readSend.cc 167 = .ok (.invokevirtual 244, 3) := by decide +kernel
theorem d_Re_readSend_170 : decode jRe_readSend.cc 170 = .ok (.return_, 1) := by decide +kernel
set_option maxHeartbeats 4000000 in
theorem s_Re_readSend {g : Mg} {d : Nat} {K : Ou → Wd → Prop} {w : Wd} {p1 : Int} (h : Cal g LC jCu_take d [vA 25, vI 44] w (fun o w1 => rI o (fun x2 => Cal g LC jRe_namedEntry d [vA 24, vI 2] w1 (fun o w3 => rI o (fun x4 => Cal g LC jCo_add d [vA 19, vI 24, vI 0, vI 0] w3 (fun o w5 => rI o (fun x6 => Cal g LC jEx_exp d [vA 26, vI p1] (up w5 26 4 1) (fun o w7 => rI o (fun x8 => Cal g LC jLo_kindOf d [vA 13, vI x4] (up w7 26 4 0) (fun o w9 => rI o (fun x10 => Cal g LC jEx_demand d [vA 26, vI x8, vI x10] w9 (fun o w11 => rV o (Cal g LC jCu_sees d [vA 25, vI 46] w11 (fun o w12 => rI o (fun x13 => (x13 = 0 → (Cal g LC jCu_take d [vA 25, vI 45] w12 (fun o w14 => rI o (fun x15 => Cal g LC jCu_take d [vA 25, vI 4] w14 (fun o w16 => rI o (fun x17 => (x13 = 0 → (Cal g LC jCo_mark d [vA 19, vI x6, vI 0] w16 (fun o w18 => rV o (Cal g LC jLo_numberOf d [vA 13, vI x4] w18 (fun o w19 => rI o (fun x20 => Cal g LC jCo_add d [vA 19, vI 28, vI x20, vI 0] w19 (fun o w21 => rI o (fun x22 => Cal g LC jCo_add d [vA 19, vI 25, vI (wr (x6 + 1)), vI 0] w21 (fun o w23 => rI o (fun x24 => Cal g LC jCo_aimHere d [vA 19, vI x6] w23 (fun o w25 => rV o (K (.inl none) w25)))))))))))) ∧ (¬ x13 = 0 → (Cal g LC jCo_mark d [vA 19, vI x6, vI 1] w16 (fun o w26 => rV o (Cal g LC jLo_numberOf d [vA 13, vI x4] w26 (fun o w27 => rI o (fun x28 => Cal g LC jCo_add d [vA 19, vI 28, vI x28, vI 0] w27 (fun o w29 => rI o (fun x30 => Cal g LC jCo_add d [vA 19, vI 25, vI (wr (x6 + 1)), vI 0] w29 (fun o w31 => rI o (fun x32 => Cal g LC jCo_aimHere d [vA 19, vI x6] w31 (fun o w33 => rV o (K (.inl none) w33)))))))))))))))))) ∧ (¬ x13 = 0 → (Cal g LC jCu_take d [vA 25, vI 46] w12 (fun o w34 => rI o (fun x35 => Cal g LC jCu_take d [vA 25, vI 4] w34 (fun o w36 => rI o (fun x37 => (x13 = 0 → (Cal g LC jCo_mark d [vA 19, vI x6, vI 0] w36 (fun o w38 => rV o (Cal g LC jLo_numberOf d [vA 13, vI x4] w38 (fun o w39 => rI o (fun x40 => Cal g LC jCo_add d [vA 19, vI 28, vI x40, vI 0] w39 (fun o w41 => rI o (fun x42 => Cal g LC jCo_add d [vA 19, vI 25, vI (wr (x6 + 1)), vI 0] w41 (fun o w43 => rI o (fun x44 => Cal g LC jCo_aimHere d [vA 19, vI x6] w43 (fun o w45 => rV o (K (.inl none) w45)))))))))))) ∧ (¬ x13 = 0 → (Cal g LC jCo_mark d [vA 19, vI x6, vI 1] w36 (fun o w46 => rV o (Cal g LC jLo_numberOf d [vA 13, vI x4] w46 (fun o w47 => rI o (fun x48 => Cal g LC jCo_add d [vA 19, vI 28, vI x48, vI 0] w47 (fun o w49 => rI o (fun x50 => Cal g LC jCo_add d [vA 19, vI 25, vI (wr (x6 + 1)), vI 0] w49 (fun o w51 => rI o (fun x52 => Cal g LC jCo_aimHere d [vA 19, vI x6] w51 (fun o w53 => rV o (K (.inl none) w53))))))))))))))))))))))))))))))))) : V g LC jRe_readSend (d + 1) K 0 [(0, vA 24), (1, vI p1)] [] w := by
  refine v_aload_n (pc := 0) d_Re_readSend_0 rfl (.head _) ?_
  refine v_getr (C := "") (pc := 1) (r := 25) d_Re_readSend_1 fl_Re_34 cC_24.1 cC_24.2 (Or.inl ⟨_, rfl⟩) rC_24_4 ?_
  refine v_bipush (pc := 4) d_Re_readSend_4 (by decide) rfl ?_
  refine v_callV (pc := 6) (J' := jCu_take) (d' := d) (o := 25) (ci := 1) (N := 6) (T := cT1) (As := [vI 44]) d_Re_readSend_6 ml_Re_71 cC_25.1 cC_25.2 (by decide) rfl rfl (Nat.le_of_ble_eq_true rfl) (Nat.le_refl _) rfl (Cal.weak h (fun o w1 h => ?_))
  rcases rI_of h with ⟨x2, rfl, h⟩
  refine v_pop (pc := 9) d_Re_readSend_9 rfl ?_
  refine v_aload_n (pc := 10) d_Re_readSend_10 rfl (.head _) ?_
  refine v_iconst (pc := 11) d_Re_readSend_11 (by decide) ?_
  refine v_callV (pc := 12) (J' := jRe_namedEntry) (d' := d) (o := 24) (ci := 8) (N := 7) (T := cT8) (As := [vI 2]) d_Re_readSend_12 ml_Re_235 cC_24.1 cC_24.2 (by decide) rfl rfl (Nat.le_of_ble_eq_true rfl) (Nat.le_refl _) rfl (Cal.weak h (fun o w3 h => ?_))
  rcases rI_of h with ⟨x4, rfl, h⟩
  refine v_istore_n (pc := 15) (ls' := [(2, vI x4), (0, vA 24), (1, vI p1)]) d_Re_readSend_15 rfl (by decide) rfl ?_
  refine v_aload_n (pc := 16) d_Re_readSend_16 rfl (.tail _ (.head _)) ?_
  refine v_getr (C := "") (pc := 17) (r := 19) d_Re_readSend_17 fl_Re_28 cC_24.1 cC_24.2 (Or.inl ⟨_, rfl⟩) rC_24_3 ?_
  refine v_bipush (pc := 20) d_Re_readSend_20 (by decide) rfl ?_
  refine v_iconst (pc := 22) d_Re_readSend_22 (by decide) ?_
  refine v_iconst (pc := 23) d_Re_readSend_23 (by decide) ?_
  refine v_callV (pc := 24) (J' := jCo_add) (d' := d) (o := 19) (ci := 0) (N := 6) (T := cT0) (As := [vI 24, vI 0, vI 0]) d_Re_readSend_24 ml_Re_87 cC_19.1 cC_19.2 (by decide) rfl rfl (Nat.le_of_ble_eq_true rfl) (Nat.le_refl _) rfl (Cal.weak h (fun o w5 h => ?_))
  rcases rI_of h with ⟨x6, rfl, h⟩
  refine v_istore_n (pc := 27) (ls' := [(3, vI x6), (2, vI x4), (0, vA 24), (1, vI p1)]) d_Re_readSend_27 rfl (by decide) rfl ?_
  refine v_aload_n (pc := 28) d_Re_readSend_28 rfl (.tail _ (.tail _ (.head _))) ?_
  refine v_getr (C := "") (pc := 29) (r := 26) d_Re_readSend_29 fl_Re_43 cC_24.1 cC_24.2 (Or.inl ⟨_, rfl⟩) rC_24_5 ?_
  refine v_iconst (pc := 32) d_Re_readSend_32 (by decide) ?_
  refine v_putz (pc := 33) d_Re_readSend_33 fp_Re_238 cC_26.1 cC_26.2 (by decide) rfl (by decide) ?_
  refine v_aload_n (pc := 36) d_Re_readSend_36 rfl (.tail _ (.tail _ (.head _))) ?_
  refine v_getr (C := "") (pc := 37) (r := 26) d_Re_readSend_37 fl_Re_43 cC_24.1 cC_24.2 (Or.inl ⟨_, rfl⟩) rC_24_5 ?_
  refine v_iload_n (pc := 40) d_Re_readSend_40 rfl (.tail _ (.tail _ (.tail _ (.head _)))) ?_
  refine v_callV (pc := 41) (J' := jEx_exp) (d' := d) (o := 26) (ci := 2) (N := 9) (T := cT2) (As := [vI p1]) d_Re_readSend_41 ml_Re_222 cC_26.1 cC_26.2 (by decide) rfl rfl (Nat.le_of_ble_eq_true rfl) (Nat.le_refl _) rfl (Cal.weak h (fun o w7 h => ?_))
  rcases rI_of h with ⟨x8, rfl, h⟩
  refine v_istore (pc := 44) (ls' := [(4, vI x8), (3, vI x6), (2, vI x4), (0, vA 24), (1, vI p1)]) d_Re_readSend_44 (by decide) rfl ?_
  refine v_aload_n (pc := 46) d_Re_readSend_46 rfl (.tail _ (.tail _ (.tail _ (.head _)))) ?_
  refine v_getr (C := "") (pc := 47) (r := 26) d_Re_readSend_47 fl_Re_43 cC_24.1 cC_24.2 (Or.inl ⟨_, rfl⟩) rC_24_5 ?_
  refine v_iconst (pc := 50) d_Re_readSend_50 (by decide) ?_
  refine v_putz (pc := 51) d_Re_readSend_51 fp_Re_238 cC_26.1 cC_26.2 (by decide) rfl (by decide) ?_
  refine v_aload_n (pc := 54) d_Re_readSend_54 rfl (.tail _ (.tail _ (.tail _ (.head _)))) ?_
  refine v_getr (C := "") (pc := 55) (r := 26) d_Re_readSend_55 fl_Re_43 cC_24.1 cC_24.2 (Or.inl ⟨_, rfl⟩) rC_24_5 ?_
  refine v_iload (pc := 58) d_Re_readSend_58 (.head _) ?_
  refine v_aload_n (pc := 60) d_Re_readSend_60 rfl (.tail _ (.tail _ (.tail _ (.head _)))) ?_
  refine v_getr (C := "") (pc := 61) (r := 13) d_Re_readSend_61 fl_Re_23 cC_24.1 cC_24.2 (Or.inl ⟨_, rfl⟩) rC_24_2 ?_
  refine v_iload_n (pc := 64) d_Re_readSend_64 rfl (.tail _ (.tail _ (.head _))) ?_
  refine v_callV (pc := 65) (J' := jLo_kindOf) (d' := d) (o := 13) (ci := 4) (N := 7) (T := cT4) (As := [vI x4]) d_Re_readSend_65 ml_Re_225 cC_13.1 cC_13.2 (by decide) rfl rfl (Nat.le_of_ble_eq_true rfl) (Nat.le_refl _) rfl (Cal.weak h (fun o w9 h => ?_))
  rcases rI_of h with ⟨x10, rfl, h⟩
  refine v_callV (pc := 68) (J' := jEx_demand) (d' := d) (o := 26) (ci := 2) (N := 9) (T := cT2) (As := [vI x8, vI x10]) d_Re_readSend_68 ml_Re_228 cC_26.1 cC_26.2 (by decide) rfl rfl (Nat.le_of_ble_eq_true rfl) (Nat.le_refl _) rfl (Cal.weak h (fun o w11 h => ?_))
  rcases rV_of h with ⟨rfl, h⟩
  refine v_aload_n (pc := 71) d_Re_readSend_71 rfl (.tail _ (.tail _ (.tail _ (.head _)))) ?_
  refine v_getr (C := "") (pc := 72) (r := 25) d_Re_readSend_72 fl_Re_34 cC_24.1 cC_24.2 (Or.inl ⟨_, rfl⟩) rC_24_4 ?_
  refine v_bipush (pc := 75) d_Re_readSend_75 (by decide) rfl ?_
  refine v_callV (pc := 77) (J' := jCu_sees) (d' := d) (o := 25) (ci := 1) (N := 6) (T := cT1) (As := [vI 46]) d_Re_readSend_77 ml_Re_94 cC_25.1 cC_25.2 (by decide) rfl rfl (Nat.le_of_ble_eq_true rfl) (Nat.le_refl _) rfl (Cal.weak h (fun o w12 h => ?_))
  rcases rI_of h with ⟨x13, rfl, h⟩
  refine v_istore (pc := 80) (ls' := [(5, vI x13), (4, vI x8), (3, vI x6), (2, vI x4), (0, vA 24), (1, vI p1)]) d_Re_readSend_80 (by decide) rfl ?_
  refine v_aload_n (pc := 82) d_Re_readSend_82 rfl (.tail _ (.tail _ (.tail _ (.tail _ (.head _))))) ?_
  refine v_getr (C := "") (pc := 83) (r := 25) d_Re_readSend_83 fl_Re_34 cC_24.1 cC_24.2 (Or.inl ⟨_, rfl⟩) rC_24_4 ?_
  refine v_iload (pc := 86) d_Re_readSend_86 (.head _) ?_
  refine v_ifeq (pc := 88) (tgt := 96) d_Re_readSend_88 (by decide) (fun c => ?_) (fun c => ?_)
  · replace h := h.1 c
    refine v_bipush (pc := 96) d_Re_readSend_96 (by decide) rfl ?_
    refine v_callV (pc := 98) (J' := jCu_take) (d' := d) (o := 25) (ci := 1) (N := 6) (T := cT1) (As := [vI 45]) d_Re_readSend_98 ml_Re_71 cC_25.1 cC_25.2 (by decide) rfl rfl (Nat.le_of_ble_eq_true rfl) (Nat.le_refl _) rfl (Cal.weak h (fun o w14 h => ?_))
    rcases rI_of h with ⟨x15, rfl, h⟩
    refine v_pop (pc := 101) d_Re_readSend_101 rfl ?_
    refine v_aload_n (pc := 102) d_Re_readSend_102 rfl (.tail _ (.tail _ (.tail _ (.tail _ (.head _))))) ?_
    refine v_getr (C := "") (pc := 103) (r := 25) d_Re_readSend_103 fl_Re_34 cC_24.1 cC_24.2 (Or.inl ⟨_, rfl⟩) rC_24_4 ?_
    refine v_iconst (pc := 106) d_Re_readSend_106 (by decide) ?_
    refine v_callV (pc := 107) (J' := jCu_take) (d' := d) (o := 25) (ci := 1) (N := 6) (T := cT1) (As := [vI 4]) d_Re_readSend_107 ml_Re_71 cC_25.1 cC_25.2 (by decide) rfl rfl (Nat.le_of_ble_eq_true rfl) (Nat.le_refl _) rfl (Cal.weak h (fun o w16 h => ?_))
    rcases rI_of h with ⟨x17, rfl, h⟩
    refine v_pop (pc := 110) d_Re_readSend_110 rfl ?_
    refine v_aload_n (pc := 111) d_Re_readSend_111 rfl (.tail _ (.tail _ (.tail _ (.tail _ (.head _))))) ?_
    refine v_getr (C := "") (pc := 112) (r := 19) d_Re_readSend_112 fl_Re_28 cC_24.1 cC_24.2 (Or.inl ⟨_, rfl⟩) rC_24_3 ?_
    refine v_iload_n (pc := 115) d_Re_readSend_115 rfl (.tail _ (.tail _ (.head _))) ?_
    refine v_iload (pc := 116) d_Re_readSend_116 (.head _) ?_
    refine v_ifeq (pc := 118) (tgt := 125) d_Re_readSend_118 (by decide) (fun c => ?_) (fun c => ?_)
    · replace h := h.1 c
      refine v_iconst (pc := 125) d_Re_readSend_125 (by decide) ?_
      refine v_callV (pc := 126) (J' := jCo_mark) (d' := d) (o := 19) (ci := 0) (N := 6) (T := cT0) (As := [vI x6, vI 0]) d_Re_readSend_126 ml_Re_241 cC_19.1 cC_19.2 (by decide) rfl rfl (Nat.le_of_ble_eq_true rfl) (Nat.le_refl _) rfl (Cal.weak h (fun o w18 h => ?_))
      rcases rV_of h with ⟨rfl, h⟩
      refine v_aload_n (pc := 129) d_Re_readSend_129 rfl (.tail _ (.tail _ (.tail _ (.tail _ (.head _))))) ?_
      refine v_getr (C := "") (pc := 130) (r := 19) d_Re_readSend_130 fl_Re_28 cC_24.1 cC_24.2 (Or.inl ⟨_, rfl⟩) rC_24_3 ?_
      refine v_bipush (pc := 133) d_Re_readSend_133 (by decide) rfl ?_
      refine v_aload_n (pc := 135) d_Re_readSend_135 rfl (.tail _ (.tail _ (.tail _ (.tail _ (.head _))))) ?_
      refine v_getr (C := "") (pc := 136) (r := 13) d_Re_readSend_136 fl_Re_23 cC_24.1 cC_24.2 (Or.inl ⟨_, rfl⟩) rC_24_2 ?_
      refine v_iload_n (pc := 139) d_Re_readSend_139 rfl (.tail _ (.tail _ (.tail _ (.head _)))) ?_
      refine v_callV (pc := 140) (J' := jLo_numberOf) (d' := d) (o := 13) (ci := 4) (N := 7) (T := cT4) (As := [vI x4]) d_Re_readSend_140 ml_Re_231 cC_13.1 cC_13.2 (by decide) rfl rfl (Nat.le_of_ble_eq_true rfl) (Nat.le_refl _) rfl (Cal.weak h (fun o w19 h => ?_))
      rcases rI_of h with ⟨x20, rfl, h⟩
      refine v_iconst (pc := 143) d_Re_readSend_143 (by decide) ?_
      refine v_callV (pc := 144) (J' := jCo_add) (d' := d) (o := 19) (ci := 0) (N := 6) (T := cT0) (As := [vI 28, vI x20, vI 0]) d_Re_readSend_144 ml_Re_87 cC_19.1 cC_19.2 (by decide) rfl rfl (Nat.le_of_ble_eq_true rfl) (Nat.le_refl _) rfl (Cal.weak h (fun o w21 h => ?_))
      rcases rI_of h with ⟨x22, rfl, h⟩
      refine v_pop (pc := 147) d_Re_readSend_147 rfl ?_
      refine v_aload_n (pc := 148) d_Re_readSend_148 rfl (.tail _ (.tail _ (.tail _ (.tail _ (.head _))))) ?_
      refine v_getr (C := "") (pc := 149) (r := 19) d_Re_readSend_149 fl_Re_28 cC_24.1 cC_24.2 (Or.inl ⟨_, rfl⟩) rC_24_3 ?_
      refine v_bipush (pc := 152) d_Re_readSend_152 (by decide) rfl ?_
      refine v_iload_n (pc := 154) d_Re_readSend_154 rfl (.tail _ (.tail _ (.head _))) ?_
      refine v_iconst (pc := 155) d_Re_readSend_155 (by decide) ?_
      refine v_iadd (pc := 156) d_Re_readSend_156 ?_
      refine v_iconst (pc := 157) d_Re_readSend_157 (by decide) ?_
      refine v_callV (pc := 158) (J' := jCo_add) (d' := d) (o := 19) (ci := 0) (N := 6) (T := cT0) (As := [vI 25, vI (wr (x6 + 1)), vI 0]) d_Re_readSend_158 ml_Re_87 cC_19.1 cC_19.2 (by decide) rfl rfl (Nat.le_of_ble_eq_true rfl) (Nat.le_refl _) rfl (Cal.weak h (fun o w23 h => ?_))
      rcases rI_of h with ⟨x24, rfl, h⟩
      refine v_pop (pc := 161) d_Re_readSend_161 rfl ?_
      refine v_aload_n (pc := 162) d_Re_readSend_162 rfl (.tail _ (.tail _ (.tail _ (.tail _ (.head _))))) ?_
      refine v_getr (C := "") (pc := 163) (r := 19) d_Re_readSend_163 fl_Re_28 cC_24.1 cC_24.2 (Or.inl ⟨_, rfl⟩) rC_24_3 ?_
      refine v_iload_n (pc := 166) d_Re_readSend_166 rfl (.tail _ (.tail _ (.head _))) ?_
      refine v_callV (pc := 167) (J' := jCo_aimHere) (d' := d) (o := 19) (ci := 0) (N := 6) (T := cT0) (As := [vI x6]) d_Re_readSend_167 ml_Re_244 cC_19.1 cC_19.2 (by decide) rfl rfl (Nat.le_of_ble_eq_true rfl) (Nat.le_refl _) rfl (Cal.weak h (fun o w25 h => ?_))
      rcases rV_of h with ⟨rfl, h⟩
      exact v_vret (pc := 170) d_Re_readSend_170 rfl h
    · replace h := h.2 c
      refine v_iconst (pc := 121) d_Re_readSend_121 (by decide) ?_
      refine v_goto (pc := 122) (tgt := 126) d_Re_readSend_122 (by decide) ?_
      refine v_callV (pc := 126) (J' := jCo_mark) (d' := d) (o := 19) (ci := 0) (N := 6) (T := cT0) (As := [vI x6, vI 1]) d_Re_readSend_126 ml_Re_241 cC_19.1 cC_19.2 (by decide) rfl rfl (Nat.le_of_ble_eq_true rfl) (Nat.le_refl _) rfl (Cal.weak h (fun o w26 h => ?_))
      rcases rV_of h with ⟨rfl, h⟩
      refine v_aload_n (pc := 129) d_Re_readSend_129 rfl (.tail _ (.tail _ (.tail _ (.tail _ (.head _))))) ?_
      refine v_getr (C := "") (pc := 130) (r := 19) d_Re_readSend_130 fl_Re_28 cC_24.1 cC_24.2 (Or.inl ⟨_, rfl⟩) rC_24_3 ?_
      refine v_bipush (pc := 133) d_Re_readSend_133 (by decide) rfl ?_
      refine v_aload_n (pc := 135) d_Re_readSend_135 rfl (.tail _ (.tail _ (.tail _ (.tail _ (.head _))))) ?_
      refine v_getr (C := "") (pc := 136) (r := 13) d_Re_readSend_136 fl_Re_23 cC_24.1 cC_24.2 (Or.inl ⟨_, rfl⟩) rC_24_2 ?_
      refine v_iload_n (pc := 139) d_Re_readSend_139 rfl (.tail _ (.tail _ (.tail _ (.head _)))) ?_
      refine v_callV (pc := 140) (J' := jLo_numberOf) (d' := d) (o := 13) (ci := 4) (N := 7) (T := cT4) (As := [vI x4]) d_Re_readSend_140 ml_Re_231 cC_13.1 cC_13.2 (by decide) rfl rfl (Nat.le_of_ble_eq_true rfl) (Nat.le_refl _) rfl (Cal.weak h (fun o w27 h => ?_))
      rcases rI_of h with ⟨x28, rfl, h⟩
      refine v_iconst (pc := 143) d_Re_readSend_143 (by decide) ?_
      refine v_callV (pc := 144) (J' := jCo_add) (d' := d) (o := 19) (ci := 0) (N := 6) (T := cT0) (As := [vI 28, vI x28, vI 0]) d_Re_readSend_144 ml_Re_87 cC_19.1 cC_19.2 (by decide) rfl rfl (Nat.le_of_ble_eq_true rfl) (Nat.le_refl _) rfl (Cal.weak h (fun o w29 h => ?_))
      rcases rI_of h with ⟨x30, rfl, h⟩
      refine v_pop (pc := 147) d_Re_readSend_147 rfl ?_
      refine v_aload_n (pc := 148) d_Re_readSend_148 rfl (.tail _ (.tail _ (.tail _ (.tail _ (.head _))))) ?_
      refine v_getr (C := "") (pc := 149) (r := 19) d_Re_readSend_149 fl_Re_28 cC_24.1 cC_24.2 (Or.inl ⟨_, rfl⟩) rC_24_3 ?_
      refine v_bipush (pc := 152) d_Re_readSend_152 (by decide) rfl ?_
      refine v_iload_n (pc := 154) d_Re_readSend_154 rfl (.tail _ (.tail _ (.head _))) ?_
      refine v_iconst (pc := 155) d_Re_readSend_155 (by decide) ?_
      refine v_iadd (pc := 156) d_Re_readSend_156 ?_
      refine v_iconst (pc := 157) d_Re_readSend_157 (by decide) ?_
      refine v_callV (pc := 158) (J' := jCo_add) (d' := d) (o := 19) (ci := 0) (N := 6) (T := cT0) (As := [vI 25, vI (wr (x6 + 1)), vI 0]) d_Re_readSend_158 ml_Re_87 cC_19.1 cC_19.2 (by decide) rfl rfl (Nat.le_of_ble_eq_true rfl) (Nat.le_refl _) rfl (Cal.weak h (fun o w31 h => ?_))
      rcases rI_of h with ⟨x32, rfl, h⟩
      refine v_pop (pc := 161) d_Re_readSend_161 rfl ?_
      refine v_aload_n (pc := 162) d_Re_readSend_162 rfl (.tail _ (.tail _ (.tail _ (.tail _ (.head _))))) ?_
      refine v_getr (C := "") (pc := 163) (r := 19) d_Re_readSend_163 fl_Re_28 cC_24.1 cC_24.2 (Or.inl ⟨_, rfl⟩) rC_24_3 ?_
      refine v_iload_n (pc := 166) d_Re_readSend_166 rfl (.tail _ (.tail _ (.head _))) ?_
      refine v_callV (pc := 167) (J' := jCo_aimHere) (d' := d) (o := 19) (ci := 0) (N := 6) (T := cT0) (As := [vI x6]) d_Re_readSend_167 ml_Re_244 cC_19.1 cC_19.2 (by decide) rfl rfl (Nat.le_of_ble_eq_true rfl) (Nat.le_refl _) rfl (Cal.weak h (fun o w33 h => ?_))
      rcases rV_of h with ⟨rfl, h⟩
      exact v_vret (pc := 170) d_Re_readSend_170 rfl h
  · replace h := h.2 c
    refine v_bipush (pc := 91) d_Re_readSend_91 (by decide) rfl ?_
    refine v_goto (pc := 93) (tgt := 98) d_Re_readSend_93 (by decide) ?_
    refine v_callV (pc := 98) (J' := jCu_take) (d' := d) (o := 25) (ci := 1) (N := 6) (T := cT1) (As := [vI 46]) d_Re_readSend_98 ml_Re_71 cC_25.1 cC_25.2 (by decide) rfl rfl (Nat.le_of_ble_eq_true rfl) (Nat.le_refl _) rfl (Cal.weak h (fun o w34 h => ?_))
    rcases rI_of h with ⟨x35, rfl, h⟩
    refine v_pop (pc := 101) d_Re_readSend_101 rfl ?_
    refine v_aload_n (pc := 102) d_Re_readSend_102 rfl (.tail _ (.tail _ (.tail _ (.tail _ (.head _))))) ?_
    refine v_getr (C := "") (pc := 103) (r := 25) d_Re_readSend_103 fl_Re_34 cC_24.1 cC_24.2 (Or.inl ⟨_, rfl⟩) rC_24_4 ?_
    refine v_iconst (pc := 106) d_Re_readSend_106 (by decide) ?_
    refine v_callV (pc := 107) (J' := jCu_take) (d' := d) (o := 25) (ci := 1) (N := 6) (T := cT1) (As := [vI 4]) d_Re_readSend_107 ml_Re_71 cC_25.1 cC_25.2 (by decide) rfl rfl (Nat.le_of_ble_eq_true rfl) (Nat.le_refl _) rfl (Cal.weak h (fun o w36 h => ?_))
    rcases rI_of h with ⟨x37, rfl, h⟩
    refine v_pop (pc := 110) d_Re_readSend_110 rfl ?_
    refine v_aload_n (pc := 111) d_Re_readSend_111 rfl (.tail _ (.tail _ (.tail _ (.tail _ (.head _))))) ?_
    refine v_getr (C := "") (pc := 112) (r := 19) d_Re_readSend_112 fl_Re_28 cC_24.1 cC_24.2 (Or.inl ⟨_, rfl⟩) rC_24_3 ?_
    refine v_iload_n (pc := 115) d_Re_readSend_115 rfl (.tail _ (.tail _ (.head _))) ?_
    refine v_iload (pc := 116) d_Re_readSend_116 (.head _) ?_
    refine v_ifeq (pc := 118) (tgt := 125) d_Re_readSend_118 (by decide) (fun c => ?_) (fun c => ?_)
    · replace h := h.1 c
      refine v_iconst (pc := 125) d_Re_readSend_125 (by decide) ?_
      refine v_callV (pc := 126) (J' := jCo_mark) (d' := d) (o := 19) (ci := 0) (N := 6) (T := cT0) (As := [vI x6, vI 0]) d_Re_readSend_126 ml_Re_241 cC_19.1 cC_19.2 (by decide) rfl rfl (Nat.le_of_ble_eq_true rfl) (Nat.le_refl _) rfl (Cal.weak h (fun o w38 h => ?_))
      rcases rV_of h with ⟨rfl, h⟩
      refine v_aload_n (pc := 129) d_Re_readSend_129 rfl (.tail _ (.tail _ (.tail _ (.tail _ (.head _))))) ?_
      refine v_getr (C := "") (pc := 130) (r := 19) d_Re_readSend_130 fl_Re_28 cC_24.1 cC_24.2 (Or.inl ⟨_, rfl⟩) rC_24_3 ?_
      refine v_bipush (pc := 133) d_Re_readSend_133 (by decide) rfl ?_
      refine v_aload_n (pc := 135) d_Re_readSend_135 rfl (.tail _ (.tail _ (.tail _ (.tail _ (.head _))))) ?_
      refine v_getr (C := "") (pc := 136) (r := 13) d_Re_readSend_136 fl_Re_23 cC_24.1 cC_24.2 (Or.inl ⟨_, rfl⟩) rC_24_2 ?_
      refine v_iload_n (pc := 139) d_Re_readSend_139 rfl (.tail _ (.tail _ (.tail _ (.head _)))) ?_
      refine v_callV (pc := 140) (J' := jLo_numberOf) (d' := d) (o := 13) (ci := 4) (N := 7) (T := cT4) (As := [vI x4]) d_Re_readSend_140 ml_Re_231 cC_13.1 cC_13.2 (by decide) rfl rfl (Nat.le_of_ble_eq_true rfl) (Nat.le_refl _) rfl (Cal.weak h (fun o w39 h => ?_))
      rcases rI_of h with ⟨x40, rfl, h⟩
      refine v_iconst (pc := 143) d_Re_readSend_143 (by decide) ?_
      refine v_callV (pc := 144) (J' := jCo_add) (d' := d) (o := 19) (ci := 0) (N := 6) (T := cT0) (As := [vI 28, vI x40, vI 0]) d_Re_readSend_144 ml_Re_87 cC_19.1 cC_19.2 (by decide) rfl rfl (Nat.le_of_ble_eq_true rfl) (Nat.le_refl _) rfl (Cal.weak h (fun o w41 h => ?_))
      rcases rI_of h with ⟨x42, rfl, h⟩
      refine v_pop (pc := 147) d_Re_readSend_147 rfl ?_
      refine v_aload_n (pc := 148) d_Re_readSend_148 rfl (.tail _ (.tail _ (.tail _ (.tail _ (.head _))))) ?_
      refine v_getr (C := "") (pc := 149) (r := 19) d_Re_readSend_149 fl_Re_28 cC_24.1 cC_24.2 (Or.inl ⟨_, rfl⟩) rC_24_3 ?_
      refine v_bipush (pc := 152) d_Re_readSend_152 (by decide) rfl ?_
      refine v_iload_n (pc := 154) d_Re_readSend_154 rfl (.tail _ (.tail _ (.head _))) ?_
      refine v_iconst (pc := 155) d_Re_readSend_155 (by decide) ?_
      refine v_iadd (pc := 156) d_Re_readSend_156 ?_
      refine v_iconst (pc := 157) d_Re_readSend_157 (by decide) ?_
      refine v_callV (pc := 158) (J' := jCo_add) (d' := d) (o := 19) (ci := 0) (N := 6) (T := cT0) (As := [vI 25, vI (wr (x6 + 1)), vI 0]) d_Re_readSend_158 ml_Re_87 cC_19.1 cC_19.2 (by decide) rfl rfl (Nat.le_of_ble_eq_true rfl) (Nat.le_refl _) rfl (Cal.weak h (fun o w43 h => ?_))
      rcases rI_of h with ⟨x44, rfl, h⟩
      refine v_pop (pc := 161) d_Re_readSend_161 rfl ?_
      refine v_aload_n (pc := 162) d_Re_readSend_162 rfl (.tail _ (.tail _ (.tail _ (.tail _ (.head _))))) ?_
      refine v_getr (C := "") (pc := 163) (r := 19) d_Re_readSend_163 fl_Re_28 cC_24.1 cC_24.2 (Or.inl ⟨_, rfl⟩) rC_24_3 ?_
      refine v_iload_n (pc := 166) d_Re_readSend_166 rfl (.tail _ (.tail _ (.head _))) ?_
      refine v_callV (pc := 167) (J' := jCo_aimHere) (d' := d) (o := 19) (ci := 0) (N := 6) (T := cT0) (As := [vI x6]) d_Re_readSend_167 ml_Re_244 cC_19.1 cC_19.2 (by decide) rfl rfl (Nat.le_of_ble_eq_true rfl) (Nat.le_refl _) rfl (Cal.weak h (fun o w45 h => ?_))
      rcases rV_of h with ⟨rfl, h⟩
      exact v_vret (pc := 170) d_Re_readSend_170 rfl h
    · replace h := h.2 c
      refine v_iconst (pc := 121) d_Re_readSend_121 (by decide) ?_
      refine v_goto (pc := 122) (tgt := 126) d_Re_readSend_122 (by decide) ?_
      refine v_callV (pc := 126) (J' := jCo_mark) (d' := d) (o := 19) (ci := 0) (N := 6) (T := cT0) (As := [vI x6, vI 1]) d_Re_readSend_126 ml_Re_241 cC_19.1 cC_19.2 (by decide) rfl rfl (Nat.le_of_ble_eq_true rfl) (Nat.le_refl _) rfl (Cal.weak h (fun o w46 h => ?_))
      rcases rV_of h with ⟨rfl, h⟩
      refine v_aload_n (pc := 129) d_Re_readSend_129 rfl (.tail _ (.tail _ (.tail _ (.tail _ (.head _))))) ?_
      refine v_getr (C := "") (pc := 130) (r := 19) d_Re_readSend_130 fl_Re_28 cC_24.1 cC_24.2 (Or.inl ⟨_, rfl⟩) rC_24_3 ?_
      refine v_bipush (pc := 133) d_Re_readSend_133 (by decide) rfl ?_
      refine v_aload_n (pc := 135) d_Re_readSend_135 rfl (.tail _ (.tail _ (.tail _ (.tail _ (.head _))))) ?_
      refine v_getr (C := "") (pc := 136) (r := 13) d_Re_readSend_136 fl_Re_23 cC_24.1 cC_24.2 (Or.inl ⟨_, rfl⟩) rC_24_2 ?_
      refine v_iload_n (pc := 139) d_Re_readSend_139 rfl (.tail _ (.tail _ (.tail _ (.head _)))) ?_
      refine v_callV (pc := 140) (J' := jLo_numberOf) (d' := d) (o := 13) (ci := 4) (N := 7) (T := cT4) (As := [vI x4]) d_Re_readSend_140 ml_Re_231 cC_13.1 cC_13.2 (by decide) rfl rfl (Nat.le_of_ble_eq_true rfl) (Nat.le_refl _) rfl (Cal.weak h (fun o w47 h => ?_))
      rcases rI_of h with ⟨x48, rfl, h⟩
      refine v_iconst (pc := 143) d_Re_readSend_143 (by decide) ?_
      refine v_callV (pc := 144) (J' := jCo_add) (d' := d) (o := 19) (ci := 0) (N := 6) (T := cT0) (As := [vI 28, vI x48, vI 0]) d_Re_readSend_144 ml_Re_87 cC_19.1 cC_19.2 (by decide) rfl rfl (Nat.le_of_ble_eq_true rfl) (Nat.le_refl _) rfl (Cal.weak h (fun o w49 h => ?_))
      rcases rI_of h with ⟨x50, rfl, h⟩
      refine v_pop (pc := 147) d_Re_readSend_147 rfl ?_
      refine v_aload_n (pc := 148) d_Re_readSend_148 rfl (.tail _ (.tail _ (.tail _ (.tail _ (.head _))))) ?_
      refine v_getr (C := "") (pc := 149) (r := 19) d_Re_readSend_149 fl_Re_28 cC_24.1 cC_24.2 (Or.inl ⟨_, rfl⟩) rC_24_3 ?_
      refine v_bipush (pc := 152) d_Re_readSend_152 (by decide) rfl ?_
      refine v_iload_n (pc := 154) d_Re_readSend_154 rfl (.tail _ (.tail _ (.head _))) ?_
      refine v_iconst (pc := 155) d_Re_readSend_155 (by decide) ?_
      refine v_iadd (pc := 156) d_Re_readSend_156 ?_
      refine v_iconst (pc := 157) d_Re_readSend_157 (by decide) ?_
      refine v_callV (pc := 158) (J' := jCo_add) (d' := d) (o := 19) (ci := 0) (N := 6) (T := cT0) (As := [vI 25, vI (wr (x6 + 1)), vI 0]) d_Re_readSend_158 ml_Re_87 cC_19.1 cC_19.2 (by decide) rfl rfl (Nat.le_of_ble_eq_true rfl) (Nat.le_refl _) rfl (Cal.weak h (fun o w51 h => ?_))
      rcases rI_of h with ⟨x52, rfl, h⟩
      refine v_pop (pc := 161) d_Re_readSend_161 rfl ?_
      refine v_aload_n (pc := 162) d_Re_readSend_162 rfl (.tail _ (.tail _ (.tail _ (.tail _ (.head _))))) ?_
      refine v_getr (C := "") (pc := 163) (r := 19) d_Re_readSend_163 fl_Re_28 cC_24.1 cC_24.2 (Or.inl ⟨_, rfl⟩) rC_24_3 ?_
      refine v_iload_n (pc := 166) d_Re_readSend_166 rfl (.tail _ (.tail _ (.head _))) ?_
      refine v_callV (pc := 167) (J' := jCo_aimHere) (d' := d) (o := 19) (ci := 0) (N := 6) (T := cT0) (As := [vI x6]) d_Re_readSend_167 ml_Re_244 cC_19.1 cC_19.2 (by decide) rfl rfl (Nat.le_of_ble_eq_true rfl) (Nat.le_refl _) rfl (Cal.weak h (fun o w53 h => ?_))
      rcases rV_of h with ⟨rfl, h⟩
      exact v_vret (pc := 170) d_Re_readSend_170 rfl h
theorem d_Re_readGive_0 : decode jRe_readGive.cc 0 = .ok (.aload_n 0, 1) := by decide +kernel
theorem d_Re_readGive_1 : decode jRe_readGive.cc 1 = .ok (.getfield 34, 3) := by decide +kernel
theorem d_Re_readGive_4 : decode jRe_readGive.cc 4 = .ok (.bipush 47, 2) := by decide +kernel
theorem d_Re_readGive_6 : decode jRe_readGive.cc 6 = .ok (.invokevirtual 71, 3) := by decide +kernel
theorem d_Re_readGive_9 : decode jRe_readGive.cc 9 = .ok (.pop, 1) := by decide +kernel
theorem d_Re_readGive_10 : decode jRe_readGive.cc 10 = .ok (.aload_n 0, 1) := by decide +kernel
theorem d_Re_readGive_11 : decode jRe_readGive.cc 11 = .ok (.iconst 3, 1) := by decide +kernel
theorem d_Re_readGive_12 : decode jRe_readGive.cc 12 = .ok (.invokevirtual 235, 3) := by decide +kernel
theorem d_Re_readGive_15 : decode jRe_readGive.cc 15 = .ok (.istore_n 2, 1) := by decide +kernel
theorem d_Re_readGive_16 : decode jRe_readGive.cc 16 = .ok (.aload_n 0, 1) := by decide +kernel
theorem d_Re_readGive_17 : decode jRe_readGive.cc 17 = .ok (.getfield 43, 3) := by decide +kernel
theorem d_Re_readGive_20 : decode jRe_readGive.cc 20 = .ok (.iload_n 1, 1) := by decide +kernel
theorem d_Re_readGive_21 : decode jRe_readGive.cc 21 = .ok (.invokevirtual 222, 3) := by decide +kernel
theorem d_Re_readGive_24 : decode jRe_readGive.cc 24 = .ok (.istore_n 3, 1) := by decide +kernel
theorem d_Re_readGive_25 : decode jRe_readGive.cc 25 = .ok (.aload_n 0, 1) := by decide +kernel
theorem d_Re_readGive_26 : decode jRe_readGive.cc 26 = .ok (.getfield 43, 3) := by decide +kernel
theorem d_Re_readGive_29 : decode jRe_readGive.cc 29 = .ok (.iload_n 3, 1) := by decide +kernel
theorem d_Re_readGive_30 : decode jRe_readGive.cc 30 = .ok (.aload_n 0, 1) := by decide +kernel
theorem d_Re_readGive_31 : decode jRe_readGive.cc 31 = .ok (.getfield 23, 3) := by decide +kernel
theorem d_Re_readGive_34 : decode jRe_readGive.cc 34 = .ok (.iload_n 2, 1) := by decide +kernel
theorem d_Re_readGive_35 : decode jRe_readGive.cc 35 = .ok (.invokevirtual 225, 3) := by decide +kernel
theorem d_Re_readGive_38 : decode jRe_readGive.cc 38 = .ok (.invokevirtual 228, 3) := by decide +kernel
theorem d_Re_readGive_41 : decode jRe_readGive.cc 41 = .ok (.aload_n 0, 1) := by decide +kernel
theorem d_Re_readGive_42 : decode jRe_readGive.cc 42 = .ok (.getfield 34, 3) := by decide +kernel
theorem d_Re_readGive_45 : decode jRe_readGive.cc 45 = .ok (.iconst 4, 1) := by decide +kernel
theorem d_Re_readGive_46 : decode jRe_readGive.cc 46 = .ok (.invokevirtual 71, 3) := by decide +kernel
theorem d_Re_readGive_49 : decode jRe_readGive.cc 49 = .ok (.pop, 1) := by decide +kernel
theorem d_Re_readGive_50 : decode jRe_readGive.cc 50 = .ok (.aload_n 0, 1) := by decide +kernel
theorem d_Re_readGive_51 : decode jRe_readGive.cc 51 = .ok (.getfield 28, 3) := by decide +kernel
theorem d_Re_readGive_54 : decode jRe_readGive.cc 54 = .ok (.bipush 29, 2) := by decide +kernel
theorem d_Re_readGive_56 : decode jRe_readGive.cc 56 = .ok (.aload_n 0, 1) := by decide +kernel
theorem d_Re_readGive_57 : decode jRe_readGive.cc 57 = .ok (.getfield 23, 3) := by decide +kernel
theorem d_Re_readGive_60 : decode jRe_readGive.cc 60 = .ok (.iload_n 2, 1) := by decide +kernel
theorem d_Re_readGive_61 : decode jRe_readGive.cc 61 = .ok (.invokevirtual 231, 3) := by decide +kernel
theorem d_Re_readGive_64 : decode jRe_readGive.cc 64 = .ok (.iconst 0, 1) := by decide +kernel
theorem d_Re_readGive_65 : decode jRe_readGive.cc 65 = .ok (.invokevirtual 87, 3) := by decide +kernel
theorem d_Re_readGive_68 : decode jRe_readGive.cc 68 = .ok (.pop, 1) := by decide +kernel
theorem d_Re_readGive_69 : decode jRe_readGive.cc 69 = .ok (.return_, 1) := by decide +kernel
set_option maxHeartbeats 4000000 in
theorem s_Re_readGive {g : Mg} {d : Nat} {K : Ou → Wd → Prop} {w : Wd} {p1 : Int} (h : Cal g LC jCu_take d [vA 25, vI 47] w (fun o w1 => rI o (fun x2 => Cal g LC jRe_namedEntry d [vA 24, vI 3] w1 (fun o w3 => rI o (fun x4 => Cal g LC jEx_exp d [vA 26, vI p1] w3 (fun o w5 => rI o (fun x6 => Cal g LC jLo_kindOf d [vA 13, vI x4] w5 (fun o w7 => rI o (fun x8 => Cal g LC jEx_demand d [vA 26, vI x6, vI x8] w7 (fun o w9 => rV o (Cal g LC jCu_take d [vA 25, vI 4] w9 (fun o w10 => rI o (fun x11 => Cal g LC jLo_numberOf d [vA 13, vI x4] w10 (fun o w12 => rI o (fun x13 => Cal g LC jCo_add d [vA 19, vI 29, vI x13, vI 0] w12 (fun o w14 => rI o (fun x15 => K (.inl none) w14))))))))))))))))) : V g LC jRe_readGive (d + 1) K 0 [(0, vA 24), (1, vI p1)] [] w := by
  refine v_aload_n (pc := 0) d_Re_readGive_0 rfl (.head _) ?_
  refine v_getr (C := "") (pc := 1) (r := 25) d_Re_readGive_1 fl_Re_34 cC_24.1 cC_24.2 (Or.inl ⟨_, rfl⟩) rC_24_4 ?_
  refine v_bipush (pc := 4) d_Re_readGive_4 (by decide) rfl ?_
  refine v_callV (pc := 6) (J' := jCu_take) (d' := d) (o := 25) (ci := 1) (N := 6) (T := cT1) (As := [vI 47]) d_Re_readGive_6 ml_Re_71 cC_25.1 cC_25.2 (by decide) rfl rfl (Nat.le_of_ble_eq_true rfl) (Nat.le_refl _) rfl (Cal.weak h (fun o w1 h => ?_))
  rcases rI_of h with ⟨x2, rfl, h⟩
  refine v_pop (pc := 9) d_Re_readGive_9 rfl ?_
  refine v_aload_n (pc := 10) d_Re_readGive_10 rfl (.head _) ?_
  refine v_iconst (pc := 11) d_Re_readGive_11 (by decide) ?_
  refine v_callV (pc := 12) (J' := jRe_namedEntry) (d' := d) (o := 24) (ci := 8) (N := 7) (T := cT8) (As := [vI 3]) d_Re_readGive_12 ml_Re_235 cC_24.1 cC_24.2 (by decide) rfl rfl (Nat.le_of_ble_eq_true rfl) (Nat.le_refl _) rfl (Cal.weak h (fun o w3 h => ?_))
  rcases rI_of h with ⟨x4, rfl, h⟩
  refine v_istore_n (pc := 15) (ls' := [(2, vI x4), (0, vA 24), (1, vI p1)]) d_Re_readGive_15 rfl (by decide) rfl ?_
  refine v_aload_n (pc := 16) d_Re_readGive_16 rfl (.tail _ (.head _)) ?_
  refine v_getr (C := "") (pc := 17) (r := 26) d_Re_readGive_17 fl_Re_43 cC_24.1 cC_24.2 (Or.inl ⟨_, rfl⟩) rC_24_5 ?_
  refine v_iload_n (pc := 20) d_Re_readGive_20 rfl (.tail _ (.tail _ (.head _))) ?_
  refine v_callV (pc := 21) (J' := jEx_exp) (d' := d) (o := 26) (ci := 2) (N := 9) (T := cT2) (As := [vI p1]) d_Re_readGive_21 ml_Re_222 cC_26.1 cC_26.2 (by decide) rfl rfl (Nat.le_of_ble_eq_true rfl) (Nat.le_refl _) rfl (Cal.weak h (fun o w5 h => ?_))
  rcases rI_of h with ⟨x6, rfl, h⟩
  refine v_istore_n (pc := 24) (ls' := [(3, vI x6), (2, vI x4), (0, vA 24), (1, vI p1)]) d_Re_readGive_24 rfl (by decide) rfl ?_
  refine v_aload_n (pc := 25) d_Re_readGive_25 rfl (.tail _ (.tail _ (.head _))) ?_
  refine v_getr (C := "") (pc := 26) (r := 26) d_Re_readGive_26 fl_Re_43 cC_24.1 cC_24.2 (Or.inl ⟨_, rfl⟩) rC_24_5 ?_
  refine v_iload_n (pc := 29) d_Re_readGive_29 rfl (.head _) ?_
  refine v_aload_n (pc := 30) d_Re_readGive_30 rfl (.tail _ (.tail _ (.head _))) ?_
  refine v_getr (C := "") (pc := 31) (r := 13) d_Re_readGive_31 fl_Re_23 cC_24.1 cC_24.2 (Or.inl ⟨_, rfl⟩) rC_24_2 ?_
  refine v_iload_n (pc := 34) d_Re_readGive_34 rfl (.tail _ (.head _)) ?_
  refine v_callV (pc := 35) (J' := jLo_kindOf) (d' := d) (o := 13) (ci := 4) (N := 7) (T := cT4) (As := [vI x4]) d_Re_readGive_35 ml_Re_225 cC_13.1 cC_13.2 (by decide) rfl rfl (Nat.le_of_ble_eq_true rfl) (Nat.le_refl _) rfl (Cal.weak h (fun o w7 h => ?_))
  rcases rI_of h with ⟨x8, rfl, h⟩
  refine v_callV (pc := 38) (J' := jEx_demand) (d' := d) (o := 26) (ci := 2) (N := 9) (T := cT2) (As := [vI x6, vI x8]) d_Re_readGive_38 ml_Re_228 cC_26.1 cC_26.2 (by decide) rfl rfl (Nat.le_of_ble_eq_true rfl) (Nat.le_refl _) rfl (Cal.weak h (fun o w9 h => ?_))
  rcases rV_of h with ⟨rfl, h⟩
  refine v_aload_n (pc := 41) d_Re_readGive_41 rfl (.tail _ (.tail _ (.head _))) ?_
  refine v_getr (C := "") (pc := 42) (r := 25) d_Re_readGive_42 fl_Re_34 cC_24.1 cC_24.2 (Or.inl ⟨_, rfl⟩) rC_24_4 ?_
  refine v_iconst (pc := 45) d_Re_readGive_45 (by decide) ?_
  refine v_callV (pc := 46) (J' := jCu_take) (d' := d) (o := 25) (ci := 1) (N := 6) (T := cT1) (As := [vI 4]) d_Re_readGive_46 ml_Re_71 cC_25.1 cC_25.2 (by decide) rfl rfl (Nat.le_of_ble_eq_true rfl) (Nat.le_refl _) rfl (Cal.weak h (fun o w10 h => ?_))
  rcases rI_of h with ⟨x11, rfl, h⟩
  refine v_pop (pc := 49) d_Re_readGive_49 rfl ?_
  refine v_aload_n (pc := 50) d_Re_readGive_50 rfl (.tail _ (.tail _ (.head _))) ?_
  refine v_getr (C := "") (pc := 51) (r := 19) d_Re_readGive_51 fl_Re_28 cC_24.1 cC_24.2 (Or.inl ⟨_, rfl⟩) rC_24_3 ?_
  refine v_bipush (pc := 54) d_Re_readGive_54 (by decide) rfl ?_
  refine v_aload_n (pc := 56) d_Re_readGive_56 rfl (.tail _ (.tail _ (.head _))) ?_
  refine v_getr (C := "") (pc := 57) (r := 13) d_Re_readGive_57 fl_Re_23 cC_24.1 cC_24.2 (Or.inl ⟨_, rfl⟩) rC_24_2 ?_
  refine v_iload_n (pc := 60) d_Re_readGive_60 rfl (.tail _ (.head _)) ?_
  refine v_callV (pc := 61) (J' := jLo_numberOf) (d' := d) (o := 13) (ci := 4) (N := 7) (T := cT4) (As := [vI x4]) d_Re_readGive_61 ml_Re_231 cC_13.1 cC_13.2 (by decide) rfl rfl (Nat.le_of_ble_eq_true rfl) (Nat.le_refl _) rfl (Cal.weak h (fun o w12 h => ?_))
  rcases rI_of h with ⟨x13, rfl, h⟩
  refine v_iconst (pc := 64) d_Re_readGive_64 (by decide) ?_
  refine v_callV (pc := 65) (J' := jCo_add) (d' := d) (o := 19) (ci := 0) (N := 6) (T := cT0) (As := [vI 29, vI x13, vI 0]) d_Re_readGive_65 ml_Re_87 cC_19.1 cC_19.2 (by decide) rfl rfl (Nat.le_of_ble_eq_true rfl) (Nat.le_refl _) rfl (Cal.weak h (fun o w14 h => ?_))
  rcases rI_of h with ⟨x15, rfl, h⟩
  refine v_pop (pc := 68) d_Re_readGive_68 rfl ?_
  exact v_vret (pc := 69) d_Re_readGive_69 rfl h
theorem d_Re_readIf_0 : decode jRe_readIf.cc 0 = .ok (.aload_n 0, 1) := by decide +kernel
theorem d_Re_readIf_1 : decode jRe_readIf.cc 1 = .ok (.getfield 34, 3) := by decide +kernel
theorem d_Re_readIf_4 : decode jRe_readIf.cc 4 = .ok (.bipush 48, 2) := by decide +kernel
theorem d_Re_readIf_6 : decode jRe_readIf.cc 6 = .ok (.invokevirtual 71, 3) := by decide +kernel
theorem d_Re_readIf_9 : decode jRe_readIf.cc 9 = .ok (.pop, 1) := by decide +kernel
theorem d_Re_readIf_10 : decode jRe_readIf.cc 10 = .ok (.aload_n 0, 1) := by decide +kernel
theorem d_Re_readIf_11 : decode jRe_readIf.cc 11 = .ok (.getfield 43, 3) := by decide +kernel
theorem d_Re_readIf_14 : decode jRe_readIf.cc 14 = .ok (.iload_n 1, 1) := by decide +kernel
theorem d_Re_readIf_15 : decode jRe_readIf.cc 15 = .ok (.invokevirtual 222, 3) := by decide +kernel
theorem d_Re_readIf_18 : decode jRe_readIf.cc 18 = .ok (.istore_n 2, 1) := by decide +kernel
theorem d_Re_readIf_19 : decode jRe_readIf.cc 19 = .ok (.aload_n 0, 1) := by decide +kernel
theorem d_Re_readIf_20 : decode jRe_readIf.cc 20 = .ok (.getfield 43, 3) := by decide +kernel
theorem d_Re_readIf_23 : decode jRe_readIf.cc 23 = .ok (.iload_n 2, 1) := by decide +kernel
theorem d_Re_readIf_24 : decode jRe_readIf.cc 24 = .ok (.iconst 2, 1) := by decide +kernel
theorem d_Re_readIf_25 : decode jRe_readIf.cc 25 = .ok (.invokevirtual 228, 3) := by decide +kernel
theorem d_Re_readIf_28 : decode jRe_readIf.cc 28 = .ok (.aload_n 0, 1) := by decide +kernel
theorem d_Re_readIf_29 : decode jRe_readIf.cc 29 = .ok (.getfield 28, 3) := by decide +kernel
theorem d_Re_readIf_32 : decode jRe_readIf.cc 32 = .ok (.bipush 20, 2) := by decide +kernel
theorem d_Re_readIf_34 : decode jRe_readIf.cc 34 = .ok (.iconst 0, 1) := by decide +kernel
theorem d_Re_readIf_35 : decode jRe_readIf.cc 35 = .ok (.iconst 0, 1) := by decide +kernel
theorem d_Re_readIf_36 : decode jRe_readIf.cc 36 = .ok (.invokevirtual 87, 3) := by decide +kernel
theorem d_Re_readIf_39 : decode jRe_readIf.cc 39 = .ok (.istore_n 3, 1) := by decide +kernel
theorem d_Re_readIf_40 : decode jRe_readIf.cc 40 = .ok (.aload_n 0, 1) := by decide +kernel
theorem d_Re_readIf_41 : decode jRe_readIf.cc 41 = .ok (.iload_n 1, 1) := by decide +kernel
theorem d_Re_readIf_42 : decode jRe_readIf.cc 42 = .ok (.invokevirtual 83, 3) := by decide +kernel
theorem d_Re_readIf_45 : decode jRe_readIf.cc 45 = .ok (.aload_n 0, 1) := by decide +kernel
theorem d_Re_readIf_46 : decode jRe_readIf.cc 46 = .ok (.getfield 34, 3) := by decide +kernel
theorem d_Re_readIf_49 : decode jRe_readIf.cc 49 = .ok (.bipush 49, 2) := by decide +kernel
theorem d_Re_readIf_51 : decode jRe_readIf.cc 51 = .ok (.invokevirtual 94, 3) := by decide +kernel
theorem d_Re_readIf_54 : decode jRe_readIf.cc 54 = .ok (.ifCond .ne 12, 3) := by decide +kernel
theorem d_Re_readIf_57 : decode jRe_readIf.cc 57 = .ok (.aload_n 0, 1) := by decide +kernel
theorem d_Re_readIf_58 : decode jRe_readIf.cc 58 = .ok (.getfield 28, 3) := by decide +kernel
theorem d_Re_readIf_61 : decode jRe_readIf.cc 61 = .ok (.iload_n 3, 1) := by decide +kernel
theorem d_Re_readIf_62 : decode jRe_readIf.cc 62 = .ok (.invokevirtual 244, 3) := by decide +kernel
theorem d_Re_readIf_65 : decode jRe_readIf.cc 65 = .ok (.return_, 1) := by decide +kernel
theorem d_Re_readIf_66 : decode jRe_readIf.cc 66 = .ok (.aload_n 0, 1) := by decide +kernel
theorem d_Re_readIf_67 : decode jRe_readIf.cc 67 = .ok (.getfield 34, 3) := by decide +kernel
theorem d_Re_readIf_70 : decode jRe_readIf.cc 70 = .ok (.bipush 49, 2) := by decide +kernel
theorem d_Re_readIf_72 : decode jRe_readIf.cc 72 = .ok (.invokevirtual 71, 3) := by decide +kernel
theorem d_Re_readIf_75 : decode jRe_readIf.cc 75 = .ok (.pop, 1) := by decide +kernel
theorem d_Re_readIf_76 : decode jRe_readIf.cc 76 = .ok (.aload_n 0, 1) := by decide +kernel
theorem d_Re_readIf_77 : decode jRe_readIf.cc 77 = .ok (.getfield 28, 3) := by decide +kernel
theorem d_Re_readIf_80 : decode jRe_readIf.cc 80 = .ok (.bipush 21, 2) := by decide +kernel
theorem d_Re_readIf_82 : decode jRe_readIf.cc 82 = .ok (.iconst 0, 1) := by decide +kernel
theorem d_Re_readIf_83 : decode jRe_readIf.cc 83 = .ok (.iconst 0, 1) := by decide +kernel
theorem d_Re_readIf_84 : decode jRe_readIf.cc 84 = .ok (.invokevirtual 87, 3) := by decide +kernel
theorem d_Re_readIf_87 : decode jRe_readIf.cc 87 = .ok (.istore 4, 2) := by decide +kernel
theorem d_Re_readIf_89 : decode jRe_readIf.cc 89 = .ok (.aload_n 0, 1) := by decide +kernel
theorem d_Re_readIf_90 : decode jRe_readIf.cc 90 = .ok (.getfield 28, 3) := by decide +kernel
theorem d_Re_readIf_93 : decode jRe_readIf.cc 93 = .ok (.iload_n 3, 1) := by decide +kernel
theorem d_Re_readIf_94 : decode jRe_readIf.cc 94 = .ok (.invokevirtual 244, 3) := by decide +kernel
theorem d_Re_readIf_97 : decode jRe_readIf.cc 97 = .ok (.aload_n 0, 1) := by decide +kernel
theorem d_Re_readIf_98 : decode jRe_readIf.cc 98 = .ok (.iload_n 1, 1) := by decide +kernel
theorem d_Re_readIf_99 : decode jRe_readIf.cc 99 = .ok (.invokevirtual 83, 3) := by decide +kernel
theorem d_Re_readIf_102 : decode jRe_readIf.cc 102 = .ok (.aload_n 0, 1) := by decide +kernel
theorem d_Re_readIf_103 : decode jRe_readIf.cc 103 = .ok (.getfield 28, 3) := by decide +kernel
theorem d_Re_readIf_106 : decode jRe_readIf.cc 106 = .ok (.iload 4, 2) := by decide +kernel
theorem d_Re_readIf_108 : decode jRe_readIf.cc 108 = .ok (.invokevirtual 244, 3) := by decide +kernel
theorem d_Re_readIf_111 : decode jRe_readIf.cc 111 = .ok (.return_, 1) := by decide +kernel
set_option maxHeartbeats 4000000 in
theorem s_Re_readIf {g : Mg} {d : Nat} {K : Ou → Wd → Prop} {w : Wd} {p1 : Int} (h : Cal g LC jCu_take d [vA 25, vI 48] w (fun o w1 => rI o (fun x2 => Cal g LC jEx_exp d [vA 26, vI p1] w1 (fun o w3 => rI o (fun x4 => Cal g LC jEx_demand d [vA 26, vI x4, vI 2] w3 (fun o w5 => rV o (Cal g LC jCo_add d [vA 19, vI 20, vI 0, vI 0] w5 (fun o w6 => rI o (fun x7 => Cal g LC jRe_readBlock d [vA 24, vI p1] w6 (fun o w8 => rV o (Cal g LC jCu_sees d [vA 25, vI 49] w8 (fun o w9 => rI o (fun x10 => (¬ x10 = 0 → (Cal g LC jCu_take d [vA 25, vI 49] w9 (fun o w11 => rI o (fun x12 => Cal g LC jCo_add d [vA 19, vI 21, vI 0, vI 0] w11 (fun o w13 => rI o (fun x14 => Cal g LC jCo_aimHere d [vA 19, vI x7] w13 (fun o w15 => rV o (Cal g LC jRe_readBlock d [vA 24, vI p1] w15 (fun o w16 => rV o (Cal g LC jCo_aimHere d [vA 19, vI x14] w16 (fun o w17 => rV o (K (.inl none) w17)))))))))))) ∧ (x10 = 0 → (Cal g LC jCo_aimHere d [vA 19, vI x7] w9 (fun o w18 => rV o (K (.inl none) w18))))))))))))))))) : V g LC jRe_readIf (d + 1) K 0 [(0, vA 24), (1, vI p1)] [] w := by
  refine v_aload_n (pc := 0) d_Re_readIf_0 rfl (.head _) ?_
  refine v_getr (C := "") (pc := 1) (r := 25) d_Re_readIf_1 fl_Re_34 cC_24.1 cC_24.2 (Or.inl ⟨_, rfl⟩) rC_24_4 ?_
  refine v_bipush (pc := 4) d_Re_readIf_4 (by decide) rfl ?_
  refine v_callV (pc := 6) (J' := jCu_take) (d' := d) (o := 25) (ci := 1) (N := 6) (T := cT1) (As := [vI 48]) d_Re_readIf_6 ml_Re_71 cC_25.1 cC_25.2 (by decide) rfl rfl (Nat.le_of_ble_eq_true rfl) (Nat.le_refl _) rfl (Cal.weak h (fun o w1 h => ?_))
  rcases rI_of h with ⟨x2, rfl, h⟩
  refine v_pop (pc := 9) d_Re_readIf_9 rfl ?_
  refine v_aload_n (pc := 10) d_Re_readIf_10 rfl (.head _) ?_
  refine v_getr (C := "") (pc := 11) (r := 26) d_Re_readIf_11 fl_Re_43 cC_24.1 cC_24.2 (Or.inl ⟨_, rfl⟩) rC_24_5 ?_
  refine v_iload_n (pc := 14) d_Re_readIf_14 rfl (.tail _ (.head _)) ?_
  refine v_callV (pc := 15) (J' := jEx_exp) (d' := d) (o := 26) (ci := 2) (N := 9) (T := cT2) (As := [vI p1]) d_Re_readIf_15 ml_Re_222 cC_26.1 cC_26.2 (by decide) rfl rfl (Nat.le_of_ble_eq_true rfl) (Nat.le_refl _) rfl (Cal.weak h (fun o w3 h => ?_))
  rcases rI_of h with ⟨x4, rfl, h⟩
  refine v_istore_n (pc := 18) (ls' := [(2, vI x4), (0, vA 24), (1, vI p1)]) d_Re_readIf_18 rfl (by decide) rfl ?_
  refine v_aload_n (pc := 19) d_Re_readIf_19 rfl (.tail _ (.head _)) ?_
  refine v_getr (C := "") (pc := 20) (r := 26) d_Re_readIf_20 fl_Re_43 cC_24.1 cC_24.2 (Or.inl ⟨_, rfl⟩) rC_24_5 ?_
  refine v_iload_n (pc := 23) d_Re_readIf_23 rfl (.head _) ?_
  refine v_iconst (pc := 24) d_Re_readIf_24 (by decide) ?_
  refine v_callV (pc := 25) (J' := jEx_demand) (d' := d) (o := 26) (ci := 2) (N := 9) (T := cT2) (As := [vI x4, vI 2]) d_Re_readIf_25 ml_Re_228 cC_26.1 cC_26.2 (by decide) rfl rfl (Nat.le_of_ble_eq_true rfl) (Nat.le_refl _) rfl (Cal.weak h (fun o w5 h => ?_))
  rcases rV_of h with ⟨rfl, h⟩
  refine v_aload_n (pc := 28) d_Re_readIf_28 rfl (.tail _ (.head _)) ?_
  refine v_getr (C := "") (pc := 29) (r := 19) d_Re_readIf_29 fl_Re_28 cC_24.1 cC_24.2 (Or.inl ⟨_, rfl⟩) rC_24_3 ?_
  refine v_bipush (pc := 32) d_Re_readIf_32 (by decide) rfl ?_
  refine v_iconst (pc := 34) d_Re_readIf_34 (by decide) ?_
  refine v_iconst (pc := 35) d_Re_readIf_35 (by decide) ?_
  refine v_callV (pc := 36) (J' := jCo_add) (d' := d) (o := 19) (ci := 0) (N := 6) (T := cT0) (As := [vI 20, vI 0, vI 0]) d_Re_readIf_36 ml_Re_87 cC_19.1 cC_19.2 (by decide) rfl rfl (Nat.le_of_ble_eq_true rfl) (Nat.le_refl _) rfl (Cal.weak h (fun o w6 h => ?_))
  rcases rI_of h with ⟨x7, rfl, h⟩
  refine v_istore_n (pc := 39) (ls' := [(3, vI x7), (2, vI x4), (0, vA 24), (1, vI p1)]) d_Re_readIf_39 rfl (by decide) rfl ?_
  refine v_aload_n (pc := 40) d_Re_readIf_40 rfl (.tail _ (.tail _ (.head _))) ?_
  refine v_iload_n (pc := 41) d_Re_readIf_41 rfl (.tail _ (.tail _ (.tail _ (.head _)))) ?_
  refine v_callV (pc := 42) (J' := jRe_readBlock) (d' := d) (o := 24) (ci := 8) (N := 7) (T := cT8) (As := [vI p1]) d_Re_readIf_42 ml_Re_83 cC_24.1 cC_24.2 (by decide) rfl rfl (Nat.le_of_ble_eq_true rfl) (Nat.le_refl _) rfl (Cal.weak h (fun o w8 h => ?_))
  rcases rV_of h with ⟨rfl, h⟩
  refine v_aload_n (pc := 45) d_Re_readIf_45 rfl (.tail _ (.tail _ (.head _))) ?_
  refine v_getr (C := "") (pc := 46) (r := 25) d_Re_readIf_46 fl_Re_34 cC_24.1 cC_24.2 (Or.inl ⟨_, rfl⟩) rC_24_4 ?_
  refine v_bipush (pc := 49) d_Re_readIf_49 (by decide) rfl ?_
  refine v_callV (pc := 51) (J' := jCu_sees) (d' := d) (o := 25) (ci := 1) (N := 6) (T := cT1) (As := [vI 49]) d_Re_readIf_51 ml_Re_94 cC_25.1 cC_25.2 (by decide) rfl rfl (Nat.le_of_ble_eq_true rfl) (Nat.le_refl _) rfl (Cal.weak h (fun o w9 h => ?_))
  rcases rI_of h with ⟨x10, rfl, h⟩
  refine v_ifne (pc := 54) (tgt := 66) d_Re_readIf_54 (by decide) (fun c => ?_) (fun c => ?_)
  · replace h := h.1 c
    refine v_aload_n (pc := 66) d_Re_readIf_66 rfl (.tail _ (.tail _ (.head _))) ?_
    refine v_getr (C := "") (pc := 67) (r := 25) d_Re_readIf_67 fl_Re_34 cC_24.1 cC_24.2 (Or.inl ⟨_, rfl⟩) rC_24_4 ?_
    refine v_bipush (pc := 70) d_Re_readIf_70 (by decide) rfl ?_
    refine v_callV (pc := 72) (J' := jCu_take) (d' := d) (o := 25) (ci := 1) (N := 6) (T := cT1) (As := [vI 49]) d_Re_readIf_72 ml_Re_71 cC_25.1 cC_25.2 (by decide) rfl rfl (Nat.le_of_ble_eq_true rfl) (Nat.le_refl _) rfl (Cal.weak h (fun o w11 h => ?_))
    rcases rI_of h with ⟨x12, rfl, h⟩
    refine v_pop (pc := 75) d_Re_readIf_75 rfl ?_
    refine v_aload_n (pc := 76) d_Re_readIf_76 rfl (.tail _ (.tail _ (.head _))) ?_
    refine v_getr (C := "") (pc := 77) (r := 19) d_Re_readIf_77 fl_Re_28 cC_24.1 cC_24.2 (Or.inl ⟨_, rfl⟩) rC_24_3 ?_
    refine v_bipush (pc := 80) d_Re_readIf_80 (by decide) rfl ?_
    refine v_iconst (pc := 82) d_Re_readIf_82 (by decide) ?_
    refine v_iconst (pc := 83) d_Re_readIf_83 (by decide) ?_
    refine v_callV (pc := 84) (J' := jCo_add) (d' := d) (o := 19) (ci := 0) (N := 6) (T := cT0) (As := [vI 21, vI 0, vI 0]) d_Re_readIf_84 ml_Re_87 cC_19.1 cC_19.2 (by decide) rfl rfl (Nat.le_of_ble_eq_true rfl) (Nat.le_refl _) rfl (Cal.weak h (fun o w13 h => ?_))
    rcases rI_of h with ⟨x14, rfl, h⟩
    refine v_istore (pc := 87) (ls' := [(4, vI x14), (3, vI x7), (2, vI x4), (0, vA 24), (1, vI p1)]) d_Re_readIf_87 (by decide) rfl ?_
    refine v_aload_n (pc := 89) d_Re_readIf_89 rfl (.tail _ (.tail _ (.tail _ (.head _)))) ?_
    refine v_getr (C := "") (pc := 90) (r := 19) d_Re_readIf_90 fl_Re_28 cC_24.1 cC_24.2 (Or.inl ⟨_, rfl⟩) rC_24_3 ?_
    refine v_iload_n (pc := 93) d_Re_readIf_93 rfl (.tail _ (.head _)) ?_
    refine v_callV (pc := 94) (J' := jCo_aimHere) (d' := d) (o := 19) (ci := 0) (N := 6) (T := cT0) (As := [vI x7]) d_Re_readIf_94 ml_Re_244 cC_19.1 cC_19.2 (by decide) rfl rfl (Nat.le_of_ble_eq_true rfl) (Nat.le_refl _) rfl (Cal.weak h (fun o w15 h => ?_))
    rcases rV_of h with ⟨rfl, h⟩
    refine v_aload_n (pc := 97) d_Re_readIf_97 rfl (.tail _ (.tail _ (.tail _ (.head _)))) ?_
    refine v_iload_n (pc := 98) d_Re_readIf_98 rfl (.tail _ (.tail _ (.tail _ (.tail _ (.head _))))) ?_
    refine v_callV (pc := 99) (J' := jRe_readBlock) (d' := d) (o := 24) (ci := 8) (N := 7) (T := cT8) (As := [vI p1]) d_Re_readIf_99 ml_Re_83 cC_24.1 cC_24.2 (by decide) rfl rfl (Nat.le_of_ble_eq_true rfl) (Nat.le_refl _) rfl (Cal.weak h (fun o w16 h => ?_))
    rcases rV_of h with ⟨rfl, h⟩
    refine v_aload_n (pc := 102) d_Re_readIf_102 rfl (.tail _ (.tail _ (.tail _ (.head _)))) ?_
    refine v_getr (C := "") (pc := 103) (r := 19) d_Re_readIf_103 fl_Re_28 cC_24.1 cC_24.2 (Or.inl ⟨_, rfl⟩) rC_24_3 ?_
    refine v_iload (pc := 106) d_Re_readIf_106 (.head _) ?_
    refine v_callV (pc := 108) (J' := jCo_aimHere) (d' := d) (o := 19) (ci := 0) (N := 6) (T := cT0) (As := [vI x14]) d_Re_readIf_108 ml_Re_244 cC_19.1 cC_19.2 (by decide) rfl rfl (Nat.le_of_ble_eq_true rfl) (Nat.le_refl _) rfl (Cal.weak h (fun o w17 h => ?_))
    rcases rV_of h with ⟨rfl, h⟩
    exact v_vret (pc := 111) d_Re_readIf_111 rfl h
  · replace h := h.2 c
    refine v_aload_n (pc := 57) d_Re_readIf_57 rfl (.tail _ (.tail _ (.head _))) ?_
    refine v_getr (C := "") (pc := 58) (r := 19) d_Re_readIf_58 fl_Re_28 cC_24.1 cC_24.2 (Or.inl ⟨_, rfl⟩) rC_24_3 ?_
    refine v_iload_n (pc := 61) d_Re_readIf_61 rfl (.head _) ?_
    refine v_callV (pc := 62) (J' := jCo_aimHere) (d' := d) (o := 19) (ci := 0) (N := 6) (T := cT0) (As := [vI x7]) d_Re_readIf_62 ml_Re_244 cC_19.1 cC_19.2 (by decide) rfl rfl (Nat.le_of_ble_eq_true rfl) (Nat.le_refl _) rfl (Cal.weak h (fun o w18 h => ?_))
    rcases rV_of h with ⟨rfl, h⟩
    exact v_vret (pc := 65) d_Re_readIf_65 rfl h
theorem d_Re_readLoop_0 : decode jRe_readLoop.cc 0 = .ok (.aload_n 0, 1) := by decide +kernel
theorem d_Re_readLoop_1 : decode jRe_readLoop.cc 1 = .ok (.getfield 34, 3) := by decide +kernel
theorem d_Re_readLoop_4 : decode jRe_readLoop.cc 4 = .ok (.bipush 50, 2) := by decide +kernel
theorem d_Re_readLoop_6 : decode jRe_readLoop.cc 6 = .ok (.invokevirtual 71, 3) := by decide +kernel
theorem d_Re_readLoop_9 : decode jRe_readLoop.cc 9 = .ok (.pop, 1) := by decide +kernel
theorem d_Re_readLoop_10 : decode jRe_readLoop.cc 10 = .ok (.aload_n 0, 1) := by decide +kernel
theorem d_Re_readLoop_11 : decode jRe_readLoop.cc 11 = .ok (.getfield 34, 3) := by decide +kernel
theorem d_Re_readLoop_14 : decode jRe_readLoop.cc 14 = .ok (.iconst 3, 1) := by decide +kernel
theorem d_Re_readLoop_15 : decode jRe_readLoop.cc 15 = .ok (.invokevirtual 94, 3) := by decide +kernel
theorem d_Re_readLoop_18 : decode jRe_readLoop.cc 18 = .ok (.ifCond .eq 31, 3) := by decide +kernel
theorem d_Re_readLoop_21 : decode jRe_readLoop.cc 21 = .ok (.aload_n 0, 1) := by decide +kernel
theorem d_Re_readLoop_22 : decode jRe_readLoop.cc 22 = .ok (.getfield 7, 3) := by decide +kernel
theorem d_Re_readLoop_25 : decode jRe_readLoop.cc 25 = .ok (.getfield 172, 3) := by decide +kernel
theorem d_Re_readLoop_28 : decode jRe_readLoop.cc 28 = .ok (.aload_n 0, 1) := by decide +kernel
theorem d_Re_readLoop_29 : decode jRe_readLoop.cc 29 = .ok (.getfield 34, 3) := by decide +kernel
theorem d_Re_readLoop_32 : decode jRe_readLoop.cc 32 = .ok (.invokevirtual 195, 3) := by decide +kernel
theorem d_Re_readLoop_35 : decode jRe_readLoop.cc 35 = .ok (.iaload, 1) := by decide +kernel
theorem d_Re_readLoop_36 : decode jRe_readLoop.cc 36 = .ok (.bipush 100, 2) := by decide +kernel
theorem d_Re_readLoop_38 : decode jRe_readLoop.cc 38 = .ok (.if_icmp .le 11, 3) := by decide +kernel
theorem d_Re_readLoop_41 : decode jRe_readLoop.cc 41 = .ok (.aload_n 0, 1) := by decide +kernel
theorem d_Re_readLoop_42 : decode jRe_readLoop.cc 42 = .ok (.getfield 34, 3) := by decide +kernel
theorem d_Re_readLoop_45 : decode jRe_readLoop.cc 45 = .ok (.iconst 2, 1) := by decide +kernel
theorem d_Re_readLoop_46 : decode jRe_readLoop.cc 46 = .ok (.invokevirtual 97, 3) := by decide +kernel
theorem d_Re_readLoop_49 : decode jRe_readLoop.cc 49 = .ok (.aload_n 0, 1) := by decide +kernel
theorem d_Re_readLoop_50 : decode jRe_readLoop.cc 50 = .ok (.getfield 7, 3) := by decide +kernel
theorem d_Re_readLoop_53 : decode jRe_readLoop.cc 53 = .ok (.getfield 172, 3) := by decide +kernel
theorem d_Re_readLoop_56 : decode jRe_readLoop.cc 56 = .ok (.aload_n 0, 1) := by decide +kernel
theorem d_Re_readLoop_57 : decode jRe_readLoop.cc 57 = .ok (.getfield 34, 3) := by decide +kernel
theorem d_Re_readLoop_60 : decode jRe_readLoop.cc 60 = .ok (.iconst 3, 1) := by decide +kernel
theorem d_Re_readLoop_61 : decode jRe_readLoop.cc 61 = .ok (.invokevirtual 71, 3) := by decide +kernel
theorem d_Re_readLoop_64 : decode jRe_readLoop.cc 64 = .ok (.iaload, 1) := by decide +kernel
theorem d_Re_readLoop_65 : decode jRe_readLoop.cc 65 = .ok (.istore_n 2, 1) := by decide +kernel
theorem d_Re_readLoop_66 : decode jRe_readLoop.cc 66 = .ok (.aload_n 0, 1) := by decide +kernel
theorem d_Re_readLoop_67 : decode jRe_readLoop.cc 67 = .ok (.getfield 28, 3) := by decide +kernel
theorem d_Re_readLoop_70 : decode jRe_readLoop.cc 70 = .ok (.bipush 22, 2) := by decide +kernel
theorem d_Re_readLoop_72 : decode jRe_readLoop.cc 72 = .ok (.iload_n 2, 1) := by decide +kernel
theorem d_Re_readLoop_73 : decode jRe_readLoop.cc 73 = .ok (.aload_n 0, 1) := by decide +kernel
theorem d_Re_readLoop_74 : decode jRe_readLoop.cc 74 = .ok (.getfield 54, 3) := by decide +kernel
theorem d_Re_readLoop_77 : decode jRe_readLoop.cc 77 = .ok (.invokevirtual 87, 3) := by decide +kernel
theorem d_Re_readLoop_80 : decode jRe_readLoop.cc 80 = .ok (.pop, 1) := by decide +kernel
theorem d_Re_readLoop_81 : decode jRe_readLoop.cc 81 = .ok (.aload_n 0, 1) := by decide +kernel
theorem d_Re_readLoop_82 : decode jRe_readLoop.cc 82 = .ok (.getfield 28, 3) := by decide +kernel
theorem d_Re_readLoop_85 : decode jRe_readLoop.cc 85 = .ok (.bipush 23, 2) := by decide +kernel
theorem d_Re_readLoop_87 : decode jRe_readLoop.cc 87 = .ok (.iconst 0, 1) := by decide +kernel
theorem d_Re_readLoop_88 : decode jRe_readLoop.cc 88 = .ok (.aload_n 0, 1) := by decide +kernel
theorem d_Re_readLoop_89 : decode jRe_readLoop.cc 89 = .ok (.getfield 54, 3) := by decide +kernel
theorem d_Re_readLoop_92 : decode jRe_readLoop.cc 92 = .ok (.invokevirtual 87, 3) := by decide +kernel
theorem d_Re_readLoop_95 : decode jRe_readLoop.cc 95 = .ok (.istore_n 3, 1) := by decide +kernel
theorem d_Re_readLoop_96 : decode jRe_readLoop.cc 96 = .ok (.aload_n 0, 1) := by decide +kernel
theorem d_Re_readLoop_97 : decode jRe_readLoop.cc 97 = .ok (.dup, 1) := by decide +kernel
theorem d_Re_readLoop_98 : decode jRe_readLoop.cc 98 = .ok (.getfield 54, 3) := by decide +kernel
theorem d_Re_readLoop_101 : decode jRe_readLoop.cc 101 = .ok (.iconst 1, 1) := by decide +kernel
theorem d_Re_readLoop_102 : decode jRe_readLoop.cc 102 = .ok (.iadd, 1) := by decide +kernel
theorem d_Re_readLoop_103 : decode jRe_readLoop.cc 103 = .ok (.putfield 54, 3) := by decide +kernel
theorem d_Re_readLoop_106 : decode jRe_readLoop.cc 106 = .ok (.aload_n 0, 1) := by decide +kernel
theorem d_Re_readLoop_107 : decode jRe_readLoop.cc 107 = .ok (.iload_n 1, 1) := by decide +kernel
theorem d_Re_readLoop_108 : decode jRe_readLoop.cc 108 = .ok (.invokevirtual 83, 3) := by decide +kernel
theorem d_Re_readLoop_111 : decode jRe_readLoop.cc 111 = .ok (.aload_n 0, 1) := by decide +kernel
theorem d_Re_readLoop_112 : decode jRe_readLoop.cc 112 = .ok (.dup, 1) := by decide +kernel
theorem d_Re_readLoop_113 : decode jRe_readLoop.cc 113 = .ok (.getfield 54, 3) := by decide +kernel
theorem d_Re_readLoop_116 : decode jRe_readLoop.cc 116 = .ok (.iconst 1, 1) := by decide +kernel
theorem d_Re_readLoop_117 : decode jRe_readLoop.cc 117 = .ok (.isub, 1) := by decide +kernel
theorem d_Re_readLoop_118 : decode jRe_readLoop.cc 118 = .ok (.putfield 54, 3) := by decide +kernel
theorem d_Re_readLoop_121 : decode jRe_readLoop.cc 121 = .ok (.aload_n 0, 1) := by decide +kernel
theorem d_Re_readLoop_122 : decode jRe_readLoop.cc 122 = .ok (.getfield 28, 3) := by decide +kernel
theorem d_Re_readLoop_125 : decode jRe_readLoop.cc 125 = .ok (.bipush 21, 2) := by decide +kernel
theorem d_Re_readLoop_127 : decode jRe_readLoop.cc 127 = .ok (.iload_n 3, 1) := by decide +kernel
theorem d_Re_readLoop_128 : decode jRe_readLoop.cc 128 = .ok (.iconst 0, 1) := by decide +kernel
theorem d_Re_readLoop_129 : decode jRe_readLoop.cc 129 = .ok (.invokevirtual 87, 3) := by decide +kernel
theorem d_Re_readLoop_132 : decode jRe_readLoop.cc 132 = .ok (.pop, 1) := by decide +kernel
theorem d_Re_readLoop_133 : decode jRe_readLoop.cc 133 = .ok (.aload_n 0, 1) := by decide +kernel
theorem d_Re_readLoop_134 : decode jRe_readLoop.cc 134 = .ok (.getfield 28, 3) := by decide +kernel
theorem d_Re_readLoop_137 : decode jRe_readLoop.cc 137 = .ok (.iload_n 3, 1) := by decide +kernel
theorem d_Re_readLoop_138 : decode jRe_readLoop.cc 138 = .ok (.invokevirtual 244, 3) := by decide +kernel
theorem d_Re_readLoop_141 : decode jRe_readLoop.cc 141 = .ok (.return_, 1) := by decide +kernel
set_option maxHeartbeats 4000000 in
theorem s_Re_readLoop {g : Mg} {d : Nat} {K : Ou → Wd → Prop} {w : Wd} {p1 : Int} (h : Cal g LC jCu_take d [vA 25, vI 50] w (fun o w1 => rI o (fun x2 => Cal g LC jCu_sees d [vA 25, vI 3] w1 (fun o w3 => rI o (fun x4 => (x4 = 0 → (Cal g LC jCu_take d [vA 25, vI 3] w3 (fun o w5 => rI o (fun x6 => (0 ≤ x6 ∧ x6 < 1002) ∧ (Cal g LC jCo_add d [vA 19, vI 22, vI (w5 7 x6.toNat), vI (w5 24 6)] w5 (fun o w7 => rI o (fun x8 => Cal g LC jCo_add d [vA 19, vI 23, vI 0, vI (w7 24 6)] w7 (fun o w9 => rI o (fun x10 => Cal g LC jRe_readBlock d [vA 24, vI p1] (up w9 24 6 (wr ((w9 24 6) + 1))) (fun o w11 => rV o (Cal g LC jCo_add d [vA 19, vI 21, vI x10, vI 0] (up w11 24 6 (wr ((w11 24 6) - 1))) (fun o w12 => rI o (fun x13 => Cal g LC jCo_aimHere d [vA 19, vI x10] w12 (fun o w14 => rV o (K (.inl none) w14))))))))))))))) ∧ (¬ x4 = 0 → (Cal g LC jCu_here d [vA 25] w3 (fun o w15 => rI o (fun x16 => (0 ≤ x16 ∧ x16 < 1002) ∧ (((w15 7 x16.toNat) ≤ 100 → (Cal g LC jCu_take d [vA 25, vI 3] w15 (fun o w17 => rI o (fun x18 => (0 ≤ x18 ∧ x18 < 1002) ∧ (Cal g LC jCo_add d [vA 19, vI 22, vI (w17 7 x18.toNat), vI (w17 24 6)] w17 (fun o w19 => rI o (fun x20 => Cal g LC jCo_add d [vA 19, vI 23, vI 0, vI (w19 24 6)] w19 (fun o w21 => rI o (fun x22 => Cal g LC jRe_readBlock d [vA 24, vI p1] (up w21 24 6 (wr ((w21 24 6) + 1))) (fun o w23 => rV o (Cal g LC jCo_add d [vA 19, vI 21, vI x22, vI 0] (up w23 24 6 (wr ((w23 24 6) - 1))) (fun o w24 => rI o (fun x25 => Cal g LC jCo_aimHere d [vA 19, vI x22] w24 (fun o w26 => rV o (K (.inl none) w26))))))))))))))) ∧ (¬ (w15 7 x16.toNat) ≤ 100 → (Cal g LC jCu_stop d [vA 25, vI 2] w15 (fun o w27 => rV o (Cal g LC jCu_take d [vA 25, vI 3] w27 (fun o w28 => rI o (fun x29 => (0 ≤ x29 ∧ x29 < 1002) ∧ (Cal g LC jCo_add d [vA 19, vI 22, vI (w28 7 x29.toNat), vI (w28 24 6)] w28 (fun o w30 => rI o (fun x31 => Cal g LC jCo_add d [vA 19, vI 23, vI 0, vI (w30 24 6)] w30 (fun o w32 => rI o (fun x33 => Cal g LC jRe_readBlock d [vA 24, vI p1] (up w32 24 6 (wr ((w32 24 6) + 1))) (fun o w34 => rV o (Cal g LC jCo_add d [vA 19, vI 21, vI x33, vI 0] (up w34 24 6 (wr ((w34 24 6) - 1))) (fun o w35 => rI o (fun x36 => Cal g LC jCo_aimHere d [vA 19, vI x33] w35 (fun o w37 => rV o (K (.inl none) w37))))))))))))))))))))))))))) : V g LC jRe_readLoop (d + 1) K 0 [(0, vA 24), (1, vI p1)] [] w := by
  refine v_aload_n (pc := 0) d_Re_readLoop_0 rfl (.head _) ?_
  refine v_getr (C := "") (pc := 1) (r := 25) d_Re_readLoop_1 fl_Re_34 cC_24.1 cC_24.2 (Or.inl ⟨_, rfl⟩) rC_24_4 ?_
  refine v_bipush (pc := 4) d_Re_readLoop_4 (by decide) rfl ?_
  refine v_callV (pc := 6) (J' := jCu_take) (d' := d) (o := 25) (ci := 1) (N := 6) (T := cT1) (As := [vI 50]) d_Re_readLoop_6 ml_Re_71 cC_25.1 cC_25.2 (by decide) rfl rfl (Nat.le_of_ble_eq_true rfl) (Nat.le_refl _) rfl (Cal.weak h (fun o w1 h => ?_))
  rcases rI_of h with ⟨x2, rfl, h⟩
  refine v_pop (pc := 9) d_Re_readLoop_9 rfl ?_
  refine v_aload_n (pc := 10) d_Re_readLoop_10 rfl (.head _) ?_
  refine v_getr (C := "") (pc := 11) (r := 25) d_Re_readLoop_11 fl_Re_34 cC_24.1 cC_24.2 (Or.inl ⟨_, rfl⟩) rC_24_4 ?_
  refine v_iconst (pc := 14) d_Re_readLoop_14 (by decide) ?_
  refine v_callV (pc := 15) (J' := jCu_sees) (d' := d) (o := 25) (ci := 1) (N := 6) (T := cT1) (As := [vI 3]) d_Re_readLoop_15 ml_Re_94 cC_25.1 cC_25.2 (by decide) rfl rfl (Nat.le_of_ble_eq_true rfl) (Nat.le_refl _) rfl (Cal.weak h (fun o w3 h => ?_))
  rcases rI_of h with ⟨x4, rfl, h⟩
  refine v_ifeq (pc := 18) (tgt := 49) d_Re_readLoop_18 (by decide) (fun c => ?_) (fun c => ?_)
  · replace h := h.1 c
    refine v_aload_n (pc := 49) d_Re_readLoop_49 rfl (.head _) ?_
    refine v_getr (C := "") (pc := 50) (r := 2) d_Re_readLoop_50 fl_Re_7 cC_24.1 cC_24.2 (Or.inl ⟨_, rfl⟩) rC_24_0 ?_
    refine v_getr (C := "") (pc := 53) (r := 7) d_Re_readLoop_53 fl_Re_172 cC_2.1 cC_2.2 (Or.inr ⟨_, rfl⟩) rC_2_5 ?_
    refine v_aload_n (pc := 56) d_Re_readLoop_56 rfl (.head _) ?_
    refine v_getr (C := "") (pc := 57) (r := 25) d_Re_readLoop_57 fl_Re_34 cC_24.1 cC_24.2 (Or.inl ⟨_, rfl⟩) rC_24_4 ?_
    refine v_iconst (pc := 60) d_Re_readLoop_60 (by decide) ?_
    refine v_callV (pc := 61) (J' := jCu_take) (d' := d) (o := 25) (ci := 1) (N := 6) (T := cT1) (As := [vI 3]) d_Re_readLoop_61 ml_Re_71 cC_25.1 cC_25.2 (by decide) rfl rfl (Nat.le_of_ble_eq_true rfl) (Nat.le_refl _) rfl (Cal.weak h (fun o w5 h => ?_))
    rcases rI_of h with ⟨x6, rfl, h⟩
    refine v_iald (pc := 64) (x := (w5 7 x6.toNat)) d_Re_readLoop_64 cC_7.1 cC_7.2 rfl h.1 ?_
    replace h := h.2
    refine v_istore_n (pc := 65) (ls' := [(2, vI (w5 7 x6.toNat)), (0, vA 24), (1, vI p1)]) d_Re_readLoop_65 rfl (by decide) rfl ?_
    refine v_aload_n (pc := 66) d_Re_readLoop_66 rfl (.tail _ (.head _)) ?_
    refine v_getr (C := "") (pc := 67) (r := 19) d_Re_readLoop_67 fl_Re_28 cC_24.1 cC_24.2 (Or.inl ⟨_, rfl⟩) rC_24_3 ?_
    refine v_bipush (pc := 70) d_Re_readLoop_70 (by decide) rfl ?_
    refine v_iload_n (pc := 72) d_Re_readLoop_72 rfl (.head _) ?_
    refine v_aload_n (pc := 73) d_Re_readLoop_73 rfl (.tail _ (.head _)) ?_
    refine v_geti (pc := 74) (x := (w5 24 6)) d_Re_readLoop_74 fl_Re_54 cC_24.1 cC_24.2 (Or.inl rfl) rfl ?_
    refine v_callV (pc := 77) (J' := jCo_add) (d' := d) (o := 19) (ci := 0) (N := 6) (T := cT0) (As := [vI 22, vI (w5 7 x6.toNat), vI (w5 24 6)]) d_Re_readLoop_77 ml_Re_87 cC_19.1 cC_19.2 (by decide) rfl rfl (Nat.le_of_ble_eq_true rfl) (Nat.le_refl _) rfl (Cal.weak h (fun o w7 h => ?_))
    rcases rI_of h with ⟨x8, rfl, h⟩
    refine v_pop (pc := 80) d_Re_readLoop_80 rfl ?_
    refine v_aload_n (pc := 81) d_Re_readLoop_81 rfl (.tail _ (.head _)) ?_
    refine v_getr (C := "") (pc := 82) (r := 19) d_Re_readLoop_82 fl_Re_28 cC_24.1 cC_24.2 (Or.inl ⟨_, rfl⟩) rC_24_3 ?_
    refine v_bipush (pc := 85) d_Re_readLoop_85 (by decide) rfl ?_
    refine v_iconst (pc := 87) d_Re_readLoop_87 (by decide) ?_
    refine v_aload_n (pc := 88) d_Re_readLoop_88 rfl (.tail _ (.head _)) ?_
    refine v_geti (pc := 89) (x := (w7 24 6)) d_Re_readLoop_89 fl_Re_54 cC_24.1 cC_24.2 (Or.inl rfl) rfl ?_
    refine v_callV (pc := 92) (J' := jCo_add) (d' := d) (o := 19) (ci := 0) (N := 6) (T := cT0) (As := [vI 23, vI 0, vI (w7 24 6)]) d_Re_readLoop_92 ml_Re_87 cC_19.1 cC_19.2 (by decide) rfl rfl (Nat.le_of_ble_eq_true rfl) (Nat.le_refl _) rfl (Cal.weak h (fun o w9 h => ?_))
    rcases rI_of h with ⟨x10, rfl, h⟩
    refine v_istore_n (pc := 95) (ls' := [(3, vI x10), (2, vI (w5 7 x6.toNat)), (0, vA 24), (1, vI p1)]) d_Re_readLoop_95 rfl (by decide) rfl ?_
    refine v_aload_n (pc := 96) d_Re_readLoop_96 rfl (.tail _ (.tail _ (.head _))) ?_
    refine v_dup (pc := 97) d_Re_readLoop_97 rfl ?_
    refine v_geti (pc := 98) (x := (w9 24 6)) d_Re_readLoop_98 fl_Re_54 cC_24.1 cC_24.2 (Or.inl rfl) rfl ?_
    refine v_iconst (pc := 101) d_Re_readLoop_101 (by decide) ?_
    refine v_iadd (pc := 102) d_Re_readLoop_102 ?_
    refine v_puti (pc := 103) d_Re_readLoop_103 fp_Re_54 cC_24.1 cC_24.2 (by decide) rfl ?_
    refine v_aload_n (pc := 106) d_Re_readLoop_106 rfl (.tail _ (.tail _ (.head _))) ?_
    refine v_iload_n (pc := 107) d_Re_readLoop_107 rfl (.tail _ (.tail _ (.tail _ (.head _)))) ?_
    refine v_callV (pc := 108) (J' := jRe_readBlock) (d' := d) (o := 24) (ci := 8) (N := 7) (T := cT8) (As := [vI p1]) d_Re_readLoop_108 ml_Re_83 cC_24.1 cC_24.2 (by decide) rfl rfl (Nat.le_of_ble_eq_true rfl) (Nat.le_refl _) rfl (Cal.weak h (fun o w11 h => ?_))
    rcases rV_of h with ⟨rfl, h⟩
    refine v_aload_n (pc := 111) d_Re_readLoop_111 rfl (.tail _ (.tail _ (.head _))) ?_
    refine v_dup (pc := 112) d_Re_readLoop_112 rfl ?_
    refine v_geti (pc := 113) (x := (w11 24 6)) d_Re_readLoop_113 fl_Re_54 cC_24.1 cC_24.2 (Or.inl rfl) rfl ?_
    refine v_iconst (pc := 116) d_Re_readLoop_116 (by decide) ?_
    refine v_isub (pc := 117) d_Re_readLoop_117 ?_
    refine v_puti (pc := 118) d_Re_readLoop_118 fp_Re_54 cC_24.1 cC_24.2 (by decide) rfl ?_
    refine v_aload_n (pc := 121) d_Re_readLoop_121 rfl (.tail _ (.tail _ (.head _))) ?_
    refine v_getr (C := "") (pc := 122) (r := 19) d_Re_readLoop_122 fl_Re_28 cC_24.1 cC_24.2 (Or.inl ⟨_, rfl⟩) rC_24_3 ?_
    refine v_bipush (pc := 125) d_Re_readLoop_125 (by decide) rfl ?_
    refine v_iload_n (pc := 127) d_Re_readLoop_127 rfl (.head _) ?_
    refine v_iconst (pc := 128) d_Re_readLoop_128 (by decide) ?_
    refine v_callV (pc := 129) (J' := jCo_add) (d' := d) (o := 19) (ci := 0) (N := 6) (T := cT0) (As := [vI 21, vI x10, vI 0]) d_Re_readLoop_129 ml_Re_87 cC_19.1 cC_19.2 (by decide) rfl rfl (Nat.le_of_ble_eq_true rfl) (Nat.le_refl _) rfl (Cal.weak h (fun o w12 h => ?_))
    rcases rI_of h with ⟨x13, rfl, h⟩
    refine v_pop (pc := 132) d_Re_readLoop_132 rfl ?_
    refine v_aload_n (pc := 133) d_Re_readLoop_133 rfl (.tail _ (.tail _ (.head _))) ?_
    refine v_getr (C := "") (pc := 134) (r := 19) d_Re_readLoop_134 fl_Re_28 cC_24.1 cC_24.2 (Or.inl ⟨_, rfl⟩) rC_24_3 ?_
    refine v_iload_n (pc := 137) d_Re_readLoop_137 rfl (.head _) ?_
    refine v_callV (pc := 138) (J' := jCo_aimHere) (d' := d) (o := 19) (ci := 0) (N := 6) (T := cT0) (As := [vI x10]) d_Re_readLoop_138 ml_Re_244 cC_19.1 cC_19.2 (by decide) rfl rfl (Nat.le_of_ble_eq_true rfl) (Nat.le_refl _) rfl (Cal.weak h (fun o w14 h => ?_))
    rcases rV_of h with ⟨rfl, h⟩
    exact v_vret (pc := 141) d_Re_readLoop_141 rfl h
  · replace h := h.2 c
    refine v_aload_n (pc := 21) d_Re_readLoop_21 rfl (.head _) ?_
    refine v_getr (C := "") (pc := 22) (r := 2) d_Re_readLoop_22 fl_Re_7 cC_24.1 cC_24.2 (Or.inl ⟨_, rfl⟩) rC_24_0 ?_
    refine v_getr (C := "") (pc := 25) (r := 7) d_Re_readLoop_25 fl_Re_172 cC_2.1 cC_2.2 (Or.inr ⟨_, rfl⟩) rC_2_5 ?_
    refine v_aload_n (pc := 28) d_Re_readLoop_28 rfl (.head _) ?_
    refine v_getr (C := "") (pc := 29) (r := 25) d_Re_readLoop_29 fl_Re_34 cC_24.1 cC_24.2 (Or.inl ⟨_, rfl⟩) rC_24_4 ?_
    refine v_callV (pc := 32) (J' := jCu_here) (d' := d) (o := 25) (ci := 1) (N := 6) (T := cT1) (As := []) d_Re_readLoop_32 ml_Re_195 cC_25.1 cC_25.2 (by decide) rfl rfl (Nat.le_of_ble_eq_true rfl) (Nat.le_refl _) rfl (Cal.weak h (fun o w15 h => ?_))
    rcases rI_of h with ⟨x16, rfl, h⟩
    refine v_iald (pc := 35) (x := (w15 7 x16.toNat)) d_Re_readLoop_35 cC_7.1 cC_7.2 rfl h.1 ?_
    replace h := h.2
    refine v_bipush (pc := 36) d_Re_readLoop_36 (by decide) rfl ?_
    refine v_icmple (pc := 38) (tgt := 49) d_Re_readLoop_38 (by decide) (fun c => ?_) (fun c => ?_)
    · replace h := h.1 c
      refine v_aload_n (pc := 49) d_Re_readLoop_49 rfl (.head _) ?_
      refine v_getr (C := "") (pc := 50) (r := 2) d_Re_readLoop_50 fl_Re_7 cC_24.1 cC_24.2 (Or.inl ⟨_, rfl⟩) rC_24_0 ?_
      refine v_getr (C := "") (pc := 53) (r := 7) d_Re_readLoop_53 fl_Re_172 cC_2.1 cC_2.2 (Or.inr ⟨_, rfl⟩) rC_2_5 ?_
      refine v_aload_n (pc := 56) d_Re_readLoop_56 rfl (.head _) ?_
      refine v_getr (C := "") (pc := 57) (r := 25) d_Re_readLoop_57 fl_Re_34 cC_24.1 cC_24.2 (Or.inl ⟨_, rfl⟩) rC_24_4 ?_
      refine v_iconst (pc := 60) d_Re_readLoop_60 (by decide) ?_
      refine v_callV (pc := 61) (J' := jCu_take) (d' := d) (o := 25) (ci := 1) (N := 6) (T := cT1) (As := [vI 3]) d_Re_readLoop_61 ml_Re_71 cC_25.1 cC_25.2 (by decide) rfl rfl (Nat.le_of_ble_eq_true rfl) (Nat.le_refl _) rfl (Cal.weak h (fun o w17 h => ?_))
      rcases rI_of h with ⟨x18, rfl, h⟩
      refine v_iald (pc := 64) (x := (w17 7 x18.toNat)) d_Re_readLoop_64 cC_7.1 cC_7.2 rfl h.1 ?_
      replace h := h.2
      refine v_istore_n (pc := 65) (ls' := [(2, vI (w17 7 x18.toNat)), (0, vA 24), (1, vI p1)]) d_Re_readLoop_65 rfl (by decide) rfl ?_
      refine v_aload_n (pc := 66) d_Re_readLoop_66 rfl (.tail _ (.head _)) ?_
      refine v_getr (C := "") (pc := 67) (r := 19) d_Re_readLoop_67 fl_Re_28 cC_24.1 cC_24.2 (Or.inl ⟨_, rfl⟩) rC_24_3 ?_
      refine v_bipush (pc := 70) d_Re_readLoop_70 (by decide) rfl ?_
      refine v_iload_n (pc := 72) d_Re_readLoop_72 rfl (.head _) ?_
      refine v_aload_n (pc := 73) d_Re_readLoop_73 rfl (.tail _ (.head _)) ?_
      refine v_geti (pc := 74) (x := (w17 24 6)) d_Re_readLoop_74 fl_Re_54 cC_24.1 cC_24.2 (Or.inl rfl) rfl ?_
      refine v_callV (pc := 77) (J' := jCo_add) (d' := d) (o := 19) (ci := 0) (N := 6) (T := cT0) (As := [vI 22, vI (w17 7 x18.toNat), vI (w17 24 6)]) d_Re_readLoop_77 ml_Re_87 cC_19.1 cC_19.2 (by decide) rfl rfl (Nat.le_of_ble_eq_true rfl) (Nat.le_refl _) rfl (Cal.weak h (fun o w19 h => ?_))
      rcases rI_of h with ⟨x20, rfl, h⟩
      refine v_pop (pc := 80) d_Re_readLoop_80 rfl ?_
      refine v_aload_n (pc := 81) d_Re_readLoop_81 rfl (.tail _ (.head _)) ?_
      refine v_getr (C := "") (pc := 82) (r := 19) d_Re_readLoop_82 fl_Re_28 cC_24.1 cC_24.2 (Or.inl ⟨_, rfl⟩) rC_24_3 ?_
      refine v_bipush (pc := 85) d_Re_readLoop_85 (by decide) rfl ?_
      refine v_iconst (pc := 87) d_Re_readLoop_87 (by decide) ?_
      refine v_aload_n (pc := 88) d_Re_readLoop_88 rfl (.tail _ (.head _)) ?_
      refine v_geti (pc := 89) (x := (w19 24 6)) d_Re_readLoop_89 fl_Re_54 cC_24.1 cC_24.2 (Or.inl rfl) rfl ?_
      refine v_callV (pc := 92) (J' := jCo_add) (d' := d) (o := 19) (ci := 0) (N := 6) (T := cT0) (As := [vI 23, vI 0, vI (w19 24 6)]) d_Re_readLoop_92 ml_Re_87 cC_19.1 cC_19.2 (by decide) rfl rfl (Nat.le_of_ble_eq_true rfl) (Nat.le_refl _) rfl (Cal.weak h (fun o w21 h => ?_))
      rcases rI_of h with ⟨x22, rfl, h⟩
      refine v_istore_n (pc := 95) (ls' := [(3, vI x22), (2, vI (w17 7 x18.toNat)), (0, vA 24), (1, vI p1)]) d_Re_readLoop_95 rfl (by decide) rfl ?_
      refine v_aload_n (pc := 96) d_Re_readLoop_96 rfl (.tail _ (.tail _ (.head _))) ?_
      refine v_dup (pc := 97) d_Re_readLoop_97 rfl ?_
      refine v_geti (pc := 98) (x := (w21 24 6)) d_Re_readLoop_98 fl_Re_54 cC_24.1 cC_24.2 (Or.inl rfl) rfl ?_
      refine v_iconst (pc := 101) d_Re_readLoop_101 (by decide) ?_
      refine v_iadd (pc := 102) d_Re_readLoop_102 ?_
      refine v_puti (pc := 103) d_Re_readLoop_103 fp_Re_54 cC_24.1 cC_24.2 (by decide) rfl ?_
      refine v_aload_n (pc := 106) d_Re_readLoop_106 rfl (.tail _ (.tail _ (.head _))) ?_
      refine v_iload_n (pc := 107) d_Re_readLoop_107 rfl (.tail _ (.tail _ (.tail _ (.head _)))) ?_
      refine v_callV (pc := 108) (J' := jRe_readBlock) (d' := d) (o := 24) (ci := 8) (N := 7) (T := cT8) (As := [vI p1]) d_Re_readLoop_108 ml_Re_83 cC_24.1 cC_24.2 (by decide) rfl rfl (Nat.le_of_ble_eq_true rfl) (Nat.le_refl _) rfl (Cal.weak h (fun o w23 h => ?_))
      rcases rV_of h with ⟨rfl, h⟩
      refine v_aload_n (pc := 111) d_Re_readLoop_111 rfl (.tail _ (.tail _ (.head _))) ?_
      refine v_dup (pc := 112) d_Re_readLoop_112 rfl ?_
      refine v_geti (pc := 113) (x := (w23 24 6)) d_Re_readLoop_113 fl_Re_54 cC_24.1 cC_24.2 (Or.inl rfl) rfl ?_
      refine v_iconst (pc := 116) d_Re_readLoop_116 (by decide) ?_
      refine v_isub (pc := 117) d_Re_readLoop_117 ?_
      refine v_puti (pc := 118) d_Re_readLoop_118 fp_Re_54 cC_24.1 cC_24.2 (by decide) rfl ?_
      refine v_aload_n (pc := 121) d_Re_readLoop_121 rfl (.tail _ (.tail _ (.head _))) ?_
      refine v_getr (C := "") (pc := 122) (r := 19) d_Re_readLoop_122 fl_Re_28 cC_24.1 cC_24.2 (Or.inl ⟨_, rfl⟩) rC_24_3 ?_
      refine v_bipush (pc := 125) d_Re_readLoop_125 (by decide) rfl ?_
      refine v_iload_n (pc := 127) d_Re_readLoop_127 rfl (.head _) ?_
      refine v_iconst (pc := 128) d_Re_readLoop_128 (by decide) ?_
      refine v_callV (pc := 129) (J' := jCo_add) (d' := d) (o := 19) (ci := 0) (N := 6) (T := cT0) (As := [vI 21, vI x22, vI 0]) d_Re_readLoop_129 ml_Re_87 cC_19.1 cC_19.2 (by decide) rfl rfl (Nat.le_of_ble_eq_true rfl) (Nat.le_refl _) rfl (Cal.weak h (fun o w24 h => ?_))
      rcases rI_of h with ⟨x25, rfl, h⟩
      refine v_pop (pc := 132) d_Re_readLoop_132 rfl ?_
      refine v_aload_n (pc := 133) d_Re_readLoop_133 rfl (.tail _ (.tail _ (.head _))) ?_
      refine v_getr (C := "") (pc := 134) (r := 19) d_Re_readLoop_134 fl_Re_28 cC_24.1 cC_24.2 (Or.inl ⟨_, rfl⟩) rC_24_3 ?_
      refine v_iload_n (pc := 137) d_Re_readLoop_137 rfl (.head _) ?_
      refine v_callV (pc := 138) (J' := jCo_aimHere) (d' := d) (o := 19) (ci := 0) (N := 6) (T := cT0) (As := [vI x22]) d_Re_readLoop_138 ml_Re_244 cC_19.1 cC_19.2 (by decide) rfl rfl (Nat.le_of_ble_eq_true rfl) (Nat.le_refl _) rfl (Cal.weak h (fun o w26 h => ?_))
      rcases rV_of h with ⟨rfl, h⟩
      exact v_vret (pc := 141) d_Re_readLoop_141 rfl h
    · replace h := h.2 c
      refine v_aload_n (pc := 41) d_Re_readLoop_41 rfl (.head _) ?_
      refine v_getr (C := "") (pc := 42) (r := 25) d_Re_readLoop_42 fl_Re_34 cC_24.1 cC_24.2 (Or.inl ⟨_, rfl⟩) rC_24_4 ?_
      refine v_iconst (pc := 45) d_Re_readLoop_45 (by decide) ?_
      refine v_callV (pc := 46) (J' := jCu_stop) (d' := d) (o := 25) (ci := 1) (N := 6) (T := cT1) (As := [vI 2]) d_Re_readLoop_46 ml_Re_97 cC_25.1 cC_25.2 (by decide) rfl rfl (Nat.le_of_ble_eq_true rfl) (Nat.le_refl _) rfl (Cal.weak h (fun o w27 h => ?_))
      rcases rV_of h with ⟨rfl, h⟩
      refine v_aload_n (pc := 49) d_Re_readLoop_49 rfl (.head _) ?_
      refine v_getr (C := "") (pc := 50) (r := 2) d_Re_readLoop_50 fl_Re_7 cC_24.1 cC_24.2 (Or.inl ⟨_, rfl⟩) rC_24_0 ?_
      refine v_getr (C := "") (pc := 53) (r := 7) d_Re_readLoop_53 fl_Re_172 cC_2.1 cC_2.2 (Or.inr ⟨_, rfl⟩) rC_2_5 ?_
      refine v_aload_n (pc := 56) d_Re_readLoop_56 rfl (.head _) ?_
      refine v_getr (C := "") (pc := 57) (r := 25) d_Re_readLoop_57 fl_Re_34 cC_24.1 cC_24.2 (Or.inl ⟨_, rfl⟩) rC_24_4 ?_
      refine v_iconst (pc := 60) d_Re_readLoop_60 (by decide) ?_
      refine v_callV (pc := 61) (J' := jCu_take) (d' := d) (o := 25) (ci := 1) (N := 6) (T := cT1) (As := [vI 3]) d_Re_readLoop_61 ml_Re_71 cC_25.1 cC_25.2 (by decide) rfl rfl (Nat.le_of_ble_eq_true rfl) (Nat.le_refl _) rfl (Cal.weak h (fun o w28 h => ?_))
      rcases rI_of h with ⟨x29, rfl, h⟩
      refine v_iald (pc := 64) (x := (w28 7 x29.toNat)) d_Re_readLoop_64 cC_7.1 cC_7.2 rfl h.1 ?_
      replace h := h.2
      refine v_istore_n (pc := 65) (ls' := [(2, vI (w28 7 x29.toNat)), (0, vA 24), (1, vI p1)]) d_Re_readLoop_65 rfl (by decide) rfl ?_
      refine v_aload_n (pc := 66) d_Re_readLoop_66 rfl (.tail _ (.head _)) ?_
      refine v_getr (C := "") (pc := 67) (r := 19) d_Re_readLoop_67 fl_Re_28 cC_24.1 cC_24.2 (Or.inl ⟨_, rfl⟩) rC_24_3 ?_
      refine v_bipush (pc := 70) d_Re_readLoop_70 (by decide) rfl ?_
      refine v_iload_n (pc := 72) d_Re_readLoop_72 rfl (.head _) ?_
      refine v_aload_n (pc := 73) d_Re_readLoop_73 rfl (.tail _ (.head _)) ?_
      refine v_geti (pc := 74) (x := (w28 24 6)) d_Re_readLoop_74 fl_Re_54 cC_24.1 cC_24.2 (Or.inl rfl) rfl ?_
      refine v_callV (pc := 77) (J' := jCo_add) (d' := d) (o := 19) (ci := 0) (N := 6) (T := cT0) (As := [vI 22, vI (w28 7 x29.toNat), vI (w28 24 6)]) d_Re_readLoop_77 ml_Re_87 cC_19.1 cC_19.2 (by decide) rfl rfl (Nat.le_of_ble_eq_true rfl) (Nat.le_refl _) rfl (Cal.weak h (fun o w30 h => ?_))
      rcases rI_of h with ⟨x31, rfl, h⟩
      refine v_pop (pc := 80) d_Re_readLoop_80 rfl ?_
      refine v_aload_n (pc := 81) d_Re_readLoop_81 rfl (.tail _ (.head _)) ?_
      refine v_getr (C := "") (pc := 82) (r := 19) d_Re_readLoop_82 fl_Re_28 cC_24.1 cC_24.2 (Or.inl ⟨_, rfl⟩) rC_24_3 ?_
      refine v_bipush (pc := 85) d_Re_readLoop_85 (by decide) rfl ?_
      refine v_iconst (pc := 87) d_Re_readLoop_87 (by decide) ?_
      refine v_aload_n (pc := 88) d_Re_readLoop_88 rfl (.tail _ (.head _)) ?_
      refine v_geti (pc := 89) (x := (w30 24 6)) d_Re_readLoop_89 fl_Re_54 cC_24.1 cC_24.2 (Or.inl rfl) rfl ?_
      refine v_callV (pc := 92) (J' := jCo_add) (d' := d) (o := 19) (ci := 0) (N := 6) (T := cT0) (As := [vI 23, vI 0, vI (w30 24 6)]) d_Re_readLoop_92 ml_Re_87 cC_19.1 cC_19.2 (by decide) rfl rfl (Nat.le_of_ble_eq_true rfl) (Nat.le_refl _) rfl (Cal.weak h (fun o w32 h => ?_))
      rcases rI_of h with ⟨x33, rfl, h⟩
      refine v_istore_n (pc := 95) (ls' := [(3, vI x33), (2, vI (w28 7 x29.toNat)), (0, vA 24), (1, vI p1)]) d_Re_readLoop_95 rfl (by decide) rfl ?_
      refine v_aload_n (pc := 96) d_Re_readLoop_96 rfl (.tail _ (.tail _ (.head _))) ?_
      refine v_dup (pc := 97) d_Re_readLoop_97 rfl ?_
      refine v_geti (pc := 98) (x := (w32 24 6)) d_Re_readLoop_98 fl_Re_54 cC_24.1 cC_24.2 (Or.inl rfl) rfl ?_
      refine v_iconst (pc := 101) d_Re_readLoop_101 (by decide) ?_
      refine v_iadd (pc := 102) d_Re_readLoop_102 ?_
      refine v_puti (pc := 103) d_Re_readLoop_103 fp_Re_54 cC_24.1 cC_24.2 (by decide) rfl ?_
      refine v_aload_n (pc := 106) d_Re_readLoop_106 rfl (.tail _ (.tail _ (.head _))) ?_
      refine v_iload_n (pc := 107) d_Re_readLoop_107 rfl (.tail _ (.tail _ (.tail _ (.head _)))) ?_
      refine v_callV (pc := 108) (J' := jRe_readBlock) (d' := d) (o := 24) (ci := 8) (N := 7) (T := cT8) (As := [vI p1]) d_Re_readLoop_108 ml_Re_83 cC_24.1 cC_24.2 (by decide) rfl rfl (Nat.le_of_ble_eq_true rfl) (Nat.le_refl _) rfl (Cal.weak h (fun o w34 h => ?_))
      rcases rV_of h with ⟨rfl, h⟩
      refine v_aload_n (pc := 111) d_Re_readLoop_111 rfl (.tail _ (.tail _ (.head _))) ?_
      refine v_dup (pc := 112) d_Re_readLoop_112 rfl ?_
      refine v_geti (pc := 113) (x := (w34 24 6)) d_Re_readLoop_113 fl_Re_54 cC_24.1 cC_24.2 (Or.inl rfl) rfl ?_
      refine v_iconst (pc := 116) d_Re_readLoop_116 (by decide) ?_
      refine v_isub (pc := 117) d_Re_readLoop_117 ?_
      refine v_puti (pc := 118) d_Re_readLoop_118 fp_Re_54 cC_24.1 cC_24.2 (by decide) rfl ?_
      refine v_aload_n (pc := 121) d_Re_readLoop_121 rfl (.tail _ (.tail _ (.head _))) ?_
      refine v_getr (C := "") (pc := 122) (r := 19) d_Re_readLoop_122 fl_Re_28 cC_24.1 cC_24.2 (Or.inl ⟨_, rfl⟩) rC_24_3 ?_
      refine v_bipush (pc := 125) d_Re_readLoop_125 (by decide) rfl ?_
      refine v_iload_n (pc := 127) d_Re_readLoop_127 rfl (.head _) ?_
      refine v_iconst (pc := 128) d_Re_readLoop_128 (by decide) ?_
      refine v_callV (pc := 129) (J' := jCo_add) (d' := d) (o := 19) (ci := 0) (N := 6) (T := cT0) (As := [vI 21, vI x33, vI 0]) d_Re_readLoop_129 ml_Re_87 cC_19.1 cC_19.2 (by decide) rfl rfl (Nat.le_of_ble_eq_true rfl) (Nat.le_refl _) rfl (Cal.weak h (fun o w35 h => ?_))
      rcases rI_of h with ⟨x36, rfl, h⟩
      refine v_pop (pc := 132) d_Re_readLoop_132 rfl ?_
      refine v_aload_n (pc := 133) d_Re_readLoop_133 rfl (.tail _ (.tail _ (.head _))) ?_
      refine v_getr (C := "") (pc := 134) (r := 19) d_Re_readLoop_134 fl_Re_28 cC_24.1 cC_24.2 (Or.inl ⟨_, rfl⟩) rC_24_3 ?_
      refine v_iload_n (pc := 137) d_Re_readLoop_137 rfl (.head _) ?_
      refine v_callV (pc := 138) (J' := jCo_aimHere) (d' := d) (o := 19) (ci := 0) (N := 6) (T := cT0) (As := [vI x33]) d_Re_readLoop_138 ml_Re_244 cC_19.1 cC_19.2 (by decide) rfl rfl (Nat.le_of_ble_eq_true rfl) (Nat.le_refl _) rfl (Cal.weak h (fun o w37 h => ?_))
      rcases rV_of h with ⟨rfl, h⟩
      exact v_vret (pc := 141) d_Re_readLoop_141 rfl h
theorem d_Re_readHalt_0 : decode jRe_readHalt.cc 0 = .ok (.aload_n 0, 1) := by decide +kernel
theorem d_Re_readHalt_1 : decode jRe_readHalt.cc 1 = .ok (.getfield 34, 3) := by decide +kernel
theorem d_Re_readHalt_4 : decode jRe_readHalt.cc 4 = .ok (.bipush 51, 2) := by decide +kernel
theorem d_Re_readHalt_6 : decode jRe_readHalt.cc 6 = .ok (.invokevirtual 71, 3) := by decide +kernel
theorem d_Re_readHalt_9 : decode jRe_readHalt.cc 9 = .ok (.pop, 1) := by decide +kernel
theorem d_Re_readHalt_10 : decode jRe_readHalt.cc 10 = .ok (.aload_n 0, 1) := by decide +kernel
theorem d_Re_readHalt_11 : decode jRe_readHalt.cc 11 = .ok (.getfield 34, 3) := by decide +kernel
theorem d_Re_readHalt_14 : decode jRe_readHalt.cc 14 = .ok (.iconst 4, 1) := by decide +kernel
theorem d_Re_readHalt_15 : decode jRe_readHalt.cc 15 = .ok (.invokevirtual 71, 3) := by decide +kernel
theorem d_Re_readHalt_18 : decode jRe_readHalt.cc 18 = .ok (.pop, 1) := by decide +kernel
theorem d_Re_readHalt_19 : decode jRe_readHalt.cc 19 = .ok (.aload_n 0, 1) := by decide +kernel
theorem d_Re_readHalt_20 : decode jRe_readHalt.cc 20 = .ok (.getfield 28, 3) := by decide +kernel
theorem d_Re_readHalt_23 : decode jRe_readHalt.cc 23 = .ok (.bipush 30, 2) := by decide +kernel
theorem d_Re_readHalt_25 : decode jRe_readHalt.cc 25 = .ok (.iconst 0, 1) := by decide +kernel
theorem d_Re_readHalt_26 : decode jRe_readHalt.cc 26 = .ok (.iconst 0, 1) := by decide +kernel
theorem d_Re_readHalt_27 : decode jRe_readHalt.cc 27 = .ok (.invokevirtual 87, 3) := by decide +kernel
theorem d_Re_readHalt_30 : decode jRe_readHalt.cc 30 = .ok (.pop, 1) := by decide +kernel
theorem d_Re_readHalt_31 : decode jRe_readHalt.cc 31 = .ok (.return_, 1) := by decide +kernel
set_option maxHeartbeats 4000000 in
theorem s_Re_readHalt {g : Mg} {d : Nat} {K : Ou → Wd → Prop} {w : Wd} (h : Cal g LC jCu_take d [vA 25, vI 51] w (fun o w1 => rI o (fun x2 => Cal g LC jCu_take d [vA 25, vI 4] w1 (fun o w3 => rI o (fun x4 => Cal g LC jCo_add d [vA 19, vI 30, vI 0, vI 0] w3 (fun o w5 => rI o (fun x6 => K (.inl none) w5))))))) : V g LC jRe_readHalt (d + 1) K 0 [(0, vA 24)] [] w := by
  refine v_aload_n (pc := 0) d_Re_readHalt_0 rfl (.head _) ?_
  refine v_getr (C := "") (pc := 1) (r := 25) d_Re_readHalt_1 fl_Re_34 cC_24.1 cC_24.2 (Or.inl ⟨_, rfl⟩) rC_24_4 ?_
  refine v_bipush (pc := 4) d_Re_readHalt_4 (by decide) rfl ?_
  refine v_callV (pc := 6) (J' := jCu_take) (d' := d) (o := 25) (ci := 1) (N := 6) (T := cT1) (As := [vI 51]) d_Re_readHalt_6 ml_Re_71 cC_25.1 cC_25.2 (by decide) rfl rfl (Nat.le_of_ble_eq_true rfl) (Nat.le_refl _) rfl (Cal.weak h (fun o w1 h => ?_))
  rcases rI_of h with ⟨x2, rfl, h⟩
  refine v_pop (pc := 9) d_Re_readHalt_9 rfl ?_
  refine v_aload_n (pc := 10) d_Re_readHalt_10 rfl (.head _) ?_
  refine v_getr (C := "") (pc := 11) (r := 25) d_Re_readHalt_11 fl_Re_34 cC_24.1 cC_24.2 (Or.inl ⟨_, rfl⟩) rC_24_4 ?_
  refine v_iconst (pc := 14) d_Re_readHalt_14 (by decide) ?_
  refine v_callV (pc := 15) (J' := jCu_take) (d' := d) (o := 25) (ci := 1) (N := 6) (T := cT1) (As := [vI 4]) d_Re_readHalt_15 ml_Re_71 cC_25.1 cC_25.2 (by decide) rfl rfl (Nat.le_of_ble_eq_true rfl) (Nat.le_refl _) rfl (Cal.weak h (fun o w3 h => ?_))
  rcases rI_of h with ⟨x4, rfl, h⟩
  refine v_pop (pc := 18) d_Re_readHalt_18 rfl ?_
  refine v_aload_n (pc := 19) d_Re_readHalt_19 rfl (.head _) ?_
  refine v_getr (C := "") (pc := 20) (r := 19) d_Re_readHalt_20 fl_Re_28 cC_24.1 cC_24.2 (Or.inl ⟨_, rfl⟩) rC_24_3 ?_
  refine v_bipush (pc := 23) d_Re_readHalt_23 (by decide) rfl ?_
  refine v_iconst (pc := 25) d_Re_readHalt_25 (by decide) ?_
  refine v_iconst (pc := 26) d_Re_readHalt_26 (by decide) ?_
  refine v_callV (pc := 27) (J' := jCo_add) (d' := d) (o := 19) (ci := 0) (N := 6) (T := cT0) (As := [vI 30, vI 0, vI 0]) d_Re_readHalt_27 ml_Re_87 cC_19.1 cC_19.2 (by decide) rfl rfl (Nat.le_of_ble_eq_true rfl) (Nat.le_refl _) rfl (Cal.weak h (fun o w5 h => ?_))
  rcases rI_of h with ⟨x6, rfl, h⟩
  refine v_pop (pc := 30) d_Re_readHalt_30 rfl ?_
  exact v_vret (pc := 31) d_Re_readHalt_31 rfl h
