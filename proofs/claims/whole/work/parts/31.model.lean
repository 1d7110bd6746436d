theorem d_Md_beginsExp_0 : decode jMd_beginsExp.cc 0 = .ok (.aload_n 0, 1) := by decide +kernel
theorem d_Md_beginsExp_1 : decode jMd_beginsExp.cc 1 = .ok (.getfield 33, 3) := by decide +kernel
theorem d_Md_beginsExp_4 : decode jMd_beginsExp.cc 4 = .ok (.aload_n 0, 1) := by decide +kernel
theorem d_Md_beginsExp_5 : decode jMd_beginsExp.cc 5 = .ok (.getfield 363, 3) := by decide +kernel
theorem d_Md_beginsExp_8 : decode jMd_beginsExp.cc 8 = .ok (.iaload, 1) := by decide +kernel
theorem d_Md_beginsExp_9 : decode jMd_beginsExp.cc 9 = .ok (.istore_n 1, 1) := by decide +kernel
theorem d_Md_beginsExp_10 : decode jMd_beginsExp.cc 10 = .ok (.iload_n 1, 1) := by decide +kernel
theorem d_Md_beginsExp_11 : decode jMd_beginsExp.cc 11 = .ok (.iconst 1, 1) := by decide +kernel
theorem d_Md_beginsExp_12 : decode jMd_beginsExp.cc 12 = .ok (.if_icmp .eq 133, 3) := by decide +kernel
theorem d_Md_beginsExp_15 : decode jMd_beginsExp.cc 15 = .ok (.iload_n 1, 1) := by decide +kernel
theorem d_Md_beginsExp_16 : decode jMd_beginsExp.cc 16 = .ok (.ifCond .eq 129, 3) := by decide +kernel
theorem d_Md_beginsExp_19 : decode jMd_beginsExp.cc 19 = .ok (.aload_n 0, 1) := by decide +kernel
theorem d_Md_beginsExp_20 : decode jMd_beginsExp.cc 20 = .ok (.ldc 64, 2) := by decide +kernel
theorem d_Md_beginsExp_22 : decode jMd_beginsExp.cc 22 = .ok (.invokevirtual 374, 3) := by decide +kernel
theorem d_Md_beginsExp_25 : decode jMd_beginsExp.cc 25 = .ok (.ifCond .ne 120, 3) := by decide +kernel
theorem d_Md_beginsExp_28 : decode jMd_beginsExp.cc 28 = .ok (.aload_n 0, 1) := by decide +kernel
theorem d_Md_beginsExp_29 : decode jMd_beginsExp.cc 29 = .ok (.ldc 66, 2) := by decide +kernel
theorem d_Md_beginsExp_31 : decode jMd_beginsExp.cc 31 = .ok (.invokevirtual 374, 3) := by decide +kernel
theorem d_Md_beginsExp_34 : decode jMd_beginsExp.cc 34 = .ok (.ifCond .ne 111, 3) := by decide +kernel
theorem d_Md_beginsExp_37 : decode jMd_beginsExp.cc 37 = .ok (.aload_n 0, 1) := by decide +kernel
theorem d_Md_beginsExp_38 : decode jMd_beginsExp.cc 38 = .ok (.ldc 98, 2) := by decide +kernel
theorem d_Md_beginsExp_40 : decode jMd_beginsExp.cc 40 = .ok (.invokevirtual 374, 3) := by decide +kernel
theorem d_Md_beginsExp_43 : decode jMd_beginsExp.cc 43 = .ok (.ifCond .ne 102, 3) := by decide +kernel
theorem d_Md_beginsExp_46 : decode jMd_beginsExp.cc 46 = .ok (.aload_n 0, 1) := by decide +kernel
theorem d_Md_beginsExp_47 : decode jMd_beginsExp.cc 47 = .ok (.ldc 100, 2) := by decide +kernel
theorem d_Md_beginsExp_49 : decode jMd_beginsExp.cc 49 = .ok (.invokevirtual 374, 3) := by decide +kernel
theorem d_Md_beginsExp_52 : decode jMd_beginsExp.cc 52 = .ok (.ifCond .ne 93, 3) := by decide +kernel
theorem d_Md_beginsExp_55 : decode jMd_beginsExp.cc 55 = .ok (.aload_n 0, 1) := by decide +kernel
theorem d_Md_beginsExp_56 : decode jMd_beginsExp.cc 56 = .ok (.ldc 102, 2) := by decide +kernel
theorem d_Md_beginsExp_58 : decode jMd_beginsExp.cc 58 = .ok (.invokevirtual 374, 3) := by decide +kernel
theorem d_Md_beginsExp_61 : decode jMd_beginsExp.cc 61 = .ok (.ifCond .ne 84, 3) := by decide +kernel
theorem d_Md_beginsExp_64 : decode jMd_beginsExp.cc 64 = .ok (.aload_n 0, 1) := by decide +kernel
theorem d_Md_beginsExp_65 : decode jMd_beginsExp.cc 65 = .ok (.ldc 104, 2) := by decide +kernel
theorem d_Md_beginsExp_67 : decode jMd_beginsExp.cc 67 = .ok (.invokevirtual 374, 3) := by decide +kernel
theorem d_Md_beginsExp_70 : decode jMd_beginsExp.cc 70 = .ok (.ifCond .ne 75, 3) := by decide +kernel
theorem d_Md_beginsExp_73 : decode jMd_beginsExp.cc 73 = .ok (.aload_n 0, 1) := by decide +kernel
theorem d_Md_beginsExp_74 : decode jMd_beginsExp.cc 74 = .ok (.ldc 106, 2) := by decide +kernel
theorem d_Md_beginsExp_76 : decode jMd_beginsExp.cc 76 = .ok (.invokevirtual 374, 3) := by decide +kernel
theorem d_Md_beginsExp_79 : decode jMd_beginsExp.cc 79 = .ok (.ifCond .ne 66, 3) := by decide +kernel
theorem d_Md_beginsExp_82 : decode jMd_beginsExp.cc 82 = .ok (.aload_n 0, 1) := by decide +kernel
theorem d_Md_beginsExp_83 : decode jMd_beginsExp.cc 83 = .ok (.ldc 108, 2) := by decide +kernel
theorem d_Md_beginsExp_85 : decode jMd_beginsExp.cc 85 = .ok (.invokevirtual 374, 3) := by decide +kernel
theorem d_Md_beginsExp_88 : decode jMd_beginsExp.cc 88 = .ok (.ifCond .ne 57, 3) := by decide +kernel
theorem d_Md_beginsExp_91 : decode jMd_beginsExp.cc 91 = .ok (.aload_n 0, 1) := by decide +kernel
theorem d_Md_beginsExp_92 : decode jMd_beginsExp.cc 92 = .ok (.ldc 110, 2) := by decide +kernel
theorem d_Md_beginsExp_94 : decode jMd_beginsExp.cc 94 = .ok (.invokevirtual 374, 3) := by decide +kernel
theorem d_Md_beginsExp_97 : decode jMd_beginsExp.cc 97 = .ok (.ifCond .ne 48, 3) := by decide +kernel
theorem d_Md_beginsExp_100 : decode jMd_beginsExp.cc 100 = .ok (.aload_n 0, 1) := by decide +kernel
theorem d_Md_beginsExp_101 : decode jMd_beginsExp.cc 101 = .ok (.ldc 112, 2) := by decide +kernel
theorem d_Md_beginsExp_103 : decode jMd_beginsExp.cc 103 = .ok (.invokevirtual 374, 3) := by decide +kernel
theorem d_Md_beginsExp_106 : decode jMd_beginsExp.cc 106 = .ok (.ifCond .ne 39, 3) := by decide +kernel
theorem d_Md_beginsExp_109 : decode jMd_beginsExp.cc 109 = .ok (.aload_n 0, 1) := by decide +kernel
theorem d_Md_beginsExp_110 : decode jMd_beginsExp.cc 110 = .ok (.ldc 90, 2) := by decide +kernel
theorem d_Md_beginsExp_112 : decode jMd_beginsExp.cc 112 = .ok (.invokevirtual 374, 3) := by decide +kernel
theorem d_Md_beginsExp_115 : decode jMd_beginsExp.cc 115 = .ok (.ifCond .ne 30, 3) := by decide +kernel
theorem d_Md_beginsExp_118 : decode jMd_beginsExp.cc 118 = .ok (.aload_n 0, 1) := by decide +kernel
theorem d_Md_beginsExp_119 : decode jMd_beginsExp.cc 119 = .ok (.ldc 136, 2) := by decide +kernel
theorem d_Md_beginsExp_121 : decode jMd_beginsExp.cc 121 = .ok (.invokevirtual 374, 3) := by decide +kernel
theorem d_Md_beginsExp_124 : decode jMd_beginsExp.cc 124 = .ok (.ifCond .ne 21, 3) := by decide +kernel
theorem d_Md_beginsExp_127 : decode jMd_beginsExp.cc 127 = .ok (.aload_n 0, 1) := by decide +kernel
theorem d_Md_beginsExp_128 : decode jMd_beginsExp.cc 128 = .ok (.ldc 154, 2) := by decide +kernel
theorem d_Md_beginsExp_130 : decode jMd_beginsExp.cc 130 = .ok (.invokevirtual 374, 3) := by decide +kernel
theorem d_Md_beginsExp_133 : decode jMd_beginsExp.cc 133 = .ok (.ifCond .ne 12, 3) := by decide +kernel
theorem d_Md_beginsExp_136 : decode jMd_beginsExp.cc 136 = .ok (.aload_n 0, 1) := by decide +kernel
theorem d_Md_beginsExp_137 : decode jMd_beginsExp.cc 137 = .ok (.ldc 162, 2) := by decide +kernel
theorem d_Md_beginsExp_139 : decode jMd_beginsExp.cc 139 = .ok (.invokevirtual 374, 3) := by decide +kernel
theorem d_Md_beginsExp_142 : decode jMd_beginsExp.cc 142 = .ok (.ifCond .eq 7, 3) := by decide +kernel
theorem d_Md_beginsExp_145 : decode jMd_beginsExp.cc 145 = .ok (.iconst 1, 1) := by decide +kernel
theorem d_Md_beginsExp_146 : decode jMd_beginsExp.cc 146 = .ok (.goto 4, 3) := by decide +kernel
theorem d_Md_beginsExp_149 : decode jMd_beginsExp.cc 149 = .ok (.iconst 0, 1) := by decide +kernel
theorem d_Md_beginsExp_150 : decode jMd_beginsExp.cc 150 = .ok (.ireturn, 1) := by decide +kernel
set_option maxHeartbeats 4000000 in
theorem s_Md_beginsExp {g : Mg} {d : Nat} {K : Ou → Wd → Prop} {w : Wd} (h : (0 ≤ (w 0 11) ∧ (w 0 11) < 4022) ∧ (((w 4 ((w 0 11).toNat)) = 1 → (K (.inl (some (vI 1))) w)) ∧ (¬ (w 4 ((w 0 11).toNat)) = 1 → (((w 4 ((w 0 11).toNat)) = 0 → (K (.inl (some (vI 1))) w)) ∧ (¬ (w 4 ((w 0 11).toNat)) = 0 → (Cal g LM jMd_is d [vA 0, vA 1012] w (fun o w1 => rIt o (fun b => K (.inr b) w1) (fun x2 => (¬ x2 = 0 → (K (.inl (some (vI 1))) w1)) ∧ (x2 = 0 → (Cal g LM jMd_is d [vA 0, vA 1013] w1 (fun o w3 => rIt o (fun b => K (.inr b) w3) (fun x4 => (¬ x4 = 0 → (K (.inl (some (vI 1))) w3)) ∧ (x4 = 0 → (Cal g LM jMd_is d [vA 0, vA 1029] w3 (fun o w5 => rIt o (fun b => K (.inr b) w5) (fun x6 => (¬ x6 = 0 → (K (.inl (some (vI 1))) w5)) ∧ (x6 = 0 → (Cal g LM jMd_is d [vA 0, vA 1030] w5 (fun o w7 => rIt o (fun b => K (.inr b) w7) (fun x8 => (¬ x8 = 0 → (K (.inl (some (vI 1))) w7)) ∧ (x8 = 0 → (Cal g LM jMd_is d [vA 0, vA 1031] w7 (fun o w9 => rIt o (fun b => K (.inr b) w9) (fun x10 => (¬ x10 = 0 → (K (.inl (some (vI 1))) w9)) ∧ (x10 = 0 → (Cal g LM jMd_is d [vA 0, vA 1032] w9 (fun o w11 => rIt o (fun b => K (.inr b) w11) (fun x12 => (¬ x12 = 0 → (K (.inl (some (vI 1))) w11)) ∧ (x12 = 0 → (Cal g LM jMd_is d [vA 0, vA 1033] w11 (fun o w13 => rIt o (fun b => K (.inr b) w13) (fun x14 => (¬ x14 = 0 → (K (.inl (some (vI 1))) w13)) ∧ (x14 = 0 → (Cal g LM jMd_is d [vA 0, vA 1034] w13 (fun o w15 => rIt o (fun b => K (.inr b) w15) (fun x16 => (¬ x16 = 0 → (K (.inl (some (vI 1))) w15)) ∧ (x16 = 0 → (Cal g LM jMd_is d [vA 0, vA 1035] w15 (fun o w17 => rIt o (fun b => K (.inr b) w17) (fun x18 => (¬ x18 = 0 → (K (.inl (some (vI 1))) w17)) ∧ (x18 = 0 → (Cal g LM jMd_is d [vA 0, vA 1036] w17 (fun o w19 => rIt o (fun b => K (.inr b) w19) (fun x20 => (¬ x20 = 0 → (K (.inl (some (vI 1))) w19)) ∧ (x20 = 0 → (Cal g LM jMd_is d [vA 0, vA 1025] w19 (fun o w21 => rIt o (fun b => K (.inr b) w21) (fun x22 => (¬ x22 = 0 → (K (.inl (some (vI 1))) w21)) ∧ (x22 = 0 → (Cal g LM jMd_is d [vA 0, vA 1046] w21 (fun o w23 => rIt o (fun b => K (.inr b) w23) (fun x24 => (¬ x24 = 0 → (K (.inl (some (vI 1))) w23)) ∧ (x24 = 0 → (Cal g LM jMd_is d [vA 0, vA 1055] w23 (fun o w25 => rIt o (fun b => K (.inr b) w25) (fun x26 => (¬ x26 = 0 → (K (.inl (some (vI 1))) w25)) ∧ (x26 = 0 → (Cal g LM jMd_is d [vA 0, vA 1059] w25 (fun o w27 => rIt o (fun b => K (.inr b) w27) (fun x28 => (x28 = 0 → (K (.inl (some (vI 0))) w27)) ∧ (¬ x28 = 0 → (K (.inl (some (vI 1))) w27)))))))))))))))))))))))))))))))))))))))))))))))))))))))))))))) : V g LM jMd_beginsExp (d + 1) K 0 [(0, vA 0)] [] w := by
  refine v_aload_n (pc := 0) d_Md_beginsExp_0 rfl (.head _) ?_
  refine v_getr (C := "") (pc := 1) (r := 4) d_Md_beginsExp_1 fl_Md_33 cM_0.1 cM_0.2 (Or.inr ⟨_, rfl⟩) rM_0_6 ?_
  refine v_aload_n (pc := 4) d_Md_beginsExp_4 rfl (.head _) ?_
  refine v_geti (pc := 5) (x := (w 0 11)) d_Md_beginsExp_5 fl_Md_363 cM_0.1 cM_0.2 (Or.inl rfl) rfl ?_
  refine v_iald (pc := 8) (x := (w 4 ((w 0 11).toNat))) d_Md_beginsExp_8 cM_4.1 cM_4.2 rfl h.1 ?_
  replace h := h.2
  refine v_istore_n (pc := 9) (ls' := [(1, vI (w 4 ((w 0 11).toNat))), (0, vA 0)]) d_Md_beginsExp_9 rfl (by decide) rfl ?_
  refine v_iload_n (pc := 10) d_Md_beginsExp_10 rfl (.head _) ?_
  refine v_iconst (pc := 11) d_Md_beginsExp_11 (by decide) ?_
  refine v_icmpeq (pc := 12) (tgt := 145) d_Md_beginsExp_12 (by decide) (fun c => ?_) (fun c => ?_)
  · replace h := h.1 c
    refine v_iconst (pc := 145) d_Md_beginsExp_145 (by decide) ?_
    refine v_goto (pc := 146) (tgt := 150) d_Md_beginsExp_146 (by decide) ?_
    exact v_zret (pc := 150) d_Md_beginsExp_150 rfl (by decide) h
  · replace h := h.2 c
    refine v_iload_n (pc := 15) d_Md_beginsExp_15 rfl (.head _) ?_
    refine v_ifeq (pc := 16) (tgt := 145) d_Md_beginsExp_16 (by decide) (fun c => ?_) (fun c => ?_)
    · replace h := h.1 c
      refine v_iconst (pc := 145) d_Md_beginsExp_145 (by decide) ?_
      refine v_goto (pc := 146) (tgt := 150) d_Md_beginsExp_146 (by decide) ?_
      exact v_zret (pc := 150) d_Md_beginsExp_150 rfl (by decide) h
    · replace h := h.2 c
      refine v_aload_n (pc := 19) d_Md_beginsExp_19 rfl (.tail _ (.head _)) ?_
      refine v_ldcs (pc := 20) (n := 11) (tx := "true") d_Md_beginsExp_20 (by decide +kernel) ?_
      refine v_callV (pc := 22) (J' := jMd_is) (d' := d) (o := 0) (ci := 13) (N := 93) (T := cT13) (As := [vA 1012]) d_Md_beginsExp_22 ml_Md_374 cM_0.1 cM_0.2 (by decide) rfl rfl (Nat.le_of_ble_eq_true rfl) (Nat.le_refl _) rfl (Cal.weak h (fun o w1 h => ?_))
      rcases rIt_of h with ⟨x2, rfl, h⟩ | ⟨b, rfl, h⟩
      rotate_left
      · exact h
      refine v_ifne (pc := 25) (tgt := 145) d_Md_beginsExp_25 (by decide) (fun c => ?_) (fun c => ?_)
      · replace h := h.1 c
        refine v_iconst (pc := 145) d_Md_beginsExp_145 (by decide) ?_
        refine v_goto (pc := 146) (tgt := 150) d_Md_beginsExp_146 (by decide) ?_
        exact v_zret (pc := 150) d_Md_beginsExp_150 rfl (by decide) h
      · replace h := h.2 c
        refine v_aload_n (pc := 28) d_Md_beginsExp_28 rfl (.tail _ (.head _)) ?_
        refine v_ldcs (pc := 29) (n := 12) (tx := "false") d_Md_beginsExp_29 (by decide +kernel) ?_
        refine v_callV (pc := 31) (J' := jMd_is) (d' := d) (o := 0) (ci := 13) (N := 93) (T := cT13) (As := [vA 1013]) d_Md_beginsExp_31 ml_Md_374 cM_0.1 cM_0.2 (by decide) rfl rfl (Nat.le_of_ble_eq_true rfl) (Nat.le_refl _) rfl (Cal.weak h (fun o w3 h => ?_))
        rcases rIt_of h with ⟨x4, rfl, h⟩ | ⟨b, rfl, h⟩
        rotate_left
        · exact h
        refine v_ifne (pc := 34) (tgt := 145) d_Md_beginsExp_34 (by decide) (fun c => ?_) (fun c => ?_)
        · replace h := h.1 c
          refine v_iconst (pc := 145) d_Md_beginsExp_145 (by decide) ?_
          refine v_goto (pc := 146) (tgt := 150) d_Md_beginsExp_146 (by decide) ?_
          exact v_zret (pc := 150) d_Md_beginsExp_150 rfl (by decide) h
        · replace h := h.2 c
          refine v_aload_n (pc := 37) d_Md_beginsExp_37 rfl (.tail _ (.head _)) ?_
          refine v_ldcs (pc := 38) (n := 28) (tx := "arc") d_Md_beginsExp_38 (by decide +kernel) ?_
          refine v_callV (pc := 40) (J' := jMd_is) (d' := d) (o := 0) (ci := 13) (N := 93) (T := cT13) (As := [vA 1029]) d_Md_beginsExp_40 ml_Md_374 cM_0.1 cM_0.2 (by decide) rfl rfl (Nat.le_of_ble_eq_true rfl) (Nat.le_refl _) rfl (Cal.weak h (fun o w5 h => ?_))
          rcases rIt_of h with ⟨x6, rfl, h⟩ | ⟨b, rfl, h⟩
          rotate_left
          · exact h
          refine v_ifne (pc := 43) (tgt := 145) d_Md_beginsExp_43 (by decide) (fun c => ?_) (fun c => ?_)
          · replace h := h.1 c
            refine v_iconst (pc := 145) d_Md_beginsExp_145 (by decide) ?_
            refine v_goto (pc := 146) (tgt := 150) d_Md_beginsExp_146 (by decide) ?_
            exact v_zret (pc := 150) d_Md_beginsExp_150 rfl (by decide) h
          · replace h := h.2 c
            refine v_aload_n (pc := 46) d_Md_beginsExp_46 rfl (.tail _ (.head _)) ?_
            refine v_ldcs (pc := 47) (n := 29) (tx := "has") d_Md_beginsExp_47 (by decide +kernel) ?_
            refine v_callV (pc := 49) (J' := jMd_is) (d' := d) (o := 0) (ci := 13) (N := 93) (T := cT13) (As := [vA 1030]) d_Md_beginsExp_49 ml_Md_374 cM_0.1 cM_0.2 (by decide) rfl rfl (Nat.le_of_ble_eq_true rfl) (Nat.le_refl _) rfl (Cal.weak h (fun o w7 h => ?_))
            rcases rIt_of h with ⟨x8, rfl, h⟩ | ⟨b, rfl, h⟩
            rotate_left
            · exact h
            refine v_ifne (pc := 52) (tgt := 145) d_Md_beginsExp_52 (by decide) (fun c => ?_) (fun c => ?_)
            · replace h := h.1 c
              refine v_iconst (pc := 145) d_Md_beginsExp_145 (by decide) ?_
              refine v_goto (pc := 146) (tgt := 150) d_Md_beginsExp_146 (by decide) ?_
              exact v_zret (pc := 150) d_Md_beginsExp_150 rfl (by decide) h
            · replace h := h.2 c
              refine v_aload_n (pc := 55) d_Md_beginsExp_55 rfl (.tail _ (.head _)) ?_
              refine v_ldcs (pc := 56) (n := 30) (tx := "id") d_Md_beginsExp_56 (by decide +kernel) ?_
              refine v_callV (pc := 58) (J' := jMd_is) (d' := d) (o := 0) (ci := 13) (N := 93) (T := cT13) (As := [vA 1031]) d_Md_beginsExp_58 ml_Md_374 cM_0.1 cM_0.2 (by decide) rfl rfl (Nat.le_of_ble_eq_true rfl) (Nat.le_refl _) rfl (Cal.weak h (fun o w9 h => ?_))
              rcases rIt_of h with ⟨x10, rfl, h⟩ | ⟨b, rfl, h⟩
              rotate_left
              · exact h
              refine v_ifne (pc := 61) (tgt := 145) d_Md_beginsExp_61 (by decide) (fun c => ?_) (fun c => ?_)
              · replace h := h.1 c
                refine v_iconst (pc := 145) d_Md_beginsExp_145 (by decide) ?_
                refine v_goto (pc := 146) (tgt := 150) d_Md_beginsExp_146 (by decide) ?_
                exact v_zret (pc := 150) d_Md_beginsExp_150 rfl (by decide) h
              · replace h := h.2 c
                refine v_aload_n (pc := 64) d_Md_beginsExp_64 rfl (.tail _ (.head _)) ?_
                refine v_ldcs (pc := 65) (n := 31) (tx := "turn") d_Md_beginsExp_65 (by decide +kernel) ?_
                refine v_callV (pc := 67) (J' := jMd_is) (d' := d) (o := 0) (ci := 13) (N := 93) (T := cT13) (As := [vA 1032]) d_Md_beginsExp_67 ml_Md_374 cM_0.1 cM_0.2 (by decide) rfl rfl (Nat.le_of_ble_eq_true rfl) (Nat.le_refl _) rfl (Cal.weak h (fun o w11 h => ?_))
                rcases rIt_of h with ⟨x12, rfl, h⟩ | ⟨b, rfl, h⟩
                rotate_left
                · exact h
                refine v_ifne (pc := 70) (tgt := 145) d_Md_beginsExp_70 (by decide) (fun c => ?_) (fun c => ?_)
                · replace h := h.1 c
                  refine v_iconst (pc := 145) d_Md_beginsExp_145 (by decide) ?_
                  refine v_goto (pc := 146) (tgt := 150) d_Md_beginsExp_146 (by decide) ?_
                  exact v_zret (pc := 150) d_Md_beginsExp_150 rfl (by decide) h
                · replace h := h.2 c
                  refine v_aload_n (pc := 73) d_Md_beginsExp_73 rfl (.tail _ (.head _)) ?_
                  refine v_ldcs (pc := 74) (n := 32) (tx := "nodes") d_Md_beginsExp_74 (by decide +kernel) ?_
                  refine v_callV (pc := 76) (J' := jMd_is) (d' := d) (o := 0) (ci := 13) (N := 93) (T := cT13) (As := [vA 1033]) d_Md_beginsExp_76 ml_Md_374 cM_0.1 cM_0.2 (by decide) rfl rfl (Nat.le_of_ble_eq_true rfl) (Nat.le_refl _) rfl (Cal.weak h (fun o w13 h => ?_))
                  rcases rIt_of h with ⟨x14, rfl, h⟩ | ⟨b, rfl, h⟩
                  rotate_left
                  · exact h
                  refine v_ifne (pc := 79) (tgt := 145) d_Md_beginsExp_79 (by decide) (fun c => ?_) (fun c => ?_)
                  · replace h := h.1 c
                    refine v_iconst (pc := 145) d_Md_beginsExp_145 (by decide) ?_
                    refine v_goto (pc := 146) (tgt := 150) d_Md_beginsExp_146 (by decide) ?_
                    exact v_zret (pc := 150) d_Md_beginsExp_150 rfl (by decide) h
                  · replace h := h.2 c
                    refine v_aload_n (pc := 82) d_Md_beginsExp_82 rfl (.tail _ (.head _)) ?_
                    refine v_ldcs (pc := 83) (n := 33) (tx := "degree") d_Md_beginsExp_83 (by decide +kernel) ?_
                    refine v_callV (pc := 85) (J' := jMd_is) (d' := d) (o := 0) (ci := 13) (N := 93) (T := cT13) (As := [vA 1034]) d_Md_beginsExp_85 ml_Md_374 cM_0.1 cM_0.2 (by decide) rfl rfl (Nat.le_of_ble_eq_true rfl) (Nat.le_refl _) rfl (Cal.weak h (fun o w15 h => ?_))
                    rcases rIt_of h with ⟨x16, rfl, h⟩ | ⟨b, rfl, h⟩
                    rotate_left
                    · exact h
                    refine v_ifne (pc := 88) (tgt := 145) d_Md_beginsExp_88 (by decide) (fun c => ?_) (fun c => ?_)
                    · replace h := h.1 c
                      refine v_iconst (pc := 145) d_Md_beginsExp_145 (by decide) ?_
                      refine v_goto (pc := 146) (tgt := 150) d_Md_beginsExp_146 (by decide) ?_
                      exact v_zret (pc := 150) d_Md_beginsExp_150 rfl (by decide) h
                    · replace h := h.2 c
                      refine v_aload_n (pc := 91) d_Md_beginsExp_91 rfl (.tail _ (.head _)) ?_
                      refine v_ldcs (pc := 92) (n := 34) (tx := "indegree") d_Md_beginsExp_92 (by decide +kernel) ?_
                      refine v_callV (pc := 94) (J' := jMd_is) (d' := d) (o := 0) (ci := 13) (N := 93) (T := cT13) (As := [vA 1035]) d_Md_beginsExp_94 ml_Md_374 cM_0.1 cM_0.2 (by decide) rfl rfl (Nat.le_of_ble_eq_true rfl) (Nat.le_refl _) rfl (Cal.weak h (fun o w17 h => ?_))
                      rcases rIt_of h with ⟨x18, rfl, h⟩ | ⟨b, rfl, h⟩
                      rotate_left
                      · exact h
                      refine v_ifne (pc := 97) (tgt := 145) d_Md_beginsExp_97 (by decide) (fun c => ?_) (fun c => ?_)
                      · replace h := h.1 c
                        refine v_iconst (pc := 145) d_Md_beginsExp_145 (by decide) ?_
                        refine v_goto (pc := 146) (tgt := 150) d_Md_beginsExp_146 (by decide) ?_
                        exact v_zret (pc := 150) d_Md_beginsExp_150 rfl (by decide) h
                      · replace h := h.2 c
                        refine v_aload_n (pc := 100) d_Md_beginsExp_100 rfl (.tail _ (.head _)) ?_
                        refine v_ldcs (pc := 101) (n := 35) (tx := "draw") d_Md_beginsExp_101 (by decide +kernel) ?_
                        refine v_callV (pc := 103) (J' := jMd_is) (d' := d) (o := 0) (ci := 13) (N := 93) (T := cT13) (As := [vA 1036]) d_Md_beginsExp_103 ml_Md_374 cM_0.1 cM_0.2 (by decide) rfl rfl (Nat.le_of_ble_eq_true rfl) (Nat.le_refl _) rfl (Cal.weak h (fun o w19 h => ?_))
                        rcases rIt_of h with ⟨x20, rfl, h⟩ | ⟨b, rfl, h⟩
                        rotate_left
                        · exact h
                        refine v_ifne (pc := 106) (tgt := 145) d_Md_beginsExp_106 (by decide) (fun c => ?_) (fun c => ?_)
                        · replace h := h.1 c
                          refine v_iconst (pc := 145) d_Md_beginsExp_145 (by decide) ?_
                          refine v_goto (pc := 146) (tgt := 150) d_Md_beginsExp_146 (by decide) ?_
                          exact v_zret (pc := 150) d_Md_beginsExp_150 rfl (by decide) h
                        · replace h := h.2 c
                          refine v_aload_n (pc := 109) d_Md_beginsExp_109 rfl (.tail _ (.head _)) ?_
                          refine v_ldcs (pc := 110) (n := 24) (tx := "if") d_Md_beginsExp_110 (by decide +kernel) ?_
                          refine v_callV (pc := 112) (J' := jMd_is) (d' := d) (o := 0) (ci := 13) (N := 93) (T := cT13) (As := [vA 1025]) d_Md_beginsExp_112 ml_Md_374 cM_0.1 cM_0.2 (by decide) rfl rfl (Nat.le_of_ble_eq_true rfl) (Nat.le_refl _) rfl (Cal.weak h (fun o w21 h => ?_))
                          rcases rIt_of h with ⟨x22, rfl, h⟩ | ⟨b, rfl, h⟩
                          rotate_left
                          · exact h
                          refine v_ifne (pc := 115) (tgt := 145) d_Md_beginsExp_115 (by decide) (fun c => ?_) (fun c => ?_)
                          · replace h := h.1 c
                            refine v_iconst (pc := 145) d_Md_beginsExp_145 (by decide) ?_
                            refine v_goto (pc := 146) (tgt := 150) d_Md_beginsExp_146 (by decide) ?_
                            exact v_zret (pc := 150) d_Md_beginsExp_150 rfl (by decide) h
                          · replace h := h.2 c
                            refine v_aload_n (pc := 118) d_Md_beginsExp_118 rfl (.tail _ (.head _)) ?_
                            refine v_ldcs (pc := 119) (n := 45) (tx := "(") d_Md_beginsExp_119 (by decide +kernel) ?_
                            refine v_callV (pc := 121) (J' := jMd_is) (d' := d) (o := 0) (ci := 13) (N := 93) (T := cT13) (As := [vA 1046]) d_Md_beginsExp_121 ml_Md_374 cM_0.1 cM_0.2 (by decide) rfl rfl (Nat.le_of_ble_eq_true rfl) (Nat.le_refl _) rfl (Cal.weak h (fun o w23 h => ?_))
                            rcases rIt_of h with ⟨x24, rfl, h⟩ | ⟨b, rfl, h⟩
                            rotate_left
                            · exact h
                            refine v_ifne (pc := 124) (tgt := 145) d_Md_beginsExp_124 (by decide) (fun c => ?_) (fun c => ?_)
                            · replace h := h.1 c
                              refine v_iconst (pc := 145) d_Md_beginsExp_145 (by decide) ?_
                              refine v_goto (pc := 146) (tgt := 150) d_Md_beginsExp_146 (by decide) ?_
                              exact v_zret (pc := 150) d_Md_beginsExp_150 rfl (by decide) h
                            · replace h := h.2 c
                              refine v_aload_n (pc := 127) d_Md_beginsExp_127 rfl (.tail _ (.head _)) ?_
                              refine v_ldcs (pc := 128) (n := 54) (tx := "-") d_Md_beginsExp_128 (by decide +kernel) ?_
                              refine v_callV (pc := 130) (J' := jMd_is) (d' := d) (o := 0) (ci := 13) (N := 93) (T := cT13) (As := [vA 1055]) d_Md_beginsExp_130 ml_Md_374 cM_0.1 cM_0.2 (by decide) rfl rfl (Nat.le_of_ble_eq_true rfl) (Nat.le_refl _) rfl (Cal.weak h (fun o w25 h => ?_))
                              rcases rIt_of h with ⟨x26, rfl, h⟩ | ⟨b, rfl, h⟩
                              rotate_left
                              · exact h
                              refine v_ifne (pc := 133) (tgt := 145) d_Md_beginsExp_133 (by decide) (fun c => ?_) (fun c => ?_)
                              · replace h := h.1 c
                                refine v_iconst (pc := 145) d_Md_beginsExp_145 (by decide) ?_
                                refine v_goto (pc := 146) (tgt := 150) d_Md_beginsExp_146 (by decide) ?_
                                exact v_zret (pc := 150) d_Md_beginsExp_150 rfl (by decide) h
                              · replace h := h.2 c
                                refine v_aload_n (pc := 136) d_Md_beginsExp_136 rfl (.tail _ (.head _)) ?_
                                refine v_ldcs (pc := 137) (n := 58) (tx := "!") d_Md_beginsExp_137 (by decide +kernel) ?_
                                refine v_callV (pc := 139) (J' := jMd_is) (d' := d) (o := 0) (ci := 13) (N := 93) (T := cT13) (As := [vA 1059]) d_Md_beginsExp_139 ml_Md_374 cM_0.1 cM_0.2 (by decide) rfl rfl (Nat.le_of_ble_eq_true rfl) (Nat.le_refl _) rfl (Cal.weak h (fun o w27 h => ?_))
                                rcases rIt_of h with ⟨x28, rfl, h⟩ | ⟨b, rfl, h⟩
                                rotate_left
                                · exact h
                                refine v_ifeq (pc := 142) (tgt := 149) d_Md_beginsExp_142 (by decide) (fun c => ?_) (fun c => ?_)
                                · replace h := h.1 c
                                  refine v_iconst (pc := 149) d_Md_beginsExp_149 (by decide) ?_
                                  exact v_zret (pc := 150) d_Md_beginsExp_150 rfl (by decide) h
                                · replace h := h.2 c
                                  refine v_iconst (pc := 145) d_Md_beginsExp_145 (by decide) ?_
                                  refine v_goto (pc := 146) (tgt := 150) d_Md_beginsExp_146 (by decide) ?_
                                  exact v_zret (pc := 150) d_Md_beginsExp_150 rfl (by decide) h
theorem d_Md_mustBeginExp_0 : decode jMd_mustBeginExp.cc 0 = .ok (.aload_n 0, 1) := by decide +kernel
theorem d_Md_mustBeginExp_1 : decode jMd_mustBeginExp.cc 1 = .ok (.invokevirtual 384, 3) := by decide +kernel
theorem d_Md_mustBeginExp_4 : decode jMd_mustBeginExp.cc 4 = .ok (.ifCond .ne 16, 3) := by decide +kernel
theorem d_Md_mustBeginExp_7 : decode jMd_mustBeginExp.cc 7 = .ok (.aload_n 0, 1) := by decide +kernel
theorem d_Md_mustBeginExp_8 : decode jMd_mustBeginExp.cc 8 = .ok (.iconst 1, 1) := by decide +kernel
theorem d_Md_mustBeginExp_9 : decode jMd_mustBeginExp.cc 9 = .ok (.aload_n 0, 1) := by decide +kernel
theorem d_Md_mustBeginExp_10 : decode jMd_mustBeginExp.cc 10 = .ok (.aload_n 0, 1) := by decide +kernel
theorem d_Md_mustBeginExp_11 : decode jMd_mustBeginExp.cc 11 = .ok (.getfield 363, 3) := by decide +kernel
theorem d_Md_mustBeginExp_14 : decode jMd_mustBeginExp.cc 14 = .ok (.invokevirtual 366, 3) := by decide +kernel
theorem d_Md_mustBeginExp_17 : decode jMd_mustBeginExp.cc 17 = .ok (.invokevirtual 370, 3) := by decide +kernel
theorem d_Md_mustBeginExp_20 : decode jMd_mustBeginExp.cc 20 = .ok (.aload_n 0, 1) := by decide +kernel
theorem d_Md_mustBeginExp_21 : decode jMd_mustBeginExp.cc 21 = .ok (.getfield 388, 3) := by decide +kernel
theorem d_Md_mustBeginExp_24 : decode jMd_mustBeginExp.cc 24 = .ok (.bipush 12, 2) := by decide +kernel
theorem d_Md_mustBeginExp_26 : decode jMd_mustBeginExp.cc 26 = .ok (.if_icmp .le 16, 3) := by decide +kernel
theorem d_Md_mustBeginExp_29 : decode jMd_mustBeginExp.cc 29 = .ok (.aload_n 0, 1) := by decide +kernel
theorem d_Md_mustBeginExp_30 : decode jMd_mustBeginExp.cc 30 = .ok (.iconst 2, 1) := by decide +kernel
theorem d_Md_mustBeginExp_31 : decode jMd_mustBeginExp.cc 31 = .ok (.aload_n 0, 1) := by decide +kernel
theorem d_Md_mustBeginExp_32 : decode jMd_mustBeginExp.cc 32 = .ok (.aload_n 0, 1) := by decide +kernel
theorem d_Md_mustBeginExp_33 : decode jMd_mustBeginExp.cc 33 = .ok (.getfield 363, 3) := by decide +kernel
theorem d_Md_mustBeginExp_36 : decode jMd_mustBeginExp.cc 36 = .ok (.invokevirtual 366, 3) := by decide +kernel
theorem d_Md_mustBeginExp_39 : decode jMd_mustBeginExp.cc 39 = .ok (.invokevirtual 370, 3) := by decide +kernel
theorem d_Md_mustBeginExp_42 : decode jMd_mustBeginExp.cc 42 = .ok (.return_, 1) := by decide +kernel
set_option maxHeartbeats 4000000 in
theorem s_Md_mustBeginExp {g : Mg} {d : Nat} {K : Ou → Wd → Prop} {w : Wd} (h : Cal g LM jMd_beginsExp d [vA 0] w (fun o w1 => rIt o (fun b => K (.inr b) w1) (fun x2 => (¬ x2 = 0 → (((w1 0 44) ≤ 12 → (K (.inl none) w1)) ∧ (¬ (w1 0 44) ≤ 12 → (Cal g LM jMd_placeOf d [vA 0, vI (w1 0 11)] w1 (fun o w3 => rIt o (fun b => K (.inr b) w3) (fun x4 => Cal g LM jMd_fail d [vA 0, vI 2, vI x4] w3 (fun o w5 => rVt o (fun b => K (.inr b) w5) (K (.inl none) w5)))))))) ∧ (x2 = 0 → (Cal g LM jMd_placeOf d [vA 0, vI (w1 0 11)] w1 (fun o w6 => rIt o (fun b => K (.inr b) w6) (fun x7 => Cal g LM jMd_fail d [vA 0, vI 1, vI x7] w6 (fun o w8 => rVt o (fun b => K (.inr b) w8) (((w8 0 44) ≤ 12 → (K (.inl none) w8)) ∧ (¬ (w8 0 44) ≤ 12 → (Cal g LM jMd_placeOf d [vA 0, vI (w8 0 11)] w8 (fun o w9 => rIt o (fun b => K (.inr b) w9) (fun x10 => Cal g LM jMd_fail d [vA 0, vI 2, vI x10] w9 (fun o w11 => rVt o (fun b => K (.inr b) w11) (K (.inl none) w11))))))))))))))) : V g LM jMd_mustBeginExp (d + 1) K 0 [(0, vA 0)] [] w := by
  refine v_aload_n (pc := 0) d_Md_mustBeginExp_0 rfl (.head _) ?_
  refine v_callV (pc := 1) (J' := jMd_beginsExp) (d' := d) (o := 0) (ci := 13) (N := 93) (T := cT13) (As := []) d_Md_mustBeginExp_1 ml_Md_384 cM_0.1 cM_0.2 (by decide) rfl rfl (Nat.le_of_ble_eq_true rfl) (Nat.le_refl _) rfl (Cal.weak h (fun o w1 h => ?_))
  rcases rIt_of h with ⟨x2, rfl, h⟩ | ⟨b, rfl, h⟩
  rotate_left
  · exact h
  refine v_ifne (pc := 4) (tgt := 20) d_Md_mustBeginExp_4 (by decide) (fun c => ?_) (fun c => ?_)
  · replace h := h.1 c
    refine v_aload_n (pc := 20) d_Md_mustBeginExp_20 rfl (.head _) ?_
    refine v_geti (pc := 21) (x := (w1 0 44)) d_Md_mustBeginExp_21 fl_Md_388 cM_0.1 cM_0.2 (Or.inl rfl) rfl ?_
    refine v_bipush (pc := 24) d_Md_mustBeginExp_24 (by decide) rfl ?_
    refine v_icmple (pc := 26) (tgt := 42) d_Md_mustBeginExp_26 (by decide) (fun c => ?_) (fun c => ?_)
    · replace h := h.1 c
      exact v_vret (pc := 42) d_Md_mustBeginExp_42 rfl h
    · replace h := h.2 c
      refine v_aload_n (pc := 29) d_Md_mustBeginExp_29 rfl (.head _) ?_
      refine v_iconst (pc := 30) d_Md_mustBeginExp_30 (by decide) ?_
      refine v_aload_n (pc := 31) d_Md_mustBeginExp_31 rfl (.head _) ?_
      refine v_aload_n (pc := 32) d_Md_mustBeginExp_32 rfl (.head _) ?_
      refine v_geti (pc := 33) (x := (w1 0 11)) d_Md_mustBeginExp_33 fl_Md_363 cM_0.1 cM_0.2 (Or.inl rfl) rfl ?_
      refine v_callV (pc := 36) (J' := jMd_placeOf) (d' := d) (o := 0) (ci := 13) (N := 93) (T := cT13) (As := [vI (w1 0 11)]) d_Md_mustBeginExp_36 ml_Md_366 cM_0.1 cM_0.2 (by decide) rfl rfl (Nat.le_of_ble_eq_true rfl) (Nat.le_refl _) rfl (Cal.weak h (fun o w3 h => ?_))
      rcases rIt_of h with ⟨x4, rfl, h⟩ | ⟨b, rfl, h⟩
      rotate_left
      · exact h
      refine v_callV (pc := 39) (J' := jMd_fail) (d' := d) (o := 0) (ci := 13) (N := 93) (T := cT13) (As := [vI 2, vI x4]) d_Md_mustBeginExp_39 ml_Md_370 cM_0.1 cM_0.2 (by decide) rfl rfl (Nat.le_of_ble_eq_true rfl) (Nat.le_refl _) rfl (Cal.weak h (fun o w5 h => ?_))
      rcases rVt_of h with ⟨rfl, h⟩ | ⟨b, rfl, h⟩
      rotate_left
      · exact h
      exact v_vret (pc := 42) d_Md_mustBeginExp_42 rfl h
  · replace h := h.2 c
    refine v_aload_n (pc := 7) d_Md_mustBeginExp_7 rfl (.head _) ?_
    refine v_iconst (pc := 8) d_Md_mustBeginExp_8 (by decide) ?_
    refine v_aload_n (pc := 9) d_Md_mustBeginExp_9 rfl (.head _) ?_
    refine v_aload_n (pc := 10) d_Md_mustBeginExp_10 rfl (.head _) ?_
    refine v_geti (pc := 11) (x := (w1 0 11)) d_Md_mustBeginExp_11 fl_Md_363 cM_0.1 cM_0.2 (Or.inl rfl) rfl ?_
    refine v_callV (pc := 14) (J' := jMd_placeOf) (d' := d) (o := 0) (ci := 13) (N := 93) (T := cT13) (As := [vI (w1 0 11)]) d_Md_mustBeginExp_14 ml_Md_366 cM_0.1 cM_0.2 (by decide) rfl rfl (Nat.le_of_ble_eq_true rfl) (Nat.le_refl _) rfl (Cal.weak h (fun o w6 h => ?_))
    rcases rIt_of h with ⟨x7, rfl, h⟩ | ⟨b, rfl, h⟩
    rotate_left
    · exact h
    refine v_callV (pc := 17) (J' := jMd_fail) (d' := d) (o := 0) (ci := 13) (N := 93) (T := cT13) (As := [vI 1, vI x7]) d_Md_mustBeginExp_17 ml_Md_370 cM_0.1 cM_0.2 (by decide) rfl rfl (Nat.le_of_ble_eq_true rfl) (Nat.le_refl _) rfl (Cal.weak h (fun o w8 h => ?_))
    rcases rVt_of h with ⟨rfl, h⟩ | ⟨b, rfl, h⟩
    rotate_left
    · exact h
    refine v_aload_n (pc := 20) d_Md_mustBeginExp_20 rfl (.head _) ?_
    refine v_geti (pc := 21) (x := (w8 0 44)) d_Md_mustBeginExp_21 fl_Md_388 cM_0.1 cM_0.2 (Or.inl rfl) rfl ?_
    refine v_bipush (pc := 24) d_Md_mustBeginExp_24 (by decide) rfl ?_
    refine v_icmple (pc := 26) (tgt := 42) d_Md_mustBeginExp_26 (by decide) (fun c => ?_) (fun c => ?_)
    · replace h := h.1 c
      exact v_vret (pc := 42) d_Md_mustBeginExp_42 rfl h
    · replace h := h.2 c
      refine v_aload_n (pc := 29) d_Md_mustBeginExp_29 rfl (.head _) ?_
      refine v_iconst (pc := 30) d_Md_mustBeginExp_30 (by decide) ?_
      refine v_aload_n (pc := 31) d_Md_mustBeginExp_31 rfl (.head _) ?_
      refine v_aload_n (pc := 32) d_Md_mustBeginExp_32 rfl (.head _) ?_
      refine v_geti (pc := 33) (x := (w8 0 11)) d_Md_mustBeginExp_33 fl_Md_363 cM_0.1 cM_0.2 (Or.inl rfl) rfl ?_
      refine v_callV (pc := 36) (J' := jMd_placeOf) (d' := d) (o := 0) (ci := 13) (N := 93) (T := cT13) (As := [vI (w8 0 11)]) d_Md_mustBeginExp_36 ml_Md_366 cM_0.1 cM_0.2 (by decide) rfl rfl (Nat.le_of_ble_eq_true rfl) (Nat.le_refl _) rfl (Cal.weak h (fun o w9 h => ?_))
      rcases rIt_of h with ⟨x10, rfl, h⟩ | ⟨b, rfl, h⟩
      rotate_left
      · exact h
      refine v_callV (pc := 39) (J' := jMd_fail) (d' := d) (o := 0) (ci := 13) (N := 93) (T := cT13) (As := [vI 2, vI x10]) d_Md_mustBeginExp_39 ml_Md_370 cM_0.1 cM_0.2 (by decide) rfl rfl (Nat.le_of_ble_eq_true rfl) (Nat.le_refl _) rfl (Cal.weak h (fun o w11 h => ?_))
      rcases rVt_of h with ⟨rfl, h⟩ | ⟨b, rfl, h⟩
      rotate_left
      · exact h
      exact v_vret (pc := 42) d_Md_mustBeginExp_42 rfl h
theorem d_Md_readExp_0 : decode jMd_readExp.cc 0 = .ok (.aload_n 0, 1) := by decide +kernel
theorem d_Md_readExp_1 : decode jMd_readExp.cc 1 = .ok (.invokevirtual 391, 3) := by decide +kernel
theorem d_Md_readExp_4 : decode jMd_readExp.cc 4 = .ok (.aload_n 0, 1) := by decide +kernel
theorem d_Md_readExp_5 : decode jMd_readExp.cc 5 = .ok (.invokestatic 394, 3) := by decide +kernel
theorem d_Md_readExp_8 : decode jMd_readExp.cc 8 = .ok (.istore_n 1, 1) := by decide +kernel
theorem d_Md_readExp_9 : decode jMd_readExp.cc 9 = .ok (.aload_n 0, 1) := by decide +kernel
theorem d_Md_readExp_10 : decode jMd_readExp.cc 10 = .ok (.ldc 128, 2) := by decide +kernel
theorem d_Md_readExp_12 : decode jMd_readExp.cc 12 = .ok (.invokevirtual 374, 3) := by decide +kernel
theorem d_Md_readExp_15 : decode jMd_readExp.cc 15 = .ok (.ifCond .eq 32, 3) := by decide +kernel
theorem d_Md_readExp_18 : decode jMd_readExp.cc 18 = .ok (.aload_n 0, 1) := by decide +kernel
theorem d_Md_readExp_19 : decode jMd_readExp.cc 19 = .ok (.invokevirtual 378, 3) := by decide +kernel
theorem d_Md_readExp_22 : decode jMd_readExp.cc 22 = .ok (.istore_n 2, 1) := by decide +kernel
theorem d_Md_readExp_23 : decode jMd_readExp.cc 23 = .ok (.aload_n 0, 1) := by decide +kernel
theorem d_Md_readExp_24 : decode jMd_readExp.cc 24 = .ok (.invokestatic 394, 3) := by decide +kernel
theorem d_Md_readExp_27 : decode jMd_readExp.cc 27 = .ok (.istore_n 3, 1) := by decide +kernel
theorem d_Md_readExp_28 : decode jMd_readExp.cc 28 = .ok (.aload_n 0, 1) := by decide +kernel
theorem d_Md_readExp_29 : decode jMd_readExp.cc 29 = .ok (.bipush 11, 2) := by decide +kernel
theorem d_Md_readExp_31 : decode jMd_readExp.cc 31 = .ok (.iload_n 2, 1) := by decide +kernel
theorem d_Md_readExp_32 : decode jMd_readExp.cc 32 = .ok (.aload_n 0, 1) := by decide +kernel
theorem d_Md_readExp_33 : decode jMd_readExp.cc 33 = .ok (.getfield 222, 3) := by decide +kernel
theorem d_Md_readExp_36 : decode jMd_readExp.cc 36 = .ok (.iload_n 1, 1) := by decide +kernel
theorem d_Md_readExp_37 : decode jMd_readExp.cc 37 = .ok (.iaload, 1) := by decide +kernel
theorem d_Md_readExp_38 : decode jMd_readExp.cc 38 = .ok (.iload_n 1, 1) := by decide +kernel
theorem d_Md_readExp_39 : decode jMd_readExp.cc 39 = .ok (.iload_n 3, 1) := by decide +kernel
theorem d_Md_readExp_40 : decode jMd_readExp.cc 40 = .ok (.invokevirtual 398, 3) := by decide +kernel
theorem d_Md_readExp_43 : decode jMd_readExp.cc 43 = .ok (.istore_n 1, 1) := by decide +kernel
theorem d_Md_readExp_44 : decode jMd_readExp.cc 44 = .ok (.goto (-35), 3) := by decide +kernel
theorem d_Md_readExp_47 : decode jMd_readExp.cc 47 = .ok (.iload_n 1, 1) := by decide +kernel
theorem d_Md_readExp_48 : decode jMd_readExp.cc 48 = .ok (.ireturn, 1) := by decide +kernel
set_option maxHeartbeats 4000000 in
theorem s_Md_readExp {g : Mg} {d : Nat} {K : Ou → Wd → Prop} {w : Wd} (h : Cal g LM jMd_mustBeginExp d [vA 0] w (fun o w1 => rVt o (fun b => K (.inr b) w1) (Cal g LM jMd_readBoth d [vA 0] w1 (fun o w2 => rIt o (fun b => K (.inr b) w2) (fun x3 => V g LM jMd_readExp (d + 1) K 9 [(0, vA 0), (1, vI x3)] [] w2))))) : V g LM jMd_readExp (d + 1) K 0 [(0, vA 0)] [] w := by
  refine v_aload_n (pc := 0) d_Md_readExp_0 rfl (.head _) ?_
  refine v_callV (pc := 1) (J' := jMd_mustBeginExp) (d' := d) (o := 0) (ci := 13) (N := 93) (T := cT13) (As := []) d_Md_readExp_1 ml_Md_391 cM_0.1 cM_0.2 (by decide) rfl rfl (Nat.le_of_ble_eq_true rfl) (Nat.le_refl _) rfl (Cal.weak h (fun o w1 h => ?_))
  rcases rVt_of h with ⟨rfl, h⟩ | ⟨b, rfl, h⟩
  rotate_left
  · exact h
  refine v_aload_n (pc := 4) d_Md_readExp_4 rfl (.head _) ?_
  refine v_callS (pc := 5) (J' := jMd_readBoth) (d' := d) (As := [vA 0]) d_Md_readExp_5 ml_Md_394 rfl (Nat.le_of_ble_eq_true rfl) (Nat.le_refl _) rfl (Cal.weak h (fun o w2 h => ?_))
  rcases rIt_of h with ⟨x3, rfl, h⟩ | ⟨b, rfl, h⟩
  rotate_left
  · exact h
  refine v_istore_n (pc := 8) (ls' := [(1, vI x3), (0, vA 0)]) d_Md_readExp_8 rfl (by decide) rfl ?_
  exact v_sub (List.forall_mem_cons.mpr ⟨(.tail _ (.head _)), (List.forall_mem_cons.mpr ⟨(.head _), (fun _ z => absurd z List.not_mem_nil)⟩)⟩) h
set_option maxHeartbeats 4000000 in
theorem s_Md_readExp_9 {g : Mg} {d : Nat} {K : Ou → Wd → Prop} {w : Wd} {x1_ : Int} (h : Cal g LM jMd_is d [vA 0, vA 1042] w (fun o w1 => rIt o (fun b => K (.inr b) w1) (fun x2 => (x2 = 0 → (K (.inl (some (vI x1_))) w1)) ∧ (¬ x2 = 0 → (Cal g LM jMd_pass d [vA 0] w1 (fun o w3 => rIt o (fun b => K (.inr b) w3) (fun x4 => Cal g LM jMd_readBoth d [vA 0] w3 (fun o w5 => rIt o (fun b => K (.inr b) w5) (fun x6 => (0 ≤ x1_ ∧ x1_ < 2000) ∧ (Cal g LM jMd_exp d [vA 0, vI 11, vI x4, vI (w5 28 x1_.toNat), vI x1_, vI x6] w5 (fun o w7 => rIt o (fun b => K (.inr b) w7) (fun x8 => V g LM jMd_readExp (d + 1) K 9 [(0, vA 0), (1, vI x8)] [] w7)))))))))))) : V g LM jMd_readExp (d + 1) K 9 [(0, vA 0), (1, vI x1_)] [] w := by
  refine v_aload_n (pc := 9) d_Md_readExp_9 rfl (.head _) ?_
  refine v_ldcs (pc := 10) (n := 41) (tx := "||") d_Md_readExp_10 (by decide +kernel) ?_
  refine v_callV (pc := 12) (J' := jMd_is) (d' := d) (o := 0) (ci := 13) (N := 93) (T := cT13) (As := [vA 1042]) d_Md_readExp_12 ml_Md_374 cM_0.1 cM_0.2 (by decide) rfl rfl (Nat.le_of_ble_eq_true rfl) (Nat.le_refl _) rfl (Cal.weak h (fun o w1 h => ?_))
  rcases rIt_of h with ⟨x2, rfl, h⟩ | ⟨b, rfl, h⟩
  rotate_left
  · exact h
  refine v_ifeq (pc := 15) (tgt := 47) d_Md_readExp_15 (by decide) (fun c => ?_) (fun c => ?_)
  · replace h := h.1 c
    refine v_iload_n (pc := 47) d_Md_readExp_47 rfl (.tail _ (.head _)) ?_
    exact v_iret (pc := 48) d_Md_readExp_48 rfl h
  · replace h := h.2 c
    refine v_aload_n (pc := 18) d_Md_readExp_18 rfl (.head _) ?_
    refine v_callV (pc := 19) (J' := jMd_pass) (d' := d) (o := 0) (ci := 13) (N := 93) (T := cT13) (As := []) d_Md_readExp_19 ml_Md_378 cM_0.1 cM_0.2 (by decide) rfl rfl (Nat.le_of_ble_eq_true rfl) (Nat.le_refl _) rfl (Cal.weak h (fun o w3 h => ?_))
    rcases rIt_of h with ⟨x4, rfl, h⟩ | ⟨b, rfl, h⟩
    rotate_left
    · exact h
    refine v_istore_n (pc := 22) (ls' := [(2, vI x4), (0, vA 0), (1, vI x1_)]) d_Md_readExp_22 rfl (by decide) rfl ?_
    refine v_aload_n (pc := 23) d_Md_readExp_23 rfl (.tail _ (.head _)) ?_
    refine v_callS (pc := 24) (J' := jMd_readBoth) (d' := d) (As := [vA 0]) d_Md_readExp_24 ml_Md_394 rfl (Nat.le_of_ble_eq_true rfl) (Nat.le_refl _) rfl (Cal.weak h (fun o w5 h => ?_))
    rcases rIt_of h with ⟨x6, rfl, h⟩ | ⟨b, rfl, h⟩
    rotate_left
    · exact h
    refine v_istore_n (pc := 27) (ls' := [(3, vI x6), (2, vI x4), (0, vA 0), (1, vI x1_)]) d_Md_readExp_27 rfl (by decide) rfl ?_
    refine v_aload_n (pc := 28) d_Md_readExp_28 rfl (.tail _ (.tail _ (.head _))) ?_
    refine v_bipush (pc := 29) d_Md_readExp_29 (by decide) rfl ?_
    refine v_iload_n (pc := 31) d_Md_readExp_31 rfl (.tail _ (.head _)) ?_
    refine v_aload_n (pc := 32) d_Md_readExp_32 rfl (.tail _ (.tail _ (.head _))) ?_
    refine v_getr (C := "") (pc := 33) (r := 28) d_Md_readExp_33 fl_Md_222 cM_0.1 cM_0.2 (Or.inr ⟨_, rfl⟩) rM_0_34 ?_
    refine v_iload_n (pc := 36) d_Md_readExp_36 rfl (.tail _ (.tail _ (.tail _ (.head _)))) ?_
    refine v_iald (pc := 37) (x := (w5 28 x1_.toNat)) d_Md_readExp_37 cM_28.1 cM_28.2 rfl h.1 ?_
    replace h := h.2
    refine v_iload_n (pc := 38) d_Md_readExp_38 rfl (.tail _ (.tail _ (.tail _ (.head _)))) ?_
    refine v_iload_n (pc := 39) d_Md_readExp_39 rfl (.head _) ?_
    refine v_callV (pc := 40) (J' := jMd_exp) (d' := d) (o := 0) (ci := 13) (N := 93) (T := cT13) (As := [vI 11, vI x4, vI (w5 28 x1_.toNat), vI x1_, vI x6]) d_Md_readExp_40 ml_Md_398 cM_0.1 cM_0.2 (by decide) rfl rfl (Nat.le_of_ble_eq_true rfl) (Nat.le_refl _) rfl (Cal.weak h (fun o w7 h => ?_))
    rcases rIt_of h with ⟨x8, rfl, h⟩ | ⟨b, rfl, h⟩
    rotate_left
    · exact h
    refine v_istore_n (pc := 43) (ls' := [(1, vI x8), (3, vI x6), (2, vI x4), (0, vA 0)]) d_Md_readExp_43 rfl (by decide) rfl ?_
    refine v_goto (pc := 44) (tgt := 9) d_Md_readExp_44 (by decide) ?_
    exact v_sub (List.forall_mem_cons.mpr ⟨(.tail _ (.tail _ (.tail _ (.head _)))), (List.forall_mem_cons.mpr ⟨(.head _), (fun _ z => absurd z List.not_mem_nil)⟩)⟩) h
theorem d_Md_readBoth_0 : decode jMd_readBoth.cc 0 = .ok (.aload_n 0, 1) := by decide +kernel
theorem d_Md_readBoth_1 : decode jMd_readBoth.cc 1 = .ok (.invokestatic 402, 3) := by decide +kernel
theorem d_Md_readBoth_4 : decode jMd_readBoth.cc 4 = .ok (.istore_n 1, 1) := by decide +kernel
theorem d_Md_readBoth_5 : decode jMd_readBoth.cc 5 = .ok (.aload_n 0, 1) := by decide +kernel
theorem d_Md_readBoth_6 : decode jMd_readBoth.cc 6 = .ok (.ldc 126, 2) := by decide +kernel
theorem d_Md_readBoth_8 : decode jMd_readBoth.cc 8 = .ok (.invokevirtual 374, 3) := by decide +kernel
theorem d_Md_readBoth_11 : decode jMd_readBoth.cc 11 = .ok (.ifCond .eq 32, 3) := by decide +kernel
theorem d_Md_readBoth_14 : decode jMd_readBoth.cc 14 = .ok (.aload_n 0, 1) := by decide +kernel
theorem d_Md_readBoth_15 : decode jMd_readBoth.cc 15 = .ok (.invokevirtual 378, 3) := by decide +kernel
theorem d_Md_readBoth_18 : decode jMd_readBoth.cc 18 = .ok (.istore_n 2, 1) := by decide +kernel
theorem d_Md_readBoth_19 : decode jMd_readBoth.cc 19 = .ok (.aload_n 0, 1) := by decide +kernel
theorem d_Md_readBoth_20 : decode jMd_readBoth.cc 20 = .ok (.invokestatic 402, 3) := by decide +kernel
theorem d_Md_readBoth_23 : decode jMd_readBoth.cc 23 = .ok (.istore_n 3, 1) := by decide +kernel
theorem d_Md_readBoth_24 : decode jMd_readBoth.cc 24 = .ok (.aload_n 0, 1) := by decide +kernel
theorem d_Md_readBoth_25 : decode jMd_readBoth.cc 25 = .ok (.bipush 11, 2) := by decide +kernel
theorem d_Md_readBoth_27 : decode jMd_readBoth.cc 27 = .ok (.iload_n 2, 1) := by decide +kernel
theorem d_Md_readBoth_28 : decode jMd_readBoth.cc 28 = .ok (.aload_n 0, 1) := by decide +kernel
theorem d_Md_readBoth_29 : decode jMd_readBoth.cc 29 = .ok (.getfield 222, 3) := by decide +kernel
theorem d_Md_readBoth_32 : decode jMd_readBoth.cc 32 = .ok (.iload_n 1, 1) := by decide +kernel
theorem d_Md_readBoth_33 : decode jMd_readBoth.cc 33 = .ok (.iaload, 1) := by decide +kernel
theorem d_Md_readBoth_34 : decode jMd_readBoth.cc 34 = .ok (.iload_n 1, 1) := by decide +kernel
theorem d_Md_readBoth_35 : decode jMd_readBoth.cc 35 = .ok (.iload_n 3, 1) := by decide +kernel
theorem d_Md_readBoth_36 : decode jMd_readBoth.cc 36 = .ok (.invokevirtual 398, 3) := by decide +kernel
theorem d_Md_readBoth_39 : decode jMd_readBoth.cc 39 = .ok (.istore_n 1, 1) := by decide +kernel
theorem d_Md_readBoth_40 : decode jMd_readBoth.cc 40 = .ok (.goto (-35), 3) := by decide +kernel
theorem d_Md_readBoth_43 : decode jMd_readBoth.cc 43 = .ok (.iload_n 1, 1) := by decide +kernel
theorem d_Md_readBoth_44 : decode jMd_readBoth.cc 44 = .ok (.ireturn, 1) := by decide +kernel
set_option maxHeartbeats 4000000 in
theorem s_Md_readBoth {g : Mg} {d : Nat} {K : Ou → Wd → Prop} {w : Wd} (h : Cal g LM jMd_readTest d [vA 0] w (fun o w1 => rIt o (fun b => K (.inr b) w1) (fun x2 => V g LM jMd_readBoth (d + 1) K 5 [(0, vA 0), (1, vI x2)] [] w1))) : V g LM jMd_readBoth (d + 1) K 0 [(0, vA 0)] [] w := by
  refine v_aload_n (pc := 0) d_Md_readBoth_0 rfl (.head _) ?_
  refine v_callS (pc := 1) (J' := jMd_readTest) (d' := d) (As := [vA 0]) d_Md_readBoth_1 ml_Md_402 rfl (Nat.le_of_ble_eq_true rfl) (Nat.le_refl _) rfl (Cal.weak h (fun o w1 h => ?_))
  rcases rIt_of h with ⟨x2, rfl, h⟩ | ⟨b, rfl, h⟩
  rotate_left
  · exact h
  refine v_istore_n (pc := 4) (ls' := [(1, vI x2), (0, vA 0)]) d_Md_readBoth_4 rfl (by decide) rfl ?_
  exact v_sub (List.forall_mem_cons.mpr ⟨(.tail _ (.head _)), (List.forall_mem_cons.mpr ⟨(.head _), (fun _ z => absurd z List.not_mem_nil)⟩)⟩) h
set_option maxHeartbeats 4000000 in
theorem s_Md_readBoth_5 {g : Mg} {d : Nat} {K : Ou → Wd → Prop} {w : Wd} {x1_ : Int} (h : Cal g LM jMd_is d [vA 0, vA 1041] w (fun o w1 => rIt o (fun b => K (.inr b) w1) (fun x2 => (x2 = 0 → (K (.inl (some (vI x1_))) w1)) ∧ (¬ x2 = 0 → (Cal g LM jMd_pass d [vA 0] w1 (fun o w3 => rIt o (fun b => K (.inr b) w3) (fun x4 => Cal g LM jMd_readTest d [vA 0] w3 (fun o w5 => rIt o (fun b => K (.inr b) w5) (fun x6 => (0 ≤ x1_ ∧ x1_ < 2000) ∧ (Cal g LM jMd_exp d [vA 0, vI 11, vI x4, vI (w5 28 x1_.toNat), vI x1_, vI x6] w5 (fun o w7 => rIt o (fun b => K (.inr b) w7) (fun x8 => V g LM jMd_readBoth (d + 1) K 5 [(0, vA 0), (1, vI x8)] [] w7)))))))))))) : V g LM jMd_readBoth (d + 1) K 5 [(0, vA 0), (1, vI x1_)] [] w := by
  refine v_aload_n (pc := 5) d_Md_readBoth_5 rfl (.head _) ?_
  refine v_ldcs (pc := 6) (n := 40) (tx := "&&") d_Md_readBoth_6 (by decide +kernel) ?_
  refine v_callV (pc := 8) (J' := jMd_is) (d' := d) (o := 0) (ci := 13) (N := 93) (T := cT13) (As := [vA 1041]) d_Md_readBoth_8 ml_Md_374 cM_0.1 cM_0.2 (by decide) rfl rfl (Nat.le_of_ble_eq_true rfl) (Nat.le_refl _) rfl (Cal.weak h (fun o w1 h => ?_))
  rcases rIt_of h with ⟨x2, rfl, h⟩ | ⟨b, rfl, h⟩
  rotate_left
  · exact h
  refine v_ifeq (pc := 11) (tgt := 43) d_Md_readBoth_11 (by decide) (fun c => ?_) (fun c => ?_)
  · replace h := h.1 c
    refine v_iload_n (pc := 43) d_Md_readBoth_43 rfl (.tail _ (.head _)) ?_
    exact v_iret (pc := 44) d_Md_readBoth_44 rfl h
  · replace h := h.2 c
    refine v_aload_n (pc := 14) d_Md_readBoth_14 rfl (.head _) ?_
    refine v_callV (pc := 15) (J' := jMd_pass) (d' := d) (o := 0) (ci := 13) (N := 93) (T := cT13) (As := []) d_Md_readBoth_15 ml_Md_378 cM_0.1 cM_0.2 (by decide) rfl rfl (Nat.le_of_ble_eq_true rfl) (Nat.le_refl _) rfl (Cal.weak h (fun o w3 h => ?_))
    rcases rIt_of h with ⟨x4, rfl, h⟩ | ⟨b, rfl, h⟩
    rotate_left
    · exact h
    refine v_istore_n (pc := 18) (ls' := [(2, vI x4), (0, vA 0), (1, vI x1_)]) d_Md_readBoth_18 rfl (by decide) rfl ?_
    refine v_aload_n (pc := 19) d_Md_readBoth_19 rfl (.tail _ (.head _)) ?_
    refine v_callS (pc := 20) (J' := jMd_readTest) (d' := d) (As := [vA 0]) d_Md_readBoth_20 ml_Md_402 rfl (Nat.le_of_ble_eq_true rfl) (Nat.le_refl _) rfl (Cal.weak h (fun o w5 h => ?_))
    rcases rIt_of h with ⟨x6, rfl, h⟩ | ⟨b, rfl, h⟩
    rotate_left
    · exact h
    refine v_istore_n (pc := 23) (ls' := [(3, vI x6), (2, vI x4), (0, vA 0), (1, vI x1_)]) d_Md_readBoth_23 rfl (by decide) rfl ?_
    refine v_aload_n (pc := 24) d_Md_readBoth_24 rfl (.tail _ (.tail _ (.head _))) ?_
    refine v_bipush (pc := 25) d_Md_readBoth_25 (by decide) rfl ?_
    refine v_iload_n (pc := 27) d_Md_readBoth_27 rfl (.tail _ (.head _)) ?_
    refine v_aload_n (pc := 28) d_Md_readBoth_28 rfl (.tail _ (.tail _ (.head _))) ?_
    refine v_getr (C := "") (pc := 29) (r := 28) d_Md_readBoth_29 fl_Md_222 cM_0.1 cM_0.2 (Or.inr ⟨_, rfl⟩) rM_0_34 ?_
    refine v_iload_n (pc := 32) d_Md_readBoth_32 rfl (.tail _ (.tail _ (.tail _ (.head _)))) ?_
    refine v_iald (pc := 33) (x := (w5 28 x1_.toNat)) d_Md_readBoth_33 cM_28.1 cM_28.2 rfl h.1 ?_
    replace h := h.2
    refine v_iload_n (pc := 34) d_Md_readBoth_34 rfl (.tail _ (.tail _ (.tail _ (.head _)))) ?_
    refine v_iload_n (pc := 35) d_Md_readBoth_35 rfl (.head _) ?_
    refine v_callV (pc := 36) (J' := jMd_exp) (d' := d) (o := 0) (ci := 13) (N := 93) (T := cT13) (As := [vI 11, vI x4, vI (w5 28 x1_.toNat), vI x1_, vI x6]) d_Md_readBoth_36 ml_Md_398 cM_0.1 cM_0.2 (by decide) rfl rfl (Nat.le_of_ble_eq_true rfl) (Nat.le_refl _) rfl (Cal.weak h (fun o w7 h => ?_))
    rcases rIt_of h with ⟨x8, rfl, h⟩ | ⟨b, rfl, h⟩
    rotate_left
    · exact h
    refine v_istore_n (pc := 39) (ls' := [(1, vI x8), (3, vI x6), (2, vI x4), (0, vA 0)]) d_Md_readBoth_39 rfl (by decide) rfl ?_
    refine v_goto (pc := 40) (tgt := 5) d_Md_readBoth_40 (by decide) ?_
    exact v_sub (List.forall_mem_cons.mpr ⟨(.tail _ (.tail _ (.tail _ (.head _)))), (List.forall_mem_cons.mpr ⟨(.head _), (fun _ z => absurd z List.not_mem_nil)⟩)⟩) h
theorem d_Md_isTest_0 : decode jMd_isTest.cc 0 = .ok (.aload_n 0, 1) := by decide +kernel
theorem d_Md_isTest_1 : decode jMd_isTest.cc 1 = .ok (.ldc 118, 2) := by decide +kernel
theorem d_Md_isTest_3 : decode jMd_isTest.cc 3 = .ok (.invokevirtual 374, 3) := by decide +kernel
theorem d_Md_isTest_6 : decode jMd_isTest.cc 6 = .ok (.ifCond .ne 48, 3) := by decide +kernel
theorem d_Md_isTest_9 : decode jMd_isTest.cc 9 = .ok (.aload_n 0, 1) := by decide +kernel
theorem d_Md_isTest_10 : decode jMd_isTest.cc 10 = .ok (.ldc 120, 2) := by decide +kernel
theorem d_Md_isTest_12 : decode jMd_isTest.cc 12 = .ok (.invokevirtual 374, 3) := by decide +kernel
theorem d_Md_isTest_15 : decode jMd_isTest.cc 15 = .ok (.ifCond .ne 39, 3) := by decide +kernel
theorem d_Md_isTest_18 : decode jMd_isTest.cc 18 = .ok (.aload_n 0, 1) := by decide +kernel
theorem d_Md_isTest_19 : decode jMd_isTest.cc 19 = .ok (.ldc 148, 2) := by decide +kernel
theorem d_Md_isTest_21 : decode jMd_isTest.cc 21 = .ok (.invokevirtual 374, 3) := by decide +kernel
theorem d_Md_isTest_24 : decode jMd_isTest.cc 24 = .ok (.ifCond .ne 30, 3) := by decide +kernel
theorem d_Md_isTest_27 : decode jMd_isTest.cc 27 = .ok (.aload_n 0, 1) := by decide +kernel
theorem d_Md_isTest_28 : decode jMd_isTest.cc 28 = .ok (.ldc 122, 2) := by decide +kernel
theorem d_Md_isTest_30 : decode jMd_isTest.cc 30 = .ok (.invokevirtual 374, 3) := by decide +kernel
theorem d_Md_isTest_33 : decode jMd_isTest.cc 33 = .ok (.ifCond .ne 21, 3) := by decide +kernel
theorem d_Md_isTest_36 : decode jMd_isTest.cc 36 = .ok (.aload_n 0, 1) := by decide +kernel
theorem d_Md_isTest_37 : decode jMd_isTest.cc 37 = .ok (.ldc 150, 2) := by decide +kernel
theorem d_Md_isTest_39 : decode jMd_isTest.cc 39 = .ok (.invokevirtual 374, 3) := by decide +kernel
theorem d_Md_isTest_42 : decode jMd_isTest.cc 42 = .ok (.ifCond .ne 12, 3) := by decide +kernel
theorem d_Md_isTest_45 : decode jMd_isTest.cc 45 = .ok (.aload_n 0, 1) := by decide +kernel
theorem d_Md_isTest_46 : decode jMd_isTest.cc 46 = .ok (.ldc 124, 2) := by decide +kernel
theorem d_Md_isTest_48 : decode jMd_isTest.cc 48 = .ok (.invokevirtual 374, 3) := by decide +kernel
theorem d_Md_isTest_51 : decode jMd_isTest.cc 51 = .ok (.ifCond .eq 7, 3) := by decide +kernel
theorem d_Md_isTest_54 : decode jMd_isTest.cc 54 = .ok (.iconst 1, 1) := by decide +kernel
theorem d_Md_isTest_55 : decode jMd_isTest.cc 55 = .ok (.goto 4, 3) := by decide +kernel
theorem d_Md_isTest_58 : decode jMd_isTest.cc 58 = .ok (.iconst 0, 1) := by decide +kernel
theorem d_Md_isTest_59 : decode jMd_isTest.cc 59 = .ok (.ireturn, 1) := by decide +kernel
set_option maxHeartbeats 4000000 in
theorem s_Md_isTest {g : Mg} {d : Nat} {K : Ou → Wd → Prop} {w : Wd} (h : Cal g LM jMd_is d [vA 0, vA 1037] w (fun o w1 => rIt o (fun b => K (.inr b) w1) (fun x2 => (¬ x2 = 0 → (K (.inl (some (vI 1))) w1)) ∧ (x2 = 0 → (Cal g LM jMd_is d [vA 0, vA 1038] w1 (fun o w3 => rIt o (fun b => K (.inr b) w3) (fun x4 => (¬ x4 = 0 → (K (.inl (some (vI 1))) w3)) ∧ (x4 = 0 → (Cal g LM jMd_is d [vA 0, vA 1052] w3 (fun o w5 => rIt o (fun b => K (.inr b) w5) (fun x6 => (¬ x6 = 0 → (K (.inl (some (vI 1))) w5)) ∧ (x6 = 0 → (Cal g LM jMd_is d [vA 0, vA 1039] w5 (fun o w7 => rIt o (fun b => K (.inr b) w7) (fun x8 => (¬ x8 = 0 → (K (.inl (some (vI 1))) w7)) ∧ (x8 = 0 → (Cal g LM jMd_is d [vA 0, vA 1053] w7 (fun o w9 => rIt o (fun b => K (.inr b) w9) (fun x10 => (¬ x10 = 0 → (K (.inl (some (vI 1))) w9)) ∧ (x10 = 0 → (Cal g LM jMd_is d [vA 0, vA 1040] w9 (fun o w11 => rIt o (fun b => K (.inr b) w11) (fun x12 => (x12 = 0 → (K (.inl (some (vI 0))) w11)) ∧ (¬ x12 = 0 → (K (.inl (some (vI 1))) w11))))))))))))))))))))))))) : V g LM jMd_isTest (d + 1) K 0 [(0, vA 0)] [] w := by
  refine v_aload_n (pc := 0) d_Md_isTest_0 rfl (.head _) ?_
  refine v_ldcs (pc := 1) (n := 36) (tx := "==") d_Md_isTest_1 (by decide +kernel) ?_
  refine v_callV (pc := 3) (J' := jMd_is) (d' := d) (o := 0) (ci := 13) (N := 93) (T := cT13) (As := [vA 1037]) d_Md_isTest_3 ml_Md_374 cM_0.1 cM_0.2 (by decide) rfl rfl (Nat.le_of_ble_eq_true rfl) (Nat.le_refl _) rfl (Cal.weak h (fun o w1 h => ?_))
  rcases rIt_of h with ⟨x2, rfl, h⟩ | ⟨b, rfl, h⟩
  rotate_left
  · exact h
  refine v_ifne (pc := 6) (tgt := 54) d_Md_isTest_6 (by decide) (fun c => ?_) (fun c => ?_)
  · replace h := h.1 c
    refine v_iconst (pc := 54) d_Md_isTest_54 (by decide) ?_
    refine v_goto (pc := 55) (tgt := 59) d_Md_isTest_55 (by decide) ?_
    exact v_zret (pc := 59) d_Md_isTest_59 rfl (by decide) h
  · replace h := h.2 c
    refine v_aload_n (pc := 9) d_Md_isTest_9 rfl (.head _) ?_
    refine v_ldcs (pc := 10) (n := 37) (tx := "!=") d_Md_isTest_10 (by decide +kernel) ?_
    refine v_callV (pc := 12) (J' := jMd_is) (d' := d) (o := 0) (ci := 13) (N := 93) (T := cT13) (As := [vA 1038]) d_Md_isTest_12 ml_Md_374 cM_0.1 cM_0.2 (by decide) rfl rfl (Nat.le_of_ble_eq_true rfl) (Nat.le_refl _) rfl (Cal.weak h (fun o w3 h => ?_))
    rcases rIt_of h with ⟨x4, rfl, h⟩ | ⟨b, rfl, h⟩
    rotate_left
    · exact h
    refine v_ifne (pc := 15) (tgt := 54) d_Md_isTest_15 (by decide) (fun c => ?_) (fun c => ?_)
    · replace h := h.1 c
      refine v_iconst (pc := 54) d_Md_isTest_54 (by decide) ?_
      refine v_goto (pc := 55) (tgt := 59) d_Md_isTest_55 (by decide) ?_
      exact v_zret (pc := 59) d_Md_isTest_59 rfl (by decide) h
    · replace h := h.2 c
      refine v_aload_n (pc := 18) d_Md_isTest_18 rfl (.head _) ?_
      refine v_ldcs (pc := 19) (n := 51) (tx := "<") d_Md_isTest_19 (by decide +kernel) ?_
      refine v_callV (pc := 21) (J' := jMd_is) (d' := d) (o := 0) (ci := 13) (N := 93) (T := cT13) (As := [vA 1052]) d_Md_isTest_21 ml_Md_374 cM_0.1 cM_0.2 (by decide) rfl rfl (Nat.le_of_ble_eq_true rfl) (Nat.le_refl _) rfl (Cal.weak h (fun o w5 h => ?_))
      rcases rIt_of h with ⟨x6, rfl, h⟩ | ⟨b, rfl, h⟩
      rotate_left
      · exact h
      refine v_ifne (pc := 24) (tgt := 54) d_Md_isTest_24 (by decide) (fun c => ?_) (fun c => ?_)
      · replace h := h.1 c
        refine v_iconst (pc := 54) d_Md_isTest_54 (by decide) ?_
        refine v_goto (pc := 55) (tgt := 59) d_Md_isTest_55 (by decide) ?_
        exact v_zret (pc := 59) d_Md_isTest_59 rfl (by decide) h
      · replace h := h.2 c
        refine v_aload_n (pc := 27) d_Md_isTest_27 rfl (.head _) ?_
        refine v_ldcs (pc := 28) (n := 38) (tx := "<=") d_Md_isTest_28 (by decide +kernel) ?_
        refine v_callV (pc := 30) (J' := jMd_is) (d' := d) (o := 0) (ci := 13) (N := 93) (T := cT13) (As := [vA 1039]) d_Md_isTest_30 ml_Md_374 cM_0.1 cM_0.2 (by decide) rfl rfl (Nat.le_of_ble_eq_true rfl) (Nat.le_refl _) rfl (Cal.weak h (fun o w7 h => ?_))
        rcases rIt_of h with ⟨x8, rfl, h⟩ | ⟨b, rfl, h⟩
        rotate_left
        · exact h
        refine v_ifne (pc := 33) (tgt := 54) d_Md_isTest_33 (by decide) (fun c => ?_) (fun c => ?_)
        · replace h := h.1 c
          refine v_iconst (pc := 54) d_Md_isTest_54 (by decide) ?_
          refine v_goto (pc := 55) (tgt := 59) d_Md_isTest_55 (by decide) ?_
          exact v_zret (pc := 59) d_Md_isTest_59 rfl (by decide) h
        · replace h := h.2 c
          refine v_aload_n (pc := 36) d_Md_isTest_36 rfl (.head _) ?_
          refine v_ldcs (pc := 37) (n := 52) (tx := ">") d_Md_isTest_37 (by decide +kernel) ?_
          refine v_callV (pc := 39) (J' := jMd_is) (d' := d) (o := 0) (ci := 13) (N := 93) (T := cT13) (As := [vA 1053]) d_Md_isTest_39 ml_Md_374 cM_0.1 cM_0.2 (by decide) rfl rfl (Nat.le_of_ble_eq_true rfl) (Nat.le_refl _) rfl (Cal.weak h (fun o w9 h => ?_))
          rcases rIt_of h with ⟨x10, rfl, h⟩ | ⟨b, rfl, h⟩
          rotate_left
          · exact h
          refine v_ifne (pc := 42) (tgt := 54) d_Md_isTest_42 (by decide) (fun c => ?_) (fun c => ?_)
          · replace h := h.1 c
            refine v_iconst (pc := 54) d_Md_isTest_54 (by decide) ?_
            refine v_goto (pc := 55) (tgt := 59) d_Md_isTest_55 (by decide) ?_
            exact v_zret (pc := 59) d_Md_isTest_59 rfl (by decide) h
          · replace h := h.2 c
            refine v_aload_n (pc := 45) d_Md_isTest_45 rfl (.head _) ?_
            refine v_ldcs (pc := 46) (n := 39) (tx := ">=") d_Md_isTest_46 (by decide +kernel) ?_
            refine v_callV (pc := 48) (J' := jMd_is) (d' := d) (o := 0) (ci := 13) (N := 93) (T := cT13) (As := [vA 1040]) d_Md_isTest_48 ml_Md_374 cM_0.1 cM_0.2 (by decide) rfl rfl (Nat.le_of_ble_eq_true rfl) (Nat.le_refl _) rfl (Cal.weak h (fun o w11 h => ?_))
            rcases rIt_of h with ⟨x12, rfl, h⟩ | ⟨b, rfl, h⟩
            rotate_left
            · exact h
            refine v_ifeq (pc := 51) (tgt := 58) d_Md_isTest_51 (by decide) (fun c => ?_) (fun c => ?_)
            · replace h := h.1 c
              refine v_iconst (pc := 58) d_Md_isTest_58 (by decide) ?_
              exact v_zret (pc := 59) d_Md_isTest_59 rfl (by decide) h
            · replace h := h.2 c
              refine v_iconst (pc := 54) d_Md_isTest_54 (by decide) ?_
              refine v_goto (pc := 55) (tgt := 59) d_Md_isTest_55 (by decide) ?_
              exact v_zret (pc := 59) d_Md_isTest_59 rfl (by decide) h
theorem d_Md_readTest_0 : decode jMd_readTest.cc 0 = .ok (.aload_n 0, 1) := by decide +kernel
theorem d_Md_readTest_1 : decode jMd_readTest.cc 1 = .ok (.invokestatic 405, 3) := by decide +kernel
theorem d_Md_readTest_4 : decode jMd_readTest.cc 4 = .ok (.istore_n 1, 1) := by decide +kernel
theorem d_Md_readTest_5 : decode jMd_readTest.cc 5 = .ok (.aload_n 0, 1) := by decide +kernel
theorem d_Md_readTest_6 : decode jMd_readTest.cc 6 = .ok (.invokevirtual 408, 3) := by decide +kernel
theorem d_Md_readTest_9 : decode jMd_readTest.cc 9 = .ok (.ifCond .eq 29, 3) := by decide +kernel
theorem d_Md_readTest_12 : decode jMd_readTest.cc 12 = .ok (.aload_n 0, 1) := by decide +kernel
theorem d_Md_readTest_13 : decode jMd_readTest.cc 13 = .ok (.invokevirtual 378, 3) := by decide +kernel
theorem d_Md_readTest_16 : decode jMd_readTest.cc 16 = .ok (.istore_n 2, 1) := by decide +kernel
theorem d_Md_readTest_17 : decode jMd_readTest.cc 17 = .ok (.aload_n 0, 1) := by decide +kernel
theorem d_Md_readTest_18 : decode jMd_readTest.cc 18 = .ok (.invokestatic 405, 3) := by decide +kernel
theorem d_Md_readTest_21 : decode jMd_readTest.cc 21 = .ok (.istore_n 3, 1) := by decide +kernel
theorem d_Md_readTest_22 : decode jMd_readTest.cc 22 = .ok (.aload_n 0, 1) := by decide +kernel
theorem d_Md_readTest_23 : decode jMd_readTest.cc 23 = .ok (.bipush 11, 2) := by decide +kernel
theorem d_Md_readTest_25 : decode jMd_readTest.cc 25 = .ok (.iload_n 2, 1) := by decide +kernel
theorem d_Md_readTest_26 : decode jMd_readTest.cc 26 = .ok (.aload_n 0, 1) := by decide +kernel
theorem d_Md_readTest_27 : decode jMd_readTest.cc 27 = .ok (.getfield 222, 3) := by decide +kernel
theorem d_Md_readTest_30 : decode jMd_readTest.cc 30 = .ok (.iload_n 1, 1) := by decide +kernel
theorem d_Md_readTest_31 : decode jMd_readTest.cc 31 = .ok (.iaload, 1) := by decide +kernel
theorem d_Md_readTest_32 : decode jMd_readTest.cc 32 = .ok (.iload_n 1, 1) := by decide +kernel
theorem d_Md_readTest_33 : decode jMd_readTest.cc 33 = .ok (.iload_n 3, 1) := by decide +kernel
theorem d_Md_readTest_34 : decode jMd_readTest.cc 34 = .ok (.invokevirtual 398, 3) := by decide +kernel
theorem d_Md_readTest_37 : decode jMd_readTest.cc 37 = .ok (.istore_n 1, 1) := by decide +kernel
theorem d_Md_readTest_38 : decode jMd_readTest.cc 38 = .ok (.iload_n 1, 1) := by decide +kernel
theorem d_Md_readTest_39 : decode jMd_readTest.cc 39 = .ok (.ireturn, 1) := by decide +kernel
set_option maxHeartbeats 4000000 in
theorem s_Md_readTest {g : Mg} {d : Nat} {K : Ou → Wd → Prop} {w : Wd} (h : Cal g LM jMd_readSum d [vA 0] w (fun o w1 => rIt o (fun b => K (.inr b) w1) (fun x2 => Cal g LM jMd_isTest d [vA 0] w1 (fun o w3 => rIt o (fun b => K (.inr b) w3) (fun x4 => (x4 = 0 → (K (.inl (some (vI x2))) w3)) ∧ (¬ x4 = 0 → (Cal g LM jMd_pass d [vA 0] w3 (fun o w5 => rIt o (fun b => K (.inr b) w5) (fun x6 => Cal g LM jMd_readSum d [vA 0] w5 (fun o w7 => rIt o (fun b => K (.inr b) w7) (fun x8 => (0 ≤ x2 ∧ x2 < 2000) ∧ (Cal g LM jMd_exp d [vA 0, vI 11, vI x6, vI (w7 28 x2.toNat), vI x2, vI x8] w7 (fun o w9 => rIt o (fun b => K (.inr b) w9) (fun x10 => K (.inl (some (vI x10))) w9)))))))))))))) : V g LM jMd_readTest (d + 1) K 0 [(0, vA 0)] [] w := by
  refine v_aload_n (pc := 0) d_Md_readTest_0 rfl (.head _) ?_
  refine v_callS (pc := 1) (J' := jMd_readSum) (d' := d) (As := [vA 0]) d_Md_readTest_1 ml_Md_405 rfl (Nat.le_of_ble_eq_true rfl) (Nat.le_refl _) rfl (Cal.weak h (fun o w1 h => ?_))
  rcases rIt_of h with ⟨x2, rfl, h⟩ | ⟨b, rfl, h⟩
  rotate_left
  · exact h
  refine v_istore_n (pc := 4) (ls' := [(1, vI x2), (0, vA 0)]) d_Md_readTest_4 rfl (by decide) rfl ?_
  refine v_aload_n (pc := 5) d_Md_readTest_5 rfl (.tail _ (.head _)) ?_
  refine v_callV (pc := 6) (J' := jMd_isTest) (d' := d) (o := 0) (ci := 13) (N := 93) (T := cT13) (As := []) d_Md_readTest_6 ml_Md_408 cM_0.1 cM_0.2 (by decide) rfl rfl (Nat.le_of_ble_eq_true rfl) (Nat.le_refl _) rfl (Cal.weak h (fun o w3 h => ?_))
  rcases rIt_of h with ⟨x4, rfl, h⟩ | ⟨b, rfl, h⟩
  rotate_left
  · exact h
  refine v_ifeq (pc := 9) (tgt := 38) d_Md_readTest_9 (by decide) (fun c => ?_) (fun c => ?_)
  · replace h := h.1 c
    refine v_iload_n (pc := 38) d_Md_readTest_38 rfl (.head _) ?_
    exact v_iret (pc := 39) d_Md_readTest_39 rfl h
  · replace h := h.2 c
    refine v_aload_n (pc := 12) d_Md_readTest_12 rfl (.tail _ (.head _)) ?_
    refine v_callV (pc := 13) (J' := jMd_pass) (d' := d) (o := 0) (ci := 13) (N := 93) (T := cT13) (As := []) d_Md_readTest_13 ml_Md_378 cM_0.1 cM_0.2 (by decide) rfl rfl (Nat.le_of_ble_eq_true rfl) (Nat.le_refl _) rfl (Cal.weak h (fun o w5 h => ?_))
    rcases rIt_of h with ⟨x6, rfl, h⟩ | ⟨b, rfl, h⟩
    rotate_left
    · exact h
    refine v_istore_n (pc := 16) (ls' := [(2, vI x6), (1, vI x2), (0, vA 0)]) d_Md_readTest_16 rfl (by decide) rfl ?_
    refine v_aload_n (pc := 17) d_Md_readTest_17 rfl (.tail _ (.tail _ (.head _))) ?_
    refine v_callS (pc := 18) (J' := jMd_readSum) (d' := d) (As := [vA 0]) d_Md_readTest_18 ml_Md_405 rfl (Nat.le_of_ble_eq_true rfl) (Nat.le_refl _) rfl (Cal.weak h (fun o w7 h => ?_))
    rcases rIt_of h with ⟨x8, rfl, h⟩ | ⟨b, rfl, h⟩
    rotate_left
    · exact h
    refine v_istore_n (pc := 21) (ls' := [(3, vI x8), (2, vI x6), (1, vI x2), (0, vA 0)]) d_Md_readTest_21 rfl (by decide) rfl ?_
    refine v_aload_n (pc := 22) d_Md_readTest_22 rfl (.tail _ (.tail _ (.tail _ (.head _)))) ?_
    refine v_bipush (pc := 23) d_Md_readTest_23 (by decide) rfl ?_
    refine v_iload_n (pc := 25) d_Md_readTest_25 rfl (.tail _ (.head _)) ?_
    refine v_aload_n (pc := 26) d_Md_readTest_26 rfl (.tail _ (.tail _ (.tail _ (.head _)))) ?_
    refine v_getr (C := "") (pc := 27) (r := 28) d_Md_readTest_27 fl_Md_222 cM_0.1 cM_0.2 (Or.inr ⟨_, rfl⟩) rM_0_34 ?_
    refine v_iload_n (pc := 30) d_Md_readTest_30 rfl (.tail _ (.tail _ (.head _))) ?_
    refine v_iald (pc := 31) (x := (w7 28 x2.toNat)) d_Md_readTest_31 cM_28.1 cM_28.2 rfl h.1 ?_
    replace h := h.2
    refine v_iload_n (pc := 32) d_Md_readTest_32 rfl (.tail _ (.tail _ (.head _))) ?_
    refine v_iload_n (pc := 33) d_Md_readTest_33 rfl (.head _) ?_
    refine v_callV (pc := 34) (J' := jMd_exp) (d' := d) (o := 0) (ci := 13) (N := 93) (T := cT13) (As := [vI 11, vI x6, vI (w7 28 x2.toNat), vI x2, vI x8]) d_Md_readTest_34 ml_Md_398 cM_0.1 cM_0.2 (by decide) rfl rfl (Nat.le_of_ble_eq_true rfl) (Nat.le_refl _) rfl (Cal.weak h (fun o w9 h => ?_))
    rcases rIt_of h with ⟨x10, rfl, h⟩ | ⟨b, rfl, h⟩
    rotate_left
    · exact h
    refine v_istore_n (pc := 37) (ls' := [(1, vI x10), (3, vI x8), (2, vI x6), (0, vA 0)]) d_Md_readTest_37 rfl (by decide) rfl ?_
    refine v_iload_n (pc := 38) d_Md_readTest_38 rfl (.head _) ?_
    exact v_iret (pc := 39) d_Md_readTest_39 rfl h
theorem d_Md_readSum_0 : decode jMd_readSum.cc 0 = .ok (.aload_n 0, 1) := by decide +kernel
theorem d_Md_readSum_1 : decode jMd_readSum.cc 1 = .ok (.invokestatic 411, 3) := by decide +kernel
theorem d_Md_readSum_4 : decode jMd_readSum.cc 4 = .ok (.istore_n 1, 1) := by decide +kernel
theorem d_Md_readSum_5 : decode jMd_readSum.cc 5 = .ok (.aload_n 0, 1) := by decide +kernel
theorem d_Md_readSum_6 : decode jMd_readSum.cc 6 = .ok (.ldc 152, 2) := by decide +kernel
theorem d_Md_readSum_8 : decode jMd_readSum.cc 8 = .ok (.invokevirtual 374, 3) := by decide +kernel
theorem d_Md_readSum_11 : decode jMd_readSum.cc 11 = .ok (.ifCond .ne 12, 3) := by decide +kernel
theorem d_Md_readSum_14 : decode jMd_readSum.cc 14 = .ok (.aload_n 0, 1) := by decide +kernel
theorem d_Md_readSum_15 : decode jMd_readSum.cc 15 = .ok (.ldc 154, 2) := by decide +kernel
theorem d_Md_readSum_17 : decode jMd_readSum.cc 17 = .ok (.invokevirtual 374, 3) := by decide +kernel
theorem d_Md_readSum_20 : decode jMd_readSum.cc 20 = .ok (.ifCond .eq 32, 3) := by decide +kernel
theorem d_Md_readSum_23 : decode jMd_readSum.cc 23 = .ok (.aload_n 0, 1) := by decide +kernel
theorem d_Md_readSum_24 : decode jMd_readSum.cc 24 = .ok (.invokevirtual 378, 3) := by decide +kernel
theorem d_Md_readSum_27 : decode jMd_readSum.cc 27 = .ok (.istore_n 2, 1) := by decide +kernel
theorem d_Md_readSum_28 : decode jMd_readSum.cc 28 = .ok (.aload_n 0, 1) := by decide +kernel
theorem d_Md_readSum_29 : decode jMd_readSum.cc 29 = .ok (.invokestatic 411, 3) := by decide +kernel
theorem d_Md_readSum_32 : decode jMd_readSum.cc 32 = .ok (.istore_n 3, 1) := by decide +kernel
theorem d_Md_readSum_33 : decode jMd_readSum.cc 33 = .ok (.aload_n 0, 1) := by decide +kernel
theorem d_Md_readSum_34 : decode jMd_readSum.cc 34 = .ok (.bipush 11, 2) := by decide +kernel
theorem d_Md_readSum_36 : decode jMd_readSum.cc 36 = .ok (.iload_n 2, 1) := by decide +kernel
theorem d_Md_readSum_37 : decode jMd_readSum.cc 37 = .ok (.aload_n 0, 1) := by decide +kernel
theorem d_Md_readSum_38 : decode jMd_readSum.cc 38 = .ok (.getfield 222, 3) := by decide +kernel
theorem d_Md_readSum_41 : decode jMd_readSum.cc 41 = .ok (.iload_n 1, 1) := by decide +kernel
theorem d_Md_readSum_42 : decode jMd_readSum.cc 42 = .ok (.iaload, 1) := by decide +kernel
theorem d_Md_readSum_43 : decode jMd_readSum.cc 43 = .ok (.iload_n 1, 1) := by decide +kernel
theorem d_Md_readSum_44 : decode jMd_readSum.cc 44 = .ok (.iload_n 3, 1) := by decide +kernel
theorem d_Md_readSum_45 : decode jMd_readSum.cc 45 = .ok (.invokevirtual 398, 3) := by decide +kernel
theorem d_Md_readSum_48 : decode jMd_readSum.cc 48 = .ok (.istore_n 1, 1) := by decide +kernel
theorem d_Md_readSum_49 : decode jMd_readSum.cc 49 = .ok (.goto (-44), 3) := by decide +kernel
theorem d_Md_readSum_52 : decode jMd_readSum.cc 52 = .ok (.iload_n 1, 1) := by decide +kernel
theorem d_Md_readSum_53 : decode jMd_readSum.cc 53 = .ok (.ireturn, 1) := by decide +kernel
set_option maxHeartbeats 4000000 in
theorem s_Md_readSum {g : Mg} {d : Nat} {K : Ou → Wd → Prop} {w : Wd} (h : Cal g LM jMd_readTerm d [vA 0] w (fun o w1 => rIt o (fun b => K (.inr b) w1) (fun x2 => V g LM jMd_readSum (d + 1) K 5 [(0, vA 0), (1, vI x2)] [] w1))) : V g LM jMd_readSum (d + 1) K 0 [(0, vA 0)] [] w := by
  refine v_aload_n (pc := 0) d_Md_readSum_0 rfl (.head _) ?_
  refine v_callS (pc := 1) (J' := jMd_readTerm) (d' := d) (As := [vA 0]) d_Md_readSum_1 ml_Md_411 rfl (Nat.le_of_ble_eq_true rfl) (Nat.le_refl _) rfl (Cal.weak h (fun o w1 h => ?_))
  rcases rIt_of h with ⟨x2, rfl, h⟩ | ⟨b, rfl, h⟩
  rotate_left
  · exact h
  refine v_istore_n (pc := 4) (ls' := [(1, vI x2), (0, vA 0)]) d_Md_readSum_4 rfl (by decide) rfl ?_
  exact v_sub (List.forall_mem_cons.mpr ⟨(.tail _ (.head _)), (List.forall_mem_cons.mpr ⟨(.head _), (fun _ z => absurd z List.not_mem_nil)⟩)⟩) h
set_option maxHeartbeats 4000000 in
theorem s_Md_readSum_5 {g : Mg} {d : Nat} {K : Ou → Wd → Prop} {w : Wd} {x1_ : Int} (h : Cal g LM jMd_is d [vA 0, vA 1054] w (fun o w1 => rIt o (fun b => K (.inr b) w1) (fun x2 => (¬ x2 = 0 → (Cal g LM jMd_pass d [vA 0] w1 (fun o w3 => rIt o (fun b => K (.inr b) w3) (fun x4 => Cal g LM jMd_readTerm d [vA 0] w3 (fun o w5 => rIt o (fun b => K (.inr b) w5) (fun x6 => (0 ≤ x1_ ∧ x1_ < 2000) ∧ (Cal g LM jMd_exp d [vA 0, vI 11, vI x4, vI (w5 28 x1_.toNat), vI x1_, vI x6] w5 (fun o w7 => rIt o (fun b => K (.inr b) w7) (fun x8 => V g LM jMd_readSum (d + 1) K 5 [(0, vA 0), (1, vI x8)] [] w7))))))))) ∧ (x2 = 0 → (Cal g LM jMd_is d [vA 0, vA 1055] w1 (fun o w9 => rIt o (fun b => K (.inr b) w9) (fun x10 => (x10 = 0 → (K (.inl (some (vI x1_))) w9)) ∧ (¬ x10 = 0 → (Cal g LM jMd_pass d [vA 0] w9 (fun o w11 => rIt o (fun b => K (.inr b) w11) (fun x12 => Cal g LM jMd_readTerm d [vA 0] w11 (fun o w13 => rIt o (fun b => K (.inr b) w13) (fun x14 => (0 ≤ x1_ ∧ x1_ < 2000) ∧ (Cal g LM jMd_exp d [vA 0, vI 11, vI x12, vI (w13 28 x1_.toNat), vI x1_, vI x14] w13 (fun o w15 => rIt o (fun b => K (.inr b) w15) (fun x16 => V g LM jMd_readSum (d + 1) K 5 [(0, vA 0), (1, vI x16)] [] w15)))))))))))))))) : V g LM jMd_readSum (d + 1) K 5 [(0, vA 0), (1, vI x1_)] [] w := by
  refine v_aload_n (pc := 5) d_Md_readSum_5 rfl (.head _) ?_
  refine v_ldcs (pc := 6) (n := 53) (tx := "+") d_Md_readSum_6 (by decide +kernel) ?_
  refine v_callV (pc := 8) (J' := jMd_is) (d' := d) (o := 0) (ci := 13) (N := 93) (T := cT13) (As := [vA 1054]) d_Md_readSum_8 ml_Md_374 cM_0.1 cM_0.2 (by decide) rfl rfl (Nat.le_of_ble_eq_true rfl) (Nat.le_refl _) rfl (Cal.weak h (fun o w1 h => ?_))
  rcases rIt_of h with ⟨x2, rfl, h⟩ | ⟨b, rfl, h⟩
  rotate_left
  · exact h
  refine v_ifne (pc := 11) (tgt := 23) d_Md_readSum_11 (by decide) (fun c => ?_) (fun c => ?_)
  · replace h := h.1 c
    refine v_aload_n (pc := 23) d_Md_readSum_23 rfl (.head _) ?_
    refine v_callV (pc := 24) (J' := jMd_pass) (d' := d) (o := 0) (ci := 13) (N := 93) (T := cT13) (As := []) d_Md_readSum_24 ml_Md_378 cM_0.1 cM_0.2 (by decide) rfl rfl (Nat.le_of_ble_eq_true rfl) (Nat.le_refl _) rfl (Cal.weak h (fun o w3 h => ?_))
    rcases rIt_of h with ⟨x4, rfl, h⟩ | ⟨b, rfl, h⟩
    rotate_left
    · exact h
    refine v_istore_n (pc := 27) (ls' := [(2, vI x4), (0, vA 0), (1, vI x1_)]) d_Md_readSum_27 rfl (by decide) rfl ?_
    refine v_aload_n (pc := 28) d_Md_readSum_28 rfl (.tail _ (.head _)) ?_
    refine v_callS (pc := 29) (J' := jMd_readTerm) (d' := d) (As := [vA 0]) d_Md_readSum_29 ml_Md_411 rfl (Nat.le_of_ble_eq_true rfl) (Nat.le_refl _) rfl (Cal.weak h (fun o w5 h => ?_))
    rcases rIt_of h with ⟨x6, rfl, h⟩ | ⟨b, rfl, h⟩
    rotate_left
    · exact h
    refine v_istore_n (pc := 32) (ls' := [(3, vI x6), (2, vI x4), (0, vA 0), (1, vI x1_)]) d_Md_readSum_32 rfl (by decide) rfl ?_
    refine v_aload_n (pc := 33) d_Md_readSum_33 rfl (.tail _ (.tail _ (.head _))) ?_
    refine v_bipush (pc := 34) d_Md_readSum_34 (by decide) rfl ?_
    refine v_iload_n (pc := 36) d_Md_readSum_36 rfl (.tail _ (.head _)) ?_
    refine v_aload_n (pc := 37) d_Md_readSum_37 rfl (.tail _ (.tail _ (.head _))) ?_
    refine v_getr (C := "") (pc := 38) (r := 28) d_Md_readSum_38 fl_Md_222 cM_0.1 cM_0.2 (Or.inr ⟨_, rfl⟩) rM_0_34 ?_
    refine v_iload_n (pc := 41) d_Md_readSum_41 rfl (.tail _ (.tail _ (.tail _ (.head _)))) ?_
    refine v_iald (pc := 42) (x := (w5 28 x1_.toNat)) d_Md_readSum_42 cM_28.1 cM_28.2 rfl h.1 ?_
    replace h := h.2
    refine v_iload_n (pc := 43) d_Md_readSum_43 rfl (.tail _ (.tail _ (.tail _ (.head _)))) ?_
    refine v_iload_n (pc := 44) d_Md_readSum_44 rfl (.head _) ?_
    refine v_callV (pc := 45) (J' := jMd_exp) (d' := d) (o := 0) (ci := 13) (N := 93) (T := cT13) (As := [vI 11, vI x4, vI (w5 28 x1_.toNat), vI x1_, vI x6]) d_Md_readSum_45 ml_Md_398 cM_0.1 cM_0.2 (by decide) rfl rfl (Nat.le_of_ble_eq_true rfl) (Nat.le_refl _) rfl (Cal.weak h (fun o w7 h => ?_))
    rcases rIt_of h with ⟨x8, rfl, h⟩ | ⟨b, rfl, h⟩
    rotate_left
    · exact h
    refine v_istore_n (pc := 48) (ls' := [(1, vI x8), (3, vI x6), (2, vI x4), (0, vA 0)]) d_Md_readSum_48 rfl (by decide) rfl ?_
    refine v_goto (pc := 49) (tgt := 5) d_Md_readSum_49 (by decide) ?_
    exact v_sub (List.forall_mem_cons.mpr ⟨(.tail _ (.tail _ (.tail _ (.head _)))), (List.forall_mem_cons.mpr ⟨(.head _), (fun _ z => absurd z List.not_mem_nil)⟩)⟩) h
  · replace h := h.2 c
    refine v_aload_n (pc := 14) d_Md_readSum_14 rfl (.head _) ?_
    refine v_ldcs (pc := 15) (n := 54) (tx := "-") d_Md_readSum_15 (by decide +kernel) ?_
    refine v_callV (pc := 17) (J' := jMd_is) (d' := d) (o := 0) (ci := 13) (N := 93) (T := cT13) (As := [vA 1055]) d_Md_readSum_17 ml_Md_374 cM_0.1 cM_0.2 (by decide) rfl rfl (Nat.le_of_ble_eq_true rfl) (Nat.le_refl _) rfl (Cal.weak h (fun o w9 h => ?_))
    rcases rIt_of h with ⟨x10, rfl, h⟩ | ⟨b, rfl, h⟩
    rotate_left
    · exact h
    refine v_ifeq (pc := 20) (tgt := 52) d_Md_readSum_20 (by decide) (fun c => ?_) (fun c => ?_)
    · replace h := h.1 c
      refine v_iload_n (pc := 52) d_Md_readSum_52 rfl (.tail _ (.head _)) ?_
      exact v_iret (pc := 53) d_Md_readSum_53 rfl h
    · replace h := h.2 c
      refine v_aload_n (pc := 23) d_Md_readSum_23 rfl (.head _) ?_
      refine v_callV (pc := 24) (J' := jMd_pass) (d' := d) (o := 0) (ci := 13) (N := 93) (T := cT13) (As := []) d_Md_readSum_24 ml_Md_378 cM_0.1 cM_0.2 (by decide) rfl rfl (Nat.le_of_ble_eq_true rfl) (Nat.le_refl _) rfl (Cal.weak h (fun o w11 h => ?_))
      rcases rIt_of h with ⟨x12, rfl, h⟩ | ⟨b, rfl, h⟩
      rotate_left
      · exact h
      refine v_istore_n (pc := 27) (ls' := [(2, vI x12), (0, vA 0), (1, vI x1_)]) d_Md_readSum_27 rfl (by decide) rfl ?_
      refine v_aload_n (pc := 28) d_Md_readSum_28 rfl (.tail _ (.head _)) ?_
      refine v_callS (pc := 29) (J' := jMd_readTerm) (d' := d) (As := [vA 0]) d_Md_readSum_29 ml_Md_411 rfl (Nat.le_of_ble_eq_true rfl) (Nat.le_refl _) rfl (Cal.weak h (fun o w13 h => ?_))
      rcases rIt_of h with ⟨x14, rfl, h⟩ | ⟨b, rfl, h⟩
      rotate_left
      · exact h
      refine v_istore_n (pc := 32) (ls' := [(3, vI x14), (2, vI x12), (0, vA 0), (1, vI x1_)]) d_Md_readSum_32 rfl (by decide) rfl ?_
      refine v_aload_n (pc := 33) d_Md_readSum_33 rfl (.tail _ (.tail _ (.head _))) ?_
      refine v_bipush (pc := 34) d_Md_readSum_34 (by decide) rfl ?_
      refine v_iload_n (pc := 36) d_Md_readSum_36 rfl (.tail _ (.head _)) ?_
      refine v_aload_n (pc := 37) d_Md_readSum_37 rfl (.tail _ (.tail _ (.head _))) ?_
      refine v_getr (C := "") (pc := 38) (r := 28) d_Md_readSum_38 fl_Md_222 cM_0.1 cM_0.2 (Or.inr ⟨_, rfl⟩) rM_0_34 ?_
      refine v_iload_n (pc := 41) d_Md_readSum_41 rfl (.tail _ (.tail _ (.tail _ (.head _)))) ?_
      refine v_iald (pc := 42) (x := (w13 28 x1_.toNat)) d_Md_readSum_42 cM_28.1 cM_28.2 rfl h.1 ?_
      replace h := h.2
      refine v_iload_n (pc := 43) d_Md_readSum_43 rfl (.tail _ (.tail _ (.tail _ (.head _)))) ?_
      refine v_iload_n (pc := 44) d_Md_readSum_44 rfl (.head _) ?_
      refine v_callV (pc := 45) (J' := jMd_exp) (d' := d) (o := 0) (ci := 13) (N := 93) (T := cT13) (As := [vI 11, vI x12, vI (w13 28 x1_.toNat), vI x1_, vI x14]) d_Md_readSum_45 ml_Md_398 cM_0.1 cM_0.2 (by decide) rfl rfl (Nat.le_of_ble_eq_true rfl) (Nat.le_refl _) rfl (Cal.weak h (fun o w15 h => ?_))
      rcases rIt_of h with ⟨x16, rfl, h⟩ | ⟨b, rfl, h⟩
      rotate_left
      · exact h
      refine v_istore_n (pc := 48) (ls' := [(1, vI x16), (3, vI x14), (2, vI x12), (0, vA 0)]) d_Md_readSum_48 rfl (by decide) rfl ?_
      refine v_goto (pc := 49) (tgt := 5) d_Md_readSum_49 (by decide) ?_
      exact v_sub (List.forall_mem_cons.mpr ⟨(.tail _ (.tail _ (.tail _ (.head _)))), (List.forall_mem_cons.mpr ⟨(.head _), (fun _ z => absurd z List.not_mem_nil)⟩)⟩) h
theorem d_Md_readTerm_0 : decode jMd_readTerm.cc 0 = .ok (.aload_n 0, 1) := by decide +kernel
theorem d_Md_readTerm_1 : decode jMd_readTerm.cc 1 = .ok (.invokestatic 414, 3) := by decide +kernel
theorem d_Md_readTerm_4 : decode jMd_readTerm.cc 4 = .ok (.istore_n 1, 1) := by decide +kernel
theorem d_Md_readTerm_5 : decode jMd_readTerm.cc 5 = .ok (.aload_n 0, 1) := by decide +kernel
theorem d_Md_readTerm_6 : decode jMd_readTerm.cc 6 = .ok (.ldc 156, 2) := by decide +kernel
theorem d_Md_readTerm_8 : decode jMd_readTerm.cc 8 = .ok (.invokevirtual 374, 3) := by decide +kernel
theorem d_Md_readTerm_11 : decode jMd_readTerm.cc 11 = .ok (.ifCond .ne 21, 3) := by decide +kernel
theorem d_Md_readTerm_14 : decode jMd_readTerm.cc 14 = .ok (.aload_n 0, 1) := by decide +kernel
theorem d_Md_readTerm_15 : decode jMd_readTerm.cc 15 = .ok (.ldc 158, 2) := by decide +kernel
theorem d_Md_readTerm_17 : decode jMd_readTerm.cc 17 = .ok (.invokevirtual 374, 3) := by decide +kernel
theorem d_Md_readTerm_20 : decode jMd_readTerm.cc 20 = .ok (.ifCond .ne 12, 3) := by decide +kernel
theorem d_Md_readTerm_23 : decode jMd_readTerm.cc 23 = .ok (.aload_n 0, 1) := by decide +kernel
theorem d_Md_readTerm_24 : decode jMd_readTerm.cc 24 = .ok (.ldc 160, 2) := by decide +kernel
theorem d_Md_readTerm_26 : decode jMd_readTerm.cc 26 = .ok (.invokevirtual 374, 3) := by decide +kernel
theorem d_Md_readTerm_29 : decode jMd_readTerm.cc 29 = .ok (.ifCond .eq 32, 3) := by decide +kernel
theorem d_Md_readTerm_32 : decode jMd_readTerm.cc 32 = .ok (.aload_n 0, 1) := by decide +kernel
theorem d_Md_readTerm_33 : decode jMd_readTerm.cc 33 = .ok (.invokevirtual 378, 3) := by decide +kernel
theorem d_Md_readTerm_36 : decode jMd_readTerm.cc 36 = .ok (.istore_n 2, 1) := by decide +kernel
theorem d_Md_readTerm_37 : decode jMd_readTerm.cc 37 = .ok (.aload_n 0, 1) := by decide +kernel
theorem d_Md_readTerm_38 : decode jMd_readTerm.cc 38 = .ok (.invokestatic 414, 3) := by decide +kernel
theorem d_Md_readTerm_41 : decode jMd_readTerm.cc 41 = .ok (.istore_n 3, 1) := by decide +kernel
theorem d_Md_readTerm_42 : decode jMd_readTerm.cc 42 = .ok (.aload_n 0, 1) := by decide +kernel
theorem d_Md_readTerm_43 : decode jMd_readTerm.cc 43 = .ok (.bipush 11, 2) := by decide +kernel
theorem d_Md_readTerm_45 : decode jMd_readTerm.cc 45 = .ok (.iload_n 2, 1) := by decide +kernel
theorem d_Md_readTerm_46 : decode jMd_readTerm.cc 46 = .ok (.aload_n 0, 1) := by decide +kernel
theorem d_Md_readTerm_47 : decode jMd_readTerm.cc 47 = .ok (.getfield 222, 3) := by decide +kernel
theorem d_Md_readTerm_50 : decode jMd_readTerm.cc 50 = .ok (.iload_n 1, 1) := by decide +kernel
theorem d_Md_readTerm_51 : decode jMd_readTerm.cc 51 = .ok (.iaload, 1) := by decide +kernel
theorem d_Md_readTerm_52 : decode jMd_readTerm.cc 52 = .ok (.iload_n 1, 1) := by decide +kernel
theorem d_Md_readTerm_53 : decode jMd_readTerm.cc 53 = .ok (.iload_n 3, 1) := by decide +kernel
theorem d_Md_readTerm_54 : decode jMd_readTerm.cc 54 = .ok (.invokevirtual 398, 3) := by decide +kernel
theorem d_Md_readTerm_57 : decode jMd_readTerm.cc 57 = .ok (.istore_n 1, 1) := by decide +kernel
theorem d_Md_readTerm_58 : decode jMd_readTerm.cc 58 = .ok (.goto (-53), 3) := by decide +kernel
theorem d_Md_readTerm_61 : decode jMd_readTerm.cc 61 = .ok (.iload_n 1, 1) := by decide +kernel
theorem d_Md_readTerm_62 : decode jMd_readTerm.cc 62 = .ok (.ireturn, 1) := by decide +kernel
set_option maxHeartbeats 4000000 in
theorem s_Md_readTerm {g : Mg} {d : Nat} {K : Ou → Wd → Prop} {w : Wd} (h : Cal g LM jMd_readOne d [vA 0] w (fun o w1 => rIt o (fun b => K (.inr b) w1) (fun x2 => V g LM jMd_readTerm (d + 1) K 5 [(0, vA 0), (1, vI x2)] [] w1))) : V g LM jMd_readTerm (d + 1) K 0 [(0, vA 0)] [] w := by
  refine v_aload_n (pc := 0) d_Md_readTerm_0 rfl (.head _) ?_
  refine v_callS (pc := 1) (J' := jMd_readOne) (d' := d) (As := [vA 0]) d_Md_readTerm_1 ml_Md_414 rfl (Nat.le_of_ble_eq_true rfl) (Nat.le_refl _) rfl (Cal.weak h (fun o w1 h => ?_))
  rcases rIt_of h with ⟨x2, rfl, h⟩ | ⟨b, rfl, h⟩
  rotate_left
  · exact h
  refine v_istore_n (pc := 4) (ls' := [(1, vI x2), (0, vA 0)]) d_Md_readTerm_4 rfl (by decide) rfl ?_
  exact v_sub (List.forall_mem_cons.mpr ⟨(.tail _ (.head _)), (List.forall_mem_cons.mpr ⟨(.head _), (fun _ z => absurd z List.not_mem_nil)⟩)⟩) h
set_option maxHeartbeats 4000000 in
theorem s_Md_readTerm_5 {g : Mg} {d : Nat} {K : Ou → Wd → Prop} {w : Wd} {x1_ : Int} (h : Cal g LM jMd_is d [vA 0, vA 1056] w (fun o w1 => rIt o (fun b => K (.inr b) w1) (fun x2 => (¬ x2 = 0 → (Cal g LM jMd_pass d [vA 0] w1 (fun o w3 => rIt o (fun b => K (.inr b) w3) (fun x4 => Cal g LM jMd_readOne d [vA 0] w3 (fun o w5 => rIt o (fun b => K (.inr b) w5) (fun x6 => (0 ≤ x1_ ∧ x1_ < 2000) ∧ (Cal g LM jMd_exp d [vA 0, vI 11, vI x4, vI (w5 28 x1_.toNat), vI x1_, vI x6] w5 (fun o w7 => rIt o (fun b => K (.inr b) w7) (fun x8 => V g LM jMd_readTerm (d + 1) K 5 [(0, vA 0), (1, vI x8)] [] w7))))))))) ∧ (x2 = 0 → (Cal g LM jMd_is d [vA 0, vA 1057] w1 (fun o w9 => rIt o (fun b => K (.inr b) w9) (fun x10 => (¬ x10 = 0 → (Cal g LM jMd_pass d [vA 0] w9 (fun o w11 => rIt o (fun b => K (.inr b) w11) (fun x12 => Cal g LM jMd_readOne d [vA 0] w11 (fun o w13 => rIt o (fun b => K (.inr b) w13) (fun x14 => (0 ≤ x1_ ∧ x1_ < 2000) ∧ (Cal g LM jMd_exp d [vA 0, vI 11, vI x12, vI (w13 28 x1_.toNat), vI x1_, vI x14] w13 (fun o w15 => rIt o (fun b => K (.inr b) w15) (fun x16 => V g LM jMd_readTerm (d + 1) K 5 [(0, vA 0), (1, vI x16)] [] w15))))))))) ∧ (x10 = 0 → (Cal g LM jMd_is d [vA 0, vA 1058] w9 (fun o w17 => rIt o (fun b => K (.inr b) w17) (fun x18 => (x18 = 0 → (K (.inl (some (vI x1_))) w17)) ∧ (¬ x18 = 0 → (Cal g LM jMd_pass d [vA 0] w17 (fun o w19 => rIt o (fun b => K (.inr b) w19) (fun x20 => Cal g LM jMd_readOne d [vA 0] w19 (fun o w21 => rIt o (fun b => K (.inr b) w21) (fun x22 => (0 ≤ x1_ ∧ x1_ < 2000) ∧ (Cal g LM jMd_exp d [vA 0, vI 11, vI x20, vI (w21 28 x1_.toNat), vI x1_, vI x22] w21 (fun o w23 => rIt o (fun b => K (.inr b) w23) (fun x24 => V g LM jMd_readTerm (d + 1) K 5 [(0, vA 0), (1, vI x24)] [] w23)))))))))))))))))))) : V g LM jMd_readTerm (d + 1) K 5 [(0, vA 0), (1, vI x1_)] [] w := by
  refine v_aload_n (pc := 5) d_Md_readTerm_5 rfl (.head _) ?_
  refine v_ldcs (pc := 6) (n := 55) (tx := "*") d_Md_readTerm_6 (by decide +kernel) ?_
  refine v_callV (pc := 8) (J' := jMd_is) (d' := d) (o := 0) (ci := 13) (N := 93) (T := cT13) (As := [vA 1056]) d_Md_readTerm_8 ml_Md_374 cM_0.1 cM_0.2 (by decide) rfl rfl (Nat.le_of_ble_eq_true rfl) (Nat.le_refl _) rfl (Cal.weak h (fun o w1 h => ?_))
  rcases rIt_of h with ⟨x2, rfl, h⟩ | ⟨b, rfl, h⟩
  rotate_left
  · exact h
  refine v_ifne (pc := 11) (tgt := 32) d_Md_readTerm_11 (by decide) (fun c => ?_) (fun c => ?_)
  · replace h := h.1 c
    refine v_aload_n (pc := 32) d_Md_readTerm_32 rfl (.head _) ?_
    refine v_callV (pc := 33) (J' := jMd_pass) (d' := d) (o := 0) (ci := 13) (N := 93) (T := cT13) (As := []) d_Md_readTerm_33 ml_Md_378 cM_0.1 cM_0.2 (by decide) rfl rfl (Nat.le_of_ble_eq_true rfl) (Nat.le_refl _) rfl (Cal.weak h (fun o w3 h => ?_))
    rcases rIt_of h with ⟨x4, rfl, h⟩ | ⟨b, rfl, h⟩
    rotate_left
    · exact h
    refine v_istore_n (pc := 36) (ls' := [(2, vI x4), (0, vA 0), (1, vI x1_)]) d_Md_readTerm_36 rfl (by decide) rfl ?_
    refine v_aload_n (pc := 37) d_Md_readTerm_37 rfl (.tail _ (.head _)) ?_
    refine v_callS (pc := 38) (J' := jMd_readOne) (d' := d) (As := [vA 0]) d_Md_readTerm_38 ml_Md_414 rfl (Nat.le_of_ble_eq_true rfl) (Nat.le_refl _) rfl (Cal.weak h (fun o w5 h => ?_))
    rcases rIt_of h with ⟨x6, rfl, h⟩ | ⟨b, rfl, h⟩
    rotate_left
    · exact h
    refine v_istore_n (pc := 41) (ls' := [(3, vI x6), (2, vI x4), (0, vA 0), (1, vI x1_)]) d_Md_readTerm_41 rfl (by decide) rfl ?_
    refine v_aload_n (pc := 42) d_Md_readTerm_42 rfl (.tail _ (.tail _ (.head _))) ?_
    refine v_bipush (pc := 43) d_Md_readTerm_43 (by decide) rfl ?_
    refine v_iload_n (pc := 45) d_Md_readTerm_45 rfl (.tail _ (.head _)) ?_
    refine v_aload_n (pc := 46) d_Md_readTerm_46 rfl (.tail _ (.tail _ (.head _))) ?_
    refine v_getr (C := "") (pc := 47) (r := 28) d_Md_readTerm_47 fl_Md_222 cM_0.1 cM_0.2 (Or.inr ⟨_, rfl⟩) rM_0_34 ?_
    refine v_iload_n (pc := 50) d_Md_readTerm_50 rfl (.tail _ (.tail _ (.tail _ (.head _)))) ?_
    refine v_iald (pc := 51) (x := (w5 28 x1_.toNat)) d_Md_readTerm_51 cM_28.1 cM_28.2 rfl h.1 ?_
    replace h := h.2
    refine v_iload_n (pc := 52) d_Md_readTerm_52 rfl (.tail _ (.tail _ (.tail _ (.head _)))) ?_
    refine v_iload_n (pc := 53) d_Md_readTerm_53 rfl (.head _) ?_
    refine v_callV (pc := 54) (J' := jMd_exp) (d' := d) (o := 0) (ci := 13) (N := 93) (T := cT13) (As := [vI 11, vI x4, vI (w5 28 x1_.toNat), vI x1_, vI x6]) d_Md_readTerm_54 ml_Md_398 cM_0.1 cM_0.2 (by decide) rfl rfl (Nat.le_of_ble_eq_true rfl) (Nat.le_refl _) rfl (Cal.weak h (fun o w7 h => ?_))
    rcases rIt_of h with ⟨x8, rfl, h⟩ | ⟨b, rfl, h⟩
    rotate_left
    · exact h
    refine v_istore_n (pc := 57) (ls' := [(1, vI x8), (3, vI x6), (2, vI x4), (0, vA 0)]) d_Md_readTerm_57 rfl (by decide) rfl ?_
    refine v_goto (pc := 58) (tgt := 5) d_Md_readTerm_58 (by decide) ?_
    exact v_sub (List.forall_mem_cons.mpr ⟨(.tail _ (.tail _ (.tail _ (.head _)))), (List.forall_mem_cons.mpr ⟨(.head _), (fun _ z => absurd z List.not_mem_nil)⟩)⟩) h
  · replace h := h.2 c
    refine v_aload_n (pc := 14) d_Md_readTerm_14 rfl (.head _) ?_
    refine v_ldcs (pc := 15) (n := 56) (tx := "/") d_Md_readTerm_15 (by decide +kernel) ?_
    refine v_callV (pc := 17) (J' := jMd_is) (d' := d) (o := 0) (ci := 13) (N := 93) (T := cT13) (As := [vA 1057]) d_Md_readTerm_17 ml_Md_374 cM_0.1 cM_0.2 (by decide) rfl rfl (Nat.le_of_ble_eq_true rfl) (Nat.le_refl _) rfl (Cal.weak h (fun o w9 h => ?_))
    rcases rIt_of h with ⟨x10, rfl, h⟩ | ⟨b, rfl, h⟩
    rotate_left
    · exact h
    refine v_ifne (pc := 20) (tgt := 32) d_Md_readTerm_20 (by decide) (fun c => ?_) (fun c => ?_)
    · replace h := h.1 c
      refine v_aload_n (pc := 32) d_Md_readTerm_32 rfl (.head _) ?_
      refine v_callV (pc := 33) (J' := jMd_pass) (d' := d) (o := 0) (ci := 13) (N := 93) (T := cT13) (As := []) d_Md_readTerm_33 ml_Md_378 cM_0.1 cM_0.2 (by decide) rfl rfl (Nat.le_of_ble_eq_true rfl) (Nat.le_refl _) rfl (Cal.weak h (fun o w11 h => ?_))
      rcases rIt_of h with ⟨x12, rfl, h⟩ | ⟨b, rfl, h⟩
      rotate_left
      · exact h
      refine v_istore_n (pc := 36) (ls' := [(2, vI x12), (0, vA 0), (1, vI x1_)]) d_Md_readTerm_36 rfl (by decide) rfl ?_
      refine v_aload_n (pc := 37) d_Md_readTerm_37 rfl (.tail _ (.head _)) ?_
      refine v_callS (pc := 38) (J' := jMd_readOne) (d' := d) (As := [vA 0]) d_Md_readTerm_38 ml_Md_414 rfl (Nat.le_of_ble_eq_true rfl) (Nat.le_refl _) rfl (Cal.weak h (fun o w13 h => ?_))
      rcases rIt_of h with ⟨x14, rfl, h⟩ | ⟨b, rfl, h⟩
      rotate_left
      · exact h
      refine v_istore_n (pc := 41) (ls' := [(3, vI x14), (2, vI x12), (0, vA 0), (1, vI x1_)]) d_Md_readTerm_41 rfl (by decide) rfl ?_
      refine v_aload_n (pc := 42) d_Md_readTerm_42 rfl (.tail _ (.tail _ (.head _))) ?_
      refine v_bipush (pc := 43) d_Md_readTerm_43 (by decide) rfl ?_
      refine v_iload_n (pc := 45) d_Md_readTerm_45 rfl (.tail _ (.head _)) ?_
      refine v_aload_n (pc := 46) d_Md_readTerm_46 rfl (.tail _ (.tail _ (.head _))) ?_
      refine v_getr (C := "") (pc := 47) (r := 28) d_Md_readTerm_47 fl_Md_222 cM_0.1 cM_0.2 (Or.inr ⟨_, rfl⟩) rM_0_34 ?_
      refine v_iload_n (pc := 50) d_Md_readTerm_50 rfl (.tail _ (.tail _ (.tail _ (.head _)))) ?_
      refine v_iald (pc := 51) (x := (w13 28 x1_.toNat)) d_Md_readTerm_51 cM_28.1 cM_28.2 rfl h.1 ?_
      replace h := h.2
      refine v_iload_n (pc := 52) d_Md_readTerm_52 rfl (.tail _ (.tail _ (.tail _ (.head _)))) ?_
      refine v_iload_n (pc := 53) d_Md_readTerm_53 rfl (.head _) ?_
      refine v_callV (pc := 54) (J' := jMd_exp) (d' := d) (o := 0) (ci := 13) (N := 93) (T := cT13) (As := [vI 11, vI x12, vI (w13 28 x1_.toNat), vI x1_, vI x14]) d_Md_readTerm_54 ml_Md_398 cM_0.1 cM_0.2 (by decide) rfl rfl (Nat.le_of_ble_eq_true rfl) (Nat.le_refl _) rfl (Cal.weak h (fun o w15 h => ?_))
      rcases rIt_of h with ⟨x16, rfl, h⟩ | ⟨b, rfl, h⟩
      rotate_left
      · exact h
      refine v_istore_n (pc := 57) (ls' := [(1, vI x16), (3, vI x14), (2, vI x12), (0, vA 0)]) d_Md_readTerm_57 rfl (by decide) rfl ?_
      refine v_goto (pc := 58) (tgt := 5) d_Md_readTerm_58 (by decide) ?_
      exact v_sub (List.forall_mem_cons.mpr ⟨(.tail _ (.tail _ (.tail _ (.head _)))), (List.forall_mem_cons.mpr ⟨(.head _), (fun _ z => absurd z List.not_mem_nil)⟩)⟩) h
    · replace h := h.2 c
      refine v_aload_n (pc := 23) d_Md_readTerm_23 rfl (.head _) ?_
      refine v_ldcs (pc := 24) (n := 57) (tx := "%") d_Md_readTerm_24 (by decide +kernel) ?_
      refine v_callV (pc := 26) (J' := jMd_is) (d' := d) (o := 0) (ci := 13) (N := 93) (T := cT13) (As := [vA 1058]) d_Md_readTerm_26 ml_Md_374 cM_0.1 cM_0.2 (by decide) rfl rfl (Nat.le_of_ble_eq_true rfl) (Nat.le_refl _) rfl (Cal.weak h (fun o w17 h => ?_))
      rcases rIt_of h with ⟨x18, rfl, h⟩ | ⟨b, rfl, h⟩
      rotate_left
      · exact h
      refine v_ifeq (pc := 29) (tgt := 61) d_Md_readTerm_29 (by decide) (fun c => ?_) (fun c => ?_)
      · replace h := h.1 c
        refine v_iload_n (pc := 61) d_Md_readTerm_61 rfl (.tail _ (.head _)) ?_
        exact v_iret (pc := 62) d_Md_readTerm_62 rfl h
      · replace h := h.2 c
        refine v_aload_n (pc := 32) d_Md_readTerm_32 rfl (.head _) ?_
        refine v_callV (pc := 33) (J' := jMd_pass) (d' := d) (o := 0) (ci := 13) (N := 93) (T := cT13) (As := []) d_Md_readTerm_33 ml_Md_378 cM_0.1 cM_0.2 (by decide) rfl rfl (Nat.le_of_ble_eq_true rfl) (Nat.le_refl _) rfl (Cal.weak h (fun o w19 h => ?_))
        rcases rIt_of h with ⟨x20, rfl, h⟩ | ⟨b, rfl, h⟩
        rotate_left
        · exact h
        refine v_istore_n (pc := 36) (ls' := [(2, vI x20), (0, vA 0), (1, vI x1_)]) d_Md_readTerm_36 rfl (by decide) rfl ?_
        refine v_aload_n (pc := 37) d_Md_readTerm_37 rfl (.tail _ (.head _)) ?_
        refine v_callS (pc := 38) (J' := jMd_readOne) (d' := d) (As := [vA 0]) d_Md_readTerm_38 ml_Md_414 rfl (Nat.le_of_ble_eq_true rfl) (Nat.le_refl _) rfl (Cal.weak h (fun o w21 h => ?_))
        rcases rIt_of h with ⟨x22, rfl, h⟩ | ⟨b, rfl, h⟩
        rotate_left
        · exact h
        refine v_istore_n (pc := 41) (ls' := [(3, vI x22), (2, vI x20), (0, vA 0), (1, vI x1_)]) d_Md_readTerm_41 rfl (by decide) rfl ?_
        refine v_aload_n (pc := 42) d_Md_readTerm_42 rfl (.tail _ (.tail _ (.head _))) ?_
        refine v_bipush (pc := 43) d_Md_readTerm_43 (by decide) rfl ?_
        refine v_iload_n (pc := 45) d_Md_readTerm_45 rfl (.tail _ (.head _)) ?_
        refine v_aload_n (pc := 46) d_Md_readTerm_46 rfl (.tail _ (.tail _ (.head _))) ?_
        refine v_getr (C := "") (pc := 47) (r := 28) d_Md_readTerm_47 fl_Md_222 cM_0.1 cM_0.2 (Or.inr ⟨_, rfl⟩) rM_0_34 ?_
        refine v_iload_n (pc := 50) d_Md_readTerm_50 rfl (.tail _ (.tail _ (.tail _ (.head _)))) ?_
        refine v_iald (pc := 51) (x := (w21 28 x1_.toNat)) d_Md_readTerm_51 cM_28.1 cM_28.2 rfl h.1 ?_
        replace h := h.2
        refine v_iload_n (pc := 52) d_Md_readTerm_52 rfl (.tail _ (.tail _ (.tail _ (.head _)))) ?_
        refine v_iload_n (pc := 53) d_Md_readTerm_53 rfl (.head _) ?_
        refine v_callV (pc := 54) (J' := jMd_exp) (d' := d) (o := 0) (ci := 13) (N := 93) (T := cT13) (As := [vI 11, vI x20, vI (w21 28 x1_.toNat), vI x1_, vI x22]) d_Md_readTerm_54 ml_Md_398 cM_0.1 cM_0.2 (by decide) rfl rfl (Nat.le_of_ble_eq_true rfl) (Nat.le_refl _) rfl (Cal.weak h (fun o w23 h => ?_))
        rcases rIt_of h with ⟨x24, rfl, h⟩ | ⟨b, rfl, h⟩
        rotate_left
        · exact h
        refine v_istore_n (pc := 57) (ls' := [(1, vI x24), (3, vI x22), (2, vI x20), (0, vA 0)]) d_Md_readTerm_57 rfl (by decide) rfl ?_
        refine v_goto (pc := 58) (tgt := 5) d_Md_readTerm_58 (by decide) ?_
        exact v_sub (List.forall_mem_cons.mpr ⟨(.tail _ (.tail _ (.tail _ (.head _)))), (List.forall_mem_cons.mpr ⟨(.head _), (fun _ z => absurd z List.not_mem_nil)⟩)⟩) h
theorem d_Md_readOne_0 : decode jMd_readOne.cc 0 = .ok (.aload_n 0, 1) := by decide +kernel
theorem d_Md_readOne_1 : decode jMd_readOne.cc 1 = .ok (.invokevirtual 391, 3) := by decide +kernel
theorem d_Md_readOne_4 : decode jMd_readOne.cc 4 = .ok (.aload_n 0, 1) := by decide +kernel
theorem d_Md_readOne_5 : decode jMd_readOne.cc 5 = .ok (.getfield 363, 3) := by decide +kernel
theorem d_Md_readOne_8 : decode jMd_readOne.cc 8 = .ok (.istore_n 1, 1) := by decide +kernel
theorem d_Md_readOne_9 : decode jMd_readOne.cc 9 = .ok (.aload_n 0, 1) := by decide +kernel
theorem d_Md_readOne_10 : decode jMd_readOne.cc 10 = .ok (.ldc 154, 2) := by decide +kernel
theorem d_Md_readOne_12 : decode jMd_readOne.cc 12 = .ok (.invokevirtual 374, 3) := by decide +kernel
theorem d_Md_readOne_15 : decode jMd_readOne.cc 15 = .ok (.ifCond .ne 12, 3) := by decide +kernel
theorem d_Md_readOne_18 : decode jMd_readOne.cc 18 = .ok (.aload_n 0, 1) := by decide +kernel
theorem d_Md_readOne_19 : decode jMd_readOne.cc 19 = .ok (.ldc 162, 2) := by decide +kernel
theorem d_Md_readOne_21 : decode jMd_readOne.cc 21 = .ok (.invokevirtual 374, 3) := by decide +kernel
theorem d_Md_readOne_24 : decode jMd_readOne.cc 24 = .ok (.ifCond .eq 63, 3) := by decide +kernel
theorem d_Md_readOne_27 : decode jMd_readOne.cc 27 = .ok (.aload_n 0, 1) := by decide +kernel
theorem d_Md_readOne_28 : decode jMd_readOne.cc 28 = .ok (.ldc 154, 2) := by decide +kernel
theorem d_Md_readOne_30 : decode jMd_readOne.cc 30 = .ok (.invokevirtual 374, 3) := by decide +kernel
theorem d_Md_readOne_33 : decode jMd_readOne.cc 33 = .ok (.ifCond .eq 8, 3) := by decide +kernel
theorem d_Md_readOne_36 : decode jMd_readOne.cc 36 = .ok (.bipush 9, 2) := by decide +kernel
theorem d_Md_readOne_38 : decode jMd_readOne.cc 38 = .ok (.goto 5, 3) := by decide +kernel
theorem d_Md_readOne_41 : decode jMd_readOne.cc 41 = .ok (.bipush 10, 2) := by decide +kernel
theorem d_Md_readOne_43 : decode jMd_readOne.cc 43 = .ok (.istore_n 2, 1) := by decide +kernel
theorem d_Md_readOne_44 : decode jMd_readOne.cc 44 = .ok (.aload_n 0, 1) := by decide +kernel
theorem d_Md_readOne_45 : decode jMd_readOne.cc 45 = .ok (.invokevirtual 378, 3) := by decide +kernel
theorem d_Md_readOne_48 : decode jMd_readOne.cc 48 = .ok (.istore_n 3, 1) := by decide +kernel
theorem d_Md_readOne_49 : decode jMd_readOne.cc 49 = .ok (.aload_n 0, 1) := by decide +kernel
theorem d_Md_readOne_50 : decode jMd_readOne.cc 50 = .ok (.dup, 1) := by decide +kernel
theorem d_Md_readOne_51 : decode jMd_readOne.cc 51 = .ok (.getfield 388, 3) := by decide +kernel
theorem d_Md_readOne_54 : decode jMd_readOne.cc 54 = .ok (.iconst 1, 1) := by decide +kernel
theorem d_Md_readOne_55 : decode jMd_readOne.cc 55 = .ok (.iadd, 1) := by decide +kernel
theorem d_Md_readOne_56 : decode jMd_readOne.cc 56 = .ok (.putfield 388, 3) := by decide +kernel
theorem d_Md_readOne_59 : decode jMd_readOne.cc 59 = .ok (.aload_n 0, 1) := by decide +kernel
theorem d_Md_readOne_60 : decode jMd_readOne.cc 60 = .ok (.invokestatic 414, 3) := by decide +kernel
theorem d_Md_readOne_63 : decode jMd_readOne.cc 63 = .ok (.istore 4, 2) := by decide +kernel
theorem d_Md_readOne_65 : decode jMd_readOne.cc 65 = .ok (.aload_n 0, 1) := by decide +kernel
theorem d_Md_readOne_66 : decode jMd_readOne.cc 66 = .ok (.dup, 1) := by decide +kernel
theorem d_Md_readOne_67 : decode jMd_readOne.cc 67 = .ok (.getfield 388, 3) := by decide +kernel
theorem d_Md_readOne_70 : decode jMd_readOne.cc 70 = .ok (.iconst 1, 1) := by decide +kernel
theorem d_Md_readOne_71 : decode jMd_readOne.cc 71 = .ok (.isub, 1) := by decide +kernel
theorem d_Md_readOne_72 : decode jMd_readOne.cc 72 = .ok (.putfield 388, 3) := by decide +kernel
theorem d_Md_readOne_75 : decode jMd_readOne.cc 75 = .ok (.aload_n 0, 1) := by decide +kernel
theorem d_Md_readOne_76 : decode jMd_readOne.cc 76 = .ok (.iload_n 2, 1) := by decide +kernel
theorem d_Md_readOne_77 : decode jMd_readOne.cc 77 = .ok (.iload_n 3, 1) := by decide +kernel
theorem d_Md_readOne_78 : decode jMd_readOne.cc 78 = .ok (.iload_n 1, 1) := by decide +kernel
theorem d_Md_readOne_79 : decode jMd_readOne.cc 79 = .ok (.iload 4, 2) := by decide +kernel
theorem d_Md_readOne_81 : decode jMd_readOne.cc 81 = .ok (.bipush (-2), 2) := by decide +kernel
theorem d_Md_readOne_83 : decode jMd_readOne.cc 83 = .ok (.invokevirtual 398, 3) := by decide +kernel
theorem d_Md_readOne_86 : decode jMd_readOne.cc 86 = .ok (.ireturn, 1) := by decide +kernel
theorem d_Md_readOne_87 : decode jMd_readOne.cc 87 = .ok (.aload_n 0, 1) := by decide +kernel
theorem d_Md_readOne_88 : decode jMd_readOne.cc 88 = .ok (.ldc 136, 2) := by decide +kernel
theorem d_Md_readOne_90 : decode jMd_readOne.cc 90 = .ok (.invokevirtual 374, 3) := by decide +kernel
theorem d_Md_readOne_93 : decode jMd_readOne.cc 93 = .ok (.ifCond .eq 49, 3) := by decide +kernel
theorem d_Md_readOne_96 : decode jMd_readOne.cc 96 = .ok (.aload_n 0, 1) := by decide +kernel
theorem d_Md_readOne_97 : decode jMd_readOne.cc 97 = .ok (.invokevirtual 378, 3) := by decide +kernel
theorem d_Md_readOne_100 : decode jMd_readOne.cc 100 = .ok (.istore_n 2, 1) := by decide +kernel
theorem d_Md_readOne_101 : decode jMd_readOne.cc 101 = .ok (.aload_n 0, 1) := by decide +kernel
theorem d_Md_readOne_102 : decode jMd_readOne.cc 102 = .ok (.dup, 1) := by decide +kernel
theorem d_Md_readOne_103 : decode jMd_readOne.cc 103 = .ok (.getfield 388, 3) := by decide +kernel
theorem d_Md_readOne_106 : decode jMd_readOne.cc 106 = .ok (.iconst 1, 1) := by decide +kernel
theorem d_Md_readOne_107 : decode jMd_readOne.cc 107 = .ok (.iadd, 1) := by decide +kernel
theorem d_Md_readOne_108 : decode jMd_readOne.cc 108 = .ok (.putfield 388, 3) := by decide +kernel
theorem d_Md_readOne_111 : decode jMd_readOne.cc 111 = .ok (.aload_n 0, 1) := by decide +kernel
theorem d_Md_readOne_112 : decode jMd_readOne.cc 112 = .ok (.invokestatic 417, 3) := by decide +kernel
theorem d_Md_readOne_115 : decode jMd_readOne.cc 115 = .ok (.istore_n 3, 1) := by decide +kernel
theorem d_Md_readOne_116 : decode jMd_readOne.cc 116 = .ok (.aload_n 0, 1) := by decide +kernel
theorem d_Md_readOne_117 : decode jMd_readOne.cc 117 = .ok (.dup, 1) := by decide +kernel
theorem d_Md_readOne_118 : decode jMd_readOne.cc 118 = .ok (.getfield 388, 3) := by decide +kernel
theorem d_Md_readOne_121 : decode jMd_readOne.cc 121 = .ok (.iconst 1, 1) := by decide +kernel
theorem d_Md_readOne_122 : decode jMd_readOne.cc 122 = .ok (.isub, 1) := by decide +kernel
theorem d_Md_readOne_123 : decode jMd_readOne.cc 123 = .ok (.putfield 388, 3) := by decide +kernel
theorem d_Md_readOne_126 : decode jMd_readOne.cc 126 = .ok (.aload_n 0, 1) := by decide +kernel
theorem d_Md_readOne_127 : decode jMd_readOne.cc 127 = .ok (.ldc 138, 2) := by decide +kernel
theorem d_Md_readOne_129 : decode jMd_readOne.cc 129 = .ok (.invokevirtual 420, 3) := by decide +kernel
theorem d_Md_readOne_132 : decode jMd_readOne.cc 132 = .ok (.istore_n 2, 1) := by decide +kernel
theorem d_Md_readOne_133 : decode jMd_readOne.cc 133 = .ok (.aload_n 0, 1) := by decide +kernel
theorem d_Md_readOne_134 : decode jMd_readOne.cc 134 = .ok (.getfield 222, 3) := by decide +kernel
theorem d_Md_readOne_137 : decode jMd_readOne.cc 137 = .ok (.iload_n 3, 1) := by decide +kernel
theorem d_Md_readOne_138 : decode jMd_readOne.cc 138 = .ok (.iload_n 1, 1) := by decide +kernel
theorem d_Md_readOne_139 : decode jMd_readOne.cc 139 = .ok (.iastore, 1) := by decide +kernel
theorem d_Md_readOne_140 : decode jMd_readOne.cc 140 = .ok (.iload_n 3, 1) := by decide +kernel
theorem d_Md_readOne_141 : decode jMd_readOne.cc 141 = .ok (.ireturn, 1) := by decide +kernel
theorem d_Md_readOne_142 : decode jMd_readOne.cc 142 = .ok (.aload_n 0, 1) := by decide +kernel
theorem d_Md_readOne_143 : decode jMd_readOne.cc 143 = .ok (.ldc 112, 2) := by decide +kernel
theorem d_Md_readOne_145 : decode jMd_readOne.cc 145 = .ok (.invokevirtual 374, 3) := by decide +kernel
theorem d_Md_readOne_148 : decode jMd_readOne.cc 148 = .ok (.ifCond .eq 61, 3) := by decide +kernel
theorem d_Md_readOne_151 : decode jMd_readOne.cc 151 = .ok (.aload_n 0, 1) := by decide +kernel
theorem d_Md_readOne_152 : decode jMd_readOne.cc 152 = .ok (.invokevirtual 378, 3) := by decide +kernel
theorem d_Md_readOne_155 : decode jMd_readOne.cc 155 = .ok (.istore_n 2, 1) := by decide +kernel
theorem d_Md_readOne_156 : decode jMd_readOne.cc 156 = .ok (.aload_n 0, 1) := by decide +kernel
theorem d_Md_readOne_157 : decode jMd_readOne.cc 157 = .ok (.ldc 136, 2) := by decide +kernel
theorem d_Md_readOne_159 : decode jMd_readOne.cc 159 = .ok (.invokevirtual 420, 3) := by decide +kernel
theorem d_Md_readOne_162 : decode jMd_readOne.cc 162 = .ok (.istore_n 3, 1) := by decide +kernel
theorem d_Md_readOne_163 : decode jMd_readOne.cc 163 = .ok (.aload_n 0, 1) := by decide +kernel
theorem d_Md_readOne_164 : decode jMd_readOne.cc 164 = .ok (.dup, 1) := by decide +kernel
theorem d_Md_readOne_165 : decode jMd_readOne.cc 165 = .ok (.getfield 388, 3) := by decide +kernel
theorem d_Md_readOne_168 : decode jMd_readOne.cc 168 = .ok (.iconst 1, 1) := by decide +kernel
theorem d_Md_readOne_169 : decode jMd_readOne.cc 169 = .ok (.iadd, 1) := by decide +kernel
theorem d_Md_readOne_170 : decode jMd_readOne.cc 170 = .ok (.putfield 388, 3) := by decide +kernel
theorem d_Md_readOne_173 : decode jMd_readOne.cc 173 = .ok (.aload_n 0, 1) := by decide +kernel
theorem d_Md_readOne_174 : decode jMd_readOne.cc 174 = .ok (.invokestatic 417, 3) := by decide +kernel
theorem d_Md_readOne_177 : decode jMd_readOne.cc 177 = .ok (.istore 4, 2) := by decide +kernel
theorem d_Md_readOne_179 : decode jMd_readOne.cc 179 = .ok (.aload_n 0, 1) := by decide +kernel
theorem d_Md_readOne_180 : decode jMd_readOne.cc 180 = .ok (.dup, 1) := by decide +kernel
theorem d_Md_readOne_181 : decode jMd_readOne.cc 181 = .ok (.getfield 388, 3) := by decide +kernel
theorem d_Md_readOne_184 : decode jMd_readOne.cc 184 = .ok (.iconst 1, 1) := by decide +kernel
theorem d_Md_readOne_185 : decode jMd_readOne.cc 185 = .ok (.isub, 1) := by decide +kernel
theorem d_Md_readOne_186 : decode jMd_readOne.cc 186 = .ok (.putfield 388, 3) := by decide +kernel
theorem d_Md_readOne_189 : decode jMd_readOne.cc 189 = .ok (.aload_n 0, 1) := by decide +kernel
theorem d_Md_readOne_190 : decode jMd_readOne.cc 190 = .ok (.ldc 138, 2) := by decide +kernel
theorem d_Md_readOne_192 : decode jMd_readOne.cc 192 = .ok (.invokevirtual 420, 3) := by decide +kernel
theorem d_Md_readOne_195 : decode jMd_readOne.cc 195 = .ok (.istore_n 3, 1) := by decide +kernel
theorem d_Md_readOne_196 : decode jMd_readOne.cc 196 = .ok (.aload_n 0, 1) := by decide +kernel
theorem d_Md_readOne_197 : decode jMd_readOne.cc 197 = .ok (.bipush 7, 2) := by decide +kernel
theorem d_Md_readOne_199 : decode jMd_readOne.cc 199 = .ok (.iload_n 2, 1) := by decide +kernel
theorem d_Md_readOne_200 : decode jMd_readOne.cc 200 = .ok (.iload_n 1, 1) := by decide +kernel
theorem d_Md_readOne_201 : decode jMd_readOne.cc 201 = .ok (.iload 4, 2) := by decide +kernel
theorem d_Md_readOne_203 : decode jMd_readOne.cc 203 = .ok (.bipush (-2), 2) := by decide +kernel
theorem d_Md_readOne_205 : decode jMd_readOne.cc 205 = .ok (.invokevirtual 398, 3) := by decide +kernel
theorem d_Md_readOne_208 : decode jMd_readOne.cc 208 = .ok (.ireturn, 1) := by decide +kernel
theorem d_Md_readOne_209 : decode jMd_readOne.cc 209 = .ok (.aload_n 0, 1) := by decide +kernel
theorem d_Md_readOne_210 : decode jMd_readOne.cc 210 = .ok (.ldc 90, 2) := by decide +kernel
theorem d_Md_readOne_212 : decode jMd_readOne.cc 212 = .ok (.invokevirtual 374, 3) := by decide +kernel
theorem d_Md_readOne_215 : decode jMd_readOne.cc 215 = .ok (.ifCond .eq 100, 3) := by decide +kernel
theorem d_Md_readOne_218 : decode jMd_readOne.cc 218 = .ok (.aload_n 0, 1) := by decide +kernel
theorem d_Md_readOne_219 : decode jMd_readOne.cc 219 = .ok (.invokevirtual 378, 3) := by decide +kernel
theorem d_Md_readOne_222 : decode jMd_readOne.cc 222 = .ok (.istore_n 2, 1) := by decide +kernel
theorem d_Md_readOne_223 : decode jMd_readOne.cc 223 = .ok (.aload_n 0, 1) := by decide +kernel
theorem d_Md_readOne_224 : decode jMd_readOne.cc 224 = .ok (.ldc 136, 2) := by decide +kernel
theorem d_Md_readOne_226 : decode jMd_readOne.cc 226 = .ok (.invokevirtual 420, 3) := by decide +kernel
theorem d_Md_readOne_229 : decode jMd_readOne.cc 229 = .ok (.istore_n 3, 1) := by decide +kernel
theorem d_Md_readOne_230 : decode jMd_readOne.cc 230 = .ok (.aload_n 0, 1) := by decide +kernel
theorem d_Md_readOne_231 : decode jMd_readOne.cc 231 = .ok (.dup, 1) := by decide +kernel
theorem d_Md_readOne_232 : decode jMd_readOne.cc 232 = .ok (.getfield 388, 3) := by decide +kernel
theorem d_Md_readOne_235 : decode jMd_readOne.cc 235 = .ok (.iconst 1, 1) := by decide +kernel
theorem d_Md_readOne_236 : decode jMd_readOne.cc 236 = .ok (.iadd, 1) := by decide +kernel
theorem d_Md_readOne_237 : decode jMd_readOne.cc 237 = .ok (.putfield 388, 3) := by decide +kernel
theorem d_Md_readOne_240 : decode jMd_readOne.cc 240 = .ok (.aload_n 0, 1) := by decide +kernel
theorem d_Md_readOne_241 : decode jMd_readOne.cc 241 = .ok (.invokestatic 417, 3) := by decide +kernel
theorem d_Md_readOne_244 : decode jMd_readOne.cc 244 = .ok (.istore 4, 2) := by decide +kernel
theorem d_Md_readOne_246 : decode jMd_readOne.cc 246 = .ok (.aload_n 0, 1) := by decide +kernel
theorem d_Md_readOne_247 : decode jMd_readOne.cc 247 = .ok (.ldc 140, 2) := by decide +kernel
theorem d_Md_readOne_249 : decode jMd_readOne.cc 249 = .ok (.invokevirtual 420, 3) := by decide +kernel
theorem d_Md_readOne_252 : decode jMd_readOne.cc 252 = .ok (.istore_n 3, 1) := by decide +kernel
theorem d_Md_readOne_253 : decode jMd_readOne.cc 253 = .ok (.aload_n 0, 1) := by decide +kernel
theorem d_Md_readOne_254 : decode jMd_readOne.cc 254 = .ok (.invokestatic 417, 3) := by decide +kernel
theorem d_Md_readOne_257 : decode jMd_readOne.cc 257 = .ok (.istore 5, 2) := by decide +kernel
theorem d_Md_readOne_259 : decode jMd_readOne.cc 259 = .ok (.aload_n 0, 1) := by decide +kernel
theorem d_Md_readOne_260 : decode jMd_readOne.cc 260 = .ok (.ldc 140, 2) := by decide +kernel
theorem d_Md_readOne_262 : decode jMd_readOne.cc 262 = .ok (.invokevirtual 420, 3) := by decide +kernel
theorem d_Md_readOne_265 : decode jMd_readOne.cc 265 = .ok (.istore_n 3, 1) := by decide +kernel
theorem d_Md_readOne_266 : decode jMd_readOne.cc 266 = .ok (.aload_n 0, 1) := by decide +kernel
theorem d_Md_readOne_267 : decode jMd_readOne.cc 267 = .ok (.invokestatic 417, 3) := by decide +kernel
theorem d_Md_readOne_270 : decode jMd_readOne.cc 270 = .ok (.istore 6, 2) := by decide +kernel
theorem d_Md_readOne_272 : decode jMd_readOne.cc 272 = .ok (.aload_n 0, 1) := by decide +kernel
theorem d_Md_readOne_273 : decode jMd_readOne.cc 273 = .ok (.dup, 1) := by decide +kernel
theorem d_Md_readOne_274 : decode jMd_readOne.cc 274 = .ok (.getfield 388, 3) := by decide +kernel
theorem d_Md_readOne_277 : decode jMd_readOne.cc 277 = .ok (.iconst 1, 1) := by decide +kernel
theorem d_Md_readOne_278 : decode jMd_readOne.cc 278 = .ok (.isub, 1) := by decide +kernel
theorem d_Md_readOne_279 : decode jMd_readOne.cc 279 = .ok (.putfield 388, 3) := by decide +kernel
theorem d_Md_readOne_282 : decode jMd_readOne.cc 282 = .ok (.aload_n 0, 1) := by decide +kernel
theorem d_Md_readOne_283 : decode jMd_readOne.cc 283 = .ok (.ldc 138, 2) := by decide +kernel
theorem d_Md_readOne_285 : decode jMd_readOne.cc 285 = .ok (.invokevirtual 420, 3) := by decide +kernel
theorem d_Md_readOne_288 : decode jMd_readOne.cc 288 = .ok (.istore_n 3, 1) := by decide +kernel
theorem d_Md_readOne_289 : decode jMd_readOne.cc 289 = .ok (.aload_n 0, 1) := by decide +kernel
theorem d_Md_readOne_290 : decode jMd_readOne.cc 290 = .ok (.bipush 8, 2) := by decide +kernel
theorem d_Md_readOne_292 : decode jMd_readOne.cc 292 = .ok (.iload_n 2, 1) := by decide +kernel
theorem d_Md_readOne_293 : decode jMd_readOne.cc 293 = .ok (.iload_n 1, 1) := by decide +kernel
theorem d_Md_readOne_294 : decode jMd_readOne.cc 294 = .ok (.iload 4, 2) := by decide +kernel
theorem d_Md_readOne_296 : decode jMd_readOne.cc 296 = .ok (.iload 5, 2) := by decide +kernel
theorem d_Md_readOne_298 : decode jMd_readOne.cc 298 = .ok (.invokevirtual 398, 3) := by decide +kernel
theorem d_Md_readOne_301 : decode jMd_readOne.cc 301 = .ok (.istore 7, 2) := by decide +kernel
theorem d_Md_readOne_303 : decode jMd_readOne.cc 303 = .ok (.aload_n 0, 1) := by decide +kernel
theorem d_Md_readOne_304 : decode jMd_readOne.cc 304 = .ok (.getfield 231, 3) := by decide +kernel
theorem d_Md_readOne_307 : decode jMd_readOne.cc 307 = .ok (.iload 7, 2) := by decide +kernel
theorem d_Md_readOne_309 : decode jMd_readOne.cc 309 = .ok (.iload 6, 2) := by decide +kernel
theorem d_Md_readOne_311 : decode jMd_readOne.cc 311 = .ok (.iastore, 1) := by decide +kernel
theorem d_Md_readOne_312 : decode jMd_readOne.cc 312 = .ok (.iload 7, 2) := by decide +kernel
theorem d_Md_readOne_314 : decode jMd_readOne.cc 314 = .ok (.ireturn, 1) := by decide +kernel
theorem d_Md_readOne_315 : decode jMd_readOne.cc 315 = .ok (.aload_n 0, 1) := by decide +kernel
theorem d_Md_readOne_316 : decode jMd_readOne.cc 316 = .ok (.ldc 98, 2) := by decide +kernel
theorem d_Md_readOne_318 : decode jMd_readOne.cc 318 = .ok (.invokevirtual 374, 3) := by decide +kernel
theorem d_Md_readOne_321 : decode jMd_readOne.cc 321 = .ok (.ifCond .eq 37, 3) := by decide +kernel
theorem d_Md_readOne_324 : decode jMd_readOne.cc 324 = .ok (.aload_n 0, 1) := by decide +kernel
theorem d_Md_readOne_325 : decode jMd_readOne.cc 325 = .ok (.invokevirtual 378, 3) := by decide +kernel
theorem d_Md_readOne_328 : decode jMd_readOne.cc 328 = .ok (.istore_n 2, 1) := by decide +kernel
theorem d_Md_readOne_329 : decode jMd_readOne.cc 329 = .ok (.aload_n 0, 1) := by decide +kernel
theorem d_Md_readOne_330 : decode jMd_readOne.cc 330 = .ok (.ldc 142, 2) := by decide +kernel
theorem d_Md_readOne_332 : decode jMd_readOne.cc 332 = .ok (.invokevirtual 420, 3) := by decide +kernel
theorem d_Md_readOne_335 : decode jMd_readOne.cc 335 = .ok (.istore_n 2, 1) := by decide +kernel
theorem d_Md_readOne_336 : decode jMd_readOne.cc 336 = .ok (.aload_n 0, 1) := by decide +kernel
theorem d_Md_readOne_337 : decode jMd_readOne.cc 337 = .ok (.invokevirtual 424, 3) := by decide +kernel
theorem d_Md_readOne_340 : decode jMd_readOne.cc 340 = .ok (.istore_n 2, 1) := by decide +kernel
theorem d_Md_readOne_341 : decode jMd_readOne.cc 341 = .ok (.aload_n 0, 1) := by decide +kernel
theorem d_Md_readOne_342 : decode jMd_readOne.cc 342 = .ok (.invokevirtual 378, 3) := by decide +kernel
theorem d_Md_readOne_345 : decode jMd_readOne.cc 345 = .ok (.istore_n 2, 1) := by decide +kernel
theorem d_Md_readOne_346 : decode jMd_readOne.cc 346 = .ok (.aload_n 0, 1) := by decide +kernel
theorem d_Md_readOne_347 : decode jMd_readOne.cc 347 = .ok (.iconst 4, 1) := by decide +kernel
theorem d_Md_readOne_348 : decode jMd_readOne.cc 348 = .ok (.iload_n 2, 1) := by decide +kernel
theorem d_Md_readOne_349 : decode jMd_readOne.cc 349 = .ok (.iload_n 1, 1) := by decide +kernel
theorem d_Md_readOne_350 : decode jMd_readOne.cc 350 = .ok (.bipush (-2), 2) := by decide +kernel
theorem d_Md_readOne_352 : decode jMd_readOne.cc 352 = .ok (.bipush (-2), 2) := by decide +kernel
theorem d_Md_readOne_354 : decode jMd_readOne.cc 354 = .ok (.invokevirtual 398, 3) := by decide +kernel
theorem d_Md_readOne_357 : decode jMd_readOne.cc 357 = .ok (.ireturn, 1) := by decide +kernel
theorem d_Md_readOne_358 : decode jMd_readOne.cc 358 = .ok (.aload_n 0, 1) := by decide +kernel
theorem d_Md_readOne_359 : decode jMd_readOne.cc 359 = .ok (.ldc 100, 2) := by decide +kernel
theorem d_Md_readOne_361 : decode jMd_readOne.cc 361 = .ok (.invokevirtual 374, 3) := by decide +kernel
theorem d_Md_readOne_364 : decode jMd_readOne.cc 364 = .ok (.ifCond .eq 30, 3) := by decide +kernel
theorem d_Md_readOne_367 : decode jMd_readOne.cc 367 = .ok (.aload_n 0, 1) := by decide +kernel
theorem d_Md_readOne_368 : decode jMd_readOne.cc 368 = .ok (.invokevirtual 378, 3) := by decide +kernel
theorem d_Md_readOne_371 : decode jMd_readOne.cc 371 = .ok (.istore_n 2, 1) := by decide +kernel
theorem d_Md_readOne_372 : decode jMd_readOne.cc 372 = .ok (.aload_n 0, 1) := by decide +kernel
theorem d_Md_readOne_373 : decode jMd_readOne.cc 373 = .ok (.invokevirtual 424, 3) := by decide +kernel
theorem d_Md_readOne_376 : decode jMd_readOne.cc 376 = .ok (.istore_n 2, 1) := by decide +kernel
theorem d_Md_readOne_377 : decode jMd_readOne.cc 377 = .ok (.aload_n 0, 1) := by decide +kernel
theorem d_Md_readOne_378 : decode jMd_readOne.cc 378 = .ok (.invokevirtual 378, 3) := by decide +kernel
theorem d_Md_readOne_381 : decode jMd_readOne.cc 381 = .ok (.istore_n 2, 1) := by decide +kernel
theorem d_Md_readOne_382 : decode jMd_readOne.cc 382 = .ok (.aload_n 0, 1) := by decide +kernel
theorem d_Md_readOne_383 : decode jMd_readOne.cc 383 = .ok (.iconst 5, 1) := by decide +kernel
theorem d_Md_readOne_384 : decode jMd_readOne.cc 384 = .ok (.iload_n 2, 1) := by decide +kernel
theorem d_Md_readOne_385 : decode jMd_readOne.cc 385 = .ok (.iload_n 1, 1) := by decide +kernel
theorem d_Md_readOne_386 : decode jMd_readOne.cc 386 = .ok (.bipush (-2), 2) := by decide +kernel
theorem d_Md_readOne_388 : decode jMd_readOne.cc 388 = .ok (.bipush (-2), 2) := by decide +kernel
theorem d_Md_readOne_390 : decode jMd_readOne.cc 390 = .ok (.invokevirtual 398, 3) := by decide +kernel
theorem d_Md_readOne_393 : decode jMd_readOne.cc 393 = .ok (.ireturn, 1) := by decide +kernel
theorem d_Md_readOne_394 : decode jMd_readOne.cc 394 = .ok (.aload_n 0, 1) := by decide +kernel
theorem d_Md_readOne_395 : decode jMd_readOne.cc 395 = .ok (.getfield 33, 3) := by decide +kernel
theorem d_Md_readOne_398 : decode jMd_readOne.cc 398 = .ok (.aload_n 0, 1) := by decide +kernel
theorem d_Md_readOne_399 : decode jMd_readOne.cc 399 = .ok (.getfield 363, 3) := by decide +kernel
theorem d_Md_readOne_402 : decode jMd_readOne.cc 402 = .ok (.iaload, 1) := by decide +kernel
theorem d_Md_readOne_403 : decode jMd_readOne.cc 403 = .ok (.iconst 1, 1) := by decide +kernel
theorem d_Md_readOne_404 : decode jMd_readOne.cc 404 = .ok (.if_icmp .ne 7, 3) := by decide +kernel
theorem d_Md_readOne_407 : decode jMd_readOne.cc 407 = .ok (.iconst 0, 1) := by decide +kernel
theorem d_Md_readOne_408 : decode jMd_readOne.cc 408 = .ok (.goto 47, 3) := by decide +kernel
theorem d_Md_readOne_411 : decode jMd_readOne.cc 411 = .ok (.aload_n 0, 1) := by decide +kernel
theorem d_Md_readOne_412 : decode jMd_readOne.cc 412 = .ok (.getfield 33, 3) := by decide +kernel
theorem d_Md_readOne_415 : decode jMd_readOne.cc 415 = .ok (.aload_n 0, 1) := by decide +kernel
theorem d_Md_readOne_416 : decode jMd_readOne.cc 416 = .ok (.getfield 363, 3) := by decide +kernel
theorem d_Md_readOne_419 : decode jMd_readOne.cc 419 = .ok (.iaload, 1) := by decide +kernel
theorem d_Md_readOne_420 : decode jMd_readOne.cc 420 = .ok (.ifCond .ne 7, 3) := by decide +kernel
theorem d_Md_readOne_423 : decode jMd_readOne.cc 423 = .ok (.iconst 3, 1) := by decide +kernel
theorem d_Md_readOne_424 : decode jMd_readOne.cc 424 = .ok (.goto 31, 3) := by decide +kernel
theorem d_Md_readOne_427 : decode jMd_readOne.cc 427 = .ok (.aload_n 0, 1) := by decide +kernel
theorem d_Md_readOne_428 : decode jMd_readOne.cc 428 = .ok (.ldc 64, 2) := by decide +kernel
theorem d_Md_readOne_430 : decode jMd_readOne.cc 430 = .ok (.invokevirtual 374, 3) := by decide +kernel
theorem d_Md_readOne_433 : decode jMd_readOne.cc 433 = .ok (.ifCond .eq 7, 3) := by decide +kernel
theorem d_Md_readOne_436 : decode jMd_readOne.cc 436 = .ok (.iconst 1, 1) := by decide +kernel
theorem d_Md_readOne_437 : decode jMd_readOne.cc 437 = .ok (.goto 18, 3) := by decide +kernel
theorem d_Md_readOne_440 : decode jMd_readOne.cc 440 = .ok (.aload_n 0, 1) := by decide +kernel
theorem d_Md_readOne_441 : decode jMd_readOne.cc 441 = .ok (.ldc 66, 2) := by decide +kernel
theorem d_Md_readOne_443 : decode jMd_readOne.cc 443 = .ok (.invokevirtual 374, 3) := by decide +kernel
theorem d_Md_readOne_446 : decode jMd_readOne.cc 446 = .ok (.ifCond .eq 7, 3) := by decide +kernel
theorem d_Md_readOne_449 : decode jMd_readOne.cc 449 = .ok (.iconst 2, 1) := by decide +kernel
theorem d_Md_readOne_450 : decode jMd_readOne.cc 450 = .ok (.goto 5, 3) := by decide +kernel
theorem d_Md_readOne_453 : decode jMd_readOne.cc 453 = .ok (.bipush 6, 2) := by decide +kernel
theorem d_Md_readOne_455 : decode jMd_readOne.cc 455 = .ok (.istore_n 2, 1) := by decide +kernel
theorem d_Md_readOne_456 : decode jMd_readOne.cc 456 = .ok (.aload_n 0, 1) := by decide +kernel
theorem d_Md_readOne_457 : decode jMd_readOne.cc 457 = .ok (.invokevirtual 378, 3) := by decide +kernel
theorem d_Md_readOne_460 : decode jMd_readOne.cc 460 = .ok (.istore_n 3, 1) := by decide +kernel
theorem d_Md_readOne_461 : decode jMd_readOne.cc 461 = .ok (.aload_n 0, 1) := by decide +kernel
theorem d_Md_readOne_462 : decode jMd_readOne.cc 462 = .ok (.iload_n 2, 1) := by decide +kernel
theorem d_Md_readOne_463 : decode jMd_readOne.cc 463 = .ok (.iload_n 3, 1) := by decide +kernel
theorem d_Md_readOne_464 : decode jMd_readOne.cc 464 = .ok (.iload_n 1, 1) := by decide +kernel
theorem d_Md_readOne_465 : decode jMd_readOne.cc 465 = .ok (.bipush (-2), 2) := by decide +kernel
theorem d_Md_readOne_467 : decode jMd_readOne.cc 467 = .ok (.bipush (-2), 2) := by decide +kernel
theorem d_Md_readOne_469 : decode jMd_readOne.cc 469 = .ok (.invokevirtual 398, 3) := by decide +kernel
theorem d_Md_readOne_472 : decode jMd_readOne.cc 472 = .ok (.ireturn, 1) := by decide +kernel
set_option maxHeartbeats 4000000 in
theorem s_Md_readOne {g : Mg} {d : Nat} {K : Ou → Wd → Prop} {w : Wd} (h : Cal g LM jMd_mustBeginExp d [vA 0] w (fun o w1 => rVt o (fun b => K (.inr b) w1) (Cal g LM jMd_is d [vA 0, vA 1055] w1 (fun o w2 => rIt o (fun b => K (.inr b) w2) (fun x3 => (¬ x3 = 0 → (V g LM jMd_readOne (d + 1) K 27 [(0, vA 0), (1, vI (w1 0 11))] [] w2)) ∧ (x3 = 0 → (Cal g LM jMd_is d [vA 0, vA 1059] w2 (fun o w4 => rIt o (fun b => K (.inr b) w4) (fun x5 => (x5 = 0 → (Cal g LM jMd_is d [vA 0, vA 1046] w4 (fun o w6 => rIt o (fun b => K (.inr b) w6) (fun x7 => (x7 = 0 → (Cal g LM jMd_is d [vA 0, vA 1036] w6 (fun o w8 => rIt o (fun b => K (.inr b) w8) (fun x9 => (x9 = 0 → (Cal g LM jMd_is d [vA 0, vA 1025] w8 (fun o w10 => rIt o (fun b => K (.inr b) w10) (fun x11 => (x11 = 0 → (Cal g LM jMd_is d [vA 0, vA 1029] w10 (fun o w12 => rIt o (fun b => K (.inr b) w12) (fun x13 => (x13 = 0 → (Cal g LM jMd_is d [vA 0, vA 1030] w12 (fun o w14 => rIt o (fun b => K (.inr b) w14) (fun x15 => (x15 = 0 → ((0 ≤ (w14 0 11) ∧ (w14 0 11) < 4022) ∧ ((¬ (w14 4 ((w14 0 11).toNat)) = 1 → ((0 ≤ (w14 0 11) ∧ (w14 0 11) < 4022) ∧ ((¬ (w14 4 ((w14 0 11).toNat)) = 0 → (Cal g LM jMd_is d [vA 0, vA 1012] w14 (fun o w16 => rIt o (fun b => K (.inr b) w16) (fun x17 => (x17 = 0 → (Cal g LM jMd_is d [vA 0, vA 1013] w16 (fun o w18 => rIt o (fun b => K (.inr b) w18) (fun x19 => (x19 = 0 → (V g LM jMd_readOne (d + 1) K 455 [(0, vA 0), (1, vI (w1 0 11))] [vI 6] w18)) ∧ (¬ x19 = 0 → (V g LM jMd_readOne (d + 1) K 455 [(0, vA 0), (1, vI (w1 0 11))] [vI 2] w18)))))) ∧ (¬ x17 = 0 → (V g LM jMd_readOne (d + 1) K 455 [(0, vA 0), (1, vI (w1 0 11))] [vI 1] w16)))))) ∧ ((w14 4 ((w14 0 11).toNat)) = 0 → (V g LM jMd_readOne (d + 1) K 455 [(0, vA 0), (1, vI (w1 0 11))] [vI 3] w14))))) ∧ ((w14 4 ((w14 0 11).toNat)) = 1 → (V g LM jMd_readOne (d + 1) K 455 [(0, vA 0), (1, vI (w1 0 11))] [vI 0] w14))))) ∧ (¬ x15 = 0 → (Cal g LM jMd_pass d [vA 0] w14 (fun o w20 => rIt o (fun b => K (.inr b) w20) (fun x21 => Cal g LM jMd_mustName d [vA 0] w20 (fun o w22 => rIt o (fun b => K (.inr b) w22) (fun x23 => Cal g LM jMd_pass d [vA 0] w22 (fun o w24 => rIt o (fun b => K (.inr b) w24) (fun x25 => Cal g LM jMd_exp d [vA 0, vI 5, vI x25, vI (w1 0 11), vI (-2), vI (-2)] w24 (fun o w26 => rIt o (fun b => K (.inr b) w26) (fun x27 => K (.inl (some (vI x27))) w26)))))))))))))) ∧ (¬ x13 = 0 → (Cal g LM jMd_pass d [vA 0] w12 (fun o w28 => rIt o (fun b => K (.inr b) w28) (fun x29 => Cal g LM jMd_must d [vA 0, vA 1049] w28 (fun o w30 => rIt o (fun b => K (.inr b) w30) (fun x31 => Cal g LM jMd_mustName d [vA 0] w30 (fun o w32 => rIt o (fun b => K (.inr b) w32) (fun x33 => Cal g LM jMd_pass d [vA 0] w32 (fun o w34 => rIt o (fun b => K (.inr b) w34) (fun x35 => Cal g LM jMd_exp d [vA 0, vI 4, vI x35, vI (w1 0 11), vI (-2), vI (-2)] w34 (fun o w36 => rIt o (fun b => K (.inr b) w36) (fun x37 => K (.inl (some (vI x37))) w36)))))))))))))))) ∧ (¬ x11 = 0 → (Cal g LM jMd_pass d [vA 0] w10 (fun o w38 => rIt o (fun b => K (.inr b) w38) (fun x39 => Cal g LM jMd_must d [vA 0, vA 1046] w38 (fun o w40 => rIt o (fun b => K (.inr b) w40) (fun x41 => Cal g LM jMd_readExp d [vA 0] (up w40 0 44 (wr ((w40 0 44) + 1))) (fun o w42 => rIt o (fun b => K (.inr b) w42) (fun x43 => Cal g LM jMd_must d [vA 0, vA 1048] w42 (fun o w44 => rIt o (fun b => K (.inr b) w44) (fun x45 => Cal g LM jMd_readExp d [vA 0] w44 (fun o w46 => rIt o (fun b => K (.inr b) w46) (fun x47 => Cal g LM jMd_must d [vA 0, vA 1048] w46 (fun o w48 => rIt o (fun b => K (.inr b) w48) (fun x49 => Cal g LM jMd_readExp d [vA 0] w48 (fun o w50 => rIt o (fun b => K (.inr b) w50) (fun x51 => Cal g LM jMd_must d [vA 0, vA 1047] (up w50 0 44 (wr ((w50 0 44) - 1))) (fun o w52 => rIt o (fun b => K (.inr b) w52) (fun x53 => Cal g LM jMd_exp d [vA 0, vI 8, vI x39, vI (w1 0 11), vI x43, vI x47] w52 (fun o w54 => rIt o (fun b => K (.inr b) w54) (fun x55 => (0 ≤ x55 ∧ x55 < 2000) ∧ (K (.inl (some (vI x55))) (up w54 31 (x55.toNat) x51)))))))))))))))))))))))))) ∧ (¬ x9 = 0 → (Cal g LM jMd_pass d [vA 0] w8 (fun o w56 => rIt o (fun b => K (.inr b) w56) (fun x57 => Cal g LM jMd_must d [vA 0, vA 1046] w56 (fun o w58 => rIt o (fun b => K (.inr b) w58) (fun x59 => Cal g LM jMd_readExp d [vA 0] (up w58 0 44 (wr ((w58 0 44) + 1))) (fun o w60 => rIt o (fun b => K (.inr b) w60) (fun x61 => Cal g LM jMd_must d [vA 0, vA 1047] (up w60 0 44 (wr ((w60 0 44) - 1))) (fun o w62 => rIt o (fun b => K (.inr b) w62) (fun x63 => Cal g LM jMd_exp d [vA 0, vI 7, vI x57, vI (w1 0 11), vI x61, vI (-2)] w62 (fun o w64 => rIt o (fun b => K (.inr b) w64) (fun x65 => K (.inl (some (vI x65))) w64)))))))))))))))) ∧ (¬ x7 = 0 → (Cal g LM jMd_pass d [vA 0] w6 (fun o w66 => rIt o (fun b => K (.inr b) w66) (fun x67 => Cal g LM jMd_readExp d [vA 0] (up w66 0 44 (wr ((w66 0 44) + 1))) (fun o w68 => rIt o (fun b => K (.inr b) w68) (fun x69 => Cal g LM jMd_must d [vA 0, vA 1047] (up w68 0 44 (wr ((w68 0 44) - 1))) (fun o w70 => rIt o (fun b => K (.inr b) w70) (fun x71 => (0 ≤ x69 ∧ x69 < 2000) ∧ (K (.inl (some (vI x69))) (up w70 28 (x69.toNat) (w1 0 11))))))))))))))) ∧ (¬ x5 = 0 → (V g LM jMd_readOne (d + 1) K 27 [(0, vA 0), (1, vI (w1 0 11))] [] w4))))))))))) : V g LM jMd_readOne (d + 1) K 0 [(0, vA 0)] [] w := by
  refine v_aload_n (pc := 0) d_Md_readOne_0 rfl (.head _) ?_
  refine v_callV (pc := 1) (J' := jMd_mustBeginExp) (d' := d) (o := 0) (ci := 13) (N := 93) (T := cT13) (As := []) d_Md_readOne_1 ml_Md_391 cM_0.1 cM_0.2 (by decide) rfl rfl (Nat.le_of_ble_eq_true rfl) (Nat.le_refl _) rfl (Cal.weak h (fun o w1 h => ?_))
  rcases rVt_of h with ⟨rfl, h⟩ | ⟨b, rfl, h⟩
  rotate_left
  · exact h
  refine v_aload_n (pc := 4) d_Md_readOne_4 rfl (.head _) ?_
  refine v_geti (pc := 5) (x := (w1 0 11)) d_Md_readOne_5 fl_Md_363 cM_0.1 cM_0.2 (Or.inl rfl) rfl ?_
  refine v_istore_n (pc := 8) (ls' := [(1, vI (w1 0 11)), (0, vA 0)]) d_Md_readOne_8 rfl (by decide) rfl ?_
  refine v_aload_n (pc := 9) d_Md_readOne_9 rfl (.tail _ (.head _)) ?_
  refine v_ldcs (pc := 10) (n := 54) (tx := "-") d_Md_readOne_10 (by decide +kernel) ?_
  refine v_callV (pc := 12) (J' := jMd_is) (d' := d) (o := 0) (ci := 13) (N := 93) (T := cT13) (As := [vA 1055]) d_Md_readOne_12 ml_Md_374 cM_0.1 cM_0.2 (by decide) rfl rfl (Nat.le_of_ble_eq_true rfl) (Nat.le_refl _) rfl (Cal.weak h (fun o w2 h => ?_))
  rcases rIt_of h with ⟨x3, rfl, h⟩ | ⟨b, rfl, h⟩
  rotate_left
  · exact h
  refine v_ifne (pc := 15) (tgt := 27) d_Md_readOne_15 (by decide) (fun c => ?_) (fun c => ?_)
  · replace h := h.1 c
    exact v_sub (List.forall_mem_cons.mpr ⟨(.tail _ (.head _)), (List.forall_mem_cons.mpr ⟨(.head _), (fun _ z => absurd z List.not_mem_nil)⟩)⟩) h
  · replace h := h.2 c
    refine v_aload_n (pc := 18) d_Md_readOne_18 rfl (.tail _ (.head _)) ?_
    refine v_ldcs (pc := 19) (n := 58) (tx := "!") d_Md_readOne_19 (by decide +kernel) ?_
    refine v_callV (pc := 21) (J' := jMd_is) (d' := d) (o := 0) (ci := 13) (N := 93) (T := cT13) (As := [vA 1059]) d_Md_readOne_21 ml_Md_374 cM_0.1 cM_0.2 (by decide) rfl rfl (Nat.le_of_ble_eq_true rfl) (Nat.le_refl _) rfl (Cal.weak h (fun o w4 h => ?_))
    rcases rIt_of h with ⟨x5, rfl, h⟩ | ⟨b, rfl, h⟩
    rotate_left
    · exact h
    refine v_ifeq (pc := 24) (tgt := 87) d_Md_readOne_24 (by decide) (fun c => ?_) (fun c => ?_)
    · replace h := h.1 c
      refine v_aload_n (pc := 87) d_Md_readOne_87 rfl (.tail _ (.head _)) ?_
      refine v_ldcs (pc := 88) (n := 45) (tx := "(") d_Md_readOne_88 (by decide +kernel) ?_
      refine v_callV (pc := 90) (J' := jMd_is) (d' := d) (o := 0) (ci := 13) (N := 93) (T := cT13) (As := [vA 1046]) d_Md_readOne_90 ml_Md_374 cM_0.1 cM_0.2 (by decide) rfl rfl (Nat.le_of_ble_eq_true rfl) (Nat.le_refl _) rfl (Cal.weak h (fun o w6 h => ?_))
      rcases rIt_of h with ⟨x7, rfl, h⟩ | ⟨b, rfl, h⟩
      rotate_left
      · exact h
      refine v_ifeq (pc := 93) (tgt := 142) d_Md_readOne_93 (by decide) (fun c => ?_) (fun c => ?_)
      · replace h := h.1 c
        refine v_aload_n (pc := 142) d_Md_readOne_142 rfl (.tail _ (.head _)) ?_
        refine v_ldcs (pc := 143) (n := 35) (tx := "draw") d_Md_readOne_143 (by decide +kernel) ?_
        refine v_callV (pc := 145) (J' := jMd_is) (d' := d) (o := 0) (ci := 13) (N := 93) (T := cT13) (As := [vA 1036]) d_Md_readOne_145 ml_Md_374 cM_0.1 cM_0.2 (by decide) rfl rfl (Nat.le_of_ble_eq_true rfl) (Nat.le_refl _) rfl (Cal.weak h (fun o w8 h => ?_))
        rcases rIt_of h with ⟨x9, rfl, h⟩ | ⟨b, rfl, h⟩
        rotate_left
        · exact h
        refine v_ifeq (pc := 148) (tgt := 209) d_Md_readOne_148 (by decide) (fun c => ?_) (fun c => ?_)
        · replace h := h.1 c
          refine v_aload_n (pc := 209) d_Md_readOne_209 rfl (.tail _ (.head _)) ?_
          refine v_ldcs (pc := 210) (n := 24) (tx := "if") d_Md_readOne_210 (by decide +kernel) ?_
          refine v_callV (pc := 212) (J' := jMd_is) (d' := d) (o := 0) (ci := 13) (N := 93) (T := cT13) (As := [vA 1025]) d_Md_readOne_212 ml_Md_374 cM_0.1 cM_0.2 (by decide) rfl rfl (Nat.le_of_ble_eq_true rfl) (Nat.le_refl _) rfl (Cal.weak h (fun o w10 h => ?_))
          rcases rIt_of h with ⟨x11, rfl, h⟩ | ⟨b, rfl, h⟩
          rotate_left
          · exact h
          refine v_ifeq (pc := 215) (tgt := 315) d_Md_readOne_215 (by decide) (fun c => ?_) (fun c => ?_)
          · replace h := h.1 c
            refine v_aload_n (pc := 315) d_Md_readOne_315 rfl (.tail _ (.head _)) ?_
            refine v_ldcs (pc := 316) (n := 28) (tx := "arc") d_Md_readOne_316 (by decide +kernel) ?_
            refine v_callV (pc := 318) (J' := jMd_is) (d' := d) (o := 0) (ci := 13) (N := 93) (T := cT13) (As := [vA 1029]) d_Md_readOne_318 ml_Md_374 cM_0.1 cM_0.2 (by decide) rfl rfl (Nat.le_of_ble_eq_true rfl) (Nat.le_refl _) rfl (Cal.weak h (fun o w12 h => ?_))
            rcases rIt_of h with ⟨x13, rfl, h⟩ | ⟨b, rfl, h⟩
            rotate_left
            · exact h
            refine v_ifeq (pc := 321) (tgt := 358) d_Md_readOne_321 (by decide) (fun c => ?_) (fun c => ?_)
            · replace h := h.1 c
              refine v_aload_n (pc := 358) d_Md_readOne_358 rfl (.tail _ (.head _)) ?_
              refine v_ldcs (pc := 359) (n := 29) (tx := "has") d_Md_readOne_359 (by decide +kernel) ?_
              refine v_callV (pc := 361) (J' := jMd_is) (d' := d) (o := 0) (ci := 13) (N := 93) (T := cT13) (As := [vA 1030]) d_Md_readOne_361 ml_Md_374 cM_0.1 cM_0.2 (by decide) rfl rfl (Nat.le_of_ble_eq_true rfl) (Nat.le_refl _) rfl (Cal.weak h (fun o w14 h => ?_))
              rcases rIt_of h with ⟨x15, rfl, h⟩ | ⟨b, rfl, h⟩
              rotate_left
              · exact h
              refine v_ifeq (pc := 364) (tgt := 394) d_Md_readOne_364 (by decide) (fun c => ?_) (fun c => ?_)
              · replace h := h.1 c
                refine v_aload_n (pc := 394) d_Md_readOne_394 rfl (.tail _ (.head _)) ?_
                refine v_getr (C := "") (pc := 395) (r := 4) d_Md_readOne_395 fl_Md_33 cM_0.1 cM_0.2 (Or.inr ⟨_, rfl⟩) rM_0_6 ?_
                refine v_aload_n (pc := 398) d_Md_readOne_398 rfl (.tail _ (.head _)) ?_
                refine v_geti (pc := 399) (x := (w14 0 11)) d_Md_readOne_399 fl_Md_363 cM_0.1 cM_0.2 (Or.inl rfl) rfl ?_
                refine v_iald (pc := 402) (x := (w14 4 ((w14 0 11).toNat))) d_Md_readOne_402 cM_4.1 cM_4.2 rfl h.1 ?_
                replace h := h.2
                refine v_iconst (pc := 403) d_Md_readOne_403 (by decide) ?_
                refine v_icmpne (pc := 404) (tgt := 411) d_Md_readOne_404 (by decide) (fun c => ?_) (fun c => ?_)
                · replace h := h.1 c
                  refine v_aload_n (pc := 411) d_Md_readOne_411 rfl (.tail _ (.head _)) ?_
                  refine v_getr (C := "") (pc := 412) (r := 4) d_Md_readOne_412 fl_Md_33 cM_0.1 cM_0.2 (Or.inr ⟨_, rfl⟩) rM_0_6 ?_
                  refine v_aload_n (pc := 415) d_Md_readOne_415 rfl (.tail _ (.head _)) ?_
                  refine v_geti (pc := 416) (x := (w14 0 11)) d_Md_readOne_416 fl_Md_363 cM_0.1 cM_0.2 (Or.inl rfl) rfl ?_
                  refine v_iald (pc := 419) (x := (w14 4 ((w14 0 11).toNat))) d_Md_readOne_419 cM_4.1 cM_4.2 rfl h.1 ?_
                  replace h := h.2
                  refine v_ifne (pc := 420) (tgt := 427) d_Md_readOne_420 (by decide) (fun c => ?_) (fun c => ?_)
                  · replace h := h.1 c
                    refine v_aload_n (pc := 427) d_Md_readOne_427 rfl (.tail _ (.head _)) ?_
                    refine v_ldcs (pc := 428) (n := 11) (tx := "true") d_Md_readOne_428 (by decide +kernel) ?_
                    refine v_callV (pc := 430) (J' := jMd_is) (d' := d) (o := 0) (ci := 13) (N := 93) (T := cT13) (As := [vA 1012]) d_Md_readOne_430 ml_Md_374 cM_0.1 cM_0.2 (by decide) rfl rfl (Nat.le_of_ble_eq_true rfl) (Nat.le_refl _) rfl (Cal.weak h (fun o w16 h => ?_))
                    rcases rIt_of h with ⟨x17, rfl, h⟩ | ⟨b, rfl, h⟩
                    rotate_left
                    · exact h
                    refine v_ifeq (pc := 433) (tgt := 440) d_Md_readOne_433 (by decide) (fun c => ?_) (fun c => ?_)
                    · replace h := h.1 c
                      refine v_aload_n (pc := 440) d_Md_readOne_440 rfl (.tail _ (.head _)) ?_
                      refine v_ldcs (pc := 441) (n := 12) (tx := "false") d_Md_readOne_441 (by decide +kernel) ?_
                      refine v_callV (pc := 443) (J' := jMd_is) (d' := d) (o := 0) (ci := 13) (N := 93) (T := cT13) (As := [vA 1013]) d_Md_readOne_443 ml_Md_374 cM_0.1 cM_0.2 (by decide) rfl rfl (Nat.le_of_ble_eq_true rfl) (Nat.le_refl _) rfl (Cal.weak h (fun o w18 h => ?_))
                      rcases rIt_of h with ⟨x19, rfl, h⟩ | ⟨b, rfl, h⟩
                      rotate_left
                      · exact h
                      refine v_ifeq (pc := 446) (tgt := 453) d_Md_readOne_446 (by decide) (fun c => ?_) (fun c => ?_)
                      · replace h := h.1 c
                        refine v_bipush (pc := 453) d_Md_readOne_453 (by decide) rfl ?_
                        exact v_sub (List.forall_mem_cons.mpr ⟨(.tail _ (.head _)), (List.forall_mem_cons.mpr ⟨(.head _), (fun _ z => absurd z List.not_mem_nil)⟩)⟩) h
                      · replace h := h.2 c
                        refine v_iconst (pc := 449) d_Md_readOne_449 (by decide) ?_
                        refine v_goto (pc := 450) (tgt := 455) d_Md_readOne_450 (by decide) ?_
                        exact v_sub (List.forall_mem_cons.mpr ⟨(.tail _ (.head _)), (List.forall_mem_cons.mpr ⟨(.head _), (fun _ z => absurd z List.not_mem_nil)⟩)⟩) h
                    · replace h := h.2 c
                      refine v_iconst (pc := 436) d_Md_readOne_436 (by decide) ?_
                      refine v_goto (pc := 437) (tgt := 455) d_Md_readOne_437 (by decide) ?_
                      exact v_sub (List.forall_mem_cons.mpr ⟨(.tail _ (.head _)), (List.forall_mem_cons.mpr ⟨(.head _), (fun _ z => absurd z List.not_mem_nil)⟩)⟩) h
                  · replace h := h.2 c
                    refine v_iconst (pc := 423) d_Md_readOne_423 (by decide) ?_
                    refine v_goto (pc := 424) (tgt := 455) d_Md_readOne_424 (by decide) ?_
                    exact v_sub (List.forall_mem_cons.mpr ⟨(.tail _ (.head _)), (List.forall_mem_cons.mpr ⟨(.head _), (fun _ z => absurd z List.not_mem_nil)⟩)⟩) h
                · replace h := h.2 c
                  refine v_iconst (pc := 407) d_Md_readOne_407 (by decide) ?_
                  refine v_goto (pc := 408) (tgt := 455) d_Md_readOne_408 (by decide) ?_
                  exact v_sub (List.forall_mem_cons.mpr ⟨(.tail _ (.head _)), (List.forall_mem_cons.mpr ⟨(.head _), (fun _ z => absurd z List.not_mem_nil)⟩)⟩) h
              · replace h := h.2 c
                refine v_aload_n (pc := 367) d_Md_readOne_367 rfl (.tail _ (.head _)) ?_
                refine v_callV (pc := 368) (J' := jMd_pass) (d' := d) (o := 0) (ci := 13) (N := 93) (T := cT13) (As := []) d_Md_readOne_368 ml_Md_378 cM_0.1 cM_0.2 (by decide) rfl rfl (Nat.le_of_ble_eq_true rfl) (Nat.le_refl _) rfl (Cal.weak h (fun o w20 h => ?_))
                rcases rIt_of h with ⟨x21, rfl, h⟩ | ⟨b, rfl, h⟩
                rotate_left
                · exact h
                refine v_istore_n (pc := 371) (ls' := [(2, vI x21), (1, vI (w1 0 11)), (0, vA 0)]) d_Md_readOne_371 rfl (by decide) rfl ?_
                refine v_aload_n (pc := 372) d_Md_readOne_372 rfl (.tail _ (.tail _ (.head _))) ?_
                refine v_callV (pc := 373) (J' := jMd_mustName) (d' := d) (o := 0) (ci := 13) (N := 93) (T := cT13) (As := []) d_Md_readOne_373 ml_Md_424 cM_0.1 cM_0.2 (by decide) rfl rfl (Nat.le_of_ble_eq_true rfl) (Nat.le_refl _) rfl (Cal.weak h (fun o w22 h => ?_))
                rcases rIt_of h with ⟨x23, rfl, h⟩ | ⟨b, rfl, h⟩
                rotate_left
                · exact h
                refine v_istore_n (pc := 376) (ls' := [(2, vI x23), (1, vI (w1 0 11)), (0, vA 0)]) d_Md_readOne_376 rfl (by decide) rfl ?_
                refine v_aload_n (pc := 377) d_Md_readOne_377 rfl (.tail _ (.tail _ (.head _))) ?_
                refine v_callV (pc := 378) (J' := jMd_pass) (d' := d) (o := 0) (ci := 13) (N := 93) (T := cT13) (As := []) d_Md_readOne_378 ml_Md_378 cM_0.1 cM_0.2 (by decide) rfl rfl (Nat.le_of_ble_eq_true rfl) (Nat.le_refl _) rfl (Cal.weak h (fun o w24 h => ?_))
                rcases rIt_of h with ⟨x25, rfl, h⟩ | ⟨b, rfl, h⟩
                rotate_left
                · exact h
                refine v_istore_n (pc := 381) (ls' := [(2, vI x25), (1, vI (w1 0 11)), (0, vA 0)]) d_Md_readOne_381 rfl (by decide) rfl ?_
                refine v_aload_n (pc := 382) d_Md_readOne_382 rfl (.tail _ (.tail _ (.head _))) ?_
                refine v_iconst (pc := 383) d_Md_readOne_383 (by decide) ?_
                refine v_iload_n (pc := 384) d_Md_readOne_384 rfl (.head _) ?_
                refine v_iload_n (pc := 385) d_Md_readOne_385 rfl (.tail _ (.head _)) ?_
                refine v_bipush (pc := 386) d_Md_readOne_386 (by decide) rfl ?_
                refine v_bipush (pc := 388) d_Md_readOne_388 (by decide) rfl ?_
                refine v_callV (pc := 390) (J' := jMd_exp) (d' := d) (o := 0) (ci := 13) (N := 93) (T := cT13) (As := [vI 5, vI x25, vI (w1 0 11), vI (-2), vI (-2)]) d_Md_readOne_390 ml_Md_398 cM_0.1 cM_0.2 (by decide) rfl rfl (Nat.le_of_ble_eq_true rfl) (Nat.le_refl _) rfl (Cal.weak h (fun o w26 h => ?_))
                rcases rIt_of h with ⟨x27, rfl, h⟩ | ⟨b, rfl, h⟩
                rotate_left
                · exact h
                exact v_iret (pc := 393) d_Md_readOne_393 rfl h
            · replace h := h.2 c
              refine v_aload_n (pc := 324) d_Md_readOne_324 rfl (.tail _ (.head _)) ?_
              refine v_callV (pc := 325) (J' := jMd_pass) (d' := d) (o := 0) (ci := 13) (N := 93) (T := cT13) (As := []) d_Md_readOne_325 ml_Md_378 cM_0.1 cM_0.2 (by decide) rfl rfl (Nat.le_of_ble_eq_true rfl) (Nat.le_refl _) rfl (Cal.weak h (fun o w28 h => ?_))
              rcases rIt_of h with ⟨x29, rfl, h⟩ | ⟨b, rfl, h⟩
              rotate_left
              · exact h
              refine v_istore_n (pc := 328) (ls' := [(2, vI x29), (1, vI (w1 0 11)), (0, vA 0)]) d_Md_readOne_328 rfl (by decide) rfl ?_
              refine v_aload_n (pc := 329) d_Md_readOne_329 rfl (.tail _ (.tail _ (.head _))) ?_
              refine v_ldcs (pc := 330) (n := 48) (tx := ".") d_Md_readOne_330 (by decide +kernel) ?_
              refine v_callV (pc := 332) (J' := jMd_must) (d' := d) (o := 0) (ci := 13) (N := 93) (T := cT13) (As := [vA 1049]) d_Md_readOne_332 ml_Md_420 cM_0.1 cM_0.2 (by decide) rfl rfl (Nat.le_of_ble_eq_true rfl) (Nat.le_refl _) rfl (Cal.weak h (fun o w30 h => ?_))
              rcases rIt_of h with ⟨x31, rfl, h⟩ | ⟨b, rfl, h⟩
              rotate_left
              · exact h
              refine v_istore_n (pc := 335) (ls' := [(2, vI x31), (1, vI (w1 0 11)), (0, vA 0)]) d_Md_readOne_335 rfl (by decide) rfl ?_
              refine v_aload_n (pc := 336) d_Md_readOne_336 rfl (.tail _ (.tail _ (.head _))) ?_
              refine v_callV (pc := 337) (J' := jMd_mustName) (d' := d) (o := 0) (ci := 13) (N := 93) (T := cT13) (As := []) d_Md_readOne_337 ml_Md_424 cM_0.1 cM_0.2 (by decide) rfl rfl (Nat.le_of_ble_eq_true rfl) (Nat.le_refl _) rfl (Cal.weak h (fun o w32 h => ?_))
              rcases rIt_of h with ⟨x33, rfl, h⟩ | ⟨b, rfl, h⟩
              rotate_left
              · exact h
              refine v_istore_n (pc := 340) (ls' := [(2, vI x33), (1, vI (w1 0 11)), (0, vA 0)]) d_Md_readOne_340 rfl (by decide) rfl ?_
              refine v_aload_n (pc := 341) d_Md_readOne_341 rfl (.tail _ (.tail _ (.head _))) ?_
              refine v_callV (pc := 342) (J' := jMd_pass) (d' := d) (o := 0) (ci := 13) (N := 93) (T := cT13) (As := []) d_Md_readOne_342 ml_Md_378 cM_0.1 cM_0.2 (by decide) rfl rfl (Nat.le_of_ble_eq_true rfl) (Nat.le_refl _) rfl (Cal.weak h (fun o w34 h => ?_))
              rcases rIt_of h with ⟨x35, rfl, h⟩ | ⟨b, rfl, h⟩
              rotate_left
              · exact h
              refine v_istore_n (pc := 345) (ls' := [(2, vI x35), (1, vI (w1 0 11)), (0, vA 0)]) d_Md_readOne_345 rfl (by decide) rfl ?_
              refine v_aload_n (pc := 346) d_Md_readOne_346 rfl (.tail _ (.tail _ (.head _))) ?_
              refine v_iconst (pc := 347) d_Md_readOne_347 (by decide) ?_
              refine v_iload_n (pc := 348) d_Md_readOne_348 rfl (.head _) ?_
              refine v_iload_n (pc := 349) d_Md_readOne_349 rfl (.tail _ (.head _)) ?_
              refine v_bipush (pc := 350) d_Md_readOne_350 (by decide) rfl ?_
              refine v_bipush (pc := 352) d_Md_readOne_352 (by decide) rfl ?_
              refine v_callV (pc := 354) (J' := jMd_exp) (d' := d) (o := 0) (ci := 13) (N := 93) (T := cT13) (As := [vI 4, vI x35, vI (w1 0 11), vI (-2), vI (-2)]) d_Md_readOne_354 ml_Md_398 cM_0.1 cM_0.2 (by decide) rfl rfl (Nat.le_of_ble_eq_true rfl) (Nat.le_refl _) rfl (Cal.weak h (fun o w36 h => ?_))
              rcases rIt_of h with ⟨x37, rfl, h⟩ | ⟨b, rfl, h⟩
              rotate_left
              · exact h
              exact v_iret (pc := 357) d_Md_readOne_357 rfl h
          · replace h := h.2 c
            refine v_aload_n (pc := 218) d_Md_readOne_218 rfl (.tail _ (.head _)) ?_
            refine v_callV (pc := 219) (J' := jMd_pass) (d' := d) (o := 0) (ci := 13) (N := 93) (T := cT13) (As := []) d_Md_readOne_219 ml_Md_378 cM_0.1 cM_0.2 (by decide) rfl rfl (Nat.le_of_ble_eq_true rfl) (Nat.le_refl _) rfl (Cal.weak h (fun o w38 h => ?_))
            rcases rIt_of h with ⟨x39, rfl, h⟩ | ⟨b, rfl, h⟩
            rotate_left
            · exact h
            refine v_istore_n (pc := 222) (ls' := [(2, vI x39), (1, vI (w1 0 11)), (0, vA 0)]) d_Md_readOne_222 rfl (by decide) rfl ?_
            refine v_aload_n (pc := 223) d_Md_readOne_223 rfl (.tail _ (.tail _ (.head _))) ?_
            refine v_ldcs (pc := 224) (n := 45) (tx := "(") d_Md_readOne_224 (by decide +kernel) ?_
            refine v_callV (pc := 226) (J' := jMd_must) (d' := d) (o := 0) (ci := 13) (N := 93) (T := cT13) (As := [vA 1046]) d_Md_readOne_226 ml_Md_420 cM_0.1 cM_0.2 (by decide) rfl rfl (Nat.le_of_ble_eq_true rfl) (Nat.le_refl _) rfl (Cal.weak h (fun o w40 h => ?_))
            rcases rIt_of h with ⟨x41, rfl, h⟩ | ⟨b, rfl, h⟩
            rotate_left
            · exact h
            refine v_istore_n (pc := 229) (ls' := [(3, vI x41), (2, vI x39), (1, vI (w1 0 11)), (0, vA 0)]) d_Md_readOne_229 rfl (by decide) rfl ?_
            refine v_aload_n (pc := 230) d_Md_readOne_230 rfl (.tail _ (.tail _ (.tail _ (.head _)))) ?_
            refine v_dup (pc := 231) d_Md_readOne_231 rfl ?_
            refine v_geti (pc := 232) (x := (w40 0 44)) d_Md_readOne_232 fl_Md_388 cM_0.1 cM_0.2 (Or.inl rfl) rfl ?_
            refine v_iconst (pc := 235) d_Md_readOne_235 (by decide) ?_
            refine v_iadd (pc := 236) d_Md_readOne_236 ?_
            refine v_puti (pc := 237) d_Md_readOne_237 fp_Md_388 cM_0.1 cM_0.2 (by decide) rfl ?_
            refine v_aload_n (pc := 240) d_Md_readOne_240 rfl (.tail _ (.tail _ (.tail _ (.head _)))) ?_
            refine v_callS (pc := 241) (J' := jMd_readExp) (d' := d) (As := [vA 0]) d_Md_readOne_241 ml_Md_417 rfl (Nat.le_of_ble_eq_true rfl) (Nat.le_refl _) rfl (Cal.weak h (fun o w42 h => ?_))
            rcases rIt_of h with ⟨x43, rfl, h⟩ | ⟨b, rfl, h⟩
            rotate_left
            · exact h
            refine v_istore (pc := 244) (ls' := [(4, vI x43), (3, vI x41), (2, vI x39), (1, vI (w1 0 11)), (0, vA 0)]) d_Md_readOne_244 (by decide) rfl ?_
            refine v_aload_n (pc := 246) d_Md_readOne_246 rfl (.tail _ (.tail _ (.tail _ (.tail _ (.head _))))) ?_
            refine v_ldcs (pc := 247) (n := 47) (tx := ",") d_Md_readOne_247 (by decide +kernel) ?_
            refine v_callV (pc := 249) (J' := jMd_must) (d' := d) (o := 0) (ci := 13) (N := 93) (T := cT13) (As := [vA 1048]) d_Md_readOne_249 ml_Md_420 cM_0.1 cM_0.2 (by decide) rfl rfl (Nat.le_of_ble_eq_true rfl) (Nat.le_refl _) rfl (Cal.weak h (fun o w44 h => ?_))
            rcases rIt_of h with ⟨x45, rfl, h⟩ | ⟨b, rfl, h⟩
            rotate_left
            · exact h
            refine v_istore_n (pc := 252) (ls' := [(3, vI x45), (4, vI x43), (2, vI x39), (1, vI (w1 0 11)), (0, vA 0)]) d_Md_readOne_252 rfl (by decide) rfl ?_
            refine v_aload_n (pc := 253) d_Md_readOne_253 rfl (.tail _ (.tail _ (.tail _ (.tail _ (.head _))))) ?_
            refine v_callS (pc := 254) (J' := jMd_readExp) (d' := d) (As := [vA 0]) d_Md_readOne_254 ml_Md_417 rfl (Nat.le_of_ble_eq_true rfl) (Nat.le_refl _) rfl (Cal.weak h (fun o w46 h => ?_))
            rcases rIt_of h with ⟨x47, rfl, h⟩ | ⟨b, rfl, h⟩
            rotate_left
            · exact h
            refine v_istore (pc := 257) (ls' := [(5, vI x47), (3, vI x45), (4, vI x43), (2, vI x39), (1, vI (w1 0 11)), (0, vA 0)]) d_Md_readOne_257 (by decide) rfl ?_
            refine v_aload_n (pc := 259) d_Md_readOne_259 rfl (.tail _ (.tail _ (.tail _ (.tail _ (.tail _ (.head _)))))) ?_
            refine v_ldcs (pc := 260) (n := 47) (tx := ",") d_Md_readOne_260 (by decide +kernel) ?_
            refine v_callV (pc := 262) (J' := jMd_must) (d' := d) (o := 0) (ci := 13) (N := 93) (T := cT13) (As := [vA 1048]) d_Md_readOne_262 ml_Md_420 cM_0.1 cM_0.2 (by decide) rfl rfl (Nat.le_of_ble_eq_true rfl) (Nat.le_refl _) rfl (Cal.weak h (fun o w48 h => ?_))
            rcases rIt_of h with ⟨x49, rfl, h⟩ | ⟨b, rfl, h⟩
            rotate_left
            · exact h
            refine v_istore_n (pc := 265) (ls' := [(3, vI x49), (5, vI x47), (4, vI x43), (2, vI x39), (1, vI (w1 0 11)), (0, vA 0)]) d_Md_readOne_265 rfl (by decide) rfl ?_
            refine v_aload_n (pc := 266) d_Md_readOne_266 rfl (.tail _ (.tail _ (.tail _ (.tail _ (.tail _ (.head _)))))) ?_
            refine v_callS (pc := 267) (J' := jMd_readExp) (d' := d) (As := [vA 0]) d_Md_readOne_267 ml_Md_417 rfl (Nat.le_of_ble_eq_true rfl) (Nat.le_refl _) rfl (Cal.weak h (fun o w50 h => ?_))
            rcases rIt_of h with ⟨x51, rfl, h⟩ | ⟨b, rfl, h⟩
            rotate_left
            · exact h
            refine v_istore (pc := 270) (ls' := [(6, vI x51), (3, vI x49), (5, vI x47), (4, vI x43), (2, vI x39), (1, vI (w1 0 11)), (0, vA 0)]) d_Md_readOne_270 (by decide) rfl ?_
            refine v_aload_n (pc := 272) d_Md_readOne_272 rfl (.tail _ (.tail _ (.tail _ (.tail _ (.tail _ (.tail _ (.head _))))))) ?_
            refine v_dup (pc := 273) d_Md_readOne_273 rfl ?_
            refine v_geti (pc := 274) (x := (w50 0 44)) d_Md_readOne_274 fl_Md_388 cM_0.1 cM_0.2 (Or.inl rfl) rfl ?_
            refine v_iconst (pc := 277) d_Md_readOne_277 (by decide) ?_
            refine v_isub (pc := 278) d_Md_readOne_278 ?_
            refine v_puti (pc := 279) d_Md_readOne_279 fp_Md_388 cM_0.1 cM_0.2 (by decide) rfl ?_
            refine v_aload_n (pc := 282) d_Md_readOne_282 rfl (.tail _ (.tail _ (.tail _ (.tail _ (.tail _ (.tail _ (.head _))))))) ?_
            refine v_ldcs (pc := 283) (n := 46) (tx := ")") d_Md_readOne_283 (by decide +kernel) ?_
            refine v_callV (pc := 285) (J' := jMd_must) (d' := d) (o := 0) (ci := 13) (N := 93) (T := cT13) (As := [vA 1047]) d_Md_readOne_285 ml_Md_420 cM_0.1 cM_0.2 (by decide) rfl rfl (Nat.le_of_ble_eq_true rfl) (Nat.le_refl _) rfl (Cal.weak h (fun o w52 h => ?_))
            rcases rIt_of h with ⟨x53, rfl, h⟩ | ⟨b, rfl, h⟩
            rotate_left
            · exact h
            refine v_istore_n (pc := 288) (ls' := [(3, vI x53), (6, vI x51), (5, vI x47), (4, vI x43), (2, vI x39), (1, vI (w1 0 11)), (0, vA 0)]) d_Md_readOne_288 rfl (by decide) rfl ?_
            refine v_aload_n (pc := 289) d_Md_readOne_289 rfl (.tail _ (.tail _ (.tail _ (.tail _ (.tail _ (.tail _ (.head _))))))) ?_
            refine v_bipush (pc := 290) d_Md_readOne_290 (by decide) rfl ?_
            refine v_iload_n (pc := 292) d_Md_readOne_292 rfl (.tail _ (.tail _ (.tail _ (.tail _ (.head _))))) ?_
            refine v_iload_n (pc := 293) d_Md_readOne_293 rfl (.tail _ (.tail _ (.tail _ (.tail _ (.tail _ (.head _)))))) ?_
            refine v_iload (pc := 294) d_Md_readOne_294 (.tail _ (.tail _ (.tail _ (.head _)))) ?_
            refine v_iload (pc := 296) d_Md_readOne_296 (.tail _ (.tail _ (.head _))) ?_
            refine v_callV (pc := 298) (J' := jMd_exp) (d' := d) (o := 0) (ci := 13) (N := 93) (T := cT13) (As := [vI 8, vI x39, vI (w1 0 11), vI x43, vI x47]) d_Md_readOne_298 ml_Md_398 cM_0.1 cM_0.2 (by decide) rfl rfl (Nat.le_of_ble_eq_true rfl) (Nat.le_refl _) rfl (Cal.weak h (fun o w54 h => ?_))
            rcases rIt_of h with ⟨x55, rfl, h⟩ | ⟨b, rfl, h⟩
            rotate_left
            · exact h
            refine v_istore (pc := 301) (ls' := [(7, vI x55), (3, vI x53), (6, vI x51), (5, vI x47), (4, vI x43), (2, vI x39), (1, vI (w1 0 11)), (0, vA 0)]) d_Md_readOne_301 (by decide) rfl ?_
            refine v_aload_n (pc := 303) d_Md_readOne_303 rfl (.tail _ (.tail _ (.tail _ (.tail _ (.tail _ (.tail _ (.tail _ (.head _)))))))) ?_
            refine v_getr (C := "") (pc := 304) (r := 31) d_Md_readOne_304 fl_Md_231 cM_0.1 cM_0.2 (Or.inr ⟨_, rfl⟩) rM_0_37 ?_
            refine v_iload (pc := 307) d_Md_readOne_307 (.head _) ?_
            refine v_iload (pc := 309) d_Md_readOne_309 (.tail _ (.tail _ (.head _))) ?_
            refine v_iast (pc := 311) d_Md_readOne_311 cM_31.1 cM_31.2 (aM_31 _) h.1 ?_
            replace h := h.2
            refine v_iload (pc := 312) d_Md_readOne_312 (.head _) ?_
            exact v_iret (pc := 314) d_Md_readOne_314 rfl h
        · replace h := h.2 c
          refine v_aload_n (pc := 151) d_Md_readOne_151 rfl (.tail _ (.head _)) ?_
          refine v_callV (pc := 152) (J' := jMd_pass) (d' := d) (o := 0) (ci := 13) (N := 93) (T := cT13) (As := []) d_Md_readOne_152 ml_Md_378 cM_0.1 cM_0.2 (by decide) rfl rfl (Nat.le_of_ble_eq_true rfl) (Nat.le_refl _) rfl (Cal.weak h (fun o w56 h => ?_))
          rcases rIt_of h with ⟨x57, rfl, h⟩ | ⟨b, rfl, h⟩
          rotate_left
          · exact h
          refine v_istore_n (pc := 155) (ls' := [(2, vI x57), (1, vI (w1 0 11)), (0, vA 0)]) d_Md_readOne_155 rfl (by decide) rfl ?_
          refine v_aload_n (pc := 156) d_Md_readOne_156 rfl (.tail _ (.tail _ (.head _))) ?_
          refine v_ldcs (pc := 157) (n := 45) (tx := "(") d_Md_readOne_157 (by decide +kernel) ?_
          refine v_callV (pc := 159) (J' := jMd_must) (d' := d) (o := 0) (ci := 13) (N := 93) (T := cT13) (As := [vA 1046]) d_Md_readOne_159 ml_Md_420 cM_0.1 cM_0.2 (by decide) rfl rfl (Nat.le_of_ble_eq_true rfl) (Nat.le_refl _) rfl (Cal.weak h (fun o w58 h => ?_))
          rcases rIt_of h with ⟨x59, rfl, h⟩ | ⟨b, rfl, h⟩
          rotate_left
          · exact h
          refine v_istore_n (pc := 162) (ls' := [(3, vI x59), (2, vI x57), (1, vI (w1 0 11)), (0, vA 0)]) d_Md_readOne_162 rfl (by decide) rfl ?_
          refine v_aload_n (pc := 163) d_Md_readOne_163 rfl (.tail _ (.tail _ (.tail _ (.head _)))) ?_
          refine v_dup (pc := 164) d_Md_readOne_164 rfl ?_
          refine v_geti (pc := 165) (x := (w58 0 44)) d_Md_readOne_165 fl_Md_388 cM_0.1 cM_0.2 (Or.inl rfl) rfl ?_
          refine v_iconst (pc := 168) d_Md_readOne_168 (by decide) ?_
          refine v_iadd (pc := 169) d_Md_readOne_169 ?_
          refine v_puti (pc := 170) d_Md_readOne_170 fp_Md_388 cM_0.1 cM_0.2 (by decide) rfl ?_
          refine v_aload_n (pc := 173) d_Md_readOne_173 rfl (.tail _ (.tail _ (.tail _ (.head _)))) ?_
          refine v_callS (pc := 174) (J' := jMd_readExp) (d' := d) (As := [vA 0]) d_Md_readOne_174 ml_Md_417 rfl (Nat.le_of_ble_eq_true rfl) (Nat.le_refl _) rfl (Cal.weak h (fun o w60 h => ?_))
          rcases rIt_of h with ⟨x61, rfl, h⟩ | ⟨b, rfl, h⟩
          rotate_left
          · exact h
          refine v_istore (pc := 177) (ls' := [(4, vI x61), (3, vI x59), (2, vI x57), (1, vI (w1 0 11)), (0, vA 0)]) d_Md_readOne_177 (by decide) rfl ?_
          refine v_aload_n (pc := 179) d_Md_readOne_179 rfl (.tail _ (.tail _ (.tail _ (.tail _ (.head _))))) ?_
          refine v_dup (pc := 180) d_Md_readOne_180 rfl ?_
          refine v_geti (pc := 181) (x := (w60 0 44)) d_Md_readOne_181 fl_Md_388 cM_0.1 cM_0.2 (Or.inl rfl) rfl ?_
          refine v_iconst (pc := 184) d_Md_readOne_184 (by decide) ?_
          refine v_isub (pc := 185) d_Md_readOne_185 ?_
          refine v_puti (pc := 186) d_Md_readOne_186 fp_Md_388 cM_0.1 cM_0.2 (by decide) rfl ?_
          refine v_aload_n (pc := 189) d_Md_readOne_189 rfl (.tail _ (.tail _ (.tail _ (.tail _ (.head _))))) ?_
          refine v_ldcs (pc := 190) (n := 46) (tx := ")") d_Md_readOne_190 (by decide +kernel) ?_
          refine v_callV (pc := 192) (J' := jMd_must) (d' := d) (o := 0) (ci := 13) (N := 93) (T := cT13) (As := [vA 1047]) d_Md_readOne_192 ml_Md_420 cM_0.1 cM_0.2 (by decide) rfl rfl (Nat.le_of_ble_eq_true rfl) (Nat.le_refl _) rfl (Cal.weak h (fun o w62 h => ?_))
          rcases rIt_of h with ⟨x63, rfl, h⟩ | ⟨b, rfl, h⟩
          rotate_left
          · exact h
          refine v_istore_n (pc := 195) (ls' := [(3, vI x63), (4, vI x61), (2, vI x57), (1, vI (w1 0 11)), (0, vA 0)]) d_Md_readOne_195 rfl (by decide) rfl ?_
          refine v_aload_n (pc := 196) d_Md_readOne_196 rfl (.tail _ (.tail _ (.tail _ (.tail _ (.head _))))) ?_
          refine v_bipush (pc := 197) d_Md_readOne_197 (by decide) rfl ?_
          refine v_iload_n (pc := 199) d_Md_readOne_199 rfl (.tail _ (.tail _ (.head _))) ?_
          refine v_iload_n (pc := 200) d_Md_readOne_200 rfl (.tail _ (.tail _ (.tail _ (.head _)))) ?_
          refine v_iload (pc := 201) d_Md_readOne_201 (.tail _ (.head _)) ?_
          refine v_bipush (pc := 203) d_Md_readOne_203 (by decide) rfl ?_
          refine v_callV (pc := 205) (J' := jMd_exp) (d' := d) (o := 0) (ci := 13) (N := 93) (T := cT13) (As := [vI 7, vI x57, vI (w1 0 11), vI x61, vI (-2)]) d_Md_readOne_205 ml_Md_398 cM_0.1 cM_0.2 (by decide) rfl rfl (Nat.le_of_ble_eq_true rfl) (Nat.le_refl _) rfl (Cal.weak h (fun o w64 h => ?_))
          rcases rIt_of h with ⟨x65, rfl, h⟩ | ⟨b, rfl, h⟩
          rotate_left
          · exact h
          exact v_iret (pc := 208) d_Md_readOne_208 rfl h
      · replace h := h.2 c
        refine v_aload_n (pc := 96) d_Md_readOne_96 rfl (.tail _ (.head _)) ?_
        refine v_callV (pc := 97) (J' := jMd_pass) (d' := d) (o := 0) (ci := 13) (N := 93) (T := cT13) (As := []) d_Md_readOne_97 ml_Md_378 cM_0.1 cM_0.2 (by decide) rfl rfl (Nat.le_of_ble_eq_true rfl) (Nat.le_refl _) rfl (Cal.weak h (fun o w66 h => ?_))
        rcases rIt_of h with ⟨x67, rfl, h⟩ | ⟨b, rfl, h⟩
        rotate_left
        · exact h
        refine v_istore_n (pc := 100) (ls' := [(2, vI x67), (1, vI (w1 0 11)), (0, vA 0)]) d_Md_readOne_100 rfl (by decide) rfl ?_
        refine v_aload_n (pc := 101) d_Md_readOne_101 rfl (.tail _ (.tail _ (.head _))) ?_
        refine v_dup (pc := 102) d_Md_readOne_102 rfl ?_
        refine v_geti (pc := 103) (x := (w66 0 44)) d_Md_readOne_103 fl_Md_388 cM_0.1 cM_0.2 (Or.inl rfl) rfl ?_
        refine v_iconst (pc := 106) d_Md_readOne_106 (by decide) ?_
        refine v_iadd (pc := 107) d_Md_readOne_107 ?_
        refine v_puti (pc := 108) d_Md_readOne_108 fp_Md_388 cM_0.1 cM_0.2 (by decide) rfl ?_
        refine v_aload_n (pc := 111) d_Md_readOne_111 rfl (.tail _ (.tail _ (.head _))) ?_
        refine v_callS (pc := 112) (J' := jMd_readExp) (d' := d) (As := [vA 0]) d_Md_readOne_112 ml_Md_417 rfl (Nat.le_of_ble_eq_true rfl) (Nat.le_refl _) rfl (Cal.weak h (fun o w68 h => ?_))
        rcases rIt_of h with ⟨x69, rfl, h⟩ | ⟨b, rfl, h⟩
        rotate_left
        · exact h
        refine v_istore_n (pc := 115) (ls' := [(3, vI x69), (2, vI x67), (1, vI (w1 0 11)), (0, vA 0)]) d_Md_readOne_115 rfl (by decide) rfl ?_
        refine v_aload_n (pc := 116) d_Md_readOne_116 rfl (.tail _ (.tail _ (.tail _ (.head _)))) ?_
        refine v_dup (pc := 117) d_Md_readOne_117 rfl ?_
        refine v_geti (pc := 118) (x := (w68 0 44)) d_Md_readOne_118 fl_Md_388 cM_0.1 cM_0.2 (Or.inl rfl) rfl ?_
        refine v_iconst (pc := 121) d_Md_readOne_121 (by decide) ?_
        refine v_isub (pc := 122) d_Md_readOne_122 ?_
        refine v_puti (pc := 123) d_Md_readOne_123 fp_Md_388 cM_0.1 cM_0.2 (by decide) rfl ?_
        refine v_aload_n (pc := 126) d_Md_readOne_126 rfl (.tail _ (.tail _ (.tail _ (.head _)))) ?_
        refine v_ldcs (pc := 127) (n := 46) (tx := ")") d_Md_readOne_127 (by decide +kernel) ?_
        refine v_callV (pc := 129) (J' := jMd_must) (d' := d) (o := 0) (ci := 13) (N := 93) (T := cT13) (As := [vA 1047]) d_Md_readOne_129 ml_Md_420 cM_0.1 cM_0.2 (by decide) rfl rfl (Nat.le_of_ble_eq_true rfl) (Nat.le_refl _) rfl (Cal.weak h (fun o w70 h => ?_))
        rcases rIt_of h with ⟨x71, rfl, h⟩ | ⟨b, rfl, h⟩
        rotate_left
        · exact h
        refine v_istore_n (pc := 132) (ls' := [(2, vI x71), (3, vI x69), (1, vI (w1 0 11)), (0, vA 0)]) d_Md_readOne_132 rfl (by decide) rfl ?_
        refine v_aload_n (pc := 133) d_Md_readOne_133 rfl (.tail _ (.tail _ (.tail _ (.head _)))) ?_
        refine v_getr (C := "") (pc := 134) (r := 28) d_Md_readOne_134 fl_Md_222 cM_0.1 cM_0.2 (Or.inr ⟨_, rfl⟩) rM_0_34 ?_
        refine v_iload_n (pc := 137) d_Md_readOne_137 rfl (.tail _ (.head _)) ?_
        refine v_iload_n (pc := 138) d_Md_readOne_138 rfl (.tail _ (.tail _ (.head _))) ?_
        refine v_iast (pc := 139) d_Md_readOne_139 cM_28.1 cM_28.2 (aM_28 _) h.1 ?_
        replace h := h.2
        refine v_iload_n (pc := 140) d_Md_readOne_140 rfl (.tail _ (.head _)) ?_
        exact v_iret (pc := 141) d_Md_readOne_141 rfl h
    · replace h := h.2 c
      exact v_sub (List.forall_mem_cons.mpr ⟨(.tail _ (.head _)), (List.forall_mem_cons.mpr ⟨(.head _), (fun _ z => absurd z List.not_mem_nil)⟩)⟩) h
set_option maxHeartbeats 4000000 in
theorem s_Md_readOne_27 {g : Mg} {d : Nat} {K : Ou → Wd → Prop} {w : Wd} {x1_ : Int} (h : Cal g LM jMd_is d [vA 0, vA 1055] w (fun o w1 => rIt o (fun b => K (.inr b) w1) (fun x2 => (x2 = 0 → (V g LM jMd_readOne (d + 1) K 43 [(0, vA 0), (1, vI x1_)] [vI 10] w1)) ∧ (¬ x2 = 0 → (V g LM jMd_readOne (d + 1) K 43 [(0, vA 0), (1, vI x1_)] [vI 9] w1))))) : V g LM jMd_readOne (d + 1) K 27 [(0, vA 0), (1, vI x1_)] [] w := by
  refine v_aload_n (pc := 27) d_Md_readOne_27 rfl (.head _) ?_
  refine v_ldcs (pc := 28) (n := 54) (tx := "-") d_Md_readOne_28 (by decide +kernel) ?_
  refine v_callV (pc := 30) (J' := jMd_is) (d' := d) (o := 0) (ci := 13) (N := 93) (T := cT13) (As := [vA 1055]) d_Md_readOne_30 ml_Md_374 cM_0.1 cM_0.2 (by decide) rfl rfl (Nat.le_of_ble_eq_true rfl) (Nat.le_refl _) rfl (Cal.weak h (fun o w1 h => ?_))
  rcases rIt_of h with ⟨x2, rfl, h⟩ | ⟨b, rfl, h⟩
  rotate_left
  · exact h
  refine v_ifeq (pc := 33) (tgt := 41) d_Md_readOne_33 (by decide) (fun c => ?_) (fun c => ?_)
  · replace h := h.1 c
    refine v_bipush (pc := 41) d_Md_readOne_41 (by decide) rfl ?_
    exact v_sub (List.forall_mem_cons.mpr ⟨(.head _), (List.forall_mem_cons.mpr ⟨(.tail _ (.head _)), (fun _ z => absurd z List.not_mem_nil)⟩)⟩) h
  · replace h := h.2 c
    refine v_bipush (pc := 36) d_Md_readOne_36 (by decide) rfl ?_
    refine v_goto (pc := 38) (tgt := 43) d_Md_readOne_38 (by decide) ?_
    exact v_sub (List.forall_mem_cons.mpr ⟨(.head _), (List.forall_mem_cons.mpr ⟨(.tail _ (.head _)), (fun _ z => absurd z List.not_mem_nil)⟩)⟩) h
set_option maxHeartbeats 4000000 in
theorem s_Md_readOne_455 {g : Mg} {d : Nat} {K : Ou → Wd → Prop} {w : Wd} {x1_ : Int} {s0_ : Int} (h : Cal g LM jMd_pass d [vA 0] w (fun o w1 => rIt o (fun b => K (.inr b) w1) (fun x2 => Cal g LM jMd_exp d [vA 0, vI s0_, vI x2, vI x1_, vI (-2), vI (-2)] w1 (fun o w3 => rIt o (fun b => K (.inr b) w3) (fun x4 => K (.inl (some (vI x4))) w3))))) : V g LM jMd_readOne (d + 1) K 455 [(0, vA 0), (1, vI x1_)] [vI s0_] w := by
  refine v_istore_n (pc := 455) (ls' := [(2, vI s0_), (0, vA 0), (1, vI x1_)]) d_Md_readOne_455 rfl (by decide) rfl ?_
  refine v_aload_n (pc := 456) d_Md_readOne_456 rfl (.tail _ (.head _)) ?_
  refine v_callV (pc := 457) (J' := jMd_pass) (d' := d) (o := 0) (ci := 13) (N := 93) (T := cT13) (As := []) d_Md_readOne_457 ml_Md_378 cM_0.1 cM_0.2 (by decide) rfl rfl (Nat.le_of_ble_eq_true rfl) (Nat.le_refl _) rfl (Cal.weak h (fun o w1 h => ?_))
  rcases rIt_of h with ⟨x2, rfl, h⟩ | ⟨b, rfl, h⟩
  rotate_left
  · exact h
  refine v_istore_n (pc := 460) (ls' := [(3, vI x2), (2, vI s0_), (0, vA 0), (1, vI x1_)]) d_Md_readOne_460 rfl (by decide) rfl ?_
  refine v_aload_n (pc := 461) d_Md_readOne_461 rfl (.tail _ (.tail _ (.head _))) ?_
  refine v_iload_n (pc := 462) d_Md_readOne_462 rfl (.tail _ (.head _)) ?_
  refine v_iload_n (pc := 463) d_Md_readOne_463 rfl (.head _) ?_
  refine v_iload_n (pc := 464) d_Md_readOne_464 rfl (.tail _ (.tail _ (.tail _ (.head _)))) ?_
  refine v_bipush (pc := 465) d_Md_readOne_465 (by decide) rfl ?_
  refine v_bipush (pc := 467) d_Md_readOne_467 (by decide) rfl ?_
  refine v_callV (pc := 469) (J' := jMd_exp) (d' := d) (o := 0) (ci := 13) (N := 93) (T := cT13) (As := [vI s0_, vI x2, vI x1_, vI (-2), vI (-2)]) d_Md_readOne_469 ml_Md_398 cM_0.1 cM_0.2 (by decide) rfl rfl (Nat.le_of_ble_eq_true rfl) (Nat.le_refl _) rfl (Cal.weak h (fun o w3 h => ?_))
  rcases rIt_of h with ⟨x4, rfl, h⟩ | ⟨b, rfl, h⟩
  rotate_left
  · exact h
  exact v_iret (pc := 472) d_Md_readOne_472 rfl h
set_option maxHeartbeats 4000000 in
theorem s_Md_readOne_43 {g : Mg} {d : Nat} {K : Ou → Wd → Prop} {w : Wd} {x1_ : Int} {s0_ : Int} (h : Cal g LM jMd_pass d [vA 0] w (fun o w1 => rIt o (fun b => K (.inr b) w1) (fun x2 => Cal g LM jMd_readOne d [vA 0] (up w1 0 44 (wr ((w1 0 44) + 1))) (fun o w3 => rIt o (fun b => K (.inr b) w3) (fun x4 => Cal g LM jMd_exp d [vA 0, vI s0_, vI x2, vI x1_, vI x4, vI (-2)] (up w3 0 44 (wr ((w3 0 44) - 1))) (fun o w5 => rIt o (fun b => K (.inr b) w5) (fun x6 => K (.inl (some (vI x6))) w5))))))) : V g LM jMd_readOne (d + 1) K 43 [(0, vA 0), (1, vI x1_)] [vI s0_] w := by
  refine v_istore_n (pc := 43) (ls' := [(2, vI s0_), (0, vA 0), (1, vI x1_)]) d_Md_readOne_43 rfl (by decide) rfl ?_
  refine v_aload_n (pc := 44) d_Md_readOne_44 rfl (.tail _ (.head _)) ?_
  refine v_callV (pc := 45) (J' := jMd_pass) (d' := d) (o := 0) (ci := 13) (N := 93) (T := cT13) (As := []) d_Md_readOne_45 ml_Md_378 cM_0.1 cM_0.2 (by decide) rfl rfl (Nat.le_of_ble_eq_true rfl) (Nat.le_refl _) rfl (Cal.weak h (fun o w1 h => ?_))
  rcases rIt_of h with ⟨x2, rfl, h⟩ | ⟨b, rfl, h⟩
  rotate_left
  · exact h
  refine v_istore_n (pc := 48) (ls' := [(3, vI x2), (2, vI s0_), (0, vA 0), (1, vI x1_)]) d_Md_readOne_48 rfl (by decide) rfl ?_
  refine v_aload_n (pc := 49) d_Md_readOne_49 rfl (.tail _ (.tail _ (.head _))) ?_
  refine v_dup (pc := 50) d_Md_readOne_50 rfl ?_
  refine v_geti (pc := 51) (x := (w1 0 44)) d_Md_readOne_51 fl_Md_388 cM_0.1 cM_0.2 (Or.inl rfl) rfl ?_
  refine v_iconst (pc := 54) d_Md_readOne_54 (by decide) ?_
  refine v_iadd (pc := 55) d_Md_readOne_55 ?_
  refine v_puti (pc := 56) d_Md_readOne_56 fp_Md_388 cM_0.1 cM_0.2 (by decide) rfl ?_
  refine v_aload_n (pc := 59) d_Md_readOne_59 rfl (.tail _ (.tail _ (.head _))) ?_
  refine v_callS (pc := 60) (J' := jMd_readOne) (d' := d) (As := [vA 0]) d_Md_readOne_60 ml_Md_414 rfl (Nat.le_of_ble_eq_true rfl) (Nat.le_refl _) rfl (Cal.weak h (fun o w3 h => ?_))
  rcases rIt_of h with ⟨x4, rfl, h⟩ | ⟨b, rfl, h⟩
  rotate_left
  · exact h
  refine v_istore (pc := 63) (ls' := [(4, vI x4), (3, vI x2), (2, vI s0_), (0, vA 0), (1, vI x1_)]) d_Md_readOne_63 (by decide) rfl ?_
  refine v_aload_n (pc := 65) d_Md_readOne_65 rfl (.tail _ (.tail _ (.tail _ (.head _)))) ?_
  refine v_dup (pc := 66) d_Md_readOne_66 rfl ?_
  refine v_geti (pc := 67) (x := (w3 0 44)) d_Md_readOne_67 fl_Md_388 cM_0.1 cM_0.2 (Or.inl rfl) rfl ?_
  refine v_iconst (pc := 70) d_Md_readOne_70 (by decide) ?_
  refine v_isub (pc := 71) d_Md_readOne_71 ?_
  refine v_puti (pc := 72) d_Md_readOne_72 fp_Md_388 cM_0.1 cM_0.2 (by decide) rfl ?_
  refine v_aload_n (pc := 75) d_Md_readOne_75 rfl (.tail _ (.tail _ (.tail _ (.head _)))) ?_
  refine v_iload_n (pc := 76) d_Md_readOne_76 rfl (.tail _ (.tail _ (.head _))) ?_
  refine v_iload_n (pc := 77) d_Md_readOne_77 rfl (.tail _ (.head _)) ?_
  refine v_iload_n (pc := 78) d_Md_readOne_78 rfl (.tail _ (.tail _ (.tail _ (.tail _ (.head _))))) ?_
  refine v_iload (pc := 79) d_Md_readOne_79 (.head _) ?_
  refine v_bipush (pc := 81) d_Md_readOne_81 (by decide) rfl ?_
  refine v_callV (pc := 83) (J' := jMd_exp) (d' := d) (o := 0) (ci := 13) (N := 93) (T := cT13) (As := [vI s0_, vI x2, vI x1_, vI x4, vI (-2)]) d_Md_readOne_83 ml_Md_398 cM_0.1 cM_0.2 (by decide) rfl rfl (Nat.le_of_ble_eq_true rfl) (Nat.le_refl _) rfl (Cal.weak h (fun o w5 h => ?_))
  rcases rIt_of h with ⟨x6, rfl, h⟩ | ⟨b, rfl, h⟩
  rotate_left
  · exact h
  exact v_iret (pc := 86) d_Md_readOne_86 rfl h
theorem d_Md_beginsStatement_0 : decode jMd_beginsStatement.cc 0 = .ok (.aload_n 0, 1) := by decide +kernel
theorem d_Md_beginsStatement_1 : decode jMd_beginsStatement.cc 1 = .ok (.getfield 33, 3) := by decide +kernel
theorem d_Md_beginsStatement_4 : decode jMd_beginsStatement.cc 4 = .ok (.aload_n 0, 1) := by decide +kernel
theorem d_Md_beginsStatement_5 : decode jMd_beginsStatement.cc 5 = .ok (.getfield 363, 3) := by decide +kernel
theorem d_Md_beginsStatement_8 : decode jMd_beginsStatement.cc 8 = .ok (.iaload, 1) := by decide +kernel
theorem d_Md_beginsStatement_9 : decode jMd_beginsStatement.cc 9 = .ok (.ifCond .eq 57, 3) := by decide +kernel
theorem d_Md_beginsStatement_12 : decode jMd_beginsStatement.cc 12 = .ok (.aload_n 0, 1) := by decide +kernel
theorem d_Md_beginsStatement_13 : decode jMd_beginsStatement.cc 13 = .ok (.ldc 80, 2) := by decide +kernel
theorem d_Md_beginsStatement_15 : decode jMd_beginsStatement.cc 15 = .ok (.invokevirtual 374, 3) := by decide +kernel
theorem d_Md_beginsStatement_18 : decode jMd_beginsStatement.cc 18 = .ok (.ifCond .ne 48, 3) := by decide +kernel
theorem d_Md_beginsStatement_21 : decode jMd_beginsStatement.cc 21 = .ok (.aload_n 0, 1) := by decide +kernel
theorem d_Md_beginsStatement_22 : decode jMd_beginsStatement.cc 22 = .ok (.ldc 82, 2) := by decide +kernel
theorem d_Md_beginsStatement_24 : decode jMd_beginsStatement.cc 24 = .ok (.invokevirtual 374, 3) := by decide +kernel
theorem d_Md_beginsStatement_27 : decode jMd_beginsStatement.cc 27 = .ok (.ifCond .ne 39, 3) := by decide +kernel
theorem d_Md_beginsStatement_30 : decode jMd_beginsStatement.cc 30 = .ok (.aload_n 0, 1) := by decide +kernel
theorem d_Md_beginsStatement_31 : decode jMd_beginsStatement.cc 31 = .ok (.ldc 88, 2) := by decide +kernel
theorem d_Md_beginsStatement_33 : decode jMd_beginsStatement.cc 33 = .ok (.invokevirtual 374, 3) := by decide +kernel
theorem d_Md_beginsStatement_36 : decode jMd_beginsStatement.cc 36 = .ok (.ifCond .ne 30, 3) := by decide +kernel
theorem d_Md_beginsStatement_39 : decode jMd_beginsStatement.cc 39 = .ok (.aload_n 0, 1) := by decide +kernel
theorem d_Md_beginsStatement_40 : decode jMd_beginsStatement.cc 40 = .ok (.ldc 90, 2) := by decide +kernel
theorem d_Md_beginsStatement_42 : decode jMd_beginsStatement.cc 42 = .ok (.invokevirtual 374, 3) := by decide +kernel
theorem d_Md_beginsStatement_45 : decode jMd_beginsStatement.cc 45 = .ok (.ifCond .ne 21, 3) := by decide +kernel
theorem d_Md_beginsStatement_48 : decode jMd_beginsStatement.cc 48 = .ok (.aload_n 0, 1) := by decide +kernel
theorem d_Md_beginsStatement_49 : decode jMd_beginsStatement.cc 49 = .ok (.ldc 94, 2) := by decide +kernel
theorem d_Md_beginsStatement_51 : decode jMd_beginsStatement.cc 51 = .ok (.invokevirtual 374, 3) := by decide +kernel
theorem d_Md_beginsStatement_54 : decode jMd_beginsStatement.cc 54 = .ok (.ifCond .ne 12, 3) := by decide +kernel
theorem d_Md_beginsStatement_57 : decode jMd_beginsStatement.cc 57 = .ok (.aload_n 0, 1) := by decide +kernel
theorem d_Md_beginsStatement_58 : decode jMd_beginsStatement.cc 58 = .ok (.ldc 96, 2) := by decide +kernel
theorem d_Md_beginsStatement_60 : decode jMd_beginsStatement.cc 60 = .ok (.invokevirtual 374, 3) := by decide +kernel
theorem d_Md_beginsStatement_63 : decode jMd_beginsStatement.cc 63 = .ok (.ifCond .eq 7, 3) := by decide +kernel
theorem d_Md_beginsStatement_66 : decode jMd_beginsStatement.cc 66 = .ok (.iconst 1, 1) := by decide +kernel
theorem d_Md_beginsStatement_67 : decode jMd_beginsStatement.cc 67 = .ok (.goto 4, 3) := by decide +kernel
theorem d_Md_beginsStatement_70 : decode jMd_beginsStatement.cc 70 = .ok (.iconst 0, 1) := by decide +kernel
theorem d_Md_beginsStatement_71 : decode jMd_beginsStatement.cc 71 = .ok (.ireturn, 1) := by decide +kernel
set_option maxHeartbeats 4000000 in
theorem s_Md_beginsStatement {g : Mg} {d : Nat} {K : Ou → Wd → Prop} {w : Wd} (h : (0 ≤ (w 0 11) ∧ (w 0 11) < 4022) ∧ (((w 4 ((w 0 11).toNat)) = 0 → (K (.inl (some (vI 1))) w)) ∧ (¬ (w 4 ((w 0 11).toNat)) = 0 → (Cal g LM jMd_is d [vA 0, vA 1020] w (fun o w1 => rIt o (fun b => K (.inr b) w1) (fun x2 => (¬ x2 = 0 → (K (.inl (some (vI 1))) w1)) ∧ (x2 = 0 → (Cal g LM jMd_is d [vA 0, vA 1021] w1 (fun o w3 => rIt o (fun b => K (.inr b) w3) (fun x4 => (¬ x4 = 0 → (K (.inl (some (vI 1))) w3)) ∧ (x4 = 0 → (Cal g LM jMd_is d [vA 0, vA 1024] w3 (fun o w5 => rIt o (fun b => K (.inr b) w5) (fun x6 => (¬ x6 = 0 → (K (.inl (some (vI 1))) w5)) ∧ (x6 = 0 → (Cal g LM jMd_is d [vA 0, vA 1025] w5 (fun o w7 => rIt o (fun b => K (.inr b) w7) (fun x8 => (¬ x8 = 0 → (K (.inl (some (vI 1))) w7)) ∧ (x8 = 0 → (Cal g LM jMd_is d [vA 0, vA 1027] w7 (fun o w9 => rIt o (fun b => K (.inr b) w9) (fun x10 => (¬ x10 = 0 → (K (.inl (some (vI 1))) w9)) ∧ (x10 = 0 → (Cal g LM jMd_is d [vA 0, vA 1028] w9 (fun o w11 => rIt o (fun b => K (.inr b) w11) (fun x12 => (x12 = 0 → (K (.inl (some (vI 0))) w11)) ∧ (¬ x12 = 0 → (K (.inl (some (vI 1))) w11)))))))))))))))))))))))))))) : V g LM jMd_beginsStatement (d + 1) K 0 [(0, vA 0)] [] w := by
  refine v_aload_n (pc := 0) d_Md_beginsStatement_0 rfl (.head _) ?_
  refine v_getr (C := "") (pc := 1) (r := 4) d_Md_beginsStatement_1 fl_Md_33 cM_0.1 cM_0.2 (Or.inr ⟨_, rfl⟩) rM_0_6 ?_
  refine v_aload_n (pc := 4) d_Md_beginsStatement_4 rfl (.head _) ?_
  refine v_geti (pc := 5) (x := (w 0 11)) d_Md_beginsStatement_5 fl_Md_363 cM_0.1 cM_0.2 (Or.inl rfl) rfl ?_
  refine v_iald (pc := 8) (x := (w 4 ((w 0 11).toNat))) d_Md_beginsStatement_8 cM_4.1 cM_4.2 rfl h.1 ?_
  replace h := h.2
  refine v_ifeq (pc := 9) (tgt := 66) d_Md_beginsStatement_9 (by decide) (fun c => ?_) (fun c => ?_)
  · replace h := h.1 c
    refine v_iconst (pc := 66) d_Md_beginsStatement_66 (by decide) ?_
    refine v_goto (pc := 67) (tgt := 71) d_Md_beginsStatement_67 (by decide) ?_
    exact v_zret (pc := 71) d_Md_beginsStatement_71 rfl (by decide) h
  · replace h := h.2 c
    refine v_aload_n (pc := 12) d_Md_beginsStatement_12 rfl (.head _) ?_
    refine v_ldcs (pc := 13) (n := 19) (tx := "let") d_Md_beginsStatement_13 (by decide +kernel) ?_
    refine v_callV (pc := 15) (J' := jMd_is) (d' := d) (o := 0) (ci := 13) (N := 93) (T := cT13) (As := [vA 1020]) d_Md_beginsStatement_15 ml_Md_374 cM_0.1 cM_0.2 (by decide) rfl rfl (Nat.le_of_ble_eq_true rfl) (Nat.le_refl _) rfl (Cal.weak h (fun o w1 h => ?_))
    rcases rIt_of h with ⟨x2, rfl, h⟩ | ⟨b, rfl, h⟩
    rotate_left
    · exact h
    refine v_ifne (pc := 18) (tgt := 66) d_Md_beginsStatement_18 (by decide) (fun c => ?_) (fun c => ?_)
    · replace h := h.1 c
      refine v_iconst (pc := 66) d_Md_beginsStatement_66 (by decide) ?_
      refine v_goto (pc := 67) (tgt := 71) d_Md_beginsStatement_67 (by decide) ?_
      exact v_zret (pc := 71) d_Md_beginsStatement_71 rfl (by decide) h
    · replace h := h.2 c
      refine v_aload_n (pc := 21) d_Md_beginsStatement_21 rfl (.head _) ?_
      refine v_ldcs (pc := 22) (n := 20) (tx := "send") d_Md_beginsStatement_22 (by decide +kernel) ?_
      refine v_callV (pc := 24) (J' := jMd_is) (d' := d) (o := 0) (ci := 13) (N := 93) (T := cT13) (As := [vA 1021]) d_Md_beginsStatement_24 ml_Md_374 cM_0.1 cM_0.2 (by decide) rfl rfl (Nat.le_of_ble_eq_true rfl) (Nat.le_refl _) rfl (Cal.weak h (fun o w3 h => ?_))
      rcases rIt_of h with ⟨x4, rfl, h⟩ | ⟨b, rfl, h⟩
      rotate_left
      · exact h
      refine v_ifne (pc := 27) (tgt := 66) d_Md_beginsStatement_27 (by decide) (fun c => ?_) (fun c => ?_)
      · replace h := h.1 c
        refine v_iconst (pc := 66) d_Md_beginsStatement_66 (by decide) ?_
        refine v_goto (pc := 67) (tgt := 71) d_Md_beginsStatement_67 (by decide) ?_
        exact v_zret (pc := 71) d_Md_beginsStatement_71 rfl (by decide) h
      · replace h := h.2 c
        refine v_aload_n (pc := 30) d_Md_beginsStatement_30 rfl (.head _) ?_
        refine v_ldcs (pc := 31) (n := 23) (tx := "give") d_Md_beginsStatement_31 (by decide +kernel) ?_
        refine v_callV (pc := 33) (J' := jMd_is) (d' := d) (o := 0) (ci := 13) (N := 93) (T := cT13) (As := [vA 1024]) d_Md_beginsStatement_33 ml_Md_374 cM_0.1 cM_0.2 (by decide) rfl rfl (Nat.le_of_ble_eq_true rfl) (Nat.le_refl _) rfl (Cal.weak h (fun o w5 h => ?_))
        rcases rIt_of h with ⟨x6, rfl, h⟩ | ⟨b, rfl, h⟩
        rotate_left
        · exact h
        refine v_ifne (pc := 36) (tgt := 66) d_Md_beginsStatement_36 (by decide) (fun c => ?_) (fun c => ?_)
        · replace h := h.1 c
          refine v_iconst (pc := 66) d_Md_beginsStatement_66 (by decide) ?_
          refine v_goto (pc := 67) (tgt := 71) d_Md_beginsStatement_67 (by decide) ?_
          exact v_zret (pc := 71) d_Md_beginsStatement_71 rfl (by decide) h
        · replace h := h.2 c
          refine v_aload_n (pc := 39) d_Md_beginsStatement_39 rfl (.head _) ?_
          refine v_ldcs (pc := 40) (n := 24) (tx := "if") d_Md_beginsStatement_40 (by decide +kernel) ?_
          refine v_callV (pc := 42) (J' := jMd_is) (d' := d) (o := 0) (ci := 13) (N := 93) (T := cT13) (As := [vA 1025]) d_Md_beginsStatement_42 ml_Md_374 cM_0.1 cM_0.2 (by decide) rfl rfl (Nat.le_of_ble_eq_true rfl) (Nat.le_refl _) rfl (Cal.weak h (fun o w7 h => ?_))
          rcases rIt_of h with ⟨x8, rfl, h⟩ | ⟨b, rfl, h⟩
          rotate_left
          · exact h
          refine v_ifne (pc := 45) (tgt := 66) d_Md_beginsStatement_45 (by decide) (fun c => ?_) (fun c => ?_)
          · replace h := h.1 c
            refine v_iconst (pc := 66) d_Md_beginsStatement_66 (by decide) ?_
            refine v_goto (pc := 67) (tgt := 71) d_Md_beginsStatement_67 (by decide) ?_
            exact v_zret (pc := 71) d_Md_beginsStatement_71 rfl (by decide) h
          · replace h := h.2 c
            refine v_aload_n (pc := 48) d_Md_beginsStatement_48 rfl (.head _) ?_
            refine v_ldcs (pc := 49) (n := 26) (tx := "loop") d_Md_beginsStatement_49 (by decide +kernel) ?_
            refine v_callV (pc := 51) (J' := jMd_is) (d' := d) (o := 0) (ci := 13) (N := 93) (T := cT13) (As := [vA 1027]) d_Md_beginsStatement_51 ml_Md_374 cM_0.1 cM_0.2 (by decide) rfl rfl (Nat.le_of_ble_eq_true rfl) (Nat.le_refl _) rfl (Cal.weak h (fun o w9 h => ?_))
            rcases rIt_of h with ⟨x10, rfl, h⟩ | ⟨b, rfl, h⟩
            rotate_left
            · exact h
            refine v_ifne (pc := 54) (tgt := 66) d_Md_beginsStatement_54 (by decide) (fun c => ?_) (fun c => ?_)
            · replace h := h.1 c
              refine v_iconst (pc := 66) d_Md_beginsStatement_66 (by decide) ?_
              refine v_goto (pc := 67) (tgt := 71) d_Md_beginsStatement_67 (by decide) ?_
              exact v_zret (pc := 71) d_Md_beginsStatement_71 rfl (by decide) h
            · replace h := h.2 c
              refine v_aload_n (pc := 57) d_Md_beginsStatement_57 rfl (.head _) ?_
              refine v_ldcs (pc := 58) (n := 27) (tx := "halt") d_Md_beginsStatement_58 (by decide +kernel) ?_
              refine v_callV (pc := 60) (J' := jMd_is) (d' := d) (o := 0) (ci := 13) (N := 93) (T := cT13) (As := [vA 1028]) d_Md_beginsStatement_60 ml_Md_374 cM_0.1 cM_0.2 (by decide) rfl rfl (Nat.le_of_ble_eq_true rfl) (Nat.le_refl _) rfl (Cal.weak h (fun o w11 h => ?_))
              rcases rIt_of h with ⟨x12, rfl, h⟩ | ⟨b, rfl, h⟩
              rotate_left
              · exact h
              refine v_ifeq (pc := 63) (tgt := 70) d_Md_beginsStatement_63 (by decide) (fun c => ?_) (fun c => ?_)
              · replace h := h.1 c
                refine v_iconst (pc := 70) d_Md_beginsStatement_70 (by decide) ?_
                exact v_zret (pc := 71) d_Md_beginsStatement_71 rfl (by decide) h
              · replace h := h.2 c
                refine v_iconst (pc := 66) d_Md_beginsStatement_66 (by decide) ?_
                refine v_goto (pc := 67) (tgt := 71) d_Md_beginsStatement_67 (by decide) ?_
                exact v_zret (pc := 71) d_Md_beginsStatement_71 rfl (by decide) h
theorem d_Md_readBlock_0 : decode jMd_readBlock.cc 0 = .ok (.aload_n 0, 1) := by decide +kernel
theorem d_Md_readBlock_1 : decode jMd_readBlock.cc 1 = .ok (.ldc 132, 2) := by decide +kernel
theorem d_Md_readBlock_3 : decode jMd_readBlock.cc 3 = .ok (.invokevirtual 374, 3) := by decide +kernel
theorem d_Md_readBlock_6 : decode jMd_readBlock.cc 6 = .ok (.ifCond .ne 16, 3) := by decide +kernel
theorem d_Md_readBlock_9 : decode jMd_readBlock.cc 9 = .ok (.aload_n 0, 1) := by decide +kernel
theorem d_Md_readBlock_10 : decode jMd_readBlock.cc 10 = .ok (.iconst 1, 1) := by decide +kernel
theorem d_Md_readBlock_11 : decode jMd_readBlock.cc 11 = .ok (.aload_n 0, 1) := by decide +kernel
theorem d_Md_readBlock_12 : decode jMd_readBlock.cc 12 = .ok (.aload_n 0, 1) := by decide +kernel
theorem d_Md_readBlock_13 : decode jMd_readBlock.cc 13 = .ok (.getfield 363, 3) := by decide +kernel
theorem d_Md_readBlock_16 : decode jMd_readBlock.cc 16 = .ok (.invokevirtual 366, 3) := by decide +kernel
theorem d_Md_readBlock_19 : decode jMd_readBlock.cc 19 = .ok (.invokevirtual 370, 3) := by decide +kernel
theorem d_Md_readBlock_22 : decode jMd_readBlock.cc 22 = .ok (.aload_n 0, 1) := by decide +kernel
theorem d_Md_readBlock_23 : decode jMd_readBlock.cc 23 = .ok (.getfield 388, 3) := by decide +kernel
theorem d_Md_readBlock_26 : decode jMd_readBlock.cc 26 = .ok (.bipush 12, 2) := by decide +kernel
theorem d_Md_readBlock_28 : decode jMd_readBlock.cc 28 = .ok (.if_icmp .le 16, 3) := by decide +kernel
theorem d_Md_readBlock_31 : decode jMd_readBlock.cc 31 = .ok (.aload_n 0, 1) := by decide +kernel
theorem d_Md_readBlock_32 : decode jMd_readBlock.cc 32 = .ok (.iconst 2, 1) := by decide +kernel
theorem d_Md_readBlock_33 : decode jMd_readBlock.cc 33 = .ok (.aload_n 0, 1) := by decide +kernel
theorem d_Md_readBlock_34 : decode jMd_readBlock.cc 34 = .ok (.aload_n 0, 1) := by decide +kernel
theorem d_Md_readBlock_35 : decode jMd_readBlock.cc 35 = .ok (.getfield 363, 3) := by decide +kernel
theorem d_Md_readBlock_38 : decode jMd_readBlock.cc 38 = .ok (.invokevirtual 366, 3) := by decide +kernel
theorem d_Md_readBlock_41 : decode jMd_readBlock.cc 41 = .ok (.invokevirtual 370, 3) := by decide +kernel
theorem d_Md_readBlock_44 : decode jMd_readBlock.cc 44 = .ok (.aload_n 0, 1) := by decide +kernel
theorem d_Md_readBlock_45 : decode jMd_readBlock.cc 45 = .ok (.invokevirtual 378, 3) := by decide +kernel
theorem d_Md_readBlock_48 : decode jMd_readBlock.cc 48 = .ok (.istore_n 1, 1) := by decide +kernel
theorem d_Md_readBlock_49 : decode jMd_readBlock.cc 49 = .ok (.aload_n 0, 1) := by decide +kernel
theorem d_Md_readBlock_50 : decode jMd_readBlock.cc 50 = .ok (.dup, 1) := by decide +kernel
theorem d_Md_readBlock_51 : decode jMd_readBlock.cc 51 = .ok (.getfield 388, 3) := by decide +kernel
theorem d_Md_readBlock_54 : decode jMd_readBlock.cc 54 = .ok (.iconst 1, 1) := by decide +kernel
theorem d_Md_readBlock_55 : decode jMd_readBlock.cc 55 = .ok (.iadd, 1) := by decide +kernel
theorem d_Md_readBlock_56 : decode jMd_readBlock.cc 56 = .ok (.putfield 388, 3) := by decide +kernel
theorem d_Md_readBlock_59 : decode jMd_readBlock.cc 59 = .ok (.aload_n 0, 1) := by decide +kernel
theorem d_Md_readBlock_60 : decode jMd_readBlock.cc 60 = .ok (.getfield 427, 3) := by decide +kernel
theorem d_Md_readBlock_63 : decode jMd_readBlock.cc 63 = .ok (.istore_n 2, 1) := by decide +kernel
theorem d_Md_readBlock_64 : decode jMd_readBlock.cc 64 = .ok (.bipush (-2), 2) := by decide +kernel
theorem d_Md_readBlock_66 : decode jMd_readBlock.cc 66 = .ok (.istore_n 3, 1) := by decide +kernel
theorem d_Md_readBlock_67 : decode jMd_readBlock.cc 67 = .ok (.bipush (-2), 2) := by decide +kernel
theorem d_Md_readBlock_69 : decode jMd_readBlock.cc 69 = .ok (.istore 4, 2) := by decide +kernel
theorem d_Md_readBlock_71 : decode jMd_readBlock.cc 71 = .ok (.aload_n 0, 1) := by decide +kernel
theorem d_Md_readBlock_72 : decode jMd_readBlock.cc 72 = .ok (.ldc 134, 2) := by decide +kernel
theorem d_Md_readBlock_74 : decode jMd_readBlock.cc 74 = .ok (.invokevirtual 374, 3) := by decide +kernel
theorem d_Md_readBlock_77 : decode jMd_readBlock.cc 77 = .ok (.ifCond .ne 36, 3) := by decide +kernel
theorem d_Md_readBlock_80 : decode jMd_readBlock.cc 80 = .ok (.aload_n 0, 1) := by decide +kernel
theorem d_Md_readBlock_81 : decode jMd_readBlock.cc 81 = .ok (.invokestatic 430, 3) := by decide +kernel
theorem d_Md_readBlock_84 : decode jMd_readBlock.cc 84 = .ok (.istore 5, 2) := by decide +kernel
theorem d_Md_readBlock_86 : decode jMd_readBlock.cc 86 = .ok (.iload 4, 2) := by decide +kernel
theorem d_Md_readBlock_88 : decode jMd_readBlock.cc 88 = .ok (.ifCond .ge 9, 3) := by decide +kernel
theorem d_Md_readBlock_91 : decode jMd_readBlock.cc 91 = .ok (.iload 5, 2) := by decide +kernel
theorem d_Md_readBlock_93 : decode jMd_readBlock.cc 93 = .ok (.istore_n 3, 1) := by decide +kernel
theorem d_Md_readBlock_94 : decode jMd_readBlock.cc 94 = .ok (.goto 12, 3) := by decide +kernel
theorem d_Md_readBlock_97 : decode jMd_readBlock.cc 97 = .ok (.aload_n 0, 1) := by decide +kernel
theorem d_Md_readBlock_98 : decode jMd_readBlock.cc 98 = .ok (.getfield 206, 3) := by decide +kernel
theorem d_Md_readBlock_101 : decode jMd_readBlock.cc 101 = .ok (.iload 4, 2) := by decide +kernel
theorem d_Md_readBlock_103 : decode jMd_readBlock.cc 103 = .ok (.iload 5, 2) := by decide +kernel
theorem d_Md_readBlock_105 : decode jMd_readBlock.cc 105 = .ok (.iastore, 1) := by decide +kernel
theorem d_Md_readBlock_106 : decode jMd_readBlock.cc 106 = .ok (.iload 5, 2) := by decide +kernel
theorem d_Md_readBlock_108 : decode jMd_readBlock.cc 108 = .ok (.istore 4, 2) := by decide +kernel
theorem d_Md_readBlock_110 : decode jMd_readBlock.cc 110 = .ok (.goto (-39), 3) := by decide +kernel
theorem d_Md_readBlock_113 : decode jMd_readBlock.cc 113 = .ok (.aload_n 0, 1) := by decide +kernel
theorem d_Md_readBlock_114 : decode jMd_readBlock.cc 114 = .ok (.invokevirtual 378, 3) := by decide +kernel
theorem d_Md_readBlock_117 : decode jMd_readBlock.cc 117 = .ok (.istore_n 1, 1) := by decide +kernel
theorem d_Md_readBlock_118 : decode jMd_readBlock.cc 118 = .ok (.aload_n 0, 1) := by decide +kernel
theorem d_Md_readBlock_119 : decode jMd_readBlock.cc 119 = .ok (.iload_n 2, 1) := by decide +kernel
theorem d_Md_readBlock_120 : decode jMd_readBlock.cc 120 = .ok (.putfield 427, 3) := by decide +kernel
theorem d_Md_readBlock_123 : decode jMd_readBlock.cc 123 = .ok (.aload_n 0, 1) := by decide +kernel
theorem d_Md_readBlock_124 : decode jMd_readBlock.cc 124 = .ok (.dup, 1) := by decide +kernel
theorem d_Md_readBlock_125 : decode jMd_readBlock.cc 125 = .ok (.getfield 388, 3) := by decide +kernel
theorem d_Md_readBlock_128 : decode jMd_readBlock.cc 128 = .ok (.iconst 1, 1) := by decide +kernel
theorem d_Md_readBlock_129 : decode jMd_readBlock.cc 129 = .ok (.isub, 1) := by decide +kernel
theorem d_Md_readBlock_130 : decode jMd_readBlock.cc 130 = .ok (.putfield 388, 3) := by decide +kernel
theorem d_Md_readBlock_133 : decode jMd_readBlock.cc 133 = .ok (.iload_n 3, 1) := by decide +kernel
theorem d_Md_readBlock_134 : decode jMd_readBlock.cc 134 = .ok (.ireturn, 1) := by decide +kernel
set_option maxHeartbeats 4000000 in
theorem s_Md_readBlock {g : Mg} {d : Nat} {K : Ou → Wd → Prop} {w : Wd} (h : Cal g LM jMd_is d [vA 0, vA 1044] w (fun o w1 => rIt o (fun b => K (.inr b) w1) (fun x2 => (¬ x2 = 0 → (((w1 0 44) ≤ 12 → (Cal g LM jMd_pass d [vA 0] w1 (fun o w3 => rIt o (fun b => K (.inr b) w3) (fun x4 => V g LM jMd_readBlock (d + 1) K 71 [(0, vA 0), (2, vI (w3 0 45)), (3, vI (-2)), (4, vI (-2))] [] (up w3 0 44 (wr ((w3 0 44) + 1))))))) ∧ (¬ (w1 0 44) ≤ 12 → (Cal g LM jMd_placeOf d [vA 0, vI (w1 0 11)] w1 (fun o w5 => rIt o (fun b => K (.inr b) w5) (fun x6 => Cal g LM jMd_fail d [vA 0, vI 2, vI x6] w5 (fun o w7 => rVt o (fun b => K (.inr b) w7) (Cal g LM jMd_pass d [vA 0] w7 (fun o w8 => rIt o (fun b => K (.inr b) w8) (fun x9 => V g LM jMd_readBlock (d + 1) K 71 [(0, vA 0), (2, vI (w8 0 45)), (3, vI (-2)), (4, vI (-2))] [] (up w8 0 44 (wr ((w8 0 44) + 1))))))))))))) ∧ (x2 = 0 → (Cal g LM jMd_placeOf d [vA 0, vI (w1 0 11)] w1 (fun o w10 => rIt o (fun b => K (.inr b) w10) (fun x11 => Cal g LM jMd_fail d [vA 0, vI 1, vI x11] w10 (fun o w12 => rVt o (fun b => K (.inr b) w12) (((w12 0 44) ≤ 12 → (Cal g LM jMd_pass d [vA 0] w12 (fun o w13 => rIt o (fun b => K (.inr b) w13) (fun x14 => V g LM jMd_readBlock (d + 1) K 71 [(0, vA 0), (2, vI (w13 0 45)), (3, vI (-2)), (4, vI (-2))] [] (up w13 0 44 (wr ((w13 0 44) + 1))))))) ∧ (¬ (w12 0 44) ≤ 12 → (Cal g LM jMd_placeOf d [vA 0, vI (w12 0 11)] w12 (fun o w15 => rIt o (fun b => K (.inr b) w15) (fun x16 => Cal g LM jMd_fail d [vA 0, vI 2, vI x16] w15 (fun o w17 => rVt o (fun b => K (.inr b) w17) (Cal g LM jMd_pass d [vA 0] w17 (fun o w18 => rIt o (fun b => K (.inr b) w18) (fun x19 => V g LM jMd_readBlock (d + 1) K 71 [(0, vA 0), (2, vI (w18 0 45)), (3, vI (-2)), (4, vI (-2))] [] (up w18 0 44 (wr ((w18 0 44) + 1)))))))))))))))))))) : V g LM jMd_readBlock (d + 1) K 0 [(0, vA 0)] [] w := by
  refine v_aload_n (pc := 0) d_Md_readBlock_0 rfl (.head _) ?_
  refine v_ldcs (pc := 1) (n := 43) (tx := "{") d_Md_readBlock_1 (by decide +kernel) ?_
  refine v_callV (pc := 3) (J' := jMd_is) (d' := d) (o := 0) (ci := 13) (N := 93) (T := cT13) (As := [vA 1044]) d_Md_readBlock_3 ml_Md_374 cM_0.1 cM_0.2 (by decide) rfl rfl (Nat.le_of_ble_eq_true rfl) (Nat.le_refl _) rfl (Cal.weak h (fun o w1 h => ?_))
  rcases rIt_of h with ⟨x2, rfl, h⟩ | ⟨b, rfl, h⟩
  rotate_left
  · exact h
  refine v_ifne (pc := 6) (tgt := 22) d_Md_readBlock_6 (by decide) (fun c => ?_) (fun c => ?_)
  · replace h := h.1 c
    refine v_aload_n (pc := 22) d_Md_readBlock_22 rfl (.head _) ?_
    refine v_geti (pc := 23) (x := (w1 0 44)) d_Md_readBlock_23 fl_Md_388 cM_0.1 cM_0.2 (Or.inl rfl) rfl ?_
    refine v_bipush (pc := 26) d_Md_readBlock_26 (by decide) rfl ?_
    refine v_icmple (pc := 28) (tgt := 44) d_Md_readBlock_28 (by decide) (fun c => ?_) (fun c => ?_)
    · replace h := h.1 c
      refine v_aload_n (pc := 44) d_Md_readBlock_44 rfl (.head _) ?_
      refine v_callV (pc := 45) (J' := jMd_pass) (d' := d) (o := 0) (ci := 13) (N := 93) (T := cT13) (As := []) d_Md_readBlock_45 ml_Md_378 cM_0.1 cM_0.2 (by decide) rfl rfl (Nat.le_of_ble_eq_true rfl) (Nat.le_refl _) rfl (Cal.weak h (fun o w3 h => ?_))
      rcases rIt_of h with ⟨x4, rfl, h⟩ | ⟨b, rfl, h⟩
      rotate_left
      · exact h
      refine v_istore_n (pc := 48) (ls' := [(1, vI x4), (0, vA 0)]) d_Md_readBlock_48 rfl (by decide) rfl ?_
      refine v_aload_n (pc := 49) d_Md_readBlock_49 rfl (.tail _ (.head _)) ?_
      refine v_dup (pc := 50) d_Md_readBlock_50 rfl ?_
      refine v_geti (pc := 51) (x := (w3 0 44)) d_Md_readBlock_51 fl_Md_388 cM_0.1 cM_0.2 (Or.inl rfl) rfl ?_
      refine v_iconst (pc := 54) d_Md_readBlock_54 (by decide) ?_
      refine v_iadd (pc := 55) d_Md_readBlock_55 ?_
      refine v_puti (pc := 56) d_Md_readBlock_56 fp_Md_388 cM_0.1 cM_0.2 (by decide) rfl ?_
      refine v_aload_n (pc := 59) d_Md_readBlock_59 rfl (.tail _ (.head _)) ?_
      refine v_geti (pc := 60) (x := (w3 0 45)) d_Md_readBlock_60 fl_Md_427 cM_0.1 cM_0.2 (Or.inl rfl) rfl ?_
      refine v_istore_n (pc := 63) (ls' := [(2, vI (w3 0 45)), (1, vI x4), (0, vA 0)]) d_Md_readBlock_63 rfl (by decide) rfl ?_
      refine v_bipush (pc := 64) d_Md_readBlock_64 (by decide) rfl ?_
      refine v_istore_n (pc := 66) (ls' := [(3, vI (-2)), (2, vI (w3 0 45)), (1, vI x4), (0, vA 0)]) d_Md_readBlock_66 rfl (by decide) rfl ?_
      refine v_bipush (pc := 67) d_Md_readBlock_67 (by decide) rfl ?_
      refine v_istore (pc := 69) (ls' := [(4, vI (-2)), (3, vI (-2)), (2, vI (w3 0 45)), (1, vI x4), (0, vA 0)]) d_Md_readBlock_69 (by decide) rfl ?_
      exact v_sub (List.forall_mem_cons.mpr ⟨(.tail _ (.tail _ (.tail _ (.tail _ (.head _))))), (List.forall_mem_cons.mpr ⟨(.tail _ (.tail _ (.head _))), (List.forall_mem_cons.mpr ⟨(.tail _ (.head _)), (List.forall_mem_cons.mpr ⟨(.head _), (fun _ z => absurd z List.not_mem_nil)⟩)⟩)⟩)⟩) h
    · replace h := h.2 c
      refine v_aload_n (pc := 31) d_Md_readBlock_31 rfl (.head _) ?_
      refine v_iconst (pc := 32) d_Md_readBlock_32 (by decide) ?_
      refine v_aload_n (pc := 33) d_Md_readBlock_33 rfl (.head _) ?_
      refine v_aload_n (pc := 34) d_Md_readBlock_34 rfl (.head _) ?_
      refine v_geti (pc := 35) (x := (w1 0 11)) d_Md_readBlock_35 fl_Md_363 cM_0.1 cM_0.2 (Or.inl rfl) rfl ?_
      refine v_callV (pc := 38) (J' := jMd_placeOf) (d' := d) (o := 0) (ci := 13) (N := 93) (T := cT13) (As := [vI (w1 0 11)]) d_Md_readBlock_38 ml_Md_366 cM_0.1 cM_0.2 (by decide) rfl rfl (Nat.le_of_ble_eq_true rfl) (Nat.le_refl _) rfl (Cal.weak h (fun o w5 h => ?_))
      rcases rIt_of h with ⟨x6, rfl, h⟩ | ⟨b, rfl, h⟩
      rotate_left
      · exact h
      refine v_callV (pc := 41) (J' := jMd_fail) (d' := d) (o := 0) (ci := 13) (N := 93) (T := cT13) (As := [vI 2, vI x6]) d_Md_readBlock_41 ml_Md_370 cM_0.1 cM_0.2 (by decide) rfl rfl (Nat.le_of_ble_eq_true rfl) (Nat.le_refl _) rfl (Cal.weak h (fun o w7 h => ?_))
      rcases rVt_of h with ⟨rfl, h⟩ | ⟨b, rfl, h⟩
      rotate_left
      · exact h
      refine v_aload_n (pc := 44) d_Md_readBlock_44 rfl (.head _) ?_
      refine v_callV (pc := 45) (J' := jMd_pass) (d' := d) (o := 0) (ci := 13) (N := 93) (T := cT13) (As := []) d_Md_readBlock_45 ml_Md_378 cM_0.1 cM_0.2 (by decide) rfl rfl (Nat.le_of_ble_eq_true rfl) (Nat.le_refl _) rfl (Cal.weak h (fun o w8 h => ?_))
      rcases rIt_of h with ⟨x9, rfl, h⟩ | ⟨b, rfl, h⟩
      rotate_left
      · exact h
      refine v_istore_n (pc := 48) (ls' := [(1, vI x9), (0, vA 0)]) d_Md_readBlock_48 rfl (by decide) rfl ?_
      refine v_aload_n (pc := 49) d_Md_readBlock_49 rfl (.tail _ (.head _)) ?_
      refine v_dup (pc := 50) d_Md_readBlock_50 rfl ?_
      refine v_geti (pc := 51) (x := (w8 0 44)) d_Md_readBlock_51 fl_Md_388 cM_0.1 cM_0.2 (Or.inl rfl) rfl ?_
      refine v_iconst (pc := 54) d_Md_readBlock_54 (by decide) ?_
      refine v_iadd (pc := 55) d_Md_readBlock_55 ?_
      refine v_puti (pc := 56) d_Md_readBlock_56 fp_Md_388 cM_0.1 cM_0.2 (by decide) rfl ?_
      refine v_aload_n (pc := 59) d_Md_readBlock_59 rfl (.tail _ (.head _)) ?_
      refine v_geti (pc := 60) (x := (w8 0 45)) d_Md_readBlock_60 fl_Md_427 cM_0.1 cM_0.2 (Or.inl rfl) rfl ?_
      refine v_istore_n (pc := 63) (ls' := [(2, vI (w8 0 45)), (1, vI x9), (0, vA 0)]) d_Md_readBlock_63 rfl (by decide) rfl ?_
      refine v_bipush (pc := 64) d_Md_readBlock_64 (by decide) rfl ?_
      refine v_istore_n (pc := 66) (ls' := [(3, vI (-2)), (2, vI (w8 0 45)), (1, vI x9), (0, vA 0)]) d_Md_readBlock_66 rfl (by decide) rfl ?_
      refine v_bipush (pc := 67) d_Md_readBlock_67 (by decide) rfl ?_
      refine v_istore (pc := 69) (ls' := [(4, vI (-2)), (3, vI (-2)), (2, vI (w8 0 45)), (1, vI x9), (0, vA 0)]) d_Md_readBlock_69 (by decide) rfl ?_
      exact v_sub (List.forall_mem_cons.mpr ⟨(.tail _ (.tail _ (.tail _ (.tail _ (.head _))))), (List.forall_mem_cons.mpr ⟨(.tail _ (.tail _ (.head _))), (List.forall_mem_cons.mpr ⟨(.tail _ (.head _)), (List.forall_mem_cons.mpr ⟨(.head _), (fun _ z => absurd z List.not_mem_nil)⟩)⟩)⟩)⟩) h
  · replace h := h.2 c
    refine v_aload_n (pc := 9) d_Md_readBlock_9 rfl (.head _) ?_
    refine v_iconst (pc := 10) d_Md_readBlock_10 (by decide) ?_
    refine v_aload_n (pc := 11) d_Md_readBlock_11 rfl (.head _) ?_
    refine v_aload_n (pc := 12) d_Md_readBlock_12 rfl (.head _) ?_
    refine v_geti (pc := 13) (x := (w1 0 11)) d_Md_readBlock_13 fl_Md_363 cM_0.1 cM_0.2 (Or.inl rfl) rfl ?_
    refine v_callV (pc := 16) (J' := jMd_placeOf) (d' := d) (o := 0) (ci := 13) (N := 93) (T := cT13) (As := [vI (w1 0 11)]) d_Md_readBlock_16 ml_Md_366 cM_0.1 cM_0.2 (by decide) rfl rfl (Nat.le_of_ble_eq_true rfl) (Nat.le_refl _) rfl (Cal.weak h (fun o w10 h => ?_))
    rcases rIt_of h with ⟨x11, rfl, h⟩ | ⟨b, rfl, h⟩
    rotate_left
    · exact h
    refine v_callV (pc := 19) (J' := jMd_fail) (d' := d) (o := 0) (ci := 13) (N := 93) (T := cT13) (As := [vI 1, vI x11]) d_Md_readBlock_19 ml_Md_370 cM_0.1 cM_0.2 (by decide) rfl rfl (Nat.le_of_ble_eq_true rfl) (Nat.le_refl _) rfl (Cal.weak h (fun o w12 h => ?_))
    rcases rVt_of h with ⟨rfl, h⟩ | ⟨b, rfl, h⟩
    rotate_left
    · exact h
    refine v_aload_n (pc := 22) d_Md_readBlock_22 rfl (.head _) ?_
    refine v_geti (pc := 23) (x := (w12 0 44)) d_Md_readBlock_23 fl_Md_388 cM_0.1 cM_0.2 (Or.inl rfl) rfl ?_
    refine v_bipush (pc := 26) d_Md_readBlock_26 (by decide) rfl ?_
    refine v_icmple (pc := 28) (tgt := 44) d_Md_readBlock_28 (by decide) (fun c => ?_) (fun c => ?_)
    · replace h := h.1 c
      refine v_aload_n (pc := 44) d_Md_readBlock_44 rfl (.head _) ?_
      refine v_callV (pc := 45) (J' := jMd_pass) (d' := d) (o := 0) (ci := 13) (N := 93) (T := cT13) (As := []) d_Md_readBlock_45 ml_Md_378 cM_0.1 cM_0.2 (by decide) rfl rfl (Nat.le_of_ble_eq_true rfl) (Nat.le_refl _) rfl (Cal.weak h (fun o w13 h => ?_))
      rcases rIt_of h with ⟨x14, rfl, h⟩ | ⟨b, rfl, h⟩
      rotate_left
      · exact h
      refine v_istore_n (pc := 48) (ls' := [(1, vI x14), (0, vA 0)]) d_Md_readBlock_48 rfl (by decide) rfl ?_
      refine v_aload_n (pc := 49) d_Md_readBlock_49 rfl (.tail _ (.head _)) ?_
      refine v_dup (pc := 50) d_Md_readBlock_50 rfl ?_
      refine v_geti (pc := 51) (x := (w13 0 44)) d_Md_readBlock_51 fl_Md_388 cM_0.1 cM_0.2 (Or.inl rfl) rfl ?_
      refine v_iconst (pc := 54) d_Md_readBlock_54 (by decide) ?_
      refine v_iadd (pc := 55) d_Md_readBlock_55 ?_
      refine v_puti (pc := 56) d_Md_readBlock_56 fp_Md_388 cM_0.1 cM_0.2 (by decide) rfl ?_
      refine v_aload_n (pc := 59) d_Md_readBlock_59 rfl (.tail _ (.head _)) ?_
      refine v_geti (pc := 60) (x := (w13 0 45)) d_Md_readBlock_60 fl_Md_427 cM_0.1 cM_0.2 (Or.inl rfl) rfl ?_
      refine v_istore_n (pc := 63) (ls' := [(2, vI (w13 0 45)), (1, vI x14), (0, vA 0)]) d_Md_readBlock_63 rfl (by decide) rfl ?_
      refine v_bipush (pc := 64) d_Md_readBlock_64 (by decide) rfl ?_
      refine v_istore_n (pc := 66) (ls' := [(3, vI (-2)), (2, vI (w13 0 45)), (1, vI x14), (0, vA 0)]) d_Md_readBlock_66 rfl (by decide) rfl ?_
      refine v_bipush (pc := 67) d_Md_readBlock_67 (by decide) rfl ?_
      refine v_istore (pc := 69) (ls' := [(4, vI (-2)), (3, vI (-2)), (2, vI (w13 0 45)), (1, vI x14), (0, vA 0)]) d_Md_readBlock_69 (by decide) rfl ?_
      exact v_sub (List.forall_mem_cons.mpr ⟨(.tail _ (.tail _ (.tail _ (.tail _ (.head _))))), (List.forall_mem_cons.mpr ⟨(.tail _ (.tail _ (.head _))), (List.forall_mem_cons.mpr ⟨(.tail _ (.head _)), (List.forall_mem_cons.mpr ⟨(.head _), (fun _ z => absurd z List.not_mem_nil)⟩)⟩)⟩)⟩) h
    · replace h := h.2 c
      refine v_aload_n (pc := 31) d_Md_readBlock_31 rfl (.head _) ?_
      refine v_iconst (pc := 32) d_Md_readBlock_32 (by decide) ?_
      refine v_aload_n (pc := 33) d_Md_readBlock_33 rfl (.head _) ?_
      refine v_aload_n (pc := 34) d_Md_readBlock_34 rfl (.head _) ?_
      refine v_geti (pc := 35) (x := (w12 0 11)) d_Md_readBlock_35 fl_Md_363 cM_0.1 cM_0.2 (Or.inl rfl) rfl ?_
      refine v_callV (pc := 38) (J' := jMd_placeOf) (d' := d) (o := 0) (ci := 13) (N := 93) (T := cT13) (As := [vI (w12 0 11)]) d_Md_readBlock_38 ml_Md_366 cM_0.1 cM_0.2 (by decide) rfl rfl (Nat.le_of_ble_eq_true rfl) (Nat.le_refl _) rfl (Cal.weak h (fun o w15 h => ?_))
      rcases rIt_of h with ⟨x16, rfl, h⟩ | ⟨b, rfl, h⟩
      rotate_left
      · exact h
      refine v_callV (pc := 41) (J' := jMd_fail) (d' := d) (o := 0) (ci := 13) (N := 93) (T := cT13) (As := [vI 2, vI x16]) d_Md_readBlock_41 ml_Md_370 cM_0.1 cM_0.2 (by decide) rfl rfl (Nat.le_of_ble_eq_true rfl) (Nat.le_refl _) rfl (Cal.weak h (fun o w17 h => ?_))
      rcases rVt_of h with ⟨rfl, h⟩ | ⟨b, rfl, h⟩
      rotate_left
      · exact h
      refine v_aload_n (pc := 44) d_Md_readBlock_44 rfl (.head _) ?_
      refine v_callV (pc := 45) (J' := jMd_pass) (d' := d) (o := 0) (ci := 13) (N := 93) (T := cT13) (As := []) d_Md_readBlock_45 ml_Md_378 cM_0.1 cM_0.2 (by decide) rfl rfl (Nat.le_of_ble_eq_true rfl) (Nat.le_refl _) rfl (Cal.weak h (fun o w18 h => ?_))
      rcases rIt_of h with ⟨x19, rfl, h⟩ | ⟨b, rfl, h⟩
      rotate_left
      · exact h
      refine v_istore_n (pc := 48) (ls' := [(1, vI x19), (0, vA 0)]) d_Md_readBlock_48 rfl (by decide) rfl ?_
      refine v_aload_n (pc := 49) d_Md_readBlock_49 rfl (.tail _ (.head _)) ?_
      refine v_dup (pc := 50) d_Md_readBlock_50 rfl ?_
      refine v_geti (pc := 51) (x := (w18 0 44)) d_Md_readBlock_51 fl_Md_388 cM_0.1 cM_0.2 (Or.inl rfl) rfl ?_
      refine v_iconst (pc := 54) d_Md_readBlock_54 (by decide) ?_
      refine v_iadd (pc := 55) d_Md_readBlock_55 ?_
      refine v_puti (pc := 56) d_Md_readBlock_56 fp_Md_388 cM_0.1 cM_0.2 (by decide) rfl ?_
      refine v_aload_n (pc := 59) d_Md_readBlock_59 rfl (.tail _ (.head _)) ?_
      refine v_geti (pc := 60) (x := (w18 0 45)) d_Md_readBlock_60 fl_Md_427 cM_0.1 cM_0.2 (Or.inl rfl) rfl ?_
      refine v_istore_n (pc := 63) (ls' := [(2, vI (w18 0 45)), (1, vI x19), (0, vA 0)]) d_Md_readBlock_63 rfl (by decide) rfl ?_
      refine v_bipush (pc := 64) d_Md_readBlock_64 (by decide) rfl ?_
      refine v_istore_n (pc := 66) (ls' := [(3, vI (-2)), (2, vI (w18 0 45)), (1, vI x19), (0, vA 0)]) d_Md_readBlock_66 rfl (by decide) rfl ?_
      refine v_bipush (pc := 67) d_Md_readBlock_67 (by decide) rfl ?_
      refine v_istore (pc := 69) (ls' := [(4, vI (-2)), (3, vI (-2)), (2, vI (w18 0 45)), (1, vI x19), (0, vA 0)]) d_Md_readBlock_69 (by decide) rfl ?_
      exact v_sub (List.forall_mem_cons.mpr ⟨(.tail _ (.tail _ (.tail _ (.tail _ (.head _))))), (List.forall_mem_cons.mpr ⟨(.tail _ (.tail _ (.head _))), (List.forall_mem_cons.mpr ⟨(.tail _ (.head _)), (List.forall_mem_cons.mpr ⟨(.head _), (fun _ z => absurd z List.not_mem_nil)⟩)⟩)⟩)⟩) h
set_option maxHeartbeats 4000000 in
theorem s_Md_readBlock_71 {g : Mg} {d : Nat} {K : Ou → Wd → Prop} {w : Wd} {x2_ : Int} {x3_ : Int} {x4_ : Int} (h : Cal g LM jMd_is d [vA 0, vA 1045] w (fun o w1 => rIt o (fun b => K (.inr b) w1) (fun x2 => (¬ x2 = 0 → (Cal g LM jMd_pass d [vA 0] w1 (fun o w3 => rIt o (fun b => K (.inr b) w3) (fun x4 => K (.inl (some (vI x3_))) (up (up w3 0 45 x2_) 0 44 (wr ((w3 0 44) - 1))))))) ∧ (x2 = 0 → (Cal g LM jMd_readStatement d [vA 0] w1 (fun o w5 => rIt o (fun b => K (.inr b) w5) (fun x6 => (0 ≤ x4_ → ((0 ≤ x4_ ∧ x4_ < 130) ∧ (V g LM jMd_readBlock (d + 1) K 71 [(0, vA 0), (2, vI x2_), (3, vI x3_), (4, vI x6)] [] (up w5 23 (x4_.toNat) x6)))) ∧ (¬ 0 ≤ x4_ → (V g LM jMd_readBlock (d + 1) K 71 [(0, vA 0), (2, vI x2_), (3, vI x6), (4, vI x6)] [] w5))))))))) : V g LM jMd_readBlock (d + 1) K 71 [(0, vA 0), (2, vI x2_), (3, vI x3_), (4, vI x4_)] [] w := by
  refine v_aload_n (pc := 71) d_Md_readBlock_71 rfl (.head _) ?_
  refine v_ldcs (pc := 72) (n := 44) (tx := "}") d_Md_readBlock_72 (by decide +kernel) ?_
  refine v_callV (pc := 74) (J' := jMd_is) (d' := d) (o := 0) (ci := 13) (N := 93) (T := cT13) (As := [vA 1045]) d_Md_readBlock_74 ml_Md_374 cM_0.1 cM_0.2 (by decide) rfl rfl (Nat.le_of_ble_eq_true rfl) (Nat.le_refl _) rfl (Cal.weak h (fun o w1 h => ?_))
  rcases rIt_of h with ⟨x2, rfl, h⟩ | ⟨b, rfl, h⟩
  rotate_left
  · exact h
  refine v_ifne (pc := 77) (tgt := 113) d_Md_readBlock_77 (by decide) (fun c => ?_) (fun c => ?_)
  · replace h := h.1 c
    refine v_aload_n (pc := 113) d_Md_readBlock_113 rfl (.head _) ?_
    refine v_callV (pc := 114) (J' := jMd_pass) (d' := d) (o := 0) (ci := 13) (N := 93) (T := cT13) (As := []) d_Md_readBlock_114 ml_Md_378 cM_0.1 cM_0.2 (by decide) rfl rfl (Nat.le_of_ble_eq_true rfl) (Nat.le_refl _) rfl (Cal.weak h (fun o w3 h => ?_))
    rcases rIt_of h with ⟨x4, rfl, h⟩ | ⟨b, rfl, h⟩
    rotate_left
    · exact h
    refine v_istore_n (pc := 117) (ls' := [(1, vI x4), (0, vA 0), (2, vI x2_), (3, vI x3_), (4, vI x4_)]) d_Md_readBlock_117 rfl (by decide) rfl ?_
    refine v_aload_n (pc := 118) d_Md_readBlock_118 rfl (.tail _ (.head _)) ?_
    refine v_iload_n (pc := 119) d_Md_readBlock_119 rfl (.tail _ (.tail _ (.head _))) ?_
    refine v_puti (pc := 120) d_Md_readBlock_120 fp_Md_427 cM_0.1 cM_0.2 (by decide) rfl ?_
    refine v_aload_n (pc := 123) d_Md_readBlock_123 rfl (.tail _ (.head _)) ?_
    refine v_dup (pc := 124) d_Md_readBlock_124 rfl ?_
    refine v_geti (pc := 125) (x := (w3 0 44)) d_Md_readBlock_125 fl_Md_388 cM_0.1 cM_0.2 (Or.inl rfl) rfl ?_
    refine v_iconst (pc := 128) d_Md_readBlock_128 (by decide) ?_
    refine v_isub (pc := 129) d_Md_readBlock_129 ?_
    refine v_puti (pc := 130) d_Md_readBlock_130 fp_Md_388 cM_0.1 cM_0.2 (by decide) rfl ?_
    refine v_iload_n (pc := 133) d_Md_readBlock_133 rfl (.tail _ (.tail _ (.tail _ (.head _)))) ?_
    exact v_iret (pc := 134) d_Md_readBlock_134 rfl h
  · replace h := h.2 c
    refine v_aload_n (pc := 80) d_Md_readBlock_80 rfl (.head _) ?_
    refine v_callS (pc := 81) (J' := jMd_readStatement) (d' := d) (As := [vA 0]) d_Md_readBlock_81 ml_Md_430 rfl (Nat.le_of_ble_eq_true rfl) (Nat.le_refl _) rfl (Cal.weak h (fun o w5 h => ?_))
    rcases rIt_of h with ⟨x6, rfl, h⟩ | ⟨b, rfl, h⟩
    rotate_left
    · exact h
    refine v_istore (pc := 84) (ls' := [(5, vI x6), (0, vA 0), (2, vI x2_), (3, vI x3_), (4, vI x4_)]) d_Md_readBlock_84 (by decide) rfl ?_
    refine v_iload (pc := 86) d_Md_readBlock_86 (.tail _ (.tail _ (.tail _ (.tail _ (.head _))))) ?_
    refine v_ifge (pc := 88) (tgt := 97) d_Md_readBlock_88 (by decide) (fun c => ?_) (fun c => ?_)
    · replace h := h.1 c
      refine v_aload_n (pc := 97) d_Md_readBlock_97 rfl (.tail _ (.head _)) ?_
      refine v_getr (C := "") (pc := 98) (r := 23) d_Md_readBlock_98 fl_Md_206 cM_0.1 cM_0.2 (Or.inr ⟨_, rfl⟩) rM_0_28 ?_
      refine v_iload (pc := 101) d_Md_readBlock_101 (.tail _ (.tail _ (.tail _ (.tail _ (.head _))))) ?_
      refine v_iload (pc := 103) d_Md_readBlock_103 (.head _) ?_
      refine v_iast (pc := 105) d_Md_readBlock_105 cM_23.1 cM_23.2 (aM_23 _) h.1 ?_
      replace h := h.2
      refine v_iload (pc := 106) d_Md_readBlock_106 (.head _) ?_
      refine v_istore (pc := 108) (ls' := [(4, vI x6), (5, vI x6), (0, vA 0), (2, vI x2_), (3, vI x3_)]) d_Md_readBlock_108 (by decide) rfl ?_
      refine v_goto (pc := 110) (tgt := 71) d_Md_readBlock_110 (by decide) ?_
      exact v_sub (List.forall_mem_cons.mpr ⟨(.tail _ (.tail _ (.head _))), (List.forall_mem_cons.mpr ⟨(.tail _ (.tail _ (.tail _ (.head _)))), (List.forall_mem_cons.mpr ⟨(.tail _ (.tail _ (.tail _ (.tail _ (.head _))))), (List.forall_mem_cons.mpr ⟨(.head _), (fun _ z => absurd z List.not_mem_nil)⟩)⟩)⟩)⟩) h
    · replace h := h.2 c
      refine v_iload (pc := 91) d_Md_readBlock_91 (.head _) ?_
      refine v_istore_n (pc := 93) (ls' := [(3, vI x6), (5, vI x6), (0, vA 0), (2, vI x2_), (4, vI x4_)]) d_Md_readBlock_93 rfl (by decide) rfl ?_
      refine v_goto (pc := 94) (tgt := 106) d_Md_readBlock_94 (by decide) ?_
      refine v_iload (pc := 106) d_Md_readBlock_106 (.tail _ (.head _)) ?_
      refine v_istore (pc := 108) (ls' := [(4, vI x6), (3, vI x6), (5, vI x6), (0, vA 0), (2, vI x2_)]) d_Md_readBlock_108 (by decide) rfl ?_
      refine v_goto (pc := 110) (tgt := 71) d_Md_readBlock_110 (by decide) ?_
      exact v_sub (List.forall_mem_cons.mpr ⟨(.tail _ (.tail _ (.tail _ (.head _)))), (List.forall_mem_cons.mpr ⟨(.tail _ (.tail _ (.tail _ (.tail _ (.head _))))), (List.forall_mem_cons.mpr ⟨(.tail _ (.head _)), (List.forall_mem_cons.mpr ⟨(.head _), (fun _ z => absurd z List.not_mem_nil)⟩)⟩)⟩)⟩) h
theorem d_Md_readStatement_0 : decode jMd_readStatement.cc 0 = .ok (.aload_n 0, 1) := by decide +kernel
theorem d_Md_readStatement_1 : decode jMd_readStatement.cc 1 = .ok (.invokevirtual 433, 3) := by decide +kernel
theorem d_Md_readStatement_4 : decode jMd_readStatement.cc 4 = .ok (.ifCond .ne 16, 3) := by decide +kernel
theorem d_Md_readStatement_7 : decode jMd_readStatement.cc 7 = .ok (.aload_n 0, 1) := by decide +kernel
theorem d_Md_readStatement_8 : decode jMd_readStatement.cc 8 = .ok (.iconst 1, 1) := by decide +kernel
theorem d_Md_readStatement_9 : decode jMd_readStatement.cc 9 = .ok (.aload_n 0, 1) := by decide +kernel
theorem d_Md_readStatement_10 : decode jMd_readStatement.cc 10 = .ok (.aload_n 0, 1) := by decide +kernel
theorem d_Md_readStatement_11 : decode jMd_readStatement.cc 11 = .ok (.getfield 363, 3) := by decide +kernel
theorem d_Md_readStatement_14 : decode jMd_readStatement.cc 14 = .ok (.invokevirtual 366, 3) := by decide +kernel
theorem d_Md_readStatement_17 : decode jMd_readStatement.cc 17 = .ok (.invokevirtual 370, 3) := by decide +kernel
theorem d_Md_readStatement_20 : decode jMd_readStatement.cc 20 = .ok (.aload_n 0, 1) := by decide +kernel
theorem d_Md_readStatement_21 : decode jMd_readStatement.cc 21 = .ok (.getfield 436, 3) := by decide +kernel
theorem d_Md_readStatement_24 : decode jMd_readStatement.cc 24 = .ok (.bipush 120, 2) := by decide +kernel
theorem d_Md_readStatement_26 : decode jMd_readStatement.cc 26 = .ok (.if_icmp .ne 16, 3) := by decide +kernel
theorem d_Md_readStatement_29 : decode jMd_readStatement.cc 29 = .ok (.aload_n 0, 1) := by decide +kernel
theorem d_Md_readStatement_30 : decode jMd_readStatement.cc 30 = .ok (.iconst 2, 1) := by decide +kernel
theorem d_Md_readStatement_31 : decode jMd_readStatement.cc 31 = .ok (.aload_n 0, 1) := by decide +kernel
theorem d_Md_readStatement_32 : decode jMd_readStatement.cc 32 = .ok (.aload_n 0, 1) := by decide +kernel
theorem d_Md_readStatement_33 : decode jMd_readStatement.cc 33 = .ok (.getfield 363, 3) := by decide +kernel
theorem d_Md_readStatement_36 : decode jMd_readStatement.cc 36 = .ok (.invokevirtual 366, 3) := by decide +kernel
theorem d_Md_readStatement_39 : decode jMd_readStatement.cc 39 = .ok (.invokevirtual 370, 3) := by decide +kernel
theorem d_Md_readStatement_42 : decode jMd_readStatement.cc 42 = .ok (.aload_n 0, 1) := by decide +kernel
theorem d_Md_readStatement_43 : decode jMd_readStatement.cc 43 = .ok (.getfield 436, 3) := by decide +kernel
theorem d_Md_readStatement_46 : decode jMd_readStatement.cc 46 = .ok (.istore_n 1, 1) := by decide +kernel
theorem d_Md_readStatement_47 : decode jMd_readStatement.cc 47 = .ok (.aload_n 0, 1) := by decide +kernel
theorem d_Md_readStatement_48 : decode jMd_readStatement.cc 48 = .ok (.dup, 1) := by decide +kernel
theorem d_Md_readStatement_49 : decode jMd_readStatement.cc 49 = .ok (.getfield 436, 3) := by decide +kernel
theorem d_Md_readStatement_52 : decode jMd_readStatement.cc 52 = .ok (.iconst 1, 1) := by decide +kernel
theorem d_Md_readStatement_53 : decode jMd_readStatement.cc 53 = .ok (.iadd, 1) := by decide +kernel
theorem d_Md_readStatement_54 : decode jMd_readStatement.cc 54 = .ok (.putfield 436, 3) := by decide +kernel
theorem d_Md_readStatement_57 : decode jMd_readStatement.cc 57 = .ok (.aload_n 0, 1) := by decide +kernel
theorem d_Md_readStatement_58 : decode jMd_readStatement.cc 58 = .ok (.getfield 191, 3) := by decide +kernel
theorem d_Md_readStatement_61 : decode jMd_readStatement.cc 61 = .ok (.iload_n 1, 1) := by decide +kernel
theorem d_Md_readStatement_62 : decode jMd_readStatement.cc 62 = .ok (.aload_n 0, 1) := by decide +kernel
theorem d_Md_readStatement_63 : decode jMd_readStatement.cc 63 = .ok (.getfield 363, 3) := by decide +kernel
theorem d_Md_readStatement_66 : decode jMd_readStatement.cc 66 = .ok (.iastore, 1) := by decide +kernel
theorem d_Md_readStatement_67 : decode jMd_readStatement.cc 67 = .ok (.aload_n 0, 1) := by decide +kernel
theorem d_Md_readStatement_68 : decode jMd_readStatement.cc 68 = .ok (.getfield 206, 3) := by decide +kernel
theorem d_Md_readStatement_71 : decode jMd_readStatement.cc 71 = .ok (.iload_n 1, 1) := by decide +kernel
theorem d_Md_readStatement_72 : decode jMd_readStatement.cc 72 = .ok (.bipush (-2), 2) := by decide +kernel
theorem d_Md_readStatement_74 : decode jMd_readStatement.cc 74 = .ok (.iastore, 1) := by decide +kernel
theorem d_Md_readStatement_75 : decode jMd_readStatement.cc 75 = .ok (.aload_n 0, 1) := by decide +kernel
theorem d_Md_readStatement_76 : decode jMd_readStatement.cc 76 = .ok (.getfield 200, 3) := by decide +kernel
theorem d_Md_readStatement_79 : decode jMd_readStatement.cc 79 = .ok (.iload_n 1, 1) := by decide +kernel
theorem d_Md_readStatement_80 : decode jMd_readStatement.cc 80 = .ok (.bipush (-2), 2) := by decide +kernel
theorem d_Md_readStatement_82 : decode jMd_readStatement.cc 82 = .ok (.iastore, 1) := by decide +kernel
theorem d_Md_readStatement_83 : decode jMd_readStatement.cc 83 = .ok (.aload_n 0, 1) := by decide +kernel
theorem d_Md_readStatement_84 : decode jMd_readStatement.cc 84 = .ok (.getfield 203, 3) := by decide +kernel
theorem d_Md_readStatement_87 : decode jMd_readStatement.cc 87 = .ok (.iload_n 1, 1) := by decide +kernel
theorem d_Md_readStatement_88 : decode jMd_readStatement.cc 88 = .ok (.bipush (-2), 2) := by decide +kernel
theorem d_Md_readStatement_90 : decode jMd_readStatement.cc 90 = .ok (.iastore, 1) := by decide +kernel
theorem d_Md_readStatement_91 : decode jMd_readStatement.cc 91 = .ok (.aload_n 0, 1) := by decide +kernel
theorem d_Md_readStatement_92 : decode jMd_readStatement.cc 92 = .ok (.getfield 197, 3) := by decide +kernel
theorem d_Md_readStatement_95 : decode jMd_readStatement.cc 95 = .ok (.iload_n 1, 1) := by decide +kernel
theorem d_Md_readStatement_96 : decode jMd_readStatement.cc 96 = .ok (.bipush (-2), 2) := by decide +kernel
theorem d_Md_readStatement_98 : decode jMd_readStatement.cc 98 = .ok (.iastore, 1) := by decide +kernel
theorem d_Md_readStatement_99 : decode jMd_readStatement.cc 99 = .ok (.aload_n 0, 1) := by decide +kernel
theorem d_Md_readStatement_100 : decode jMd_readStatement.cc 100 = .ok (.getfield 194, 3) := by decide +kernel
theorem d_Md_readStatement_103 : decode jMd_readStatement.cc 103 = .ok (.iload_n 1, 1) := by decide +kernel
theorem d_Md_readStatement_104 : decode jMd_readStatement.cc 104 = .ok (.bipush (-2), 2) := by decide +kernel
theorem d_Md_readStatement_106 : decode jMd_readStatement.cc 106 = .ok (.iastore, 1) := by decide +kernel
theorem d_Md_readStatement_107 : decode jMd_readStatement.cc 107 = .ok (.aload_n 0, 1) := by decide +kernel
theorem d_Md_readStatement_108 : decode jMd_readStatement.cc 108 = .ok (.getfield 209, 3) := by decide +kernel
theorem d_Md_readStatement_111 : decode jMd_readStatement.cc 111 = .ok (.iload_n 1, 1) := by decide +kernel
theorem d_Md_readStatement_112 : decode jMd_readStatement.cc 112 = .ok (.bipush (-2), 2) := by decide +kernel
theorem d_Md_readStatement_114 : decode jMd_readStatement.cc 114 = .ok (.iastore, 1) := by decide +kernel
theorem d_Md_readStatement_115 : decode jMd_readStatement.cc 115 = .ok (.aload_n 0, 1) := by decide +kernel
theorem d_Md_readStatement_116 : decode jMd_readStatement.cc 116 = .ok (.getfield 363, 3) := by decide +kernel
theorem d_Md_readStatement_119 : decode jMd_readStatement.cc 119 = .ok (.istore_n 2, 1) := by decide +kernel
theorem d_Md_readStatement_120 : decode jMd_readStatement.cc 120 = .ok (.aload_n 0, 1) := by decide +kernel
theorem d_Md_readStatement_121 : decode jMd_readStatement.cc 121 = .ok (.getfield 33, 3) := by decide +kernel
theorem d_Md_readStatement_124 : decode jMd_readStatement.cc 124 = .ok (.aload_n 0, 1) := by decide +kernel
theorem d_Md_readStatement_125 : decode jMd_readStatement.cc 125 = .ok (.getfield 363, 3) := by decide +kernel
theorem d_Md_readStatement_128 : decode jMd_readStatement.cc 128 = .ok (.iaload, 1) := by decide +kernel
theorem d_Md_readStatement_129 : decode jMd_readStatement.cc 129 = .ok (.ifCond .ne 47, 3) := by decide +kernel
theorem d_Md_readStatement_132 : decode jMd_readStatement.cc 132 = .ok (.aload_n 0, 1) := by decide +kernel
theorem d_Md_readStatement_133 : decode jMd_readStatement.cc 133 = .ok (.getfield 188, 3) := by decide +kernel
theorem d_Md_readStatement_136 : decode jMd_readStatement.cc 136 = .ok (.iload_n 1, 1) := by decide +kernel
theorem d_Md_readStatement_137 : decode jMd_readStatement.cc 137 = .ok (.iconst 0, 1) := by decide +kernel
theorem d_Md_readStatement_138 : decode jMd_readStatement.cc 138 = .ok (.iastore, 1) := by decide +kernel
theorem d_Md_readStatement_139 : decode jMd_readStatement.cc 139 = .ok (.aload_n 0, 1) := by decide +kernel
theorem d_Md_readStatement_140 : decode jMd_readStatement.cc 140 = .ok (.getfield 194, 3) := by decide +kernel
theorem d_Md_readStatement_143 : decode jMd_readStatement.cc 143 = .ok (.iload_n 1, 1) := by decide +kernel
theorem d_Md_readStatement_144 : decode jMd_readStatement.cc 144 = .ok (.aload_n 0, 1) := by decide +kernel
theorem d_Md_readStatement_145 : decode jMd_readStatement.cc 145 = .ok (.invokevirtual 378, 3) := by decide +kernel
theorem d_Md_readStatement_148 : decode jMd_readStatement.cc 148 = .ok (.iastore, 1) := by decide +kernel
theorem d_Md_readStatement_149 : decode jMd_readStatement.cc 149 = .ok (.aload_n 0, 1) := by decide +kernel
theorem d_Md_readStatement_150 : decode jMd_readStatement.cc 150 = .ok (.ldc 146, 2) := by decide +kernel
theorem d_Md_readStatement_152 : decode jMd_readStatement.cc 152 = .ok (.invokevirtual 420, 3) := by decide +kernel
theorem d_Md_readStatement_155 : decode jMd_readStatement.cc 155 = .ok (.istore_n 2, 1) := by decide +kernel
theorem d_Md_readStatement_156 : decode jMd_readStatement.cc 156 = .ok (.aload_n 0, 1) := by decide +kernel
theorem d_Md_readStatement_157 : decode jMd_readStatement.cc 157 = .ok (.getfield 197, 3) := by decide +kernel
theorem d_Md_readStatement_160 : decode jMd_readStatement.cc 160 = .ok (.iload_n 1, 1) := by decide +kernel
theorem d_Md_readStatement_161 : decode jMd_readStatement.cc 161 = .ok (.aload_n 0, 1) := by decide +kernel
theorem d_Md_readStatement_162 : decode jMd_readStatement.cc 162 = .ok (.invokestatic 417, 3) := by decide +kernel
theorem d_Md_readStatement_165 : decode jMd_readStatement.cc 165 = .ok (.iastore, 1) := by decide +kernel
theorem d_Md_readStatement_166 : decode jMd_readStatement.cc 166 = .ok (.aload_n 0, 1) := by decide +kernel
theorem d_Md_readStatement_167 : decode jMd_readStatement.cc 167 = .ok (.ldc 130, 2) := by decide +kernel
theorem d_Md_readStatement_169 : decode jMd_readStatement.cc 169 = .ok (.invokevirtual 420, 3) := by decide +kernel
theorem d_Md_readStatement_172 : decode jMd_readStatement.cc 172 = .ok (.istore_n 2, 1) := by decide +kernel
theorem d_Md_readStatement_173 : decode jMd_readStatement.cc 173 = .ok (.goto 457, 3) := by decide +kernel
theorem d_Md_readStatement_176 : decode jMd_readStatement.cc 176 = .ok (.aload_n 0, 1) := by decide +kernel
theorem d_Md_readStatement_177 : decode jMd_readStatement.cc 177 = .ok (.ldc 80, 2) := by decide +kernel
theorem d_Md_readStatement_179 : decode jMd_readStatement.cc 179 = .ok (.invokevirtual 374, 3) := by decide +kernel
theorem d_Md_readStatement_182 : decode jMd_readStatement.cc 182 = .ok (.ifCond .eq 89, 3) := by decide +kernel
theorem d_Md_readStatement_185 : decode jMd_readStatement.cc 185 = .ok (.aload_n 0, 1) := by decide +kernel
theorem d_Md_readStatement_186 : decode jMd_readStatement.cc 186 = .ok (.getfield 188, 3) := by decide +kernel
theorem d_Md_readStatement_189 : decode jMd_readStatement.cc 189 = .ok (.iload_n 1, 1) := by decide +kernel
theorem d_Md_readStatement_190 : decode jMd_readStatement.cc 190 = .ok (.iconst 1, 1) := by decide +kernel
theorem d_Md_readStatement_191 : decode jMd_readStatement.cc 191 = .ok (.iastore, 1) := by decide +kernel
theorem d_Md_readStatement_192 : decode jMd_readStatement.cc 192 = .ok (.aload_n 0, 1) := by decide +kernel
theorem d_Md_readStatement_193 : decode jMd_readStatement.cc 193 = .ok (.invokevirtual 378, 3) := by decide +kernel
theorem d_Md_readStatement_196 : decode jMd_readStatement.cc 196 = .ok (.istore_n 2, 1) := by decide +kernel
theorem d_Md_readStatement_197 : decode jMd_readStatement.cc 197 = .ok (.aload_n 0, 1) := by decide +kernel
theorem d_Md_readStatement_198 : decode jMd_readStatement.cc 198 = .ok (.invokevirtual 424, 3) := by decide +kernel
theorem d_Md_readStatement_201 : decode jMd_readStatement.cc 201 = .ok (.istore_n 2, 1) := by decide +kernel
theorem d_Md_readStatement_202 : decode jMd_readStatement.cc 202 = .ok (.aload_n 0, 1) := by decide +kernel
theorem d_Md_readStatement_203 : decode jMd_readStatement.cc 203 = .ok (.getfield 427, 3) := by decide +kernel
theorem d_Md_readStatement_206 : decode jMd_readStatement.cc 206 = .ok (.bipush 8, 2) := by decide +kernel
theorem d_Md_readStatement_208 : decode jMd_readStatement.cc 208 = .ok (.if_icmp .ne 16, 3) := by decide +kernel
theorem d_Md_readStatement_211 : decode jMd_readStatement.cc 211 = .ok (.aload_n 0, 1) := by decide +kernel
theorem d_Md_readStatement_212 : decode jMd_readStatement.cc 212 = .ok (.iconst 2, 1) := by decide +kernel
theorem d_Md_readStatement_213 : decode jMd_readStatement.cc 213 = .ok (.aload_n 0, 1) := by decide +kernel
theorem d_Md_readStatement_214 : decode jMd_readStatement.cc 214 = .ok (.aload_n 0, 1) := by decide +kernel
theorem d_Md_readStatement_215 : decode jMd_readStatement.cc 215 = .ok (.getfield 363, 3) := by decide +kernel
theorem d_Md_readStatement_218 : decode jMd_readStatement.cc 218 = .ok (.invokevirtual 366, 3) := by decide +kernel
theorem d_Md_readStatement_221 : decode jMd_readStatement.cc 221 = .ok (.invokevirtual 370, 3) := by decide +kernel
theorem d_Md_readStatement_224 : decode jMd_readStatement.cc 224 = .ok (.aload_n 0, 1) := by decide +kernel
theorem d_Md_readStatement_225 : decode jMd_readStatement.cc 225 = .ok (.getfield 194, 3) := by decide +kernel
theorem d_Md_readStatement_228 : decode jMd_readStatement.cc 228 = .ok (.iload_n 1, 1) := by decide +kernel
theorem d_Md_readStatement_229 : decode jMd_readStatement.cc 229 = .ok (.aload_n 0, 1) := by decide +kernel
theorem d_Md_readStatement_230 : decode jMd_readStatement.cc 230 = .ok (.invokevirtual 378, 3) := by decide +kernel
theorem d_Md_readStatement_233 : decode jMd_readStatement.cc 233 = .ok (.iastore, 1) := by decide +kernel
theorem d_Md_readStatement_234 : decode jMd_readStatement.cc 234 = .ok (.aload_n 0, 1) := by decide +kernel
theorem d_Md_readStatement_235 : decode jMd_readStatement.cc 235 = .ok (.ldc 146, 2) := by decide +kernel
theorem d_Md_readStatement_237 : decode jMd_readStatement.cc 237 = .ok (.invokevirtual 420, 3) := by decide +kernel
theorem d_Md_readStatement_240 : decode jMd_readStatement.cc 240 = .ok (.istore_n 2, 1) := by decide +kernel
theorem d_Md_readStatement_241 : decode jMd_readStatement.cc 241 = .ok (.aload_n 0, 1) := by decide +kernel
theorem d_Md_readStatement_242 : decode jMd_readStatement.cc 242 = .ok (.getfield 197, 3) := by decide +kernel
theorem d_Md_readStatement_245 : decode jMd_readStatement.cc 245 = .ok (.iload_n 1, 1) := by decide +kernel
theorem d_Md_readStatement_246 : decode jMd_readStatement.cc 246 = .ok (.aload_n 0, 1) := by decide +kernel
theorem d_Md_readStatement_247 : decode jMd_readStatement.cc 247 = .ok (.invokestatic 417, 3) := by decide +kernel
theorem d_Md_readStatement_250 : decode jMd_readStatement.cc 250 = .ok (.iastore, 1) := by decide +kernel
theorem d_Md_readStatement_251 : decode jMd_readStatement.cc 251 = .ok (.aload_n 0, 1) := by decide +kernel
theorem d_Md_readStatement_252 : decode jMd_readStatement.cc 252 = .ok (.ldc 130, 2) := by decide +kernel
theorem d_Md_readStatement_254 : decode jMd_readStatement.cc 254 = .ok (.invokevirtual 420, 3) := by decide +kernel
theorem d_Md_readStatement_257 : decode jMd_readStatement.cc 257 = .ok (.istore_n 2, 1) := by decide +kernel
theorem d_Md_readStatement_258 : decode jMd_readStatement.cc 258 = .ok (.aload_n 0, 1) := by decide +kernel
theorem d_Md_readStatement_259 : decode jMd_readStatement.cc 259 = .ok (.dup, 1) := by decide +kernel
theorem d_Md_readStatement_260 : decode jMd_readStatement.cc 260 = .ok (.getfield 427, 3) := by decide +kernel
theorem d_Md_readStatement_263 : decode jMd_readStatement.cc 263 = .ok (.iconst 1, 1) := by decide +kernel
theorem d_Md_readStatement_264 : decode jMd_readStatement.cc 264 = .ok (.iadd, 1) := by decide +kernel
theorem d_Md_readStatement_265 : decode jMd_readStatement.cc 265 = .ok (.putfield 427, 3) := by decide +kernel
theorem d_Md_readStatement_268 : decode jMd_readStatement.cc 268 = .ok (.goto 362, 3) := by decide +kernel
theorem d_Md_readStatement_271 : decode jMd_readStatement.cc 271 = .ok (.aload_n 0, 1) := by decide +kernel
theorem d_Md_readStatement_272 : decode jMd_readStatement.cc 272 = .ok (.ldc 82, 2) := by decide +kernel
theorem d_Md_readStatement_274 : decode jMd_readStatement.cc 274 = .ok (.invokevirtual 374, 3) := by decide +kernel
theorem d_Md_readStatement_277 : decode jMd_readStatement.cc 277 = .ok (.ifCond .eq 98, 3) := by decide +kernel
theorem d_Md_readStatement_280 : decode jMd_readStatement.cc 280 = .ok (.aload_n 0, 1) := by decide +kernel
theorem d_Md_readStatement_281 : decode jMd_readStatement.cc 281 = .ok (.getfield 188, 3) := by decide +kernel
theorem d_Md_readStatement_284 : decode jMd_readStatement.cc 284 = .ok (.iload_n 1, 1) := by decide +kernel
theorem d_Md_readStatement_285 : decode jMd_readStatement.cc 285 = .ok (.iconst 2, 1) := by decide +kernel
theorem d_Md_readStatement_286 : decode jMd_readStatement.cc 286 = .ok (.iastore, 1) := by decide +kernel
theorem d_Md_readStatement_287 : decode jMd_readStatement.cc 287 = .ok (.aload_n 0, 1) := by decide +kernel
theorem d_Md_readStatement_288 : decode jMd_readStatement.cc 288 = .ok (.invokevirtual 378, 3) := by decide +kernel
theorem d_Md_readStatement_291 : decode jMd_readStatement.cc 291 = .ok (.istore_n 2, 1) := by decide +kernel
theorem d_Md_readStatement_292 : decode jMd_readStatement.cc 292 = .ok (.aload_n 0, 1) := by decide +kernel
theorem d_Md_readStatement_293 : decode jMd_readStatement.cc 293 = .ok (.invokevirtual 424, 3) := by decide +kernel
theorem d_Md_readStatement_296 : decode jMd_readStatement.cc 296 = .ok (.istore_n 2, 1) := by decide +kernel
theorem d_Md_readStatement_297 : decode jMd_readStatement.cc 297 = .ok (.aload_n 0, 1) := by decide +kernel
theorem d_Md_readStatement_298 : decode jMd_readStatement.cc 298 = .ok (.getfield 194, 3) := by decide +kernel
theorem d_Md_readStatement_301 : decode jMd_readStatement.cc 301 = .ok (.iload_n 1, 1) := by decide +kernel
theorem d_Md_readStatement_302 : decode jMd_readStatement.cc 302 = .ok (.aload_n 0, 1) := by decide +kernel
theorem d_Md_readStatement_303 : decode jMd_readStatement.cc 303 = .ok (.invokevirtual 378, 3) := by decide +kernel
theorem d_Md_readStatement_306 : decode jMd_readStatement.cc 306 = .ok (.iastore, 1) := by decide +kernel
theorem d_Md_readStatement_307 : decode jMd_readStatement.cc 307 = .ok (.aload_n 0, 1) := by decide +kernel
theorem d_Md_readStatement_308 : decode jMd_readStatement.cc 308 = .ok (.getfield 197, 3) := by decide +kernel
theorem d_Md_readStatement_311 : decode jMd_readStatement.cc 311 = .ok (.iload_n 1, 1) := by decide +kernel
theorem d_Md_readStatement_312 : decode jMd_readStatement.cc 312 = .ok (.aload_n 0, 1) := by decide +kernel
theorem d_Md_readStatement_313 : decode jMd_readStatement.cc 313 = .ok (.invokestatic 417, 3) := by decide +kernel
theorem d_Md_readStatement_316 : decode jMd_readStatement.cc 316 = .ok (.iastore, 1) := by decide +kernel
theorem d_Md_readStatement_317 : decode jMd_readStatement.cc 317 = .ok (.aload_n 0, 1) := by decide +kernel
theorem d_Md_readStatement_318 : decode jMd_readStatement.cc 318 = .ok (.ldc 84, 2) := by decide +kernel
theorem d_Md_readStatement_320 : decode jMd_readStatement.cc 320 = .ok (.invokevirtual 374, 3) := by decide +kernel
theorem d_Md_readStatement_323 : decode jMd_readStatement.cc 323 = .ok (.ifCond .ne 25, 3) := by decide +kernel
theorem d_Md_readStatement_326 : decode jMd_readStatement.cc 326 = .ok (.aload_n 0, 1) := by decide +kernel
theorem d_Md_readStatement_327 : decode jMd_readStatement.cc 327 = .ok (.ldc 86, 2) := by decide +kernel
theorem d_Md_readStatement_329 : decode jMd_readStatement.cc 329 = .ok (.invokevirtual 374, 3) := by decide +kernel
theorem d_Md_readStatement_332 : decode jMd_readStatement.cc 332 = .ok (.ifCond .ne 16, 3) := by decide +kernel
theorem d_Md_readStatement_335 : decode jMd_readStatement.cc 335 = .ok (.aload_n 0, 1) := by decide +kernel
theorem d_Md_readStatement_336 : decode jMd_readStatement.cc 336 = .ok (.iconst 1, 1) := by decide +kernel
theorem d_Md_readStatement_337 : decode jMd_readStatement.cc 337 = .ok (.aload_n 0, 1) := by decide +kernel
theorem d_Md_readStatement_338 : decode jMd_readStatement.cc 338 = .ok (.aload_n 0, 1) := by decide +kernel
theorem d_Md_readStatement_339 : decode jMd_readStatement.cc 339 = .ok (.getfield 363, 3) := by decide +kernel
theorem d_Md_readStatement_342 : decode jMd_readStatement.cc 342 = .ok (.invokevirtual 366, 3) := by decide +kernel
theorem d_Md_readStatement_345 : decode jMd_readStatement.cc 345 = .ok (.invokevirtual 370, 3) := by decide +kernel
theorem d_Md_readStatement_348 : decode jMd_readStatement.cc 348 = .ok (.aload_n 0, 1) := by decide +kernel
theorem d_Md_readStatement_349 : decode jMd_readStatement.cc 349 = .ok (.getfield 212, 3) := by decide +kernel
theorem d_Md_readStatement_352 : decode jMd_readStatement.cc 352 = .ok (.iload_n 1, 1) := by decide +kernel
theorem d_Md_readStatement_353 : decode jMd_readStatement.cc 353 = .ok (.aload_n 0, 1) := by decide +kernel
theorem d_Md_readStatement_354 : decode jMd_readStatement.cc 354 = .ok (.ldc 84, 2) := by decide +kernel
theorem d_Md_readStatement_356 : decode jMd_readStatement.cc 356 = .ok (.invokevirtual 374, 3) := by decide +kernel
theorem d_Md_readStatement_359 : decode jMd_readStatement.cc 359 = .ok (.bastore, 1) := by decide +kernel
theorem d_Md_readStatement_360 : decode jMd_readStatement.cc 360 = .ok (.aload_n 0, 1) := by decide +kernel
theorem d_Md_readStatement_361 : decode jMd_readStatement.cc 361 = .ok (.invokevirtual 378, 3) := by decide +kernel
theorem d_Md_readStatement_364 : decode jMd_readStatement.cc 364 = .ok (.istore_n 2, 1) := by decide +kernel
theorem d_Md_readStatement_365 : decode jMd_readStatement.cc 365 = .ok (.aload_n 0, 1) := by decide +kernel
theorem d_Md_readStatement_366 : decode jMd_readStatement.cc 366 = .ok (.ldc 130, 2) := by decide +kernel
theorem d_Md_readStatement_368 : decode jMd_readStatement.cc 368 = .ok (.invokevirtual 420, 3) := by decide +kernel
theorem d_Md_readStatement_371 : decode jMd_readStatement.cc 371 = .ok (.istore_n 2, 1) := by decide +kernel
theorem d_Md_readStatement_372 : decode jMd_readStatement.cc 372 = .ok (.goto 258, 3) := by decide +kernel
theorem d_Md_readStatement_375 : decode jMd_readStatement.cc 375 = .ok (.aload_n 0, 1) := by decide +kernel
theorem d_Md_readStatement_376 : decode jMd_readStatement.cc 376 = .ok (.ldc 88, 2) := by decide +kernel
theorem d_Md_readStatement_378 : decode jMd_readStatement.cc 378 = .ok (.invokevirtual 374, 3) := by decide +kernel
theorem d_Md_readStatement_381 : decode jMd_readStatement.cc 381 = .ok (.ifCond .eq 50, 3) := by decide +kernel
theorem d_Md_readStatement_384 : decode jMd_readStatement.cc 384 = .ok (.aload_n 0, 1) := by decide +kernel
theorem d_Md_readStatement_385 : decode jMd_readStatement.cc 385 = .ok (.getfield 188, 3) := by decide +kernel
theorem d_Md_readStatement_388 : decode jMd_readStatement.cc 388 = .ok (.iload_n 1, 1) := by decide +kernel
theorem d_Md_readStatement_389 : decode jMd_readStatement.cc 389 = .ok (.iconst 3, 1) := by decide +kernel
theorem d_Md_readStatement_390 : decode jMd_readStatement.cc 390 = .ok (.iastore, 1) := by decide +kernel
theorem d_Md_readStatement_391 : decode jMd_readStatement.cc 391 = .ok (.aload_n 0, 1) := by decide +kernel
theorem d_Md_readStatement_392 : decode jMd_readStatement.cc 392 = .ok (.invokevirtual 378, 3) := by decide +kernel
theorem d_Md_readStatement_395 : decode jMd_readStatement.cc 395 = .ok (.istore_n 2, 1) := by decide +kernel
theorem d_Md_readStatement_396 : decode jMd_readStatement.cc 396 = .ok (.aload_n 0, 1) := by decide +kernel
theorem d_Md_readStatement_397 : decode jMd_readStatement.cc 397 = .ok (.invokevirtual 424, 3) := by decide +kernel
theorem d_Md_readStatement_400 : decode jMd_readStatement.cc 400 = .ok (.istore_n 2, 1) := by decide +kernel
theorem d_Md_readStatement_401 : decode jMd_readStatement.cc 401 = .ok (.aload_n 0, 1) := by decide +kernel
theorem d_Md_readStatement_402 : decode jMd_readStatement.cc 402 = .ok (.getfield 194, 3) := by decide +kernel
theorem d_Md_readStatement_405 : decode jMd_readStatement.cc 405 = .ok (.iload_n 1, 1) := by decide +kernel
theorem d_Md_readStatement_406 : decode jMd_readStatement.cc 406 = .ok (.aload_n 0, 1) := by decide +kernel
theorem d_Md_readStatement_407 : decode jMd_readStatement.cc 407 = .ok (.invokevirtual 378, 3) := by decide +kernel
theorem d_Md_readStatement_410 : decode jMd_readStatement.cc 410 = .ok (.iastore, 1) := by decide +kernel
theorem d_Md_readStatement_411 : decode jMd_readStatement.cc 411 = .ok (.aload_n 0, 1) := by decide +kernel
theorem d_Md_readStatement_412 : decode jMd_readStatement.cc 412 = .ok (.getfield 197, 3) := by decide +kernel
theorem d_Md_readStatement_415 : decode jMd_readStatement.cc 415 = .ok (.iload_n 1, 1) := by decide +kernel
theorem d_Md_readStatement_416 : decode jMd_readStatement.cc 416 = .ok (.aload_n 0, 1) := by decide +kernel
theorem d_Md_readStatement_417 : decode jMd_readStatement.cc 417 = .ok (.invokestatic 417, 3) := by decide +kernel
theorem d_Md_readStatement_420 : decode jMd_readStatement.cc 420 = .ok (.iastore, 1) := by decide +kernel
theorem d_Md_readStatement_421 : decode jMd_readStatement.cc 421 = .ok (.aload_n 0, 1) := by decide +kernel
theorem d_Md_readStatement_422 : decode jMd_readStatement.cc 422 = .ok (.ldc 130, 2) := by decide +kernel
theorem d_Md_readStatement_424 : decode jMd_readStatement.cc 424 = .ok (.invokevirtual 420, 3) := by decide +kernel
theorem d_Md_readStatement_427 : decode jMd_readStatement.cc 427 = .ok (.istore_n 2, 1) := by decide +kernel
theorem d_Md_readStatement_428 : decode jMd_readStatement.cc 428 = .ok (.goto 202, 3) := by decide +kernel
theorem d_Md_readStatement_431 : decode jMd_readStatement.cc 431 = .ok (.aload_n 0, 1) := by decide +kernel
theorem d_Md_readStatement_432 : decode jMd_readStatement.cc 432 = .ok (.ldc 90, 2) := by decide +kernel
theorem d_Md_readStatement_434 : decode jMd_readStatement.cc 434 = .ok (.invokevirtual 374, 3) := by decide +kernel
theorem d_Md_readStatement_437 : decode jMd_readStatement.cc 437 = .ok (.ifCond .eq 76, 3) := by decide +kernel
theorem d_Md_readStatement_440 : decode jMd_readStatement.cc 440 = .ok (.aload_n 0, 1) := by decide +kernel
theorem d_Md_readStatement_441 : decode jMd_readStatement.cc 441 = .ok (.getfield 188, 3) := by decide +kernel
theorem d_Md_readStatement_444 : decode jMd_readStatement.cc 444 = .ok (.iload_n 1, 1) := by decide +kernel
theorem d_Md_readStatement_445 : decode jMd_readStatement.cc 445 = .ok (.iconst 4, 1) := by decide +kernel
theorem d_Md_readStatement_446 : decode jMd_readStatement.cc 446 = .ok (.iastore, 1) := by decide +kernel
theorem d_Md_readStatement_447 : decode jMd_readStatement.cc 447 = .ok (.aload_n 0, 1) := by decide +kernel
theorem d_Md_readStatement_448 : decode jMd_readStatement.cc 448 = .ok (.invokevirtual 378, 3) := by decide +kernel
theorem d_Md_readStatement_451 : decode jMd_readStatement.cc 451 = .ok (.istore_n 2, 1) := by decide +kernel
theorem d_Md_readStatement_452 : decode jMd_readStatement.cc 452 = .ok (.aload_n 0, 1) := by decide +kernel
theorem d_Md_readStatement_453 : decode jMd_readStatement.cc 453 = .ok (.getfield 197, 3) := by decide +kernel
theorem d_Md_readStatement_456 : decode jMd_readStatement.cc 456 = .ok (.iload_n 1, 1) := by decide +kernel
theorem d_Md_readStatement_457 : decode jMd_readStatement.cc 457 = .ok (.aload_n 0, 1) := by decide +kernel
theorem d_Md_readStatement_458 : decode jMd_readStatement.cc 458 = .ok (.invokestatic 417, 3) := by decide +kernel
theorem d_Md_readStatement_461 : decode jMd_readStatement.cc 461 = .ok (.iastore, 1) := by decide +kernel
theorem d_Md_readStatement_462 : decode jMd_readStatement.cc 462 = .ok (.aload_n 0, 1) := by decide +kernel
theorem d_Md_readStatement_463 : decode jMd_readStatement.cc 463 = .ok (.getfield 200, 3) := by decide +kernel
theorem d_Md_readStatement_466 : decode jMd_readStatement.cc 466 = .ok (.iload_n 1, 1) := by decide +kernel
theorem d_Md_readStatement_467 : decode jMd_readStatement.cc 467 = .ok (.aload_n 0, 1) := by decide +kernel
theorem d_Md_readStatement_468 : decode jMd_readStatement.cc 468 = .ok (.invokestatic 439, 3) := by decide +kernel
theorem d_Md_readStatement_471 : decode jMd_readStatement.cc 471 = .ok (.iastore, 1) := by decide +kernel
theorem d_Md_readStatement_472 : decode jMd_readStatement.cc 472 = .ok (.aload_n 0, 1) := by decide +kernel
theorem d_Md_readStatement_473 : decode jMd_readStatement.cc 473 = .ok (.getfield 209, 3) := by decide +kernel
theorem d_Md_readStatement_476 : decode jMd_readStatement.cc 476 = .ok (.iload_n 1, 1) := by decide +kernel
theorem d_Md_readStatement_477 : decode jMd_readStatement.cc 477 = .ok (.iconst 0, 1) := by decide +kernel
theorem d_Md_readStatement_478 : decode jMd_readStatement.cc 478 = .ok (.iastore, 1) := by decide +kernel
theorem d_Md_readStatement_479 : decode jMd_readStatement.cc 479 = .ok (.aload_n 0, 1) := by decide +kernel
theorem d_Md_readStatement_480 : decode jMd_readStatement.cc 480 = .ok (.ldc 92, 2) := by decide +kernel
theorem d_Md_readStatement_482 : decode jMd_readStatement.cc 482 = .ok (.invokevirtual 374, 3) := by decide +kernel
theorem d_Md_readStatement_485 : decode jMd_readStatement.cc 485 = .ok (.ifCond .eq 145, 3) := by decide +kernel
theorem d_Md_readStatement_488 : decode jMd_readStatement.cc 488 = .ok (.aload_n 0, 1) := by decide +kernel
theorem d_Md_readStatement_489 : decode jMd_readStatement.cc 489 = .ok (.invokevirtual 378, 3) := by decide +kernel
theorem d_Md_readStatement_492 : decode jMd_readStatement.cc 492 = .ok (.istore_n 2, 1) := by decide +kernel
theorem d_Md_readStatement_493 : decode jMd_readStatement.cc 493 = .ok (.aload_n 0, 1) := by decide +kernel
theorem d_Md_readStatement_494 : decode jMd_readStatement.cc 494 = .ok (.getfield 203, 3) := by decide +kernel
theorem d_Md_readStatement_497 : decode jMd_readStatement.cc 497 = .ok (.iload_n 1, 1) := by decide +kernel
theorem d_Md_readStatement_498 : decode jMd_readStatement.cc 498 = .ok (.aload_n 0, 1) := by decide +kernel
theorem d_Md_readStatement_499 : decode jMd_readStatement.cc 499 = .ok (.invokestatic 439, 3) := by decide +kernel
theorem d_Md_readStatement_502 : decode jMd_readStatement.cc 502 = .ok (.iastore, 1) := by decide +kernel
theorem d_Md_readStatement_503 : decode jMd_readStatement.cc 503 = .ok (.aload_n 0, 1) := by decide +kernel
theorem d_Md_readStatement_504 : decode jMd_readStatement.cc 504 = .ok (.getfield 209, 3) := by decide +kernel
theorem d_Md_readStatement_507 : decode jMd_readStatement.cc 507 = .ok (.iload_n 1, 1) := by decide +kernel
theorem d_Md_readStatement_508 : decode jMd_readStatement.cc 508 = .ok (.iconst 1, 1) := by decide +kernel
theorem d_Md_readStatement_509 : decode jMd_readStatement.cc 509 = .ok (.iastore, 1) := by decide +kernel
theorem d_Md_readStatement_510 : decode jMd_readStatement.cc 510 = .ok (.goto 120, 3) := by decide +kernel
theorem d_Md_readStatement_513 : decode jMd_readStatement.cc 513 = .ok (.aload_n 0, 1) := by decide +kernel
theorem d_Md_readStatement_514 : decode jMd_readStatement.cc 514 = .ok (.ldc 94, 2) := by decide +kernel
theorem d_Md_readStatement_516 : decode jMd_readStatement.cc 516 = .ok (.invokevirtual 374, 3) := by decide +kernel
theorem d_Md_readStatement_519 : decode jMd_readStatement.cc 519 = .ok (.ifCond .eq 91, 3) := by decide +kernel
theorem d_Md_readStatement_522 : decode jMd_readStatement.cc 522 = .ok (.aload_n 0, 1) := by decide +kernel
theorem d_Md_readStatement_523 : decode jMd_readStatement.cc 523 = .ok (.getfield 188, 3) := by decide +kernel
theorem d_Md_readStatement_526 : decode jMd_readStatement.cc 526 = .ok (.iload_n 1, 1) := by decide +kernel
theorem d_Md_readStatement_527 : decode jMd_readStatement.cc 527 = .ok (.iconst 5, 1) := by decide +kernel
theorem d_Md_readStatement_528 : decode jMd_readStatement.cc 528 = .ok (.iastore, 1) := by decide +kernel
theorem d_Md_readStatement_529 : decode jMd_readStatement.cc 529 = .ok (.aload_n 0, 1) := by decide +kernel
theorem d_Md_readStatement_530 : decode jMd_readStatement.cc 530 = .ok (.invokevirtual 378, 3) := by decide +kernel
theorem d_Md_readStatement_533 : decode jMd_readStatement.cc 533 = .ok (.istore_n 2, 1) := by decide +kernel
theorem d_Md_readStatement_534 : decode jMd_readStatement.cc 534 = .ok (.aload_n 0, 1) := by decide +kernel
theorem d_Md_readStatement_535 : decode jMd_readStatement.cc 535 = .ok (.getfield 33, 3) := by decide +kernel
theorem d_Md_readStatement_538 : decode jMd_readStatement.cc 538 = .ok (.aload_n 0, 1) := by decide +kernel
theorem d_Md_readStatement_539 : decode jMd_readStatement.cc 539 = .ok (.getfield 363, 3) := by decide +kernel
theorem d_Md_readStatement_542 : decode jMd_readStatement.cc 542 = .ok (.iaload, 1) := by decide +kernel
theorem d_Md_readStatement_543 : decode jMd_readStatement.cc 543 = .ok (.iconst 1, 1) := by decide +kernel
theorem d_Md_readStatement_544 : decode jMd_readStatement.cc 544 = .ok (.if_icmp .eq 16, 3) := by decide +kernel
theorem d_Md_readStatement_547 : decode jMd_readStatement.cc 547 = .ok (.aload_n 0, 1) := by decide +kernel
theorem d_Md_readStatement_548 : decode jMd_readStatement.cc 548 = .ok (.iconst 1, 1) := by decide +kernel
theorem d_Md_readStatement_549 : decode jMd_readStatement.cc 549 = .ok (.aload_n 0, 1) := by decide +kernel
theorem d_Md_readStatement_550 : decode jMd_readStatement.cc 550 = .ok (.aload_n 0, 1) := by decide +kernel
theorem d_Md_readStatement_551 : decode jMd_readStatement.cc 551 = .ok (.getfield 363, 3) := by decide +kernel
theorem d_Md_readStatement_554 : decode jMd_readStatement.cc 554 = .ok (.invokevirtual 366, 3) := by decide +kernel
theorem d_Md_readStatement_557 : decode jMd_readStatement.cc 557 = .ok (.invokevirtual 370, 3) := by decide +kernel
theorem d_Md_readStatement_560 : decode jMd_readStatement.cc 560 = .ok (.aload_n 0, 1) := by decide +kernel
theorem d_Md_readStatement_561 : decode jMd_readStatement.cc 561 = .ok (.getfield 43, 3) := by decide +kernel
theorem d_Md_readStatement_564 : decode jMd_readStatement.cc 564 = .ok (.aload_n 0, 1) := by decide +kernel
theorem d_Md_readStatement_565 : decode jMd_readStatement.cc 565 = .ok (.getfield 363, 3) := by decide +kernel
theorem d_Md_readStatement_568 : decode jMd_readStatement.cc 568 = .ok (.iaload, 1) := by decide +kernel
theorem d_Md_readStatement_569 : decode jMd_readStatement.cc 569 = .ok (.bipush 100, 2) := by decide +kernel
theorem d_Md_readStatement_571 : decode jMd_readStatement.cc 571 = .ok (.if_icmp .le 16, 3) := by decide +kernel
theorem d_Md_readStatement_574 : decode jMd_readStatement.cc 574 = .ok (.aload_n 0, 1) := by decide +kernel
theorem d_Md_readStatement_575 : decode jMd_readStatement.cc 575 = .ok (.iconst 2, 1) := by decide +kernel
theorem d_Md_readStatement_576 : decode jMd_readStatement.cc 576 = .ok (.aload_n 0, 1) := by decide +kernel
theorem d_Md_readStatement_577 : decode jMd_readStatement.cc 577 = .ok (.aload_n 0, 1) := by decide +kernel
theorem d_Md_readStatement_578 : decode jMd_readStatement.cc 578 = .ok (.getfield 363, 3) := by decide +kernel
theorem d_Md_readStatement_581 : decode jMd_readStatement.cc 581 = .ok (.invokevirtual 366, 3) := by decide +kernel
theorem d_Md_readStatement_584 : decode jMd_readStatement.cc 584 = .ok (.invokevirtual 370, 3) := by decide +kernel
theorem d_Md_readStatement_587 : decode jMd_readStatement.cc 587 = .ok (.aload_n 0, 1) := by decide +kernel
theorem d_Md_readStatement_588 : decode jMd_readStatement.cc 588 = .ok (.getfield 194, 3) := by decide +kernel
theorem d_Md_readStatement_591 : decode jMd_readStatement.cc 591 = .ok (.iload_n 1, 1) := by decide +kernel
theorem d_Md_readStatement_592 : decode jMd_readStatement.cc 592 = .ok (.aload_n 0, 1) := by decide +kernel
theorem d_Md_readStatement_593 : decode jMd_readStatement.cc 593 = .ok (.invokevirtual 378, 3) := by decide +kernel
theorem d_Md_readStatement_596 : decode jMd_readStatement.cc 596 = .ok (.iastore, 1) := by decide +kernel
theorem d_Md_readStatement_597 : decode jMd_readStatement.cc 597 = .ok (.aload_n 0, 1) := by decide +kernel
theorem d_Md_readStatement_598 : decode jMd_readStatement.cc 598 = .ok (.getfield 200, 3) := by decide +kernel
theorem d_Md_readStatement_601 : decode jMd_readStatement.cc 601 = .ok (.iload_n 1, 1) := by decide +kernel
theorem d_Md_readStatement_602 : decode jMd_readStatement.cc 602 = .ok (.aload_n 0, 1) := by decide +kernel
theorem d_Md_readStatement_603 : decode jMd_readStatement.cc 603 = .ok (.invokestatic 439, 3) := by decide +kernel
theorem d_Md_readStatement_606 : decode jMd_readStatement.cc 606 = .ok (.iastore, 1) := by decide +kernel
theorem d_Md_readStatement_607 : decode jMd_readStatement.cc 607 = .ok (.goto 23, 3) := by decide +kernel
theorem d_Md_readStatement_610 : decode jMd_readStatement.cc 610 = .ok (.aload_n 0, 1) := by decide +kernel
theorem d_Md_readStatement_611 : decode jMd_readStatement.cc 611 = .ok (.getfield 188, 3) := by decide +kernel
theorem d_Md_readStatement_614 : decode jMd_readStatement.cc 614 = .ok (.iload_n 1, 1) := by decide +kernel
theorem d_Md_readStatement_615 : decode jMd_readStatement.cc 615 = .ok (.bipush 6, 2) := by decide +kernel
theorem d_Md_readStatement_617 : decode jMd_readStatement.cc 617 = .ok (.iastore, 1) := by decide +kernel
theorem d_Md_readStatement_618 : decode jMd_readStatement.cc 618 = .ok (.aload_n 0, 1) := by decide +kernel
theorem d_Md_readStatement_619 : decode jMd_readStatement.cc 619 = .ok (.invokevirtual 378, 3) := by decide +kernel
theorem d_Md_readStatement_622 : decode jMd_readStatement.cc 622 = .ok (.istore_n 2, 1) := by decide +kernel
theorem d_Md_readStatement_623 : decode jMd_readStatement.cc 623 = .ok (.aload_n 0, 1) := by decide +kernel
theorem d_Md_readStatement_624 : decode jMd_readStatement.cc 624 = .ok (.ldc 130, 2) := by decide +kernel
theorem d_Md_readStatement_626 : decode jMd_readStatement.cc 626 = .ok (.invokevirtual 420, 3) := by decide +kernel
theorem d_Md_readStatement_629 : decode jMd_readStatement.cc 629 = .ok (.istore_n 2, 1) := by decide +kernel
theorem d_Md_readStatement_630 : decode jMd_readStatement.cc 630 = .ok (.iload_n 1, 1) := by decide +kernel
theorem d_Md_readStatement_631 : decode jMd_readStatement.cc 631 = .ok (.ireturn, 1) := by decide +kernel
set_option maxHeartbeats 4000000 in
theorem s_Md_readStatement {g : Mg} {d : Nat} {K : Ou → Wd → Prop} {w : Wd} (h : Cal g LM jMd_beginsStatement d [vA 0] w (fun o w1 => rIt o (fun b => K (.inr b) w1) (fun x2 => (¬ x2 = 0 → (V g LM jMd_readStatement (d + 1) K 20 [(0, vA 0)] [] w1)) ∧ (x2 = 0 → (Cal g LM jMd_placeOf d [vA 0, vI (w1 0 11)] w1 (fun o w3 => rIt o (fun b => K (.inr b) w3) (fun x4 => Cal g LM jMd_fail d [vA 0, vI 1, vI x4] w3 (fun o w5 => rVt o (fun b => K (.inr b) w5) (V g LM jMd_readStatement (d + 1) K 20 [(0, vA 0)] [] w5))))))))) : V g LM jMd_readStatement (d + 1) K 0 [(0, vA 0)] [] w := by
  refine v_aload_n (pc := 0) d_Md_readStatement_0 rfl (.head _) ?_
  refine v_callV (pc := 1) (J' := jMd_beginsStatement) (d' := d) (o := 0) (ci := 13) (N := 93) (T := cT13) (As := []) d_Md_readStatement_1 ml_Md_433 cM_0.1 cM_0.2 (by decide) rfl rfl (Nat.le_of_ble_eq_true rfl) (Nat.le_refl _) rfl (Cal.weak h (fun o w1 h => ?_))
  rcases rIt_of h with ⟨x2, rfl, h⟩ | ⟨b, rfl, h⟩
  rotate_left
  · exact h
  refine v_ifne (pc := 4) (tgt := 20) d_Md_readStatement_4 (by decide) (fun c => ?_) (fun c => ?_)
  · replace h := h.1 c
    exact v_sub (List.forall_mem_cons.mpr ⟨(.head _), (fun _ z => absurd z List.not_mem_nil)⟩) h
  · replace h := h.2 c
    refine v_aload_n (pc := 7) d_Md_readStatement_7 rfl (.head _) ?_
    refine v_iconst (pc := 8) d_Md_readStatement_8 (by decide) ?_
    refine v_aload_n (pc := 9) d_Md_readStatement_9 rfl (.head _) ?_
    refine v_aload_n (pc := 10) d_Md_readStatement_10 rfl (.head _) ?_
    refine v_geti (pc := 11) (x := (w1 0 11)) d_Md_readStatement_11 fl_Md_363 cM_0.1 cM_0.2 (Or.inl rfl) rfl ?_
    refine v_callV (pc := 14) (J' := jMd_placeOf) (d' := d) (o := 0) (ci := 13) (N := 93) (T := cT13) (As := [vI (w1 0 11)]) d_Md_readStatement_14 ml_Md_366 cM_0.1 cM_0.2 (by decide) rfl rfl (Nat.le_of_ble_eq_true rfl) (Nat.le_refl _) rfl (Cal.weak h (fun o w3 h => ?_))
    rcases rIt_of h with ⟨x4, rfl, h⟩ | ⟨b, rfl, h⟩
    rotate_left
    · exact h
    refine v_callV (pc := 17) (J' := jMd_fail) (d' := d) (o := 0) (ci := 13) (N := 93) (T := cT13) (As := [vI 1, vI x4]) d_Md_readStatement_17 ml_Md_370 cM_0.1 cM_0.2 (by decide) rfl rfl (Nat.le_of_ble_eq_true rfl) (Nat.le_refl _) rfl (Cal.weak h (fun o w5 h => ?_))
    rcases rVt_of h with ⟨rfl, h⟩ | ⟨b, rfl, h⟩
    rotate_left
    · exact h
    exact v_sub (List.forall_mem_cons.mpr ⟨(.head _), (fun _ z => absurd z List.not_mem_nil)⟩) h
set_option maxHeartbeats 4000000 in
theorem s_Md_readStatement_20 {g : Mg} {d : Nat} {K : Ou → Wd → Prop} {w : Wd} (h : (¬ (w 0 31) = 120 → (V g LM jMd_readStatement (d + 1) K 42 [(0, vA 0)] [] w)) ∧ ((w 0 31) = 120 → (Cal g LM jMd_placeOf d [vA 0, vI (w 0 11)] w (fun o w1 => rIt o (fun b => K (.inr b) w1) (fun x2 => Cal g LM jMd_fail d [vA 0, vI 2, vI x2] w1 (fun o w3 => rVt o (fun b => K (.inr b) w3) (V g LM jMd_readStatement (d + 1) K 42 [(0, vA 0)] [] w3))))))) : V g LM jMd_readStatement (d + 1) K 20 [(0, vA 0)] [] w := by
  refine v_aload_n (pc := 20) d_Md_readStatement_20 rfl (.head _) ?_
  refine v_geti (pc := 21) (x := (w 0 31)) d_Md_readStatement_21 fl_Md_436 cM_0.1 cM_0.2 (Or.inl rfl) rfl ?_
  refine v_bipush (pc := 24) d_Md_readStatement_24 (by decide) rfl ?_
  refine v_icmpne (pc := 26) (tgt := 42) d_Md_readStatement_26 (by decide) (fun c => ?_) (fun c => ?_)
  · replace h := h.1 c
    exact v_sub (List.forall_mem_cons.mpr ⟨(.head _), (fun _ z => absurd z List.not_mem_nil)⟩) h
  · replace h := h.2 c
    refine v_aload_n (pc := 29) d_Md_readStatement_29 rfl (.head _) ?_
    refine v_iconst (pc := 30) d_Md_readStatement_30 (by decide) ?_
    refine v_aload_n (pc := 31) d_Md_readStatement_31 rfl (.head _) ?_
    refine v_aload_n (pc := 32) d_Md_readStatement_32 rfl (.head _) ?_
    refine v_geti (pc := 33) (x := (w 0 11)) d_Md_readStatement_33 fl_Md_363 cM_0.1 cM_0.2 (Or.inl rfl) rfl ?_
    refine v_callV (pc := 36) (J' := jMd_placeOf) (d' := d) (o := 0) (ci := 13) (N := 93) (T := cT13) (As := [vI (w 0 11)]) d_Md_readStatement_36 ml_Md_366 cM_0.1 cM_0.2 (by decide) rfl rfl (Nat.le_of_ble_eq_true rfl) (Nat.le_refl _) rfl (Cal.weak h (fun o w1 h => ?_))
    rcases rIt_of h with ⟨x2, rfl, h⟩ | ⟨b, rfl, h⟩
    rotate_left
    · exact h
    refine v_callV (pc := 39) (J' := jMd_fail) (d' := d) (o := 0) (ci := 13) (N := 93) (T := cT13) (As := [vI 2, vI x2]) d_Md_readStatement_39 ml_Md_370 cM_0.1 cM_0.2 (by decide) rfl rfl (Nat.le_of_ble_eq_true rfl) (Nat.le_refl _) rfl (Cal.weak h (fun o w3 h => ?_))
    rcases rVt_of h with ⟨rfl, h⟩ | ⟨b, rfl, h⟩
    rotate_left
    · exact h
    exact v_sub (List.forall_mem_cons.mpr ⟨(.head _), (fun _ z => absurd z List.not_mem_nil)⟩) h
set_option maxHeartbeats 4000000 in
theorem s_Md_readStatement_42 {g : Mg} {d : Nat} {K : Ou → Wd → Prop} {w : Wd} (h : (0 ≤ (w 0 31) ∧ (w 0 31) < 130) ∧ ((0 ≤ (w 0 31) ∧ (w 0 31) < 130) ∧ ((0 ≤ (w 0 31) ∧ (w 0 31) < 130) ∧ ((0 ≤ (w 0 31) ∧ (w 0 31) < 130) ∧ ((0 ≤ (w 0 31) ∧ (w 0 31) < 130) ∧ ((0 ≤ (w 0 31) ∧ (w 0 31) < 130) ∧ ((0 ≤ (w 0 31) ∧ (w 0 31) < 130) ∧ ((0 ≤ (w 0 11) ∧ (w 0 11) < 4022) ∧ ((¬ (w 4 ((w 0 11).toNat)) = 0 → (Cal g LM jMd_is d [vA 0, vA 1020] (up (up (up (up (up (up (up (up w 0 31 (wr ((w 0 31) + 1))) 18 ((w 0 31).toNat) (w 0 11)) 23 ((w 0 31).toNat) (-2)) 21 ((w 0 31).toNat) (-2)) 22 ((w 0 31).toNat) (-2)) 20 ((w 0 31).toNat) (-2)) 19 ((w 0 31).toNat) (-2)) 24 ((w 0 31).toNat) (-2)) (fun o w1 => rIt o (fun b => K (.inr b) w1) (fun x2 => (x2 = 0 → (Cal g LM jMd_is d [vA 0, vA 1021] w1 (fun o w3 => rIt o (fun b => K (.inr b) w3) (fun x4 => (x4 = 0 → (Cal g LM jMd_is d [vA 0, vA 1024] w3 (fun o w5 => rIt o (fun b => K (.inr b) w5) (fun x6 => (x6 = 0 → (Cal g LM jMd_is d [vA 0, vA 1025] w5 (fun o w7 => rIt o (fun b => K (.inr b) w7) (fun x8 => (x8 = 0 → (Cal g LM jMd_is d [vA 0, vA 1027] w7 (fun o w9 => rIt o (fun b => K (.inr b) w9) (fun x10 => (x10 = 0 → ((0 ≤ (w 0 31) ∧ (w 0 31) < 130) ∧ (Cal g LM jMd_pass d [vA 0] (up w9 17 ((w 0 31).toNat) 6) (fun o w11 => rIt o (fun b => K (.inr b) w11) (fun x12 => Cal g LM jMd_must d [vA 0, vA 1043] w11 (fun o w13 => rIt o (fun b => K (.inr b) w13) (fun x14 => V g LM jMd_readStatement (d + 1) K 630 [(1, vI (w 0 31))] [] w13))))))) ∧ (¬ x10 = 0 → ((0 ≤ (w 0 31) ∧ (w 0 31) < 130) ∧ (Cal g LM jMd_pass d [vA 0] (up w9 17 ((w 0 31).toNat) 5) (fun o w15 => rIt o (fun b => K (.inr b) w15) (fun x16 => (0 ≤ (w15 0 11) ∧ (w15 0 11) < 4022) ∧ (((w15 4 ((w15 0 11).toNat)) = 1 → (V g LM jMd_readStatement (d + 1) K 560 [(0, vA 0), (1, vI (w 0 31))] [] w15)) ∧ (¬ (w15 4 ((w15 0 11).toNat)) = 1 → (Cal g LM jMd_placeOf d [vA 0, vI (w15 0 11)] w15 (fun o w17 => rIt o (fun b => K (.inr b) w17) (fun x18 => Cal g LM jMd_fail d [vA 0, vI 1, vI x18] w17 (fun o w19 => rVt o (fun b => K (.inr b) w19) (V g LM jMd_readStatement (d + 1) K 560 [(0, vA 0), (1, vI (w 0 31))] [] w19)))))))))))))))) ∧ (¬ x8 = 0 → ((0 ≤ (w 0 31) ∧ (w 0 31) < 130) ∧ (Cal g LM jMd_pass d [vA 0] (up w7 17 ((w 0 31).toNat) 4) (fun o w20 => rIt o (fun b => K (.inr b) w20) (fun x21 => Cal g LM jMd_readExp d [vA 0] w20 (fun o w22 => rIt o (fun b => K (.inr b) w22) (fun x23 => (0 ≤ (w 0 31) ∧ (w 0 31) < 130) ∧ (Cal g LM jMd_readBlock d [vA 0] (up w22 20 ((w 0 31).toNat) x23) (fun o w24 => rIt o (fun b => K (.inr b) w24) (fun x25 => (0 ≤ (w 0 31) ∧ (w 0 31) < 130) ∧ ((0 ≤ (w 0 31) ∧ (w 0 31) < 130) ∧ (Cal g LM jMd_is d [vA 0, vA 1026] (up (up w24 21 ((w 0 31).toNat) x25) 24 ((w 0 31).toNat) 0) (fun o w26 => rIt o (fun b => K (.inr b) w26) (fun x27 => (x27 = 0 → (V g LM jMd_readStatement (d + 1) K 630 [(1, vI (w 0 31))] [] w26)) ∧ (¬ x27 = 0 → (Cal g LM jMd_pass d [vA 0] w26 (fun o w28 => rIt o (fun b => K (.inr b) w28) (fun x29 => Cal g LM jMd_readBlock d [vA 0] w28 (fun o w30 => rIt o (fun b => K (.inr b) w30) (fun x31 => (0 ≤ (w 0 31) ∧ (w 0 31) < 130) ∧ ((0 ≤ (w 0 31) ∧ (w 0 31) < 130) ∧ (V g LM jMd_readStatement (d + 1) K 630 [(1, vI (w 0 31))] [] (up (up w30 22 ((w 0 31).toNat) x31) 24 ((w 0 31).toNat) 1))))))))))))))))))))))))))) ∧ (¬ x6 = 0 → ((0 ≤ (w 0 31) ∧ (w 0 31) < 130) ∧ (Cal g LM jMd_pass d [vA 0] (up w5 17 ((w 0 31).toNat) 3) (fun o w32 => rIt o (fun b => K (.inr b) w32) (fun x33 => Cal g LM jMd_mustName d [vA 0] w32 (fun o w34 => rIt o (fun b => K (.inr b) w34) (fun x35 => Cal g LM jMd_pass d [vA 0] w34 (fun o w36 => rIt o (fun b => K (.inr b) w36) (fun x37 => (0 ≤ (w 0 31) ∧ (w 0 31) < 130) ∧ (Cal g LM jMd_readExp d [vA 0] (up w36 19 ((w 0 31).toNat) x37) (fun o w38 => rIt o (fun b => K (.inr b) w38) (fun x39 => (0 ≤ (w 0 31) ∧ (w 0 31) < 130) ∧ (Cal g LM jMd_must d [vA 0, vA 1043] (up w38 20 ((w 0 31).toNat) x39) (fun o w40 => rIt o (fun b => K (.inr b) w40) (fun x41 => V g LM jMd_readStatement (d + 1) K 630 [(1, vI (w 0 31))] [] w40))))))))))))))))))) ∧ (¬ x4 = 0 → ((0 ≤ (w 0 31) ∧ (w 0 31) < 130) ∧ (Cal g LM jMd_pass d [vA 0] (up w3 17 ((w 0 31).toNat) 2) (fun o w42 => rIt o (fun b => K (.inr b) w42) (fun x43 => Cal g LM jMd_mustName d [vA 0] w42 (fun o w44 => rIt o (fun b => K (.inr b) w44) (fun x45 => Cal g LM jMd_pass d [vA 0] w44 (fun o w46 => rIt o (fun b => K (.inr b) w46) (fun x47 => (0 ≤ (w 0 31) ∧ (w 0 31) < 130) ∧ (Cal g LM jMd_readExp d [vA 0] (up w46 19 ((w 0 31).toNat) x47) (fun o w48 => rIt o (fun b => K (.inr b) w48) (fun x49 => (0 ≤ (w 0 31) ∧ (w 0 31) < 130) ∧ (Cal g LM jMd_is d [vA 0, vA 1022] (up w48 20 ((w 0 31).toNat) x49) (fun o w50 => rIt o (fun b => K (.inr b) w50) (fun x51 => (¬ x51 = 0 → (V g LM jMd_readStatement (d + 1) K 348 [(0, vA 0), (1, vI (w 0 31))] [] w50)) ∧ (x51 = 0 → (Cal g LM jMd_is d [vA 0, vA 1023] w50 (fun o w52 => rIt o (fun b => K (.inr b) w52) (fun x53 => (¬ x53 = 0 → (V g LM jMd_readStatement (d + 1) K 348 [(0, vA 0), (1, vI (w 0 31))] [] w52)) ∧ (x53 = 0 → (Cal g LM jMd_placeOf d [vA 0, vI (w52 0 11)] w52 (fun o w54 => rIt o (fun b => K (.inr b) w54) (fun x55 => Cal g LM jMd_fail d [vA 0, vI 1, vI x55] w54 (fun o w56 => rVt o (fun b => K (.inr b) w56) (V g LM jMd_readStatement (d + 1) K 348 [(0, vA 0), (1, vI (w 0 31))] [] w56))))))))))))))))))))))))))))) ∧ (¬ x2 = 0 → ((0 ≤ (w 0 31) ∧ (w 0 31) < 130) ∧ (Cal g LM jMd_pass d [vA 0] (up w1 17 ((w 0 31).toNat) 1) (fun o w57 => rIt o (fun b => K (.inr b) w57) (fun x58 => Cal g LM jMd_mustName d [vA 0] w57 (fun o w59 => rIt o (fun b => K (.inr b) w59) (fun x60 => (¬ (w59 0 45) = 8 → (V g LM jMd_readStatement (d + 1) K 224 [(0, vA 0), (1, vI (w 0 31))] [] w59)) ∧ ((w59 0 45) = 8 → (Cal g LM jMd_placeOf d [vA 0, vI (w59 0 11)] w59 (fun o w61 => rIt o (fun b => K (.inr b) w61) (fun x62 => Cal g LM jMd_fail d [vA 0, vI 2, vI x62] w61 (fun o w63 => rVt o (fun b => K (.inr b) w63) (V g LM jMd_readStatement (d + 1) K 224 [(0, vA 0), (1, vI (w 0 31))] [] w63))))))))))))))))) ∧ ((w 4 ((w 0 11).toNat)) = 0 → ((0 ≤ (w 0 31) ∧ (w 0 31) < 130) ∧ (Cal g LM jMd_pass d [vA 0] (up (up (up (up (up (up (up (up (up w 0 31 (wr ((w 0 31) + 1))) 18 ((w 0 31).toNat) (w 0 11)) 23 ((w 0 31).toNat) (-2)) 21 ((w 0 31).toNat) (-2)) 22 ((w 0 31).toNat) (-2)) 20 ((w 0 31).toNat) (-2)) 19 ((w 0 31).toNat) (-2)) 24 ((w 0 31).toNat) (-2)) 17 ((w 0 31).toNat) 0) (fun o w64 => rIt o (fun b => K (.inr b) w64) (fun x65 => (0 ≤ (w 0 31) ∧ (w 0 31) < 130) ∧ (Cal g LM jMd_must d [vA 0, vA 1051] (up w64 19 ((w 0 31).toNat) x65) (fun o w66 => rIt o (fun b => K (.inr b) w66) (fun x67 => Cal g LM jMd_readExp d [vA 0] w66 (fun o w68 => rIt o (fun b => K (.inr b) w68) (fun x69 => (0 ≤ (w 0 31) ∧ (w 0 31) < 130) ∧ (Cal g LM jMd_must d [vA 0, vA 1043] (up w68 20 ((w 0 31).toNat) x69) (fun o w70 => rIt o (fun b => K (.inr b) w70) (fun x71 => V g LM jMd_readStatement (d + 1) K 630 [(1, vI (w 0 31))] [] w70)))))))))))))))))))))) : V g LM jMd_readStatement (d + 1) K 42 [(0, vA 0)] [] w := by
  refine v_aload_n (pc := 42) d_Md_readStatement_42 rfl (.head _) ?_
  refine v_geti (pc := 43) (x := (w 0 31)) d_Md_readStatement_43 fl_Md_436 cM_0.1 cM_0.2 (Or.inl rfl) rfl ?_
  refine v_istore_n (pc := 46) (ls' := [(1, vI (w 0 31)), (0, vA 0)]) d_Md_readStatement_46 rfl (by decide) rfl ?_
  refine v_aload_n (pc := 47) d_Md_readStatement_47 rfl (.tail _ (.head _)) ?_
  refine v_dup (pc := 48) d_Md_readStatement_48 rfl ?_
  refine v_geti (pc := 49) (x := (w 0 31)) d_Md_readStatement_49 fl_Md_436 cM_0.1 cM_0.2 (Or.inl rfl) rfl ?_
  refine v_iconst (pc := 52) d_Md_readStatement_52 (by decide) ?_
  refine v_iadd (pc := 53) d_Md_readStatement_53 ?_
  refine v_puti (pc := 54) d_Md_readStatement_54 fp_Md_436 cM_0.1 cM_0.2 (by decide) rfl ?_
  refine v_aload_n (pc := 57) d_Md_readStatement_57 rfl (.tail _ (.head _)) ?_
  refine v_getr (C := "") (pc := 58) (r := 18) d_Md_readStatement_58 fl_Md_191 cM_0.1 cM_0.2 (Or.inr ⟨_, rfl⟩) rM_0_23 ?_
  refine v_iload_n (pc := 61) d_Md_readStatement_61 rfl (.head _) ?_
  refine v_aload_n (pc := 62) d_Md_readStatement_62 rfl (.tail _ (.head _)) ?_
  refine v_geti (pc := 63) (x := (w 0 11)) d_Md_readStatement_63 fl_Md_363 cM_0.1 cM_0.2 (Or.inl rfl) rfl ?_
  refine v_iast (pc := 66) d_Md_readStatement_66 cM_18.1 cM_18.2 (aM_18 _) h.1 ?_
  replace h := h.2
  refine v_aload_n (pc := 67) d_Md_readStatement_67 rfl (.tail _ (.head _)) ?_
  refine v_getr (C := "") (pc := 68) (r := 23) d_Md_readStatement_68 fl_Md_206 cM_0.1 cM_0.2 (Or.inr ⟨_, rfl⟩) rM_0_28 ?_
  refine v_iload_n (pc := 71) d_Md_readStatement_71 rfl (.head _) ?_
  refine v_bipush (pc := 72) d_Md_readStatement_72 (by decide) rfl ?_
  refine v_iast (pc := 74) d_Md_readStatement_74 cM_23.1 cM_23.2 (aM_23 _) h.1 ?_
  replace h := h.2
  refine v_aload_n (pc := 75) d_Md_readStatement_75 rfl (.tail _ (.head _)) ?_
  refine v_getr (C := "") (pc := 76) (r := 21) d_Md_readStatement_76 fl_Md_200 cM_0.1 cM_0.2 (Or.inr ⟨_, rfl⟩) rM_0_26 ?_
  refine v_iload_n (pc := 79) d_Md_readStatement_79 rfl (.head _) ?_
  refine v_bipush (pc := 80) d_Md_readStatement_80 (by decide) rfl ?_
  refine v_iast (pc := 82) d_Md_readStatement_82 cM_21.1 cM_21.2 (aM_21 _) h.1 ?_
  replace h := h.2
  refine v_aload_n (pc := 83) d_Md_readStatement_83 rfl (.tail _ (.head _)) ?_
  refine v_getr (C := "") (pc := 84) (r := 22) d_Md_readStatement_84 fl_Md_203 cM_0.1 cM_0.2 (Or.inr ⟨_, rfl⟩) rM_0_27 ?_
  refine v_iload_n (pc := 87) d_Md_readStatement_87 rfl (.head _) ?_
  refine v_bipush (pc := 88) d_Md_readStatement_88 (by decide) rfl ?_
  refine v_iast (pc := 90) d_Md_readStatement_90 cM_22.1 cM_22.2 (aM_22 _) h.1 ?_
  replace h := h.2
  refine v_aload_n (pc := 91) d_Md_readStatement_91 rfl (.tail _ (.head _)) ?_
  refine v_getr (C := "") (pc := 92) (r := 20) d_Md_readStatement_92 fl_Md_197 cM_0.1 cM_0.2 (Or.inr ⟨_, rfl⟩) rM_0_25 ?_
  refine v_iload_n (pc := 95) d_Md_readStatement_95 rfl (.head _) ?_
  refine v_bipush (pc := 96) d_Md_readStatement_96 (by decide) rfl ?_
  refine v_iast (pc := 98) d_Md_readStatement_98 cM_20.1 cM_20.2 (aM_20 _) h.1 ?_
  replace h := h.2
  refine v_aload_n (pc := 99) d_Md_readStatement_99 rfl (.tail _ (.head _)) ?_
  refine v_getr (C := "") (pc := 100) (r := 19) d_Md_readStatement_100 fl_Md_194 cM_0.1 cM_0.2 (Or.inr ⟨_, rfl⟩) rM_0_24 ?_
  refine v_iload_n (pc := 103) d_Md_readStatement_103 rfl (.head _) ?_
  refine v_bipush (pc := 104) d_Md_readStatement_104 (by decide) rfl ?_
  refine v_iast (pc := 106) d_Md_readStatement_106 cM_19.1 cM_19.2 (aM_19 _) h.1 ?_
  replace h := h.2
  refine v_aload_n (pc := 107) d_Md_readStatement_107 rfl (.tail _ (.head _)) ?_
  refine v_getr (C := "") (pc := 108) (r := 24) d_Md_readStatement_108 fl_Md_209 cM_0.1 cM_0.2 (Or.inr ⟨_, rfl⟩) rM_0_29 ?_
  refine v_iload_n (pc := 111) d_Md_readStatement_111 rfl (.head _) ?_
  refine v_bipush (pc := 112) d_Md_readStatement_112 (by decide) rfl ?_
  refine v_iast (pc := 114) d_Md_readStatement_114 cM_24.1 cM_24.2 (aM_24 _) h.1 ?_
  replace h := h.2
  refine v_aload_n (pc := 115) d_Md_readStatement_115 rfl (.tail _ (.head _)) ?_
  refine v_geti (pc := 116) (x := (w 0 11)) d_Md_readStatement_116 fl_Md_363 cM_0.1 cM_0.2 (Or.inl rfl) rfl ?_
  refine v_istore_n (pc := 119) (ls' := [(2, vI (w 0 11)), (1, vI (w 0 31)), (0, vA 0)]) d_Md_readStatement_119 rfl (by decide) rfl ?_
  refine v_aload_n (pc := 120) d_Md_readStatement_120 rfl (.tail _ (.tail _ (.head _))) ?_
  refine v_getr (C := "") (pc := 121) (r := 4) d_Md_readStatement_121 fl_Md_33 cM_0.1 cM_0.2 (Or.inr ⟨_, rfl⟩) rM_0_6 ?_
  refine v_aload_n (pc := 124) d_Md_readStatement_124 rfl (.tail _ (.tail _ (.head _))) ?_
  refine v_geti (pc := 125) (x := (w 0 11)) d_Md_readStatement_125 fl_Md_363 cM_0.1 cM_0.2 (Or.inl rfl) rfl ?_
  refine v_iald (pc := 128) (x := (w 4 ((w 0 11).toNat))) d_Md_readStatement_128 cM_4.1 cM_4.2 rfl h.1 ?_
  replace h := h.2
  refine v_ifne (pc := 129) (tgt := 176) d_Md_readStatement_129 (by decide) (fun c => ?_) (fun c => ?_)
  · replace h := h.1 c
    refine v_aload_n (pc := 176) d_Md_readStatement_176 rfl (.tail _ (.tail _ (.head _))) ?_
    refine v_ldcs (pc := 177) (n := 19) (tx := "let") d_Md_readStatement_177 (by decide +kernel) ?_
    refine v_callV (pc := 179) (J' := jMd_is) (d' := d) (o := 0) (ci := 13) (N := 93) (T := cT13) (As := [vA 1020]) d_Md_readStatement_179 ml_Md_374 cM_0.1 cM_0.2 (by decide) rfl rfl (Nat.le_of_ble_eq_true rfl) (Nat.le_refl _) rfl (Cal.weak h (fun o w1 h => ?_))
    rcases rIt_of h with ⟨x2, rfl, h⟩ | ⟨b, rfl, h⟩
    rotate_left
    · exact h
    refine v_ifeq (pc := 182) (tgt := 271) d_Md_readStatement_182 (by decide) (fun c => ?_) (fun c => ?_)
    · replace h := h.1 c
      refine v_aload_n (pc := 271) d_Md_readStatement_271 rfl (.tail _ (.tail _ (.head _))) ?_
      refine v_ldcs (pc := 272) (n := 20) (tx := "send") d_Md_readStatement_272 (by decide +kernel) ?_
      refine v_callV (pc := 274) (J' := jMd_is) (d' := d) (o := 0) (ci := 13) (N := 93) (T := cT13) (As := [vA 1021]) d_Md_readStatement_274 ml_Md_374 cM_0.1 cM_0.2 (by decide) rfl rfl (Nat.le_of_ble_eq_true rfl) (Nat.le_refl _) rfl (Cal.weak h (fun o w3 h => ?_))
      rcases rIt_of h with ⟨x4, rfl, h⟩ | ⟨b, rfl, h⟩
      rotate_left
      · exact h
      refine v_ifeq (pc := 277) (tgt := 375) d_Md_readStatement_277 (by decide) (fun c => ?_) (fun c => ?_)
      · replace h := h.1 c
        refine v_aload_n (pc := 375) d_Md_readStatement_375 rfl (.tail _ (.tail _ (.head _))) ?_
        refine v_ldcs (pc := 376) (n := 23) (tx := "give") d_Md_readStatement_376 (by decide +kernel) ?_
        refine v_callV (pc := 378) (J' := jMd_is) (d' := d) (o := 0) (ci := 13) (N := 93) (T := cT13) (As := [vA 1024]) d_Md_readStatement_378 ml_Md_374 cM_0.1 cM_0.2 (by decide) rfl rfl (Nat.le_of_ble_eq_true rfl) (Nat.le_refl _) rfl (Cal.weak h (fun o w5 h => ?_))
        rcases rIt_of h with ⟨x6, rfl, h⟩ | ⟨b, rfl, h⟩
        rotate_left
        · exact h
        refine v_ifeq (pc := 381) (tgt := 431) d_Md_readStatement_381 (by decide) (fun c => ?_) (fun c => ?_)
        · replace h := h.1 c
          refine v_aload_n (pc := 431) d_Md_readStatement_431 rfl (.tail _ (.tail _ (.head _))) ?_
          refine v_ldcs (pc := 432) (n := 24) (tx := "if") d_Md_readStatement_432 (by decide +kernel) ?_
          refine v_callV (pc := 434) (J' := jMd_is) (d' := d) (o := 0) (ci := 13) (N := 93) (T := cT13) (As := [vA 1025]) d_Md_readStatement_434 ml_Md_374 cM_0.1 cM_0.2 (by decide) rfl rfl (Nat.le_of_ble_eq_true rfl) (Nat.le_refl _) rfl (Cal.weak h (fun o w7 h => ?_))
          rcases rIt_of h with ⟨x8, rfl, h⟩ | ⟨b, rfl, h⟩
          rotate_left
          · exact h
          refine v_ifeq (pc := 437) (tgt := 513) d_Md_readStatement_437 (by decide) (fun c => ?_) (fun c => ?_)
          · replace h := h.1 c
            refine v_aload_n (pc := 513) d_Md_readStatement_513 rfl (.tail _ (.tail _ (.head _))) ?_
            refine v_ldcs (pc := 514) (n := 26) (tx := "loop") d_Md_readStatement_514 (by decide +kernel) ?_
            refine v_callV (pc := 516) (J' := jMd_is) (d' := d) (o := 0) (ci := 13) (N := 93) (T := cT13) (As := [vA 1027]) d_Md_readStatement_516 ml_Md_374 cM_0.1 cM_0.2 (by decide) rfl rfl (Nat.le_of_ble_eq_true rfl) (Nat.le_refl _) rfl (Cal.weak h (fun o w9 h => ?_))
            rcases rIt_of h with ⟨x10, rfl, h⟩ | ⟨b, rfl, h⟩
            rotate_left
            · exact h
            refine v_ifeq (pc := 519) (tgt := 610) d_Md_readStatement_519 (by decide) (fun c => ?_) (fun c => ?_)
            · replace h := h.1 c
              refine v_aload_n (pc := 610) d_Md_readStatement_610 rfl (.tail _ (.tail _ (.head _))) ?_
              refine v_getr (C := "") (pc := 611) (r := 17) d_Md_readStatement_611 fl_Md_188 cM_0.1 cM_0.2 (Or.inr ⟨_, rfl⟩) rM_0_22 ?_
              refine v_iload_n (pc := 614) d_Md_readStatement_614 rfl (.tail _ (.head _)) ?_
              refine v_bipush (pc := 615) d_Md_readStatement_615 (by decide) rfl ?_
              refine v_iast (pc := 617) d_Md_readStatement_617 cM_17.1 cM_17.2 (aM_17 _) h.1 ?_
              replace h := h.2
              refine v_aload_n (pc := 618) d_Md_readStatement_618 rfl (.tail _ (.tail _ (.head _))) ?_
              refine v_callV (pc := 619) (J' := jMd_pass) (d' := d) (o := 0) (ci := 13) (N := 93) (T := cT13) (As := []) d_Md_readStatement_619 ml_Md_378 cM_0.1 cM_0.2 (by decide) rfl rfl (Nat.le_of_ble_eq_true rfl) (Nat.le_refl _) rfl (Cal.weak h (fun o w11 h => ?_))
              rcases rIt_of h with ⟨x12, rfl, h⟩ | ⟨b, rfl, h⟩
              rotate_left
              · exact h
              refine v_istore_n (pc := 622) (ls' := [(2, vI x12), (1, vI (w 0 31)), (0, vA 0)]) d_Md_readStatement_622 rfl (by decide) rfl ?_
              refine v_aload_n (pc := 623) d_Md_readStatement_623 rfl (.tail _ (.tail _ (.head _))) ?_
              refine v_ldcs (pc := 624) (n := 42) (tx := ";") d_Md_readStatement_624 (by decide +kernel) ?_
              refine v_callV (pc := 626) (J' := jMd_must) (d' := d) (o := 0) (ci := 13) (N := 93) (T := cT13) (As := [vA 1043]) d_Md_readStatement_626 ml_Md_420 cM_0.1 cM_0.2 (by decide) rfl rfl (Nat.le_of_ble_eq_true rfl) (Nat.le_refl _) rfl (Cal.weak h (fun o w13 h => ?_))
              rcases rIt_of h with ⟨x14, rfl, h⟩ | ⟨b, rfl, h⟩
              rotate_left
              · exact h
              refine v_istore_n (pc := 629) (ls' := [(2, vI x14), (1, vI (w 0 31)), (0, vA 0)]) d_Md_readStatement_629 rfl (by decide) rfl ?_
              exact v_sub (List.forall_mem_cons.mpr ⟨(.tail _ (.head _)), (fun _ z => absurd z List.not_mem_nil)⟩) h
            · replace h := h.2 c
              refine v_aload_n (pc := 522) d_Md_readStatement_522 rfl (.tail _ (.tail _ (.head _))) ?_
              refine v_getr (C := "") (pc := 523) (r := 17) d_Md_readStatement_523 fl_Md_188 cM_0.1 cM_0.2 (Or.inr ⟨_, rfl⟩) rM_0_22 ?_
              refine v_iload_n (pc := 526) d_Md_readStatement_526 rfl (.tail _ (.head _)) ?_
              refine v_iconst (pc := 527) d_Md_readStatement_527 (by decide) ?_
              refine v_iast (pc := 528) d_Md_readStatement_528 cM_17.1 cM_17.2 (aM_17 _) h.1 ?_
              replace h := h.2
              refine v_aload_n (pc := 529) d_Md_readStatement_529 rfl (.tail _ (.tail _ (.head _))) ?_
              refine v_callV (pc := 530) (J' := jMd_pass) (d' := d) (o := 0) (ci := 13) (N := 93) (T := cT13) (As := []) d_Md_readStatement_530 ml_Md_378 cM_0.1 cM_0.2 (by decide) rfl rfl (Nat.le_of_ble_eq_true rfl) (Nat.le_refl _) rfl (Cal.weak h (fun o w15 h => ?_))
              rcases rIt_of h with ⟨x16, rfl, h⟩ | ⟨b, rfl, h⟩
              rotate_left
              · exact h
              refine v_istore_n (pc := 533) (ls' := [(2, vI x16), (1, vI (w 0 31)), (0, vA 0)]) d_Md_readStatement_533 rfl (by decide) rfl ?_
              refine v_aload_n (pc := 534) d_Md_readStatement_534 rfl (.tail _ (.tail _ (.head _))) ?_
              refine v_getr (C := "") (pc := 535) (r := 4) d_Md_readStatement_535 fl_Md_33 cM_0.1 cM_0.2 (Or.inr ⟨_, rfl⟩) rM_0_6 ?_
              refine v_aload_n (pc := 538) d_Md_readStatement_538 rfl (.tail _ (.tail _ (.head _))) ?_
              refine v_geti (pc := 539) (x := (w15 0 11)) d_Md_readStatement_539 fl_Md_363 cM_0.1 cM_0.2 (Or.inl rfl) rfl ?_
              refine v_iald (pc := 542) (x := (w15 4 ((w15 0 11).toNat))) d_Md_readStatement_542 cM_4.1 cM_4.2 rfl h.1 ?_
              replace h := h.2
              refine v_iconst (pc := 543) d_Md_readStatement_543 (by decide) ?_
              refine v_icmpeq (pc := 544) (tgt := 560) d_Md_readStatement_544 (by decide) (fun c => ?_) (fun c => ?_)
              · replace h := h.1 c
                exact v_sub (List.forall_mem_cons.mpr ⟨(.tail _ (.tail _ (.head _))), (List.forall_mem_cons.mpr ⟨(.tail _ (.head _)), (fun _ z => absurd z List.not_mem_nil)⟩)⟩) h
              · replace h := h.2 c
                refine v_aload_n (pc := 547) d_Md_readStatement_547 rfl (.tail _ (.tail _ (.head _))) ?_
                refine v_iconst (pc := 548) d_Md_readStatement_548 (by decide) ?_
                refine v_aload_n (pc := 549) d_Md_readStatement_549 rfl (.tail _ (.tail _ (.head _))) ?_
                refine v_aload_n (pc := 550) d_Md_readStatement_550 rfl (.tail _ (.tail _ (.head _))) ?_
                refine v_geti (pc := 551) (x := (w15 0 11)) d_Md_readStatement_551 fl_Md_363 cM_0.1 cM_0.2 (Or.inl rfl) rfl ?_
                refine v_callV (pc := 554) (J' := jMd_placeOf) (d' := d) (o := 0) (ci := 13) (N := 93) (T := cT13) (As := [vI (w15 0 11)]) d_Md_readStatement_554 ml_Md_366 cM_0.1 cM_0.2 (by decide) rfl rfl (Nat.le_of_ble_eq_true rfl) (Nat.le_refl _) rfl (Cal.weak h (fun o w17 h => ?_))
                rcases rIt_of h with ⟨x18, rfl, h⟩ | ⟨b, rfl, h⟩
                rotate_left
                · exact h
                refine v_callV (pc := 557) (J' := jMd_fail) (d' := d) (o := 0) (ci := 13) (N := 93) (T := cT13) (As := [vI 1, vI x18]) d_Md_readStatement_557 ml_Md_370 cM_0.1 cM_0.2 (by decide) rfl rfl (Nat.le_of_ble_eq_true rfl) (Nat.le_refl _) rfl (Cal.weak h (fun o w19 h => ?_))
                rcases rVt_of h with ⟨rfl, h⟩ | ⟨b, rfl, h⟩
                rotate_left
                · exact h
                exact v_sub (List.forall_mem_cons.mpr ⟨(.tail _ (.tail _ (.head _))), (List.forall_mem_cons.mpr ⟨(.tail _ (.head _)), (fun _ z => absurd z List.not_mem_nil)⟩)⟩) h
          · replace h := h.2 c
            refine v_aload_n (pc := 440) d_Md_readStatement_440 rfl (.tail _ (.tail _ (.head _))) ?_
            refine v_getr (C := "") (pc := 441) (r := 17) d_Md_readStatement_441 fl_Md_188 cM_0.1 cM_0.2 (Or.inr ⟨_, rfl⟩) rM_0_22 ?_
            refine v_iload_n (pc := 444) d_Md_readStatement_444 rfl (.tail _ (.head _)) ?_
            refine v_iconst (pc := 445) d_Md_readStatement_445 (by decide) ?_
            refine v_iast (pc := 446) d_Md_readStatement_446 cM_17.1 cM_17.2 (aM_17 _) h.1 ?_
            replace h := h.2
            refine v_aload_n (pc := 447) d_Md_readStatement_447 rfl (.tail _ (.tail _ (.head _))) ?_
            refine v_callV (pc := 448) (J' := jMd_pass) (d' := d) (o := 0) (ci := 13) (N := 93) (T := cT13) (As := []) d_Md_readStatement_448 ml_Md_378 cM_0.1 cM_0.2 (by decide) rfl rfl (Nat.le_of_ble_eq_true rfl) (Nat.le_refl _) rfl (Cal.weak h (fun o w20 h => ?_))
            rcases rIt_of h with ⟨x21, rfl, h⟩ | ⟨b, rfl, h⟩
            rotate_left
            · exact h
            refine v_istore_n (pc := 451) (ls' := [(2, vI x21), (1, vI (w 0 31)), (0, vA 0)]) d_Md_readStatement_451 rfl (by decide) rfl ?_
            refine v_aload_n (pc := 452) d_Md_readStatement_452 rfl (.tail _ (.tail _ (.head _))) ?_
            refine v_getr (C := "") (pc := 453) (r := 20) d_Md_readStatement_453 fl_Md_197 cM_0.1 cM_0.2 (Or.inr ⟨_, rfl⟩) rM_0_25 ?_
            refine v_iload_n (pc := 456) d_Md_readStatement_456 rfl (.tail _ (.head _)) ?_
            refine v_aload_n (pc := 457) d_Md_readStatement_457 rfl (.tail _ (.tail _ (.head _))) ?_
            refine v_callS (pc := 458) (J' := jMd_readExp) (d' := d) (As := [vA 0]) d_Md_readStatement_458 ml_Md_417 rfl (Nat.le_of_ble_eq_true rfl) (Nat.le_refl _) rfl (Cal.weak h (fun o w22 h => ?_))
            rcases rIt_of h with ⟨x23, rfl, h⟩ | ⟨b, rfl, h⟩
            rotate_left
            · exact h
            refine v_iast (pc := 461) d_Md_readStatement_461 cM_20.1 cM_20.2 (aM_20 _) h.1 ?_
            replace h := h.2
            refine v_aload_n (pc := 462) d_Md_readStatement_462 rfl (.tail _ (.tail _ (.head _))) ?_
            refine v_getr (C := "") (pc := 463) (r := 21) d_Md_readStatement_463 fl_Md_200 cM_0.1 cM_0.2 (Or.inr ⟨_, rfl⟩) rM_0_26 ?_
            refine v_iload_n (pc := 466) d_Md_readStatement_466 rfl (.tail _ (.head _)) ?_
            refine v_aload_n (pc := 467) d_Md_readStatement_467 rfl (.tail _ (.tail _ (.head _))) ?_
            refine v_callS (pc := 468) (J' := jMd_readBlock) (d' := d) (As := [vA 0]) d_Md_readStatement_468 ml_Md_439 rfl (Nat.le_of_ble_eq_true rfl) (Nat.le_refl _) rfl (Cal.weak h (fun o w24 h => ?_))
            rcases rIt_of h with ⟨x25, rfl, h⟩ | ⟨b, rfl, h⟩
            rotate_left
            · exact h
            refine v_iast (pc := 471) d_Md_readStatement_471 cM_21.1 cM_21.2 (aM_21 _) h.1 ?_
            replace h := h.2
            refine v_aload_n (pc := 472) d_Md_readStatement_472 rfl (.tail _ (.tail _ (.head _))) ?_
            refine v_getr (C := "") (pc := 473) (r := 24) d_Md_readStatement_473 fl_Md_209 cM_0.1 cM_0.2 (Or.inr ⟨_, rfl⟩) rM_0_29 ?_
            refine v_iload_n (pc := 476) d_Md_readStatement_476 rfl (.tail _ (.head _)) ?_
            refine v_iconst (pc := 477) d_Md_readStatement_477 (by decide) ?_
            refine v_iast (pc := 478) d_Md_readStatement_478 cM_24.1 cM_24.2 (aM_24 _) h.1 ?_
            replace h := h.2
            refine v_aload_n (pc := 479) d_Md_readStatement_479 rfl (.tail _ (.tail _ (.head _))) ?_
            refine v_ldcs (pc := 480) (n := 25) (tx := "else") d_Md_readStatement_480 (by decide +kernel) ?_
            refine v_callV (pc := 482) (J' := jMd_is) (d' := d) (o := 0) (ci := 13) (N := 93) (T := cT13) (As := [vA 1026]) d_Md_readStatement_482 ml_Md_374 cM_0.1 cM_0.2 (by decide) rfl rfl (Nat.le_of_ble_eq_true rfl) (Nat.le_refl _) rfl (Cal.weak h (fun o w26 h => ?_))
            rcases rIt_of h with ⟨x27, rfl, h⟩ | ⟨b, rfl, h⟩
            rotate_left
            · exact h
            refine v_ifeq (pc := 485) (tgt := 630) d_Md_readStatement_485 (by decide) (fun c => ?_) (fun c => ?_)
            · replace h := h.1 c
              exact v_sub (List.forall_mem_cons.mpr ⟨(.tail _ (.head _)), (fun _ z => absurd z List.not_mem_nil)⟩) h
            · replace h := h.2 c
              refine v_aload_n (pc := 488) d_Md_readStatement_488 rfl (.tail _ (.tail _ (.head _))) ?_
              refine v_callV (pc := 489) (J' := jMd_pass) (d' := d) (o := 0) (ci := 13) (N := 93) (T := cT13) (As := []) d_Md_readStatement_489 ml_Md_378 cM_0.1 cM_0.2 (by decide) rfl rfl (Nat.le_of_ble_eq_true rfl) (Nat.le_refl _) rfl (Cal.weak h (fun o w28 h => ?_))
              rcases rIt_of h with ⟨x29, rfl, h⟩ | ⟨b, rfl, h⟩
              rotate_left
              · exact h
              refine v_istore_n (pc := 492) (ls' := [(2, vI x29), (1, vI (w 0 31)), (0, vA 0)]) d_Md_readStatement_492 rfl (by decide) rfl ?_
              refine v_aload_n (pc := 493) d_Md_readStatement_493 rfl (.tail _ (.tail _ (.head _))) ?_
              refine v_getr (C := "") (pc := 494) (r := 22) d_Md_readStatement_494 fl_Md_203 cM_0.1 cM_0.2 (Or.inr ⟨_, rfl⟩) rM_0_27 ?_
              refine v_iload_n (pc := 497) d_Md_readStatement_497 rfl (.tail _ (.head _)) ?_
              refine v_aload_n (pc := 498) d_Md_readStatement_498 rfl (.tail _ (.tail _ (.head _))) ?_
              refine v_callS (pc := 499) (J' := jMd_readBlock) (d' := d) (As := [vA 0]) d_Md_readStatement_499 ml_Md_439 rfl (Nat.le_of_ble_eq_true rfl) (Nat.le_refl _) rfl (Cal.weak h (fun o w30 h => ?_))
              rcases rIt_of h with ⟨x31, rfl, h⟩ | ⟨b, rfl, h⟩
              rotate_left
              · exact h
              refine v_iast (pc := 502) d_Md_readStatement_502 cM_22.1 cM_22.2 (aM_22 _) h.1 ?_
              replace h := h.2
              refine v_aload_n (pc := 503) d_Md_readStatement_503 rfl (.tail _ (.tail _ (.head _))) ?_
              refine v_getr (C := "") (pc := 504) (r := 24) d_Md_readStatement_504 fl_Md_209 cM_0.1 cM_0.2 (Or.inr ⟨_, rfl⟩) rM_0_29 ?_
              refine v_iload_n (pc := 507) d_Md_readStatement_507 rfl (.tail _ (.head _)) ?_
              refine v_iconst (pc := 508) d_Md_readStatement_508 (by decide) ?_
              refine v_iast (pc := 509) d_Md_readStatement_509 cM_24.1 cM_24.2 (aM_24 _) h.1 ?_
              replace h := h.2
              refine v_goto (pc := 510) (tgt := 630) d_Md_readStatement_510 (by decide) ?_
              exact v_sub (List.forall_mem_cons.mpr ⟨(.tail _ (.head _)), (fun _ z => absurd z List.not_mem_nil)⟩) h
        · replace h := h.2 c
          refine v_aload_n (pc := 384) d_Md_readStatement_384 rfl (.tail _ (.tail _ (.head _))) ?_
          refine v_getr (C := "") (pc := 385) (r := 17) d_Md_readStatement_385 fl_Md_188 cM_0.1 cM_0.2 (Or.inr ⟨_, rfl⟩) rM_0_22 ?_
          refine v_iload_n (pc := 388) d_Md_readStatement_388 rfl (.tail _ (.head _)) ?_
          refine v_iconst (pc := 389) d_Md_readStatement_389 (by decide) ?_
          refine v_iast (pc := 390) d_Md_readStatement_390 cM_17.1 cM_17.2 (aM_17 _) h.1 ?_
          replace h := h.2
          refine v_aload_n (pc := 391) d_Md_readStatement_391 rfl (.tail _ (.tail _ (.head _))) ?_
          refine v_callV (pc := 392) (J' := jMd_pass) (d' := d) (o := 0) (ci := 13) (N := 93) (T := cT13) (As := []) d_Md_readStatement_392 ml_Md_378 cM_0.1 cM_0.2 (by decide) rfl rfl (Nat.le_of_ble_eq_true rfl) (Nat.le_refl _) rfl (Cal.weak h (fun o w32 h => ?_))
          rcases rIt_of h with ⟨x33, rfl, h⟩ | ⟨b, rfl, h⟩
          rotate_left
          · exact h
          refine v_istore_n (pc := 395) (ls' := [(2, vI x33), (1, vI (w 0 31)), (0, vA 0)]) d_Md_readStatement_395 rfl (by decide) rfl ?_
          refine v_aload_n (pc := 396) d_Md_readStatement_396 rfl (.tail _ (.tail _ (.head _))) ?_
          refine v_callV (pc := 397) (J' := jMd_mustName) (d' := d) (o := 0) (ci := 13) (N := 93) (T := cT13) (As := []) d_Md_readStatement_397 ml_Md_424 cM_0.1 cM_0.2 (by decide) rfl rfl (Nat.le_of_ble_eq_true rfl) (Nat.le_refl _) rfl (Cal.weak h (fun o w34 h => ?_))
          rcases rIt_of h with ⟨x35, rfl, h⟩ | ⟨b, rfl, h⟩
          rotate_left
          · exact h
          refine v_istore_n (pc := 400) (ls' := [(2, vI x35), (1, vI (w 0 31)), (0, vA 0)]) d_Md_readStatement_400 rfl (by decide) rfl ?_
          refine v_aload_n (pc := 401) d_Md_readStatement_401 rfl (.tail _ (.tail _ (.head _))) ?_
          refine v_getr (C := "") (pc := 402) (r := 19) d_Md_readStatement_402 fl_Md_194 cM_0.1 cM_0.2 (Or.inr ⟨_, rfl⟩) rM_0_24 ?_
          refine v_iload_n (pc := 405) d_Md_readStatement_405 rfl (.tail _ (.head _)) ?_
          refine v_aload_n (pc := 406) d_Md_readStatement_406 rfl (.tail _ (.tail _ (.head _))) ?_
          refine v_callV (pc := 407) (J' := jMd_pass) (d' := d) (o := 0) (ci := 13) (N := 93) (T := cT13) (As := []) d_Md_readStatement_407 ml_Md_378 cM_0.1 cM_0.2 (by decide) rfl rfl (Nat.le_of_ble_eq_true rfl) (Nat.le_refl _) rfl (Cal.weak h (fun o w36 h => ?_))
          rcases rIt_of h with ⟨x37, rfl, h⟩ | ⟨b, rfl, h⟩
          rotate_left
          · exact h
          refine v_iast (pc := 410) d_Md_readStatement_410 cM_19.1 cM_19.2 (aM_19 _) h.1 ?_
          replace h := h.2
          refine v_aload_n (pc := 411) d_Md_readStatement_411 rfl (.tail _ (.tail _ (.head _))) ?_
          refine v_getr (C := "") (pc := 412) (r := 20) d_Md_readStatement_412 fl_Md_197 cM_0.1 cM_0.2 (Or.inr ⟨_, rfl⟩) rM_0_25 ?_
          refine v_iload_n (pc := 415) d_Md_readStatement_415 rfl (.tail _ (.head _)) ?_
          refine v_aload_n (pc := 416) d_Md_readStatement_416 rfl (.tail _ (.tail _ (.head _))) ?_
          refine v_callS (pc := 417) (J' := jMd_readExp) (d' := d) (As := [vA 0]) d_Md_readStatement_417 ml_Md_417 rfl (Nat.le_of_ble_eq_true rfl) (Nat.le_refl _) rfl (Cal.weak h (fun o w38 h => ?_))
          rcases rIt_of h with ⟨x39, rfl, h⟩ | ⟨b, rfl, h⟩
          rotate_left
          · exact h
          refine v_iast (pc := 420) d_Md_readStatement_420 cM_20.1 cM_20.2 (aM_20 _) h.1 ?_
          replace h := h.2
          refine v_aload_n (pc := 421) d_Md_readStatement_421 rfl (.tail _ (.tail _ (.head _))) ?_
          refine v_ldcs (pc := 422) (n := 42) (tx := ";") d_Md_readStatement_422 (by decide +kernel) ?_
          refine v_callV (pc := 424) (J' := jMd_must) (d' := d) (o := 0) (ci := 13) (N := 93) (T := cT13) (As := [vA 1043]) d_Md_readStatement_424 ml_Md_420 cM_0.1 cM_0.2 (by decide) rfl rfl (Nat.le_of_ble_eq_true rfl) (Nat.le_refl _) rfl (Cal.weak h (fun o w40 h => ?_))
          rcases rIt_of h with ⟨x41, rfl, h⟩ | ⟨b, rfl, h⟩
          rotate_left
          · exact h
          refine v_istore_n (pc := 427) (ls' := [(2, vI x41), (1, vI (w 0 31)), (0, vA 0)]) d_Md_readStatement_427 rfl (by decide) rfl ?_
          refine v_goto (pc := 428) (tgt := 630) d_Md_readStatement_428 (by decide) ?_
          exact v_sub (List.forall_mem_cons.mpr ⟨(.tail _ (.head _)), (fun _ z => absurd z List.not_mem_nil)⟩) h
      · replace h := h.2 c
        refine v_aload_n (pc := 280) d_Md_readStatement_280 rfl (.tail _ (.tail _ (.head _))) ?_
        refine v_getr (C := "") (pc := 281) (r := 17) d_Md_readStatement_281 fl_Md_188 cM_0.1 cM_0.2 (Or.inr ⟨_, rfl⟩) rM_0_22 ?_
        refine v_iload_n (pc := 284) d_Md_readStatement_284 rfl (.tail _ (.head _)) ?_
        refine v_iconst (pc := 285) d_Md_readStatement_285 (by decide) ?_
        refine v_iast (pc := 286) d_Md_readStatement_286 cM_17.1 cM_17.2 (aM_17 _) h.1 ?_
        replace h := h.2
        refine v_aload_n (pc := 287) d_Md_readStatement_287 rfl (.tail _ (.tail _ (.head _))) ?_
        refine v_callV (pc := 288) (J' := jMd_pass) (d' := d) (o := 0) (ci := 13) (N := 93) (T := cT13) (As := []) d_Md_readStatement_288 ml_Md_378 cM_0.1 cM_0.2 (by decide) rfl rfl (Nat.le_of_ble_eq_true rfl) (Nat.le_refl _) rfl (Cal.weak h (fun o w42 h => ?_))
        rcases rIt_of h with ⟨x43, rfl, h⟩ | ⟨b, rfl, h⟩
        rotate_left
        · exact h
        refine v_istore_n (pc := 291) (ls' := [(2, vI x43), (1, vI (w 0 31)), (0, vA 0)]) d_Md_readStatement_291 rfl (by decide) rfl ?_
        refine v_aload_n (pc := 292) d_Md_readStatement_292 rfl (.tail _ (.tail _ (.head _))) ?_
        refine v_callV (pc := 293) (J' := jMd_mustName) (d' := d) (o := 0) (ci := 13) (N := 93) (T := cT13) (As := []) d_Md_readStatement_293 ml_Md_424 cM_0.1 cM_0.2 (by decide) rfl rfl (Nat.le_of_ble_eq_true rfl) (Nat.le_refl _) rfl (Cal.weak h (fun o w44 h => ?_))
        rcases rIt_of h with ⟨x45, rfl, h⟩ | ⟨b, rfl, h⟩
        rotate_left
        · exact h
        refine v_istore_n (pc := 296) (ls' := [(2, vI x45), (1, vI (w 0 31)), (0, vA 0)]) d_Md_readStatement_296 rfl (by decide) rfl ?_
        refine v_aload_n (pc := 297) d_Md_readStatement_297 rfl (.tail _ (.tail _ (.head _))) ?_
        refine v_getr (C := "") (pc := 298) (r := 19) d_Md_readStatement_298 fl_Md_194 cM_0.1 cM_0.2 (Or.inr ⟨_, rfl⟩) rM_0_24 ?_
        refine v_iload_n (pc := 301) d_Md_readStatement_301 rfl (.tail _ (.head _)) ?_
        refine v_aload_n (pc := 302) d_Md_readStatement_302 rfl (.tail _ (.tail _ (.head _))) ?_
        refine v_callV (pc := 303) (J' := jMd_pass) (d' := d) (o := 0) (ci := 13) (N := 93) (T := cT13) (As := []) d_Md_readStatement_303 ml_Md_378 cM_0.1 cM_0.2 (by decide) rfl rfl (Nat.le_of_ble_eq_true rfl) (Nat.le_refl _) rfl (Cal.weak h (fun o w46 h => ?_))
        rcases rIt_of h with ⟨x47, rfl, h⟩ | ⟨b, rfl, h⟩
        rotate_left
        · exact h
        refine v_iast (pc := 306) d_Md_readStatement_306 cM_19.1 cM_19.2 (aM_19 _) h.1 ?_
        replace h := h.2
        refine v_aload_n (pc := 307) d_Md_readStatement_307 rfl (.tail _ (.tail _ (.head _))) ?_
        refine v_getr (C := "") (pc := 308) (r := 20) d_Md_readStatement_308 fl_Md_197 cM_0.1 cM_0.2 (Or.inr ⟨_, rfl⟩) rM_0_25 ?_
        refine v_iload_n (pc := 311) d_Md_readStatement_311 rfl (.tail _ (.head _)) ?_
        refine v_aload_n (pc := 312) d_Md_readStatement_312 rfl (.tail _ (.tail _ (.head _))) ?_
        refine v_callS (pc := 313) (J' := jMd_readExp) (d' := d) (As := [vA 0]) d_Md_readStatement_313 ml_Md_417 rfl (Nat.le_of_ble_eq_true rfl) (Nat.le_refl _) rfl (Cal.weak h (fun o w48 h => ?_))
        rcases rIt_of h with ⟨x49, rfl, h⟩ | ⟨b, rfl, h⟩
        rotate_left
        · exact h
        refine v_iast (pc := 316) d_Md_readStatement_316 cM_20.1 cM_20.2 (aM_20 _) h.1 ?_
        replace h := h.2
        refine v_aload_n (pc := 317) d_Md_readStatement_317 rfl (.tail _ (.tail _ (.head _))) ?_
        refine v_ldcs (pc := 318) (n := 21) (tx := "along") d_Md_readStatement_318 (by decide +kernel) ?_
        refine v_callV (pc := 320) (J' := jMd_is) (d' := d) (o := 0) (ci := 13) (N := 93) (T := cT13) (As := [vA 1022]) d_Md_readStatement_320 ml_Md_374 cM_0.1 cM_0.2 (by decide) rfl rfl (Nat.le_of_ble_eq_true rfl) (Nat.le_refl _) rfl (Cal.weak h (fun o w50 h => ?_))
        rcases rIt_of h with ⟨x51, rfl, h⟩ | ⟨b, rfl, h⟩
        rotate_left
        · exact h
        refine v_ifne (pc := 323) (tgt := 348) d_Md_readStatement_323 (by decide) (fun c => ?_) (fun c => ?_)
        · replace h := h.1 c
          exact v_sub (List.forall_mem_cons.mpr ⟨(.tail _ (.tail _ (.head _))), (List.forall_mem_cons.mpr ⟨(.tail _ (.head _)), (fun _ z => absurd z List.not_mem_nil)⟩)⟩) h
        · replace h := h.2 c
          refine v_aload_n (pc := 326) d_Md_readStatement_326 rfl (.tail _ (.tail _ (.head _))) ?_
          refine v_ldcs (pc := 327) (n := 22) (tx := "against") d_Md_readStatement_327 (by decide +kernel) ?_
          refine v_callV (pc := 329) (J' := jMd_is) (d' := d) (o := 0) (ci := 13) (N := 93) (T := cT13) (As := [vA 1023]) d_Md_readStatement_329 ml_Md_374 cM_0.1 cM_0.2 (by decide) rfl rfl (Nat.le_of_ble_eq_true rfl) (Nat.le_refl _) rfl (Cal.weak h (fun o w52 h => ?_))
          rcases rIt_of h with ⟨x53, rfl, h⟩ | ⟨b, rfl, h⟩
          rotate_left
          · exact h
          refine v_ifne (pc := 332) (tgt := 348) d_Md_readStatement_332 (by decide) (fun c => ?_) (fun c => ?_)
          · replace h := h.1 c
            exact v_sub (List.forall_mem_cons.mpr ⟨(.tail _ (.tail _ (.head _))), (List.forall_mem_cons.mpr ⟨(.tail _ (.head _)), (fun _ z => absurd z List.not_mem_nil)⟩)⟩) h
          · replace h := h.2 c
            refine v_aload_n (pc := 335) d_Md_readStatement_335 rfl (.tail _ (.tail _ (.head _))) ?_
            refine v_iconst (pc := 336) d_Md_readStatement_336 (by decide) ?_
            refine v_aload_n (pc := 337) d_Md_readStatement_337 rfl (.tail _ (.tail _ (.head _))) ?_
            refine v_aload_n (pc := 338) d_Md_readStatement_338 rfl (.tail _ (.tail _ (.head _))) ?_
            refine v_geti (pc := 339) (x := (w52 0 11)) d_Md_readStatement_339 fl_Md_363 cM_0.1 cM_0.2 (Or.inl rfl) rfl ?_
            refine v_callV (pc := 342) (J' := jMd_placeOf) (d' := d) (o := 0) (ci := 13) (N := 93) (T := cT13) (As := [vI (w52 0 11)]) d_Md_readStatement_342 ml_Md_366 cM_0.1 cM_0.2 (by decide) rfl rfl (Nat.le_of_ble_eq_true rfl) (Nat.le_refl _) rfl (Cal.weak h (fun o w54 h => ?_))
            rcases rIt_of h with ⟨x55, rfl, h⟩ | ⟨b, rfl, h⟩
            rotate_left
            · exact h
            refine v_callV (pc := 345) (J' := jMd_fail) (d' := d) (o := 0) (ci := 13) (N := 93) (T := cT13) (As := [vI 1, vI x55]) d_Md_readStatement_345 ml_Md_370 cM_0.1 cM_0.2 (by decide) rfl rfl (Nat.le_of_ble_eq_true rfl) (Nat.le_refl _) rfl (Cal.weak h (fun o w56 h => ?_))
            rcases rVt_of h with ⟨rfl, h⟩ | ⟨b, rfl, h⟩
            rotate_left
            · exact h
            exact v_sub (List.forall_mem_cons.mpr ⟨(.tail _ (.tail _ (.head _))), (List.forall_mem_cons.mpr ⟨(.tail _ (.head _)), (fun _ z => absurd z List.not_mem_nil)⟩)⟩) h
    · replace h := h.2 c
      refine v_aload_n (pc := 185) d_Md_readStatement_185 rfl (.tail _ (.tail _ (.head _))) ?_
      refine v_getr (C := "") (pc := 186) (r := 17) d_Md_readStatement_186 fl_Md_188 cM_0.1 cM_0.2 (Or.inr ⟨_, rfl⟩) rM_0_22 ?_
      refine v_iload_n (pc := 189) d_Md_readStatement_189 rfl (.tail _ (.head _)) ?_
      refine v_iconst (pc := 190) d_Md_readStatement_190 (by decide) ?_
      refine v_iast (pc := 191) d_Md_readStatement_191 cM_17.1 cM_17.2 (aM_17 _) h.1 ?_
      replace h := h.2
      refine v_aload_n (pc := 192) d_Md_readStatement_192 rfl (.tail _ (.tail _ (.head _))) ?_
      refine v_callV (pc := 193) (J' := jMd_pass) (d' := d) (o := 0) (ci := 13) (N := 93) (T := cT13) (As := []) d_Md_readStatement_193 ml_Md_378 cM_0.1 cM_0.2 (by decide) rfl rfl (Nat.le_of_ble_eq_true rfl) (Nat.le_refl _) rfl (Cal.weak h (fun o w57 h => ?_))
      rcases rIt_of h with ⟨x58, rfl, h⟩ | ⟨b, rfl, h⟩
      rotate_left
      · exact h
      refine v_istore_n (pc := 196) (ls' := [(2, vI x58), (1, vI (w 0 31)), (0, vA 0)]) d_Md_readStatement_196 rfl (by decide) rfl ?_
      refine v_aload_n (pc := 197) d_Md_readStatement_197 rfl (.tail _ (.tail _ (.head _))) ?_
      refine v_callV (pc := 198) (J' := jMd_mustName) (d' := d) (o := 0) (ci := 13) (N := 93) (T := cT13) (As := []) d_Md_readStatement_198 ml_Md_424 cM_0.1 cM_0.2 (by decide) rfl rfl (Nat.le_of_ble_eq_true rfl) (Nat.le_refl _) rfl (Cal.weak h (fun o w59 h => ?_))
      rcases rIt_of h with ⟨x60, rfl, h⟩ | ⟨b, rfl, h⟩
      rotate_left
      · exact h
      refine v_istore_n (pc := 201) (ls' := [(2, vI x60), (1, vI (w 0 31)), (0, vA 0)]) d_Md_readStatement_201 rfl (by decide) rfl ?_
      refine v_aload_n (pc := 202) d_Md_readStatement_202 rfl (.tail _ (.tail _ (.head _))) ?_
      refine v_geti (pc := 203) (x := (w59 0 45)) d_Md_readStatement_203 fl_Md_427 cM_0.1 cM_0.2 (Or.inl rfl) rfl ?_
      refine v_bipush (pc := 206) d_Md_readStatement_206 (by decide) rfl ?_
      refine v_icmpne (pc := 208) (tgt := 224) d_Md_readStatement_208 (by decide) (fun c => ?_) (fun c => ?_)
      · replace h := h.1 c
        exact v_sub (List.forall_mem_cons.mpr ⟨(.tail _ (.tail _ (.head _))), (List.forall_mem_cons.mpr ⟨(.tail _ (.head _)), (fun _ z => absurd z List.not_mem_nil)⟩)⟩) h
      · replace h := h.2 c
        refine v_aload_n (pc := 211) d_Md_readStatement_211 rfl (.tail _ (.tail _ (.head _))) ?_
        refine v_iconst (pc := 212) d_Md_readStatement_212 (by decide) ?_
        refine v_aload_n (pc := 213) d_Md_readStatement_213 rfl (.tail _ (.tail _ (.head _))) ?_
        refine v_aload_n (pc := 214) d_Md_readStatement_214 rfl (.tail _ (.tail _ (.head _))) ?_
        refine v_geti (pc := 215) (x := (w59 0 11)) d_Md_readStatement_215 fl_Md_363 cM_0.1 cM_0.2 (Or.inl rfl) rfl ?_
        refine v_callV (pc := 218) (J' := jMd_placeOf) (d' := d) (o := 0) (ci := 13) (N := 93) (T := cT13) (As := [vI (w59 0 11)]) d_Md_readStatement_218 ml_Md_366 cM_0.1 cM_0.2 (by decide) rfl rfl (Nat.le_of_ble_eq_true rfl) (Nat.le_refl _) rfl (Cal.weak h (fun o w61 h => ?_))
        rcases rIt_of h with ⟨x62, rfl, h⟩ | ⟨b, rfl, h⟩
        rotate_left
        · exact h
        refine v_callV (pc := 221) (J' := jMd_fail) (d' := d) (o := 0) (ci := 13) (N := 93) (T := cT13) (As := [vI 2, vI x62]) d_Md_readStatement_221 ml_Md_370 cM_0.1 cM_0.2 (by decide) rfl rfl (Nat.le_of_ble_eq_true rfl) (Nat.le_refl _) rfl (Cal.weak h (fun o w63 h => ?_))
        rcases rVt_of h with ⟨rfl, h⟩ | ⟨b, rfl, h⟩
        rotate_left
        · exact h
        exact v_sub (List.forall_mem_cons.mpr ⟨(.tail _ (.tail _ (.head _))), (List.forall_mem_cons.mpr ⟨(.tail _ (.head _)), (fun _ z => absurd z List.not_mem_nil)⟩)⟩) h
  · replace h := h.2 c
    refine v_aload_n (pc := 132) d_Md_readStatement_132 rfl (.tail _ (.tail _ (.head _))) ?_
    refine v_getr (C := "") (pc := 133) (r := 17) d_Md_readStatement_133 fl_Md_188 cM_0.1 cM_0.2 (Or.inr ⟨_, rfl⟩) rM_0_22 ?_
    refine v_iload_n (pc := 136) d_Md_readStatement_136 rfl (.tail _ (.head _)) ?_
    refine v_iconst (pc := 137) d_Md_readStatement_137 (by decide) ?_
    refine v_iast (pc := 138) d_Md_readStatement_138 cM_17.1 cM_17.2 (aM_17 _) h.1 ?_
    replace h := h.2
    refine v_aload_n (pc := 139) d_Md_readStatement_139 rfl (.tail _ (.tail _ (.head _))) ?_
    refine v_getr (C := "") (pc := 140) (r := 19) d_Md_readStatement_140 fl_Md_194 cM_0.1 cM_0.2 (Or.inr ⟨_, rfl⟩) rM_0_24 ?_
    refine v_iload_n (pc := 143) d_Md_readStatement_143 rfl (.tail _ (.head _)) ?_
    refine v_aload_n (pc := 144) d_Md_readStatement_144 rfl (.tail _ (.tail _ (.head _))) ?_
    refine v_callV (pc := 145) (J' := jMd_pass) (d' := d) (o := 0) (ci := 13) (N := 93) (T := cT13) (As := []) d_Md_readStatement_145 ml_Md_378 cM_0.1 cM_0.2 (by decide) rfl rfl (Nat.le_of_ble_eq_true rfl) (Nat.le_refl _) rfl (Cal.weak h (fun o w64 h => ?_))
    rcases rIt_of h with ⟨x65, rfl, h⟩ | ⟨b, rfl, h⟩
    rotate_left
    · exact h
    refine v_iast (pc := 148) d_Md_readStatement_148 cM_19.1 cM_19.2 (aM_19 _) h.1 ?_
    replace h := h.2
    refine v_aload_n (pc := 149) d_Md_readStatement_149 rfl (.tail _ (.tail _ (.head _))) ?_
    refine v_ldcs (pc := 150) (n := 50) (tx := "=") d_Md_readStatement_150 (by decide +kernel) ?_
    refine v_callV (pc := 152) (J' := jMd_must) (d' := d) (o := 0) (ci := 13) (N := 93) (T := cT13) (As := [vA 1051]) d_Md_readStatement_152 ml_Md_420 cM_0.1 cM_0.2 (by decide) rfl rfl (Nat.le_of_ble_eq_true rfl) (Nat.le_refl _) rfl (Cal.weak h (fun o w66 h => ?_))
    rcases rIt_of h with ⟨x67, rfl, h⟩ | ⟨b, rfl, h⟩
    rotate_left
    · exact h
    refine v_istore_n (pc := 155) (ls' := [(2, vI x67), (1, vI (w 0 31)), (0, vA 0)]) d_Md_readStatement_155 rfl (by decide) rfl ?_
    refine v_aload_n (pc := 156) d_Md_readStatement_156 rfl (.tail _ (.tail _ (.head _))) ?_
    refine v_getr (C := "") (pc := 157) (r := 20) d_Md_readStatement_157 fl_Md_197 cM_0.1 cM_0.2 (Or.inr ⟨_, rfl⟩) rM_0_25 ?_
    refine v_iload_n (pc := 160) d_Md_readStatement_160 rfl (.tail _ (.head _)) ?_
    refine v_aload_n (pc := 161) d_Md_readStatement_161 rfl (.tail _ (.tail _ (.head _))) ?_
    refine v_callS (pc := 162) (J' := jMd_readExp) (d' := d) (As := [vA 0]) d_Md_readStatement_162 ml_Md_417 rfl (Nat.le_of_ble_eq_true rfl) (Nat.le_refl _) rfl (Cal.weak h (fun o w68 h => ?_))
    rcases rIt_of h with ⟨x69, rfl, h⟩ | ⟨b, rfl, h⟩
    rotate_left
    · exact h
    refine v_iast (pc := 165) d_Md_readStatement_165 cM_20.1 cM_20.2 (aM_20 _) h.1 ?_
    replace h := h.2
    refine v_aload_n (pc := 166) d_Md_readStatement_166 rfl (.tail _ (.tail _ (.head _))) ?_
    refine v_ldcs (pc := 167) (n := 42) (tx := ";") d_Md_readStatement_167 (by decide +kernel) ?_
    refine v_callV (pc := 169) (J' := jMd_must) (d' := d) (o := 0) (ci := 13) (N := 93) (T := cT13) (As := [vA 1043]) d_Md_readStatement_169 ml_Md_420 cM_0.1 cM_0.2 (by decide) rfl rfl (Nat.le_of_ble_eq_true rfl) (Nat.le_refl _) rfl (Cal.weak h (fun o w70 h => ?_))
    rcases rIt_of h with ⟨x71, rfl, h⟩ | ⟨b, rfl, h⟩
    rotate_left
    · exact h
    refine v_istore_n (pc := 172) (ls' := [(2, vI x71), (1, vI (w 0 31)), (0, vA 0)]) d_Md_readStatement_172 rfl (by decide) rfl ?_
    refine v_goto (pc := 173) (tgt := 630) d_Md_readStatement_173 (by decide) ?_
    exact v_sub (List.forall_mem_cons.mpr ⟨(.tail _ (.head _)), (fun _ z => absurd z List.not_mem_nil)⟩) h
set_option maxHeartbeats 4000000 in
theorem s_Md_readStatement_630 {g : Mg} {d : Nat} {K : Ou → Wd → Prop} {w : Wd} {x1_ : Int} (h : K (.inl (some (vI x1_))) w) : V g LM jMd_readStatement (d + 1) K 630 [(1, vI x1_)] [] w := by
  refine v_iload_n (pc := 630) d_Md_readStatement_630 rfl (.head _) ?_
  exact v_iret (pc := 631) d_Md_readStatement_631 rfl h
set_option maxHeartbeats 4000000 in
theorem s_Md_readStatement_560 {g : Mg} {d : Nat} {K : Ou → Wd → Prop} {w : Wd} {x1_ : Int} (h : (0 ≤ (w 0 11) ∧ (w 0 11) < 4022) ∧ (((w 7 ((w 0 11).toNat)) ≤ 100 → (V g LM jMd_readStatement (d + 1) K 587 [(0, vA 0), (1, vI x1_)] [] w)) ∧ (¬ (w 7 ((w 0 11).toNat)) ≤ 100 → (Cal g LM jMd_placeOf d [vA 0, vI (w 0 11)] w (fun o w1 => rIt o (fun b => K (.inr b) w1) (fun x2 => Cal g LM jMd_fail d [vA 0, vI 2, vI x2] w1 (fun o w3 => rVt o (fun b => K (.inr b) w3) (V g LM jMd_readStatement (d + 1) K 587 [(0, vA 0), (1, vI x1_)] [] w3)))))))) : V g LM jMd_readStatement (d + 1) K 560 [(0, vA 0), (1, vI x1_)] [] w := by
  refine v_aload_n (pc := 560) d_Md_readStatement_560 rfl (.head _) ?_
  refine v_getr (C := "") (pc := 561) (r := 7) d_Md_readStatement_561 fl_Md_43 cM_0.1 cM_0.2 (Or.inr ⟨_, rfl⟩) rM_0_9 ?_
  refine v_aload_n (pc := 564) d_Md_readStatement_564 rfl (.head _) ?_
  refine v_geti (pc := 565) (x := (w 0 11)) d_Md_readStatement_565 fl_Md_363 cM_0.1 cM_0.2 (Or.inl rfl) rfl ?_
  refine v_iald (pc := 568) (x := (w 7 ((w 0 11).toNat))) d_Md_readStatement_568 cM_7.1 cM_7.2 rfl h.1 ?_
  replace h := h.2
  refine v_bipush (pc := 569) d_Md_readStatement_569 (by decide) rfl ?_
  refine v_icmple (pc := 571) (tgt := 587) d_Md_readStatement_571 (by decide) (fun c => ?_) (fun c => ?_)
  · replace h := h.1 c
    exact v_sub (List.forall_mem_cons.mpr ⟨(.head _), (List.forall_mem_cons.mpr ⟨(.tail _ (.head _)), (fun _ z => absurd z List.not_mem_nil)⟩)⟩) h
  · replace h := h.2 c
    refine v_aload_n (pc := 574) d_Md_readStatement_574 rfl (.head _) ?_
    refine v_iconst (pc := 575) d_Md_readStatement_575 (by decide) ?_
    refine v_aload_n (pc := 576) d_Md_readStatement_576 rfl (.head _) ?_
    refine v_aload_n (pc := 577) d_Md_readStatement_577 rfl (.head _) ?_
    refine v_geti (pc := 578) (x := (w 0 11)) d_Md_readStatement_578 fl_Md_363 cM_0.1 cM_0.2 (Or.inl rfl) rfl ?_
    refine v_callV (pc := 581) (J' := jMd_placeOf) (d' := d) (o := 0) (ci := 13) (N := 93) (T := cT13) (As := [vI (w 0 11)]) d_Md_readStatement_581 ml_Md_366 cM_0.1 cM_0.2 (by decide) rfl rfl (Nat.le_of_ble_eq_true rfl) (Nat.le_refl _) rfl (Cal.weak h (fun o w1 h => ?_))
    rcases rIt_of h with ⟨x2, rfl, h⟩ | ⟨b, rfl, h⟩
    rotate_left
    · exact h
    refine v_callV (pc := 584) (J' := jMd_fail) (d' := d) (o := 0) (ci := 13) (N := 93) (T := cT13) (As := [vI 2, vI x2]) d_Md_readStatement_584 ml_Md_370 cM_0.1 cM_0.2 (by decide) rfl rfl (Nat.le_of_ble_eq_true rfl) (Nat.le_refl _) rfl (Cal.weak h (fun o w3 h => ?_))
    rcases rVt_of h with ⟨rfl, h⟩ | ⟨b, rfl, h⟩
    rotate_left
    · exact h
    exact v_sub (List.forall_mem_cons.mpr ⟨(.head _), (List.forall_mem_cons.mpr ⟨(.tail _ (.head _)), (fun _ z => absurd z List.not_mem_nil)⟩)⟩) h
set_option maxHeartbeats 4000000 in
theorem s_Md_readStatement_348 {g : Mg} {d : Nat} {K : Ou → Wd → Prop} {w : Wd} {x1_ : Int} (h : Cal g LM jMd_is d [vA 0, vA 1022] w (fun o w1 => rIt o (fun b => K (.inr b) w1) (fun x2 => (x2 = 0 ∨ x2 = 1) ∧ (0 ≤ x1_ ∧ x1_ < 130) ∧ (Cal g LM jMd_pass d [vA 0] (up w1 25 (x1_.toNat) x2) (fun o w3 => rIt o (fun b => K (.inr b) w3) (fun x4 => Cal g LM jMd_must d [vA 0, vA 1043] w3 (fun o w5 => rIt o (fun b => K (.inr b) w5) (fun x6 => V g LM jMd_readStatement (d + 1) K 630 [(1, vI x1_)] [] w5)))))))) : V g LM jMd_readStatement (d + 1) K 348 [(0, vA 0), (1, vI x1_)] [] w := by
  refine v_aload_n (pc := 348) d_Md_readStatement_348 rfl (.head _) ?_
  refine v_getr (C := "") (pc := 349) (r := 25) d_Md_readStatement_349 fl_Md_212 cM_0.1 cM_0.2 (Or.inr ⟨_, rfl⟩) rM_0_30 ?_
  refine v_iload_n (pc := 352) d_Md_readStatement_352 rfl (.tail _ (.head _)) ?_
  refine v_aload_n (pc := 353) d_Md_readStatement_353 rfl (.head _) ?_
  refine v_ldcs (pc := 354) (n := 21) (tx := "along") d_Md_readStatement_354 (by decide +kernel) ?_
  refine v_callV (pc := 356) (J' := jMd_is) (d' := d) (o := 0) (ci := 13) (N := 93) (T := cT13) (As := [vA 1022]) d_Md_readStatement_356 ml_Md_374 cM_0.1 cM_0.2 (by decide) rfl rfl (Nat.le_of_ble_eq_true rfl) (Nat.le_refl _) rfl (Cal.weak h (fun o w1 h => ?_))
  rcases rIt_of h with ⟨x2, rfl, h⟩ | ⟨b, rfl, h⟩
  rotate_left
  · exact h
  refine v_zast (pc := 359) d_Md_readStatement_359 cM_25.1 cM_25.2 (aM_25 _) h.1 h.2.1 ?_
  replace h := h.2.2
  refine v_aload_n (pc := 360) d_Md_readStatement_360 rfl (.head _) ?_
  refine v_callV (pc := 361) (J' := jMd_pass) (d' := d) (o := 0) (ci := 13) (N := 93) (T := cT13) (As := []) d_Md_readStatement_361 ml_Md_378 cM_0.1 cM_0.2 (by decide) rfl rfl (Nat.le_of_ble_eq_true rfl) (Nat.le_refl _) rfl (Cal.weak h (fun o w3 h => ?_))
  rcases rIt_of h with ⟨x4, rfl, h⟩ | ⟨b, rfl, h⟩
  rotate_left
  · exact h
  refine v_istore_n (pc := 364) (ls' := [(2, vI x4), (0, vA 0), (1, vI x1_)]) d_Md_readStatement_364 rfl (by decide) rfl ?_
  refine v_aload_n (pc := 365) d_Md_readStatement_365 rfl (.tail _ (.head _)) ?_
  refine v_ldcs (pc := 366) (n := 42) (tx := ";") d_Md_readStatement_366 (by decide +kernel) ?_
  refine v_callV (pc := 368) (J' := jMd_must) (d' := d) (o := 0) (ci := 13) (N := 93) (T := cT13) (As := [vA 1043]) d_Md_readStatement_368 ml_Md_420 cM_0.1 cM_0.2 (by decide) rfl rfl (Nat.le_of_ble_eq_true rfl) (Nat.le_refl _) rfl (Cal.weak h (fun o w5 h => ?_))
  rcases rIt_of h with ⟨x6, rfl, h⟩ | ⟨b, rfl, h⟩
  rotate_left
  · exact h
  refine v_istore_n (pc := 371) (ls' := [(2, vI x6), (0, vA 0), (1, vI x1_)]) d_Md_readStatement_371 rfl (by decide) rfl ?_
  refine v_goto (pc := 372) (tgt := 630) d_Md_readStatement_372 (by decide) ?_
  exact v_sub (List.forall_mem_cons.mpr ⟨(.tail _ (.tail _ (.head _))), (fun _ z => absurd z List.not_mem_nil)⟩) h
set_option maxHeartbeats 4000000 in
theorem s_Md_readStatement_224 {g : Mg} {d : Nat} {K : Ou → Wd → Prop} {w : Wd} {x1_ : Int} (h : Cal g LM jMd_pass d [vA 0] w (fun o w1 => rIt o (fun b => K (.inr b) w1) (fun x2 => (0 ≤ x1_ ∧ x1_ < 130) ∧ (Cal g LM jMd_must d [vA 0, vA 1051] (up w1 19 (x1_.toNat) x2) (fun o w3 => rIt o (fun b => K (.inr b) w3) (fun x4 => Cal g LM jMd_readExp d [vA 0] w3 (fun o w5 => rIt o (fun b => K (.inr b) w5) (fun x6 => (0 ≤ x1_ ∧ x1_ < 130) ∧ (Cal g LM jMd_must d [vA 0, vA 1043] (up w5 20 (x1_.toNat) x6) (fun o w7 => rIt o (fun b => K (.inr b) w7) (fun x8 => V g LM jMd_readStatement (d + 1) K 630 [(1, vI x1_)] [] (up w7 0 45 (wr ((w7 0 45) + 1)))))))))))))) : V g LM jMd_readStatement (d + 1) K 224 [(0, vA 0), (1, vI x1_)] [] w := by
  refine v_aload_n (pc := 224) d_Md_readStatement_224 rfl (.head _) ?_
  refine v_getr (C := "") (pc := 225) (r := 19) d_Md_readStatement_225 fl_Md_194 cM_0.1 cM_0.2 (Or.inr ⟨_, rfl⟩) rM_0_24 ?_
  refine v_iload_n (pc := 228) d_Md_readStatement_228 rfl (.tail _ (.head _)) ?_
  refine v_aload_n (pc := 229) d_Md_readStatement_229 rfl (.head _) ?_
  refine v_callV (pc := 230) (J' := jMd_pass) (d' := d) (o := 0) (ci := 13) (N := 93) (T := cT13) (As := []) d_Md_readStatement_230 ml_Md_378 cM_0.1 cM_0.2 (by decide) rfl rfl (Nat.le_of_ble_eq_true rfl) (Nat.le_refl _) rfl (Cal.weak h (fun o w1 h => ?_))
  rcases rIt_of h with ⟨x2, rfl, h⟩ | ⟨b, rfl, h⟩
  rotate_left
  · exact h
  refine v_iast (pc := 233) d_Md_readStatement_233 cM_19.1 cM_19.2 (aM_19 _) h.1 ?_
  replace h := h.2
  refine v_aload_n (pc := 234) d_Md_readStatement_234 rfl (.head _) ?_
  refine v_ldcs (pc := 235) (n := 50) (tx := "=") d_Md_readStatement_235 (by decide +kernel) ?_
  refine v_callV (pc := 237) (J' := jMd_must) (d' := d) (o := 0) (ci := 13) (N := 93) (T := cT13) (As := [vA 1051]) d_Md_readStatement_237 ml_Md_420 cM_0.1 cM_0.2 (by decide) rfl rfl (Nat.le_of_ble_eq_true rfl) (Nat.le_refl _) rfl (Cal.weak h (fun o w3 h => ?_))
  rcases rIt_of h with ⟨x4, rfl, h⟩ | ⟨b, rfl, h⟩
  rotate_left
  · exact h
  refine v_istore_n (pc := 240) (ls' := [(2, vI x4), (0, vA 0), (1, vI x1_)]) d_Md_readStatement_240 rfl (by decide) rfl ?_
  refine v_aload_n (pc := 241) d_Md_readStatement_241 rfl (.tail _ (.head _)) ?_
  refine v_getr (C := "") (pc := 242) (r := 20) d_Md_readStatement_242 fl_Md_197 cM_0.1 cM_0.2 (Or.inr ⟨_, rfl⟩) rM_0_25 ?_
  refine v_iload_n (pc := 245) d_Md_readStatement_245 rfl (.tail _ (.tail _ (.head _))) ?_
  refine v_aload_n (pc := 246) d_Md_readStatement_246 rfl (.tail _ (.head _)) ?_
  refine v_callS (pc := 247) (J' := jMd_readExp) (d' := d) (As := [vA 0]) d_Md_readStatement_247 ml_Md_417 rfl (Nat.le_of_ble_eq_true rfl) (Nat.le_refl _) rfl (Cal.weak h (fun o w5 h => ?_))
  rcases rIt_of h with ⟨x6, rfl, h⟩ | ⟨b, rfl, h⟩
  rotate_left
  · exact h
  refine v_iast (pc := 250) d_Md_readStatement_250 cM_20.1 cM_20.2 (aM_20 _) h.1 ?_
  replace h := h.2
  refine v_aload_n (pc := 251) d_Md_readStatement_251 rfl (.tail _ (.head _)) ?_
  refine v_ldcs (pc := 252) (n := 42) (tx := ";") d_Md_readStatement_252 (by decide +kernel) ?_
  refine v_callV (pc := 254) (J' := jMd_must) (d' := d) (o := 0) (ci := 13) (N := 93) (T := cT13) (As := [vA 1043]) d_Md_readStatement_254 ml_Md_420 cM_0.1 cM_0.2 (by decide) rfl rfl (Nat.le_of_ble_eq_true rfl) (Nat.le_refl _) rfl (Cal.weak h (fun o w7 h => ?_))
  rcases rIt_of h with ⟨x8, rfl, h⟩ | ⟨b, rfl, h⟩
  rotate_left
  · exact h
  refine v_istore_n (pc := 257) (ls' := [(2, vI x8), (0, vA 0), (1, vI x1_)]) d_Md_readStatement_257 rfl (by decide) rfl ?_
  refine v_aload_n (pc := 258) d_Md_readStatement_258 rfl (.tail _ (.head _)) ?_
  refine v_dup (pc := 259) d_Md_readStatement_259 rfl ?_
  refine v_geti (pc := 260) (x := (w7 0 45)) d_Md_readStatement_260 fl_Md_427 cM_0.1 cM_0.2 (Or.inl rfl) rfl ?_
  refine v_iconst (pc := 263) d_Md_readStatement_263 (by decide) ?_
  refine v_iadd (pc := 264) d_Md_readStatement_264 ?_
  refine v_puti (pc := 265) d_Md_readStatement_265 fp_Md_427 cM_0.1 cM_0.2 (by decide) rfl ?_
  refine v_goto (pc := 268) (tgt := 630) d_Md_readStatement_268 (by decide) ?_
  exact v_sub (List.forall_mem_cons.mpr ⟨(.tail _ (.tail _ (.head _))), (fun _ z => absurd z List.not_mem_nil)⟩) h
set_option maxHeartbeats 4000000 in
theorem s_Md_readStatement_587 {g : Mg} {d : Nat} {K : Ou → Wd → Prop} {w : Wd} {x1_ : Int} (h : Cal g LM jMd_pass d [vA 0] w (fun o w1 => rIt o (fun b => K (.inr b) w1) (fun x2 => (0 ≤ x1_ ∧ x1_ < 130) ∧ (Cal g LM jMd_readBlock d [vA 0] (up w1 19 (x1_.toNat) x2) (fun o w3 => rIt o (fun b => K (.inr b) w3) (fun x4 => (0 ≤ x1_ ∧ x1_ < 130) ∧ (V g LM jMd_readStatement (d + 1) K 630 [(1, vI x1_)] [] (up w3 21 (x1_.toNat) x4)))))))) : V g LM jMd_readStatement (d + 1) K 587 [(0, vA 0), (1, vI x1_)] [] w := by
  refine v_aload_n (pc := 587) d_Md_readStatement_587 rfl (.head _) ?_
  refine v_getr (C := "") (pc := 588) (r := 19) d_Md_readStatement_588 fl_Md_194 cM_0.1 cM_0.2 (Or.inr ⟨_, rfl⟩) rM_0_24 ?_
  refine v_iload_n (pc := 591) d_Md_readStatement_591 rfl (.tail _ (.head _)) ?_
  refine v_aload_n (pc := 592) d_Md_readStatement_592 rfl (.head _) ?_
  refine v_callV (pc := 593) (J' := jMd_pass) (d' := d) (o := 0) (ci := 13) (N := 93) (T := cT13) (As := []) d_Md_readStatement_593 ml_Md_378 cM_0.1 cM_0.2 (by decide) rfl rfl (Nat.le_of_ble_eq_true rfl) (Nat.le_refl _) rfl (Cal.weak h (fun o w1 h => ?_))
  rcases rIt_of h with ⟨x2, rfl, h⟩ | ⟨b, rfl, h⟩
  rotate_left
  · exact h
  refine v_iast (pc := 596) d_Md_readStatement_596 cM_19.1 cM_19.2 (aM_19 _) h.1 ?_
  replace h := h.2
  refine v_aload_n (pc := 597) d_Md_readStatement_597 rfl (.head _) ?_
  refine v_getr (C := "") (pc := 598) (r := 21) d_Md_readStatement_598 fl_Md_200 cM_0.1 cM_0.2 (Or.inr ⟨_, rfl⟩) rM_0_26 ?_
  refine v_iload_n (pc := 601) d_Md_readStatement_601 rfl (.tail _ (.head _)) ?_
  refine v_aload_n (pc := 602) d_Md_readStatement_602 rfl (.head _) ?_
  refine v_callS (pc := 603) (J' := jMd_readBlock) (d' := d) (As := [vA 0]) d_Md_readStatement_603 ml_Md_439 rfl (Nat.le_of_ble_eq_true rfl) (Nat.le_refl _) rfl (Cal.weak h (fun o w3 h => ?_))
  rcases rIt_of h with ⟨x4, rfl, h⟩ | ⟨b, rfl, h⟩
  rotate_left
  · exact h
  refine v_iast (pc := 606) d_Md_readStatement_606 cM_21.1 cM_21.2 (aM_21 _) h.1 ?_
  replace h := h.2
  refine v_goto (pc := 607) (tgt := 630) d_Md_readStatement_607 (by decide) ?_
  exact v_sub (List.forall_mem_cons.mpr ⟨(.tail _ (.head _)), (fun _ z => absurd z List.not_mem_nil)⟩) h
theorem d_Md_most_0 : decode jMd_most.cc 0 = .ok (.iload_n 0, 1) := by decide +kernel
theorem d_Md_most_1 : decode jMd_most.cc 1 = .ok (.iconst 1, 1) := by decide +kernel
theorem d_Md_most_2 : decode jMd_most.cc 2 = .ok (.if_icmp .ne 8, 3) := by decide +kernel
theorem d_Md_most_5 : decode jMd_most.cc 5 = .ok (.bipush 8, 2) := by decide +kernel
theorem d_Md_most_7 : decode jMd_most.cc 7 = .ok (.goto 4, 3) := by decide +kernel
theorem d_Md_most_10 : decode jMd_most.cc 10 = .ok (.iconst 4, 1) := by decide +kernel
theorem d_Md_most_11 : decode jMd_most.cc 11 = .ok (.ireturn, 1) := by decide +kernel
set_option maxHeartbeats 4000000 in
theorem s_Md_most {g : Mg} {d : Nat} {K : Ou → Wd → Prop} {w : Wd} {p0 : Int} (h : (¬ p0 = 1 → (K (.inl (some (vI 4))) w)) ∧ (p0 = 1 → (K (.inl (some (vI 8))) w))) : V g LM jMd_most d K 0 [(0, vI p0)] [] w := by
  refine v_iload_n (pc := 0) d_Md_most_0 rfl (.head _) ?_
  refine v_iconst (pc := 1) d_Md_most_1 (by decide) ?_
  refine v_icmpne (pc := 2) (tgt := 10) d_Md_most_2 (by decide) (fun c => ?_) (fun c => ?_)
  · replace h := h.1 c
    refine v_iconst (pc := 10) d_Md_most_10 (by decide) ?_
    exact v_iret (pc := 11) d_Md_most_11 rfl h
  · replace h := h.2 c
    refine v_bipush (pc := 5) d_Md_most_5 (by decide) rfl ?_
    refine v_goto (pc := 7) (tgt := 11) d_Md_most_7 (by decide) ?_
    exact v_iret (pc := 11) d_Md_most_11 rfl h
