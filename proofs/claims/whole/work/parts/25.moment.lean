theorem d_Mo_beginAs_0 : decode jMo_beginAs.cc 0 = .ok (.aload_n 0, 1) := by decide +kernel
theorem d_Mo_beginAs_1 : decode jMo_beginAs.cc 1 = .ok (.iconst 0, 1) := by decide +kernel
theorem d_Mo_beginAs_2 : decode jMo_beginAs.cc 2 = .ok (.putfield 33, 3) := by decide +kernel
theorem d_Mo_beginAs_5 : decode jMo_beginAs.cc 5 = .ok (.iconst 0, 1) := by decide +kernel
theorem d_Mo_beginAs_6 : decode jMo_beginAs.cc 6 = .ok (.istore_n 2, 1) := by decide +kernel
theorem d_Mo_beginAs_7 : decode jMo_beginAs.cc 7 = .ok (.iload_n 2, 1) := by decide +kernel
theorem d_Mo_beginAs_8 : decode jMo_beginAs.cc 8 = .ok (.bipush 40, 2) := by decide +kernel
theorem d_Mo_beginAs_10 : decode jMo_beginAs.cc 10 = .ok (.if_icmp .ge 34, 3) := by decide +kernel
theorem d_Mo_beginAs_13 : decode jMo_beginAs.cc 13 = .ok (.aload_n 1, 1) := by decide +kernel
theorem d_Mo_beginAs_14 : decode jMo_beginAs.cc 14 = .ok (.getfield 37, 3) := by decide +kernel
theorem d_Mo_beginAs_17 : decode jMo_beginAs.cc 17 = .ok (.iconst 0, 1) := by decide +kernel
theorem d_Mo_beginAs_18 : decode jMo_beginAs.cc 18 = .ok (.aload_n 0, 1) := by decide +kernel
theorem d_Mo_beginAs_19 : decode jMo_beginAs.cc 19 = .ok (.getfield 11, 3) := by decide +kernel
theorem d_Mo_beginAs_22 : decode jMo_beginAs.cc 22 = .ok (.iload_n 2, 1) := by decide +kernel
theorem d_Mo_beginAs_23 : decode jMo_beginAs.cc 23 = .ok (.bipush 8, 2) := by decide +kernel
theorem d_Mo_beginAs_25 : decode jMo_beginAs.cc 25 = .ok (.imul, 1) := by decide +kernel
theorem d_Mo_beginAs_26 : decode jMo_beginAs.cc 26 = .ok (.bipush 8, 2) := by decide +kernel
theorem d_Mo_beginAs_28 : decode jMo_beginAs.cc 28 = .ok (.invokestatic 42, 3) := by decide +kernel
theorem d_Mo_beginAs_31 : decode jMo_beginAs.cc 31 = .ok (.aload_n 0, 1) := by decide +kernel
theorem d_Mo_beginAs_32 : decode jMo_beginAs.cc 32 = .ok (.getfield 17, 3) := by decide +kernel
theorem d_Mo_beginAs_35 : decode jMo_beginAs.cc 35 = .ok (.iload_n 2, 1) := by decide +kernel
theorem d_Mo_beginAs_36 : decode jMo_beginAs.cc 36 = .ok (.iconst 0, 1) := by decide +kernel
theorem d_Mo_beginAs_37 : decode jMo_beginAs.cc 37 = .ok (.bastore, 1) := by decide +kernel
theorem d_Mo_beginAs_38 : decode jMo_beginAs.cc 38 = .ok (.iinc 2 1, 3) := by decide +kernel
theorem d_Mo_beginAs_41 : decode jMo_beginAs.cc 41 = .ok (.goto (-34), 3) := by decide +kernel
theorem d_Mo_beginAs_44 : decode jMo_beginAs.cc 44 = .ok (.aload_n 0, 1) := by decide +kernel
theorem d_Mo_beginAs_45 : decode jMo_beginAs.cc 45 = .ok (.aload_n 1, 1) := by decide +kernel
theorem d_Mo_beginAs_46 : decode jMo_beginAs.cc 46 = .ok (.invokevirtual 48, 3) := by decide +kernel
theorem d_Mo_beginAs_49 : decode jMo_beginAs.cc 49 = .ok (.return_, 1) := by decide +kernel
set_option maxHeartbeats 4000000 in
theorem s_Mo_beginAs {g : Mg} {d : Nat} {K : Ou → Wd → Prop} {w : Wd} {q : Nat} (hq : isMo q) (hd2 : 2 ≤ (d + 1)) (h : V g LC jMo_beginAs (d + 1) K 7 [(0, vA q), (1, vA 8), (2, vI 0)] [] (up w q 0 0)) : V g LC jMo_beginAs (d + 1) K 0 [(0, vA q), (1, vA 8)] [] w := by
  refine v_aload_n (pc := 0) d_Mo_beginAs_0 rfl (.head _) ?_
  refine v_iconst (pc := 1) d_Mo_beginAs_1 (by decide) ?_
  refine v_puti (pc := 2) d_Mo_beginAs_2 fp_Mo_33 (mo_0 hq).1 (mo_0 hq).2 (mon_0 hq) rfl ?_
  refine v_iconst (pc := 5) d_Mo_beginAs_5 (by decide) ?_
  refine v_istore_n (pc := 6) (ls' := [(2, vI 0), (0, vA q), (1, vA 8)]) d_Mo_beginAs_6 rfl (by decide) rfl ?_
  exact v_sub (List.forall_mem_cons.mpr ⟨(.tail _ (.head _)), (List.forall_mem_cons.mpr ⟨(.tail _ (.tail _ (.head _))), (List.forall_mem_cons.mpr ⟨(.head _), (fun _ z => absurd z List.not_mem_nil)⟩)⟩)⟩) h
set_option maxHeartbeats 4000000 in
theorem s_Mo_beginAs_7 {g : Mg} {d : Nat} {K : Ou → Wd → Prop} {w : Wd} {q0 : Nat} (hq0 : isMo q0) {x2_ : Int} (hd2 : 2 ≤ (d + 1)) (h : (40 ≤ x2_ → (Cal g LC jMo_forgetMessages d [vA q0, vA 8] w (fun o w1 => rV o (K (.inl none) w1)))) ∧ (¬ 40 ≤ x2_ → (((0 : Int) ≤ 0 ∧ (0 : Int) ≤ (wr (x2_ * 8)) ∧ (0 : Int) ≤ 8 ∧ (0 : Int) + 8 ≤ 8 ∧ ((wr (x2_ * 8)) : Int) + 8 ≤ 320) ∧ ((0 ≤ x2_ ∧ x2_ < 40) ∧ (V g LC jMo_beginAs (d + 1) K 7 [(0, vA q0), (1, vA 8), (2, vI (wr (x2_ + 1)))] [] (up (cpw w 9 (Int.toNat 0) (q0 + 1) (Int.toNat (wr (x2_ * 8))) (Int.toNat 8)) (q0 + 2) (x2_.toNat) 0)))))) : V g LC jMo_beginAs (d + 1) K 7 [(0, vA q0), (1, vA 8), (2, vI x2_)] [] w := by
  refine v_iload_n (pc := 7) d_Mo_beginAs_7 rfl (.tail _ (.tail _ (.head _))) ?_
  refine v_bipush (pc := 8) d_Mo_beginAs_8 (by decide) rfl ?_
  refine v_icmpge (pc := 10) (tgt := 44) d_Mo_beginAs_10 (by decide) (fun c => ?_) (fun c => ?_)
  · replace h := h.1 c
    refine v_aload_n (pc := 44) d_Mo_beginAs_44 rfl (.head _) ?_
    refine v_aload_n (pc := 45) d_Mo_beginAs_45 rfl (.tail _ (.head _)) ?_
    refine v_callV (pc := 46) (J' := jMo_forgetMessages) (d' := d) (o := q0) (ci := 6) (N := 8) (T := cT6) (As := [vA 8]) d_Mo_beginAs_46 ml_Mo_48 (mo_0 hq0).1 (mo_0 hq0).2 (by decide) rfl rfl (Nat.le_of_ble_eq_true rfl) (Nat.le_refl _) rfl (Cal.weak h (fun o w1 h => ?_))
    rcases rV_of h with ⟨rfl, h⟩
    exact v_vret (pc := 49) d_Mo_beginAs_49 rfl h
  · replace h := h.2 c
    refine v_aload_n (pc := 13) d_Mo_beginAs_13 rfl (.tail _ (.head _)) ?_
    refine v_getr (C := "") (pc := 14) (r := 9) d_Mo_beginAs_14 fl_Mo_37 cC_8.1 cC_8.2 (Or.inr ⟨_, rfl⟩) rC_8_6 ?_
    refine v_iconst (pc := 17) d_Mo_beginAs_17 (by decide) ?_
    refine v_aload_n (pc := 18) d_Mo_beginAs_18 rfl (.head _) ?_
    refine v_getr (C := "") (pc := 19) (r := q0 + 1) d_Mo_beginAs_19 fl_Mo_11 (mo_0 hq0).1 (mo_0 hq0).2 (Or.inr ⟨_, rfl⟩) (mor_2 hq0) ?_
    refine v_iload_n (pc := 22) d_Mo_beginAs_22 rfl (.tail _ (.tail _ (.head _))) ?_
    refine v_bipush (pc := 23) d_Mo_beginAs_23 (by decide) rfl ?_
    refine v_imul (pc := 25) d_Mo_beginAs_25 ?_
    refine v_bipush (pc := 26) d_Mo_beginAs_26 (by decide) rfl ?_
    refine v_copy (pc := 28) d_Mo_beginAs_28 cp_Mo_42 cC_9.1 cC_9.2 (mo_1 hq0).1 (mo_1 hq0).2 (by decide) (Nat.le_of_ble_eq_true rfl) (fun k => (moa_1 hq0 k)) hd2 h.1 ?_
    replace h := h.2
    refine v_aload_n (pc := 31) d_Mo_beginAs_31 rfl (.head _) ?_
    refine v_getr (C := "") (pc := 32) (r := q0 + 2) d_Mo_beginAs_32 fl_Mo_17 (mo_0 hq0).1 (mo_0 hq0).2 (Or.inr ⟨_, rfl⟩) (mor_3 hq0) ?_
    refine v_iload_n (pc := 35) d_Mo_beginAs_35 rfl (.tail _ (.tail _ (.head _))) ?_
    refine v_iconst (pc := 36) d_Mo_beginAs_36 (by decide) ?_
    refine v_zast (pc := 37) d_Mo_beginAs_37 (mo_2 hq0).1 (mo_2 hq0).2 (moa_2 hq0 _) (by decide) h.1 ?_
    replace h := h.2
    refine v_iinc (pc := 38) (ls' := [(2, vI (wr (x2_ + 1))), (0, vA q0), (1, vA 8)]) d_Mo_beginAs_38 (.tail _ (.tail _ (.head _))) (by decide) rfl ?_
    refine v_goto (pc := 41) (tgt := 7) d_Mo_beginAs_41 (by decide) ?_
    exact v_sub (List.forall_mem_cons.mpr ⟨(.tail _ (.head _)), (List.forall_mem_cons.mpr ⟨(.tail _ (.tail _ (.head _))), (List.forall_mem_cons.mpr ⟨(.head _), (fun _ z => absurd z List.not_mem_nil)⟩)⟩)⟩) h
theorem d_Mo_follow_0 : decode jMo_follow.cc 0 = .ok (.aload_n 0, 1) := by decide +kernel
theorem d_Mo_follow_1 : decode jMo_follow.cc 1 = .ok (.aload_n 1, 1) := by decide +kernel
theorem d_Mo_follow_2 : decode jMo_follow.cc 2 = .ok (.getfield 33, 3) := by decide +kernel
theorem d_Mo_follow_5 : decode jMo_follow.cc 5 = .ok (.iconst 1, 1) := by decide +kernel
theorem d_Mo_follow_6 : decode jMo_follow.cc 6 = .ok (.iadd, 1) := by decide +kernel
theorem d_Mo_follow_7 : decode jMo_follow.cc 7 = .ok (.putfield 33, 3) := by decide +kernel
theorem d_Mo_follow_10 : decode jMo_follow.cc 10 = .ok (.aload_n 1, 1) := by decide +kernel
theorem d_Mo_follow_11 : decode jMo_follow.cc 11 = .ok (.getfield 11, 3) := by decide +kernel
theorem d_Mo_follow_14 : decode jMo_follow.cc 14 = .ok (.iconst 0, 1) := by decide +kernel
theorem d_Mo_follow_15 : decode jMo_follow.cc 15 = .ok (.aload_n 0, 1) := by decide +kernel
theorem d_Mo_follow_16 : decode jMo_follow.cc 16 = .ok (.getfield 11, 3) := by decide +kernel
theorem d_Mo_follow_19 : decode jMo_follow.cc 19 = .ok (.iconst 0, 1) := by decide +kernel
theorem d_Mo_follow_20 : decode jMo_follow.cc 20 = .ok (.aload_n 0, 1) := by decide +kernel
theorem d_Mo_follow_21 : decode jMo_follow.cc 21 = .ok (.getfield 11, 3) := by decide +kernel
theorem d_Mo_follow_24 : decode jMo_follow.cc 24 = .ok (.arraylength, 1) := by decide +kernel
theorem d_Mo_follow_25 : decode jMo_follow.cc 25 = .ok (.invokestatic 42, 3) := by decide +kernel
theorem d_Mo_follow_28 : decode jMo_follow.cc 28 = .ok (.aload_n 1, 1) := by decide +kernel
theorem d_Mo_follow_29 : decode jMo_follow.cc 29 = .ok (.getfield 17, 3) := by decide +kernel
theorem d_Mo_follow_32 : decode jMo_follow.cc 32 = .ok (.iconst 0, 1) := by decide +kernel
theorem d_Mo_follow_33 : decode jMo_follow.cc 33 = .ok (.aload_n 0, 1) := by decide +kernel
theorem d_Mo_follow_34 : decode jMo_follow.cc 34 = .ok (.getfield 17, 3) := by decide +kernel
theorem d_Mo_follow_37 : decode jMo_follow.cc 37 = .ok (.iconst 0, 1) := by decide +kernel
theorem d_Mo_follow_38 : decode jMo_follow.cc 38 = .ok (.aload_n 0, 1) := by decide +kernel
theorem d_Mo_follow_39 : decode jMo_follow.cc 39 = .ok (.getfield 17, 3) := by decide +kernel
theorem d_Mo_follow_42 : decode jMo_follow.cc 42 = .ok (.arraylength, 1) := by decide +kernel
theorem d_Mo_follow_43 : decode jMo_follow.cc 43 = .ok (.invokestatic 42, 3) := by decide +kernel
theorem d_Mo_follow_46 : decode jMo_follow.cc 46 = .ok (.aload_n 0, 1) := by decide +kernel
theorem d_Mo_follow_47 : decode jMo_follow.cc 47 = .ok (.aload_n 2, 1) := by decide +kernel
theorem d_Mo_follow_48 : decode jMo_follow.cc 48 = .ok (.invokevirtual 48, 3) := by decide +kernel
theorem d_Mo_follow_51 : decode jMo_follow.cc 51 = .ok (.return_, 1) := by decide +kernel
set_option maxHeartbeats 4000000 in
theorem s_Mo_follow {g : Mg} {d : Nat} {K : Ou → Wd → Prop} {w : Wd} {q : Nat} (hq : isMo q) {q1 : Nat} (hq1 : isMo q1) (hd2 : 2 ≤ (d + 1)) (h : ((0 : Int) ≤ 0 ∧ (0 : Int) ≤ 0 ∧ (0 : Int) ≤ 320 ∧ (0 : Int) + 320 ≤ 320 ∧ (0 : Int) + 320 ≤ 320) ∧ (((0 : Int) ≤ 0 ∧ (0 : Int) ≤ 0 ∧ (0 : Int) ≤ 40 ∧ (0 : Int) + 40 ≤ 40 ∧ (0 : Int) + 40 ≤ 40) ∧ (Cal g LC jMo_forgetMessages d [vA q, vA 8] (cpw (cpw (up w q 0 (wr ((w q1 0) + 1))) (q1 + 1) (Int.toNat 0) (q + 1) (Int.toNat 0) (Int.toNat 320)) (q1 + 2) (Int.toNat 0) (q + 2) (Int.toNat 0) (Int.toNat 40)) (fun o w1 => rV o (K (.inl none) w1))))) : V g LC jMo_follow (d + 1) K 0 [(0, vA q), (1, vA q1), (2, vA 8)] [] w := by
  refine v_aload_n (pc := 0) d_Mo_follow_0 rfl (.head _) ?_
  refine v_aload_n (pc := 1) d_Mo_follow_1 rfl (.tail _ (.head _)) ?_
  refine v_geti (pc := 2) (x := (w q1 0)) d_Mo_follow_2 fl_Mo_33 (mo_0 hq1).1 (mo_0 hq1).2 (Or.inl rfl) rfl ?_
  refine v_iconst (pc := 5) d_Mo_follow_5 (by decide) ?_
  refine v_iadd (pc := 6) d_Mo_follow_6 ?_
  refine v_puti (pc := 7) d_Mo_follow_7 fp_Mo_33 (mo_0 hq).1 (mo_0 hq).2 (mon_0 hq) rfl ?_
  refine v_aload_n (pc := 10) d_Mo_follow_10 rfl (.tail _ (.head _)) ?_
  refine v_getr (C := "") (pc := 11) (r := q1 + 1) d_Mo_follow_11 fl_Mo_11 (mo_0 hq1).1 (mo_0 hq1).2 (Or.inr ⟨_, rfl⟩) (mor_2 hq1) ?_
  refine v_iconst (pc := 14) d_Mo_follow_14 (by decide) ?_
  refine v_aload_n (pc := 15) d_Mo_follow_15 rfl (.head _) ?_
  refine v_getr (C := "") (pc := 16) (r := q + 1) d_Mo_follow_16 fl_Mo_11 (mo_0 hq).1 (mo_0 hq).2 (Or.inr ⟨_, rfl⟩) (mor_2 hq) ?_
  refine v_iconst (pc := 19) d_Mo_follow_19 (by decide) ?_
  refine v_aload_n (pc := 20) d_Mo_follow_20 rfl (.head _) ?_
  refine v_getr (C := "") (pc := 21) (r := q + 1) d_Mo_follow_21 fl_Mo_11 (mo_0 hq).1 (mo_0 hq).2 (Or.inr ⟨_, rfl⟩) (mor_2 hq) ?_
  refine v_alen (pc := 24) (n := 320) d_Mo_follow_24 (mo_1 hq).1 (mo_1 hq).2 (by decide) (by decide) ?_
  refine v_copy (pc := 25) d_Mo_follow_25 cp_Mo_42 (mo_1 hq1).1 (mo_1 hq1).2 (mo_1 hq).1 (mo_1 hq).2 (by decide) (Nat.le_of_ble_eq_true rfl) (fun k => (moa_1 hq k)) hd2 h.1 ?_
  replace h := h.2
  refine v_aload_n (pc := 28) d_Mo_follow_28 rfl (.tail _ (.head _)) ?_
  refine v_getr (C := "") (pc := 29) (r := q1 + 2) d_Mo_follow_29 fl_Mo_17 (mo_0 hq1).1 (mo_0 hq1).2 (Or.inr ⟨_, rfl⟩) (mor_3 hq1) ?_
  refine v_iconst (pc := 32) d_Mo_follow_32 (by decide) ?_
  refine v_aload_n (pc := 33) d_Mo_follow_33 rfl (.head _) ?_
  refine v_getr (C := "") (pc := 34) (r := q + 2) d_Mo_follow_34 fl_Mo_17 (mo_0 hq).1 (mo_0 hq).2 (Or.inr ⟨_, rfl⟩) (mor_3 hq) ?_
  refine v_iconst (pc := 37) d_Mo_follow_37 (by decide) ?_
  refine v_aload_n (pc := 38) d_Mo_follow_38 rfl (.head _) ?_
  refine v_getr (C := "") (pc := 39) (r := q + 2) d_Mo_follow_39 fl_Mo_17 (mo_0 hq).1 (mo_0 hq).2 (Or.inr ⟨_, rfl⟩) (mor_3 hq) ?_
  refine v_alen (pc := 42) (n := 40) d_Mo_follow_42 (mo_2 hq).1 (mo_2 hq).2 (by decide) (by decide) ?_
  refine v_copy (pc := 43) d_Mo_follow_43 cp_Mo_42 (mo_2 hq1).1 (mo_2 hq1).2 (mo_2 hq).1 (mo_2 hq).2 (by decide) (Nat.le_of_ble_eq_true rfl) (fun k => (moa_2 hq k)) hd2 h.1 ?_
  replace h := h.2
  refine v_aload_n (pc := 46) d_Mo_follow_46 rfl (.head _) ?_
  refine v_aload_n (pc := 47) d_Mo_follow_47 rfl (.tail _ (.tail _ (.head _))) ?_
  refine v_callV (pc := 48) (J' := jMo_forgetMessages) (d' := d) (o := q) (ci := 6) (N := 8) (T := cT6) (As := [vA 8]) d_Mo_follow_48 ml_Mo_48 (mo_0 hq).1 (mo_0 hq).2 (by decide) rfl rfl (Nat.le_of_ble_eq_true rfl) (Nat.le_refl _) rfl (Cal.weak h (fun o w1 h => ?_))
  rcases rV_of h with ⟨rfl, h⟩
  exact v_vret (pc := 51) d_Mo_follow_51 rfl h
theorem d_Mo_forgetMessages_0 : decode jMo_forgetMessages.cc 0 = .ok (.aload_n 0, 1) := by decide +kernel
theorem d_Mo_forgetMessages_1 : decode jMo_forgetMessages.cc 1 = .ok (.iconst 0, 1) := by decide +kernel
theorem d_Mo_forgetMessages_2 : decode jMo_forgetMessages.cc 2 = .ok (.putfield 52, 3) := by decide +kernel
theorem d_Mo_forgetMessages_5 : decode jMo_forgetMessages.cc 5 = .ok (.iconst 0, 1) := by decide +kernel
theorem d_Mo_forgetMessages_6 : decode jMo_forgetMessages.cc 6 = .ok (.istore_n 2, 1) := by decide +kernel
theorem d_Mo_forgetMessages_7 : decode jMo_forgetMessages.cc 7 = .ok (.iload_n 2, 1) := by decide +kernel
theorem d_Mo_forgetMessages_8 : decode jMo_forgetMessages.cc 8 = .ok (.aload_n 0, 1) := by decide +kernel
theorem d_Mo_forgetMessages_9 : decode jMo_forgetMessages.cc 9 = .ok (.getfield 21, 3) := by decide +kernel
theorem d_Mo_forgetMessages_12 : decode jMo_forgetMessages.cc 12 = .ok (.arraylength, 1) := by decide +kernel
theorem d_Mo_forgetMessages_13 : decode jMo_forgetMessages.cc 13 = .ok (.if_icmp .ge 26, 3) := by decide +kernel
theorem d_Mo_forgetMessages_16 : decode jMo_forgetMessages.cc 16 = .ok (.aload_n 0, 1) := by decide +kernel
theorem d_Mo_forgetMessages_17 : decode jMo_forgetMessages.cc 17 = .ok (.getfield 21, 3) := by decide +kernel
theorem d_Mo_forgetMessages_20 : decode jMo_forgetMessages.cc 20 = .ok (.iload_n 2, 1) := by decide +kernel
theorem d_Mo_forgetMessages_21 : decode jMo_forgetMessages.cc 21 = .ok (.aload_n 1, 1) := by decide +kernel
theorem d_Mo_forgetMessages_22 : decode jMo_forgetMessages.cc 22 = .ok (.getfield 55, 3) := by decide +kernel
theorem d_Mo_forgetMessages_25 : decode jMo_forgetMessages.cc 25 = .ok (.iload_n 2, 1) := by decide +kernel
theorem d_Mo_forgetMessages_26 : decode jMo_forgetMessages.cc 26 = .ok (.iconst 4, 1) := by decide +kernel
theorem d_Mo_forgetMessages_27 : decode jMo_forgetMessages.cc 27 = .ok (.irem, 1) := by decide +kernel
theorem d_Mo_forgetMessages_28 : decode jMo_forgetMessages.cc 28 = .ok (.iaload, 1) := by decide +kernel
theorem d_Mo_forgetMessages_29 : decode jMo_forgetMessages.cc 29 = .ok (.invokestatic 58, 3) := by decide +kernel
theorem d_Mo_forgetMessages_32 : decode jMo_forgetMessages.cc 32 = .ok (.iastore, 1) := by decide +kernel
theorem d_Mo_forgetMessages_33 : decode jMo_forgetMessages.cc 33 = .ok (.iinc 2 1, 3) := by decide +kernel
theorem d_Mo_forgetMessages_36 : decode jMo_forgetMessages.cc 36 = .ok (.goto (-29), 3) := by decide +kernel
theorem d_Mo_forgetMessages_39 : decode jMo_forgetMessages.cc 39 = .ok (.aload_n 0, 1) := by decide +kernel
theorem d_Mo_forgetMessages_40 : decode jMo_forgetMessages.cc 40 = .ok (.getfield 24, 3) := by decide +kernel
theorem d_Mo_forgetMessages_43 : decode jMo_forgetMessages.cc 43 = .ok (.iconst 0, 1) := by decide +kernel
theorem d_Mo_forgetMessages_44 : decode jMo_forgetMessages.cc 44 = .ok (.invokestatic 62, 3) := by decide +kernel
theorem d_Mo_forgetMessages_47 : decode jMo_forgetMessages.cc 47 = .ok (.iconst 0, 1) := by decide +kernel
theorem d_Mo_forgetMessages_48 : decode jMo_forgetMessages.cc 48 = .ok (.istore_n 2, 1) := by decide +kernel
theorem d_Mo_forgetMessages_49 : decode jMo_forgetMessages.cc 49 = .ok (.iload_n 2, 1) := by decide +kernel
theorem d_Mo_forgetMessages_50 : decode jMo_forgetMessages.cc 50 = .ok (.aload_n 0, 1) := by decide +kernel
theorem d_Mo_forgetMessages_51 : decode jMo_forgetMessages.cc 51 = .ok (.getfield 27, 3) := by decide +kernel
theorem d_Mo_forgetMessages_54 : decode jMo_forgetMessages.cc 54 = .ok (.arraylength, 1) := by decide +kernel
theorem d_Mo_forgetMessages_55 : decode jMo_forgetMessages.cc 55 = .ok (.if_icmp .ge 24, 3) := by decide +kernel
theorem d_Mo_forgetMessages_58 : decode jMo_forgetMessages.cc 58 = .ok (.aload_n 0, 1) := by decide +kernel
theorem d_Mo_forgetMessages_59 : decode jMo_forgetMessages.cc 59 = .ok (.getfield 27, 3) := by decide +kernel
theorem d_Mo_forgetMessages_62 : decode jMo_forgetMessages.cc 62 = .ok (.iload_n 2, 1) := by decide +kernel
theorem d_Mo_forgetMessages_63 : decode jMo_forgetMessages.cc 63 = .ok (.aload_n 1, 1) := by decide +kernel
theorem d_Mo_forgetMessages_64 : decode jMo_forgetMessages.cc 64 = .ok (.getfield 68, 3) := by decide +kernel
theorem d_Mo_forgetMessages_67 : decode jMo_forgetMessages.cc 67 = .ok (.iload_n 2, 1) := by decide +kernel
theorem d_Mo_forgetMessages_68 : decode jMo_forgetMessages.cc 68 = .ok (.iaload, 1) := by decide +kernel
theorem d_Mo_forgetMessages_69 : decode jMo_forgetMessages.cc 69 = .ok (.invokestatic 58, 3) := by decide +kernel
theorem d_Mo_forgetMessages_72 : decode jMo_forgetMessages.cc 72 = .ok (.iastore, 1) := by decide +kernel
theorem d_Mo_forgetMessages_73 : decode jMo_forgetMessages.cc 73 = .ok (.iinc 2 1, 3) := by decide +kernel
theorem d_Mo_forgetMessages_76 : decode jMo_forgetMessages.cc 76 = .ok (.goto (-27), 3) := by decide +kernel
theorem d_Mo_forgetMessages_79 : decode jMo_forgetMessages.cc 79 = .ok (.aload_n 0, 1) := by decide +kernel
theorem d_Mo_forgetMessages_80 : decode jMo_forgetMessages.cc 80 = .ok (.getfield 30, 3) := by decide +kernel
theorem d_Mo_forgetMessages_83 : decode jMo_forgetMessages.cc 83 = .ok (.iconst 0, 1) := by decide +kernel
theorem d_Mo_forgetMessages_84 : decode jMo_forgetMessages.cc 84 = .ok (.invokestatic 62, 3) := by decide +kernel
theorem d_Mo_forgetMessages_87 : decode jMo_forgetMessages.cc 87 = .ok (.return_, 1) := by decide +kernel
set_option maxHeartbeats 4000000 in
theorem s_Mo_forgetMessages {g : Mg} {d : Nat} {K : Ou → Wd → Prop} {w : Wd} {q : Nat} (hq : isMo q) (h : V g LC jMo_forgetMessages (d + 1) K 7 [(0, vA q), (1, vA 8), (2, vI 0)] [] (up w q 1 0)) : V g LC jMo_forgetMessages (d + 1) K 0 [(0, vA q), (1, vA 8)] [] w := by
  refine v_aload_n (pc := 0) d_Mo_forgetMessages_0 rfl (.head _) ?_
  refine v_iconst (pc := 1) d_Mo_forgetMessages_1 (by decide) ?_
  refine v_puti (pc := 2) d_Mo_forgetMessages_2 fp_Mo_52 (mo_0 hq).1 (mo_0 hq).2 (mon_1 hq) rfl ?_
  refine v_iconst (pc := 5) d_Mo_forgetMessages_5 (by decide) ?_
  refine v_istore_n (pc := 6) (ls' := [(2, vI 0), (0, vA q), (1, vA 8)]) d_Mo_forgetMessages_6 rfl (by decide) rfl ?_
  exact v_sub (List.forall_mem_cons.mpr ⟨(.tail _ (.head _)), (List.forall_mem_cons.mpr ⟨(.tail _ (.tail _ (.head _))), (List.forall_mem_cons.mpr ⟨(.head _), (fun _ z => absurd z List.not_mem_nil)⟩)⟩)⟩) h
set_option maxHeartbeats 4000000 in
theorem s_Mo_forgetMessages_7 {g : Mg} {d : Nat} {K : Ou → Wd → Prop} {w : Wd} {q0 : Nat} (hq0 : isMo q0) {x2_ : Int} (h : (160 ≤ x2_ → (Cal g LC jAr_fill d [vA (q0 + 4), vI 0] w (fun o w1 => rV o (V g LC jMo_forgetMessages (d + 1) K 49 [(0, vA q0), (1, vA 8), (2, vI 0)] [] w1)))) ∧ (¬ 160 ≤ x2_ → ((0 ≤ (iRem x2_ 4) ∧ (iRem x2_ 4) < 4) ∧ (Cal g LC jPr_nothing d [vI (w 10 ((iRem x2_ 4).toNat))] w (fun o w2 => rI o (fun x3 => (0 ≤ x2_ ∧ x2_ < 160) ∧ (V g LC jMo_forgetMessages (d + 1) K 7 [(0, vA q0), (1, vA 8), (2, vI (wr (x2_ + 1)))] [] (up w2 (q0 + 3) (x2_.toNat) x3)))))))) : V g LC jMo_forgetMessages (d + 1) K 7 [(0, vA q0), (1, vA 8), (2, vI x2_)] [] w := by
  refine v_iload_n (pc := 7) d_Mo_forgetMessages_7 rfl (.tail _ (.tail _ (.head _))) ?_
  refine v_aload_n (pc := 8) d_Mo_forgetMessages_8 rfl (.head _) ?_
  refine v_getr (C := "") (pc := 9) (r := q0 + 3) d_Mo_forgetMessages_9 fl_Mo_21 (mo_0 hq0).1 (mo_0 hq0).2 (Or.inr ⟨_, rfl⟩) (mor_4 hq0) ?_
  refine v_alen (pc := 12) (n := 160) d_Mo_forgetMessages_12 (mo_3 hq0).1 (mo_3 hq0).2 (by decide) (by decide) ?_
  refine v_icmpge (pc := 13) (tgt := 39) d_Mo_forgetMessages_13 (by decide) (fun c => ?_) (fun c => ?_)
  · replace h := h.1 c
    refine v_aload_n (pc := 39) d_Mo_forgetMessages_39 rfl (.head _) ?_
    refine v_getr (C := "") (pc := 40) (r := q0 + 4) d_Mo_forgetMessages_40 fl_Mo_24 (mo_0 hq0).1 (mo_0 hq0).2 (Or.inr ⟨_, rfl⟩) (mor_5 hq0) ?_
    refine v_iconst (pc := 43) d_Mo_forgetMessages_43 (by decide) ?_
    refine v_callS (pc := 44) (J' := jAr_fill) (d' := d) (As := [vA (q0 + 4), vI 0]) d_Mo_forgetMessages_44 ml_Mo_62 rfl (Nat.le_of_ble_eq_true rfl) (Nat.le_refl _) rfl (Cal.weak h (fun o w1 h => ?_))
    rcases rV_of h with ⟨rfl, h⟩
    refine v_iconst (pc := 47) d_Mo_forgetMessages_47 (by decide) ?_
    refine v_istore_n (pc := 48) (ls' := [(2, vI 0), (0, vA q0), (1, vA 8)]) d_Mo_forgetMessages_48 rfl (by decide) rfl ?_
    exact v_sub (List.forall_mem_cons.mpr ⟨(.tail _ (.head _)), (List.forall_mem_cons.mpr ⟨(.tail _ (.tail _ (.head _))), (List.forall_mem_cons.mpr ⟨(.head _), (fun _ z => absurd z List.not_mem_nil)⟩)⟩)⟩) h
  · replace h := h.2 c
    refine v_aload_n (pc := 16) d_Mo_forgetMessages_16 rfl (.head _) ?_
    refine v_getr (C := "") (pc := 17) (r := q0 + 3) d_Mo_forgetMessages_17 fl_Mo_21 (mo_0 hq0).1 (mo_0 hq0).2 (Or.inr ⟨_, rfl⟩) (mor_4 hq0) ?_
    refine v_iload_n (pc := 20) d_Mo_forgetMessages_20 rfl (.tail _ (.tail _ (.head _))) ?_
    refine v_aload_n (pc := 21) d_Mo_forgetMessages_21 rfl (.tail _ (.head _)) ?_
    refine v_getr (C := "") (pc := 22) (r := 10) d_Mo_forgetMessages_22 fl_Mo_55 cC_8.1 cC_8.2 (Or.inr ⟨_, rfl⟩) rC_8_7 ?_
    refine v_iload_n (pc := 25) d_Mo_forgetMessages_25 rfl (.tail _ (.tail _ (.head _))) ?_
    refine v_iconst (pc := 26) d_Mo_forgetMessages_26 (by decide) ?_
    refine v_irem (pc := 27) d_Mo_forgetMessages_27 (by decide) ?_
    refine v_iald (pc := 28) (x := (w 10 ((iRem x2_ 4).toNat))) d_Mo_forgetMessages_28 cC_10.1 cC_10.2 rfl h.1 ?_
    replace h := h.2
    refine v_callS (pc := 29) (J' := jPr_nothing) (d' := d) (As := [vI (w 10 ((iRem x2_ 4).toNat))]) d_Mo_forgetMessages_29 ml_Mo_58 rfl (Nat.le_of_ble_eq_true rfl) (Nat.le_refl _) rfl (Cal.weak h (fun o w2 h => ?_))
    rcases rI_of h with ⟨x3, rfl, h⟩
    refine v_iast (pc := 32) d_Mo_forgetMessages_32 (mo_3 hq0).1 (mo_3 hq0).2 (moa_3 hq0 _) h.1 ?_
    replace h := h.2
    refine v_iinc (pc := 33) (ls' := [(2, vI (wr (x2_ + 1))), (0, vA q0), (1, vA 8)]) d_Mo_forgetMessages_33 (.tail _ (.tail _ (.head _))) (by decide) rfl ?_
    refine v_goto (pc := 36) (tgt := 7) d_Mo_forgetMessages_36 (by decide) ?_
    exact v_sub (List.forall_mem_cons.mpr ⟨(.tail _ (.head _)), (List.forall_mem_cons.mpr ⟨(.tail _ (.tail _ (.head _))), (List.forall_mem_cons.mpr ⟨(.head _), (fun _ z => absurd z List.not_mem_nil)⟩)⟩)⟩) h
set_option maxHeartbeats 4000000 in
theorem s_Mo_forgetMessages_49 {g : Mg} {d : Nat} {K : Ou → Wd → Prop} {w : Wd} {q0 : Nat} (hq0 : isMo q0) {x2_ : Int} (h : (4 ≤ x2_ → (Cal g LC jAr_fill d [vA (q0 + 6), vI 0] w (fun o w1 => rV o (K (.inl none) w1)))) ∧ (¬ 4 ≤ x2_ → ((0 ≤ x2_ ∧ x2_ < 4) ∧ (Cal g LC jPr_nothing d [vI (w 11 x2_.toNat)] w (fun o w2 => rI o (fun x3 => (0 ≤ x2_ ∧ x2_ < 4) ∧ (V g LC jMo_forgetMessages (d + 1) K 49 [(0, vA q0), (1, vA 8), (2, vI (wr (x2_ + 1)))] [] (up w2 (q0 + 5) (x2_.toNat) x3)))))))) : V g LC jMo_forgetMessages (d + 1) K 49 [(0, vA q0), (1, vA 8), (2, vI x2_)] [] w := by
  refine v_iload_n (pc := 49) d_Mo_forgetMessages_49 rfl (.tail _ (.tail _ (.head _))) ?_
  refine v_aload_n (pc := 50) d_Mo_forgetMessages_50 rfl (.head _) ?_
  refine v_getr (C := "") (pc := 51) (r := q0 + 5) d_Mo_forgetMessages_51 fl_Mo_27 (mo_0 hq0).1 (mo_0 hq0).2 (Or.inr ⟨_, rfl⟩) (mor_6 hq0) ?_
  refine v_alen (pc := 54) (n := 4) d_Mo_forgetMessages_54 (mo_5 hq0).1 (mo_5 hq0).2 (by decide) (by decide) ?_
  refine v_icmpge (pc := 55) (tgt := 79) d_Mo_forgetMessages_55 (by decide) (fun c => ?_) (fun c => ?_)
  · replace h := h.1 c
    refine v_aload_n (pc := 79) d_Mo_forgetMessages_79 rfl (.head _) ?_
    refine v_getr (C := "") (pc := 80) (r := q0 + 6) d_Mo_forgetMessages_80 fl_Mo_30 (mo_0 hq0).1 (mo_0 hq0).2 (Or.inr ⟨_, rfl⟩) (mor_7 hq0) ?_
    refine v_iconst (pc := 83) d_Mo_forgetMessages_83 (by decide) ?_
    refine v_callS (pc := 84) (J' := jAr_fill) (d' := d) (As := [vA (q0 + 6), vI 0]) d_Mo_forgetMessages_84 ml_Mo_62 rfl (Nat.le_of_ble_eq_true rfl) (Nat.le_refl _) rfl (Cal.weak h (fun o w1 h => ?_))
    rcases rV_of h with ⟨rfl, h⟩
    exact v_vret (pc := 87) d_Mo_forgetMessages_87 rfl h
  · replace h := h.2 c
    refine v_aload_n (pc := 58) d_Mo_forgetMessages_58 rfl (.head _) ?_
    refine v_getr (C := "") (pc := 59) (r := q0 + 5) d_Mo_forgetMessages_59 fl_Mo_27 (mo_0 hq0).1 (mo_0 hq0).2 (Or.inr ⟨_, rfl⟩) (mor_6 hq0) ?_
    refine v_iload_n (pc := 62) d_Mo_forgetMessages_62 rfl (.tail _ (.tail _ (.head _))) ?_
    refine v_aload_n (pc := 63) d_Mo_forgetMessages_63 rfl (.tail _ (.head _)) ?_
    refine v_getr (C := "") (pc := 64) (r := 11) d_Mo_forgetMessages_64 fl_Mo_68 cC_8.1 cC_8.2 (Or.inr ⟨_, rfl⟩) rC_8_8 ?_
    refine v_iload_n (pc := 67) d_Mo_forgetMessages_67 rfl (.tail _ (.tail _ (.head _))) ?_
    refine v_iald (pc := 68) (x := (w 11 x2_.toNat)) d_Mo_forgetMessages_68 cC_11.1 cC_11.2 rfl h.1 ?_
    replace h := h.2
    refine v_callS (pc := 69) (J' := jPr_nothing) (d' := d) (As := [vI (w 11 x2_.toNat)]) d_Mo_forgetMessages_69 ml_Mo_58 rfl (Nat.le_of_ble_eq_true rfl) (Nat.le_refl _) rfl (Cal.weak h (fun o w2 h => ?_))
    rcases rI_of h with ⟨x3, rfl, h⟩
    refine v_iast (pc := 72) d_Mo_forgetMessages_72 (mo_5 hq0).1 (mo_5 hq0).2 (moa_5 hq0 _) h.1 ?_
    replace h := h.2
    refine v_iinc (pc := 73) (ls' := [(2, vI (wr (x2_ + 1))), (0, vA q0), (1, vA 8)]) d_Mo_forgetMessages_73 (.tail _ (.tail _ (.head _))) (by decide) rfl ?_
    refine v_goto (pc := 76) (tgt := 49) d_Mo_forgetMessages_76 (by decide) ?_
    exact v_sub (List.forall_mem_cons.mpr ⟨(.tail _ (.head _)), (List.forall_mem_cons.mpr ⟨(.tail _ (.tail _ (.head _))), (List.forall_mem_cons.mpr ⟨(.head _), (fun _ z => absurd z List.not_mem_nil)⟩)⟩)⟩) h
theorem d_Mo_wakes_0 : decode jMo_wakes.cc 0 = .ok (.iconst 0, 1) := by decide +kernel
theorem d_Mo_wakes_1 : decode jMo_wakes.cc 1 = .ok (.istore_n 2, 1) := by decide +kernel
theorem d_Mo_wakes_2 : decode jMo_wakes.cc 2 = .ok (.iload_n 2, 1) := by decide +kernel
theorem d_Mo_wakes_3 : decode jMo_wakes.cc 3 = .ok (.iconst 4, 1) := by decide +kernel
theorem d_Mo_wakes_4 : decode jMo_wakes.cc 4 = .ok (.if_icmp .ge 24, 3) := by decide +kernel
theorem d_Mo_wakes_7 : decode jMo_wakes.cc 7 = .ok (.aload_n 0, 1) := by decide +kernel
theorem d_Mo_wakes_8 : decode jMo_wakes.cc 8 = .ok (.getfield 24, 3) := by decide +kernel
theorem d_Mo_wakes_11 : decode jMo_wakes.cc 11 = .ok (.iload_n 1, 1) := by decide +kernel
theorem d_Mo_wakes_12 : decode jMo_wakes.cc 12 = .ok (.iconst 4, 1) := by decide +kernel
theorem d_Mo_wakes_13 : decode jMo_wakes.cc 13 = .ok (.imul, 1) := by decide +kernel
theorem d_Mo_wakes_14 : decode jMo_wakes.cc 14 = .ok (.iload_n 2, 1) := by decide +kernel
theorem d_Mo_wakes_15 : decode jMo_wakes.cc 15 = .ok (.iadd, 1) := by decide +kernel
theorem d_Mo_wakes_16 : decode jMo_wakes.cc 16 = .ok (.iaload, 1) := by decide +kernel
theorem d_Mo_wakes_17 : decode jMo_wakes.cc 17 = .ok (.ifCond .le 5, 3) := by decide +kernel
theorem d_Mo_wakes_20 : decode jMo_wakes.cc 20 = .ok (.iconst 1, 1) := by decide +kernel
theorem d_Mo_wakes_21 : decode jMo_wakes.cc 21 = .ok (.ireturn, 1) := by decide +kernel
theorem d_Mo_wakes_22 : decode jMo_wakes.cc 22 = .ok (.iinc 2 1, 3) := by decide +kernel
theorem d_Mo_wakes_25 : decode jMo_wakes.cc 25 = .ok (.goto (-23), 3) := by decide +kernel
theorem d_Mo_wakes_28 : decode jMo_wakes.cc 28 = .ok (.iconst 0, 1) := by decide +kernel
theorem d_Mo_wakes_29 : decode jMo_wakes.cc 29 = .ok (.ireturn, 1) := by decide +kernel
set_option maxHeartbeats 4000000 in
theorem s_Mo_wakes {g : Mg} {d : Nat} {K : Ou → Wd → Prop} {w : Wd} {q : Nat} (hq : isMo q) {p1 : Int} (h : V g LC jMo_wakes d K 2 [(0, vA q), (1, vI p1), (2, vI 0)] [] w) : V g LC jMo_wakes d K 0 [(0, vA q), (1, vI p1)] [] w := by
  refine v_iconst (pc := 0) d_Mo_wakes_0 (by decide) ?_
  refine v_istore_n (pc := 1) (ls' := [(2, vI 0), (0, vA q), (1, vI p1)]) d_Mo_wakes_1 rfl (by decide) rfl ?_
  exact v_sub (List.forall_mem_cons.mpr ⟨(.tail _ (.head _)), (List.forall_mem_cons.mpr ⟨(.tail _ (.tail _ (.head _))), (List.forall_mem_cons.mpr ⟨(.head _), (fun _ z => absurd z List.not_mem_nil)⟩)⟩)⟩) h
set_option maxHeartbeats 4000000 in
theorem s_Mo_wakes_2 {g : Mg} {d : Nat} {K : Ou → Wd → Prop} {w : Wd} {q0 : Nat} (hq0 : isMo q0) {x1_ : Int} {x2_ : Int} (h : (4 ≤ x2_ → (K (.inl (some (vI 0))) w)) ∧ (¬ 4 ≤ x2_ → ((0 ≤ (wr ((wr (x1_ * 4)) + x2_)) ∧ (wr ((wr (x1_ * 4)) + x2_)) < 160) ∧ (((w (q0 + 4) ((wr ((wr (x1_ * 4)) + x2_)).toNat)) ≤ 0 → (V g LC jMo_wakes d K 2 [(0, vA q0), (1, vI x1_), (2, vI (wr (x2_ + 1)))] [] w)) ∧ (¬ (w (q0 + 4) ((wr ((wr (x1_ * 4)) + x2_)).toNat)) ≤ 0 → (K (.inl (some (vI 1))) w)))))) : V g LC jMo_wakes d K 2 [(0, vA q0), (1, vI x1_), (2, vI x2_)] [] w := by
  refine v_iload_n (pc := 2) d_Mo_wakes_2 rfl (.tail _ (.tail _ (.head _))) ?_
  refine v_iconst (pc := 3) d_Mo_wakes_3 (by decide) ?_
  refine v_icmpge (pc := 4) (tgt := 28) d_Mo_wakes_4 (by decide) (fun c => ?_) (fun c => ?_)
  · replace h := h.1 c
    refine v_iconst (pc := 28) d_Mo_wakes_28 (by decide) ?_
    exact v_zret (pc := 29) d_Mo_wakes_29 rfl (by decide) h
  · replace h := h.2 c
    refine v_aload_n (pc := 7) d_Mo_wakes_7 rfl (.head _) ?_
    refine v_getr (C := "") (pc := 8) (r := q0 + 4) d_Mo_wakes_8 fl_Mo_24 (mo_0 hq0).1 (mo_0 hq0).2 (Or.inr ⟨_, rfl⟩) (mor_5 hq0) ?_
    refine v_iload_n (pc := 11) d_Mo_wakes_11 rfl (.tail _ (.head _)) ?_
    refine v_iconst (pc := 12) d_Mo_wakes_12 (by decide) ?_
    refine v_imul (pc := 13) d_Mo_wakes_13 ?_
    refine v_iload_n (pc := 14) d_Mo_wakes_14 rfl (.tail _ (.tail _ (.head _))) ?_
    refine v_iadd (pc := 15) d_Mo_wakes_15 ?_
    refine v_iald (pc := 16) (x := (w (q0 + 4) ((wr ((wr (x1_ * 4)) + x2_)).toNat))) d_Mo_wakes_16 (mo_4 hq0).1 (mo_4 hq0).2 rfl h.1 ?_
    replace h := h.2
    refine v_ifle (pc := 17) (tgt := 22) d_Mo_wakes_17 (by decide) (fun c => ?_) (fun c => ?_)
    · replace h := h.1 c
      refine v_iinc (pc := 22) (ls' := [(2, vI (wr (x2_ + 1))), (0, vA q0), (1, vI x1_)]) d_Mo_wakes_22 (.tail _ (.tail _ (.head _))) (by decide) rfl ?_
      refine v_goto (pc := 25) (tgt := 2) d_Mo_wakes_25 (by decide) ?_
      exact v_sub (List.forall_mem_cons.mpr ⟨(.tail _ (.head _)), (List.forall_mem_cons.mpr ⟨(.tail _ (.tail _ (.head _))), (List.forall_mem_cons.mpr ⟨(.head _), (fun _ z => absurd z List.not_mem_nil)⟩)⟩)⟩) h
    · replace h := h.2 c
      refine v_iconst (pc := 20) d_Mo_wakes_20 (by decide) ?_
      exact v_zret (pc := 21) d_Mo_wakes_21 rfl (by decide) h
theorem d_Mo_deliver_0 : decode jMo_deliver.cc 0 = .ok (.iload_n 2, 1) := by decide +kernel
theorem d_Mo_deliver_1 : decode jMo_deliver.cc 1 = .ok (.iconst 4, 1) := by decide +kernel
theorem d_Mo_deliver_2 : decode jMo_deliver.cc 2 = .ok (.imul, 1) := by decide +kernel
theorem d_Mo_deliver_3 : decode jMo_deliver.cc 3 = .ok (.iload_n 3, 1) := by decide +kernel
theorem d_Mo_deliver_4 : decode jMo_deliver.cc 4 = .ok (.iadd, 1) := by decide +kernel
theorem d_Mo_deliver_5 : decode jMo_deliver.cc 5 = .ok (.istore 5, 2) := by decide +kernel
theorem d_Mo_deliver_7 : decode jMo_deliver.cc 7 = .ok (.aload_n 0, 1) := by decide +kernel
theorem d_Mo_deliver_8 : decode jMo_deliver.cc 8 = .ok (.getfield 21, 3) := by decide +kernel
theorem d_Mo_deliver_11 : decode jMo_deliver.cc 11 = .ok (.iload 5, 2) := by decide +kernel
theorem d_Mo_deliver_13 : decode jMo_deliver.cc 13 = .ok (.aload_n 1, 1) := by decide +kernel
theorem d_Mo_deliver_14 : decode jMo_deliver.cc 14 = .ok (.getfield 55, 3) := by decide +kernel
theorem d_Mo_deliver_17 : decode jMo_deliver.cc 17 = .ok (.iload_n 3, 1) := by decide +kernel
theorem d_Mo_deliver_18 : decode jMo_deliver.cc 18 = .ok (.iaload, 1) := by decide +kernel
theorem d_Mo_deliver_19 : decode jMo_deliver.cc 19 = .ok (.aload_n 0, 1) := by decide +kernel
theorem d_Mo_deliver_20 : decode jMo_deliver.cc 20 = .ok (.getfield 21, 3) := by decide +kernel
theorem d_Mo_deliver_23 : decode jMo_deliver.cc 23 = .ok (.iload 5, 2) := by decide +kernel
theorem d_Mo_deliver_25 : decode jMo_deliver.cc 25 = .ok (.iaload, 1) := by decide +kernel
theorem d_Mo_deliver_26 : decode jMo_deliver.cc 26 = .ok (.aload_n 0, 1) := by decide +kernel
theorem d_Mo_deliver_27 : decode jMo_deliver.cc 27 = .ok (.getfield 24, 3) := by decide +kernel
theorem d_Mo_deliver_30 : decode jMo_deliver.cc 30 = .ok (.iload 5, 2) := by decide +kernel
theorem d_Mo_deliver_32 : decode jMo_deliver.cc 32 = .ok (.iaload, 1) := by decide +kernel
theorem d_Mo_deliver_33 : decode jMo_deliver.cc 33 = .ok (.iload 4, 2) := by decide +kernel
theorem d_Mo_deliver_35 : decode jMo_deliver.cc 35 = .ok (.invokestatic 71, 3) := by decide +kernel
theorem d_Mo_deliver_38 : decode jMo_deliver.cc 38 = .ok (.iastore, 1) := by decide +kernel
theorem d_Mo_deliver_39 : decode jMo_deliver.cc 39 = .ok (.aload_n 0, 1) := by decide +kernel
theorem d_Mo_deliver_40 : decode jMo_deliver.cc 40 = .ok (.getfield 24, 3) := by decide +kernel
theorem d_Mo_deliver_43 : decode jMo_deliver.cc 43 = .ok (.iload 5, 2) := by decide +kernel
theorem d_Mo_deliver_45 : decode jMo_deliver.cc 45 = .ok (.dup2, 1) := by decide +kernel
theorem d_Mo_deliver_46 : decode jMo_deliver.cc 46 = .ok (.iaload, 1) := by decide +kernel
theorem d_Mo_deliver_47 : decode jMo_deliver.cc 47 = .ok (.iconst 1, 1) := by decide +kernel
theorem d_Mo_deliver_48 : decode jMo_deliver.cc 48 = .ok (.iadd, 1) := by decide +kernel
theorem d_Mo_deliver_49 : decode jMo_deliver.cc 49 = .ok (.iastore, 1) := by decide +kernel
theorem d_Mo_deliver_50 : decode jMo_deliver.cc 50 = .ok (.aload_n 0, 1) := by decide +kernel
theorem d_Mo_deliver_51 : decode jMo_deliver.cc 51 = .ok (.dup, 1) := by decide +kernel
theorem d_Mo_deliver_52 : decode jMo_deliver.cc 52 = .ok (.getfield 52, 3) := by decide +kernel
theorem d_Mo_deliver_55 : decode jMo_deliver.cc 55 = .ok (.iconst 1, 1) := by decide +kernel
theorem d_Mo_deliver_56 : decode jMo_deliver.cc 56 = .ok (.iadd, 1) := by decide +kernel
theorem d_Mo_deliver_57 : decode jMo_deliver.cc 57 = .ok (.putfield 52, 3) := by decide +kernel
theorem d_Mo_deliver_60 : decode jMo_deliver.cc 60 = .ok (.return_, 1) := by decide +kernel
set_option maxHeartbeats 4000000 in
theorem s_Mo_deliver {g : Mg} {d : Nat} {K : Ou → Wd → Prop} {w : Wd} {q : Nat} (hq : isMo q) {p2 : Int} {p3 : Int} {p4 : Int} (h : (0 ≤ p3 ∧ p3 < 4) ∧ ((0 ≤ (wr ((wr (p2 * 4)) + p3)) ∧ (wr ((wr (p2 * 4)) + p3)) < 160) ∧ ((0 ≤ (wr ((wr (p2 * 4)) + p3)) ∧ (wr ((wr (p2 * 4)) + p3)) < 160) ∧ (Cal g LC jPr_folded d [vI (w 10 p3.toNat), vI (w (q + 3) ((wr ((wr (p2 * 4)) + p3)).toNat)), vI (w (q + 4) ((wr ((wr (p2 * 4)) + p3)).toNat)), vI p4] w (fun o w1 => rI o (fun x2 => (0 ≤ (wr ((wr (p2 * 4)) + p3)) ∧ (wr ((wr (p2 * 4)) + p3)) < 160) ∧ ((0 ≤ (wr ((wr (p2 * 4)) + p3)) ∧ (wr ((wr (p2 * 4)) + p3)) < 160) ∧ ((0 ≤ (wr ((wr (p2 * 4)) + p3)) ∧ (wr ((wr (p2 * 4)) + p3)) < 160) ∧ (K (.inl none) (up (up (up w1 (q + 3) ((wr ((wr (p2 * 4)) + p3)).toNat) x2) (q + 4) ((wr ((wr (p2 * 4)) + p3)).toNat) (wr (((up w1 (q + 3) ((wr ((wr (p2 * 4)) + p3)).toNat) x2) (q + 4) ((wr ((wr (p2 * 4)) + p3)).toNat)) + 1))) q 1 (wr (((up (up w1 (q + 3) ((wr ((wr (p2 * 4)) + p3)).toNat) x2) (q + 4) ((wr ((wr (p2 * 4)) + p3)).toNat) (wr (((up w1 (q + 3) ((wr ((wr (p2 * 4)) + p3)).toNat) x2) (q + 4) ((wr ((wr (p2 * 4)) + p3)).toNat)) + 1))) q 1) + 1)))))))))))) : V g LC jMo_deliver (d + 1) K 0 [(0, vA q), (1, vA 8), (2, vI p2), (3, vI p3), (4, vI p4)] [] w := by
  refine v_iload_n (pc := 0) d_Mo_deliver_0 rfl (.tail _ (.tail _ (.head _))) ?_
  refine v_iconst (pc := 1) d_Mo_deliver_1 (by decide) ?_
  refine v_imul (pc := 2) d_Mo_deliver_2 ?_
  refine v_iload_n (pc := 3) d_Mo_deliver_3 rfl (.tail _ (.tail _ (.tail _ (.head _)))) ?_
  refine v_iadd (pc := 4) d_Mo_deliver_4 ?_
  refine v_istore (pc := 5) (ls' := [(5, vI (wr ((wr (p2 * 4)) + p3))), (0, vA q), (1, vA 8), (2, vI p2), (3, vI p3), (4, vI p4)]) d_Mo_deliver_5 (by decide) rfl ?_
  refine v_aload_n (pc := 7) d_Mo_deliver_7 rfl (.tail _ (.head _)) ?_
  refine v_getr (C := "") (pc := 8) (r := q + 3) d_Mo_deliver_8 fl_Mo_21 (mo_0 hq).1 (mo_0 hq).2 (Or.inr ⟨_, rfl⟩) (mor_4 hq) ?_
  refine v_iload (pc := 11) d_Mo_deliver_11 (.head _) ?_
  refine v_aload_n (pc := 13) d_Mo_deliver_13 rfl (.tail _ (.tail _ (.head _))) ?_
  refine v_getr (C := "") (pc := 14) (r := 10) d_Mo_deliver_14 fl_Mo_55 cC_8.1 cC_8.2 (Or.inr ⟨_, rfl⟩) rC_8_7 ?_
  refine v_iload_n (pc := 17) d_Mo_deliver_17 rfl (.tail _ (.tail _ (.tail _ (.tail _ (.head _))))) ?_
  refine v_iald (pc := 18) (x := (w 10 p3.toNat)) d_Mo_deliver_18 cC_10.1 cC_10.2 rfl h.1 ?_
  replace h := h.2
  refine v_aload_n (pc := 19) d_Mo_deliver_19 rfl (.tail _ (.head _)) ?_
  refine v_getr (C := "") (pc := 20) (r := q + 3) d_Mo_deliver_20 fl_Mo_21 (mo_0 hq).1 (mo_0 hq).2 (Or.inr ⟨_, rfl⟩) (mor_4 hq) ?_
  refine v_iload (pc := 23) d_Mo_deliver_23 (.head _) ?_
  refine v_iald (pc := 25) (x := (w (q + 3) ((wr ((wr (p2 * 4)) + p3)).toNat))) d_Mo_deliver_25 (mo_3 hq).1 (mo_3 hq).2 rfl h.1 ?_
  replace h := h.2
  refine v_aload_n (pc := 26) d_Mo_deliver_26 rfl (.tail _ (.head _)) ?_
  refine v_getr (C := "") (pc := 27) (r := q + 4) d_Mo_deliver_27 fl_Mo_24 (mo_0 hq).1 (mo_0 hq).2 (Or.inr ⟨_, rfl⟩) (mor_5 hq) ?_
  refine v_iload (pc := 30) d_Mo_deliver_30 (.head _) ?_
  refine v_iald (pc := 32) (x := (w (q + 4) ((wr ((wr (p2 * 4)) + p3)).toNat))) d_Mo_deliver_32 (mo_4 hq).1 (mo_4 hq).2 rfl h.1 ?_
  replace h := h.2
  refine v_iload (pc := 33) d_Mo_deliver_33 (.tail _ (.tail _ (.tail _ (.tail _ (.tail _ (.head _)))))) ?_
  refine v_callS (pc := 35) (J' := jPr_folded) (d' := d) (As := [vI (w 10 p3.toNat), vI (w (q + 3) ((wr ((wr (p2 * 4)) + p3)).toNat)), vI (w (q + 4) ((wr ((wr (p2 * 4)) + p3)).toNat)), vI p4]) d_Mo_deliver_35 ml_Mo_71 rfl (Nat.le_of_ble_eq_true rfl) (Nat.le_refl _) rfl (Cal.weak h (fun o w1 h => ?_))
  rcases rI_of h with ⟨x2, rfl, h⟩
  refine v_iast (pc := 38) d_Mo_deliver_38 (mo_3 hq).1 (mo_3 hq).2 (moa_3 hq _) h.1 ?_
  replace h := h.2
  refine v_aload_n (pc := 39) d_Mo_deliver_39 rfl (.tail _ (.head _)) ?_
  refine v_getr (C := "") (pc := 40) (r := q + 4) d_Mo_deliver_40 fl_Mo_24 (mo_0 hq).1 (mo_0 hq).2 (Or.inr ⟨_, rfl⟩) (mor_5 hq) ?_
  refine v_iload (pc := 43) d_Mo_deliver_43 (.head _) ?_
  refine v_dup2 (pc := 45) d_Mo_deliver_45 rfl rfl ?_
  refine v_iald (pc := 46) (x := ((up w1 (q + 3) ((wr ((wr (p2 * 4)) + p3)).toNat) x2) (q + 4) ((wr ((wr (p2 * 4)) + p3)).toNat))) d_Mo_deliver_46 (mo_4 hq).1 (mo_4 hq).2 rfl h.1 ?_
  replace h := h.2
  refine v_iconst (pc := 47) d_Mo_deliver_47 (by decide) ?_
  refine v_iadd (pc := 48) d_Mo_deliver_48 ?_
  refine v_iast (pc := 49) d_Mo_deliver_49 (mo_4 hq).1 (mo_4 hq).2 (moa_4 hq _) h.1 ?_
  replace h := h.2
  refine v_aload_n (pc := 50) d_Mo_deliver_50 rfl (.tail _ (.head _)) ?_
  refine v_dup (pc := 51) d_Mo_deliver_51 rfl ?_
  refine v_geti (pc := 52) (x := ((up (up w1 (q + 3) ((wr ((wr (p2 * 4)) + p3)).toNat) x2) (q + 4) ((wr ((wr (p2 * 4)) + p3)).toNat) (wr (((up w1 (q + 3) ((wr ((wr (p2 * 4)) + p3)).toNat) x2) (q + 4) ((wr ((wr (p2 * 4)) + p3)).toNat)) + 1))) q 1)) d_Mo_deliver_52 fl_Mo_52 (mo_0 hq).1 (mo_0 hq).2 (Or.inl rfl) rfl ?_
  refine v_iconst (pc := 55) d_Mo_deliver_55 (by decide) ?_
  refine v_iadd (pc := 56) d_Mo_deliver_56 ?_
  refine v_puti (pc := 57) d_Mo_deliver_57 fp_Mo_52 (mo_0 hq).1 (mo_0 hq).2 (mon_1 hq) rfl ?_
  exact v_vret (pc := 60) d_Mo_deliver_60 rfl h
theorem d_Mo_give_0 : decode jMo_give.cc 0 = .ok (.aload_n 0, 1) := by decide +kernel
theorem d_Mo_give_1 : decode jMo_give.cc 1 = .ok (.getfield 27, 3) := by decide +kernel
theorem d_Mo_give_4 : decode jMo_give.cc 4 = .ok (.iload_n 2, 1) := by decide +kernel
theorem d_Mo_give_5 : decode jMo_give.cc 5 = .ok (.aload_n 1, 1) := by decide +kernel
theorem d_Mo_give_6 : decode jMo_give.cc 6 = .ok (.getfield 68, 3) := by decide +kernel
theorem d_Mo_give_9 : decode jMo_give.cc 9 = .ok (.iload_n 2, 1) := by decide +kernel
theorem d_Mo_give_10 : decode jMo_give.cc 10 = .ok (.iaload, 1) := by decide +kernel
theorem d_Mo_give_11 : decode jMo_give.cc 11 = .ok (.aload_n 0, 1) := by decide +kernel
theorem d_Mo_give_12 : decode jMo_give.cc 12 = .ok (.getfield 27, 3) := by decide +kernel
theorem d_Mo_give_15 : decode jMo_give.cc 15 = .ok (.iload_n 2, 1) := by decide +kernel
theorem d_Mo_give_16 : decode jMo_give.cc 16 = .ok (.iaload, 1) := by decide +kernel
theorem d_Mo_give_17 : decode jMo_give.cc 17 = .ok (.aload_n 0, 1) := by decide +kernel
theorem d_Mo_give_18 : decode jMo_give.cc 18 = .ok (.getfield 30, 3) := by decide +kernel
theorem d_Mo_give_21 : decode jMo_give.cc 21 = .ok (.iload_n 2, 1) := by decide +kernel
theorem d_Mo_give_22 : decode jMo_give.cc 22 = .ok (.iaload, 1) := by decide +kernel
theorem d_Mo_give_23 : decode jMo_give.cc 23 = .ok (.iload_n 3, 1) := by decide +kernel
theorem d_Mo_give_24 : decode jMo_give.cc 24 = .ok (.invokestatic 71, 3) := by decide +kernel
theorem d_Mo_give_27 : decode jMo_give.cc 27 = .ok (.iastore, 1) := by decide +kernel
theorem d_Mo_give_28 : decode jMo_give.cc 28 = .ok (.aload_n 0, 1) := by decide +kernel
theorem d_Mo_give_29 : decode jMo_give.cc 29 = .ok (.getfield 30, 3) := by decide +kernel
theorem d_Mo_give_32 : decode jMo_give.cc 32 = .ok (.iload_n 2, 1) := by decide +kernel
theorem d_Mo_give_33 : decode jMo_give.cc 33 = .ok (.dup2, 1) := by decide +kernel
theorem d_Mo_give_34 : decode jMo_give.cc 34 = .ok (.iaload, 1) := by decide +kernel
theorem d_Mo_give_35 : decode jMo_give.cc 35 = .ok (.iconst 1, 1) := by decide +kernel
theorem d_Mo_give_36 : decode jMo_give.cc 36 = .ok (.iadd, 1) := by decide +kernel
theorem d_Mo_give_37 : decode jMo_give.cc 37 = .ok (.iastore, 1) := by decide +kernel
theorem d_Mo_give_38 : decode jMo_give.cc 38 = .ok (.return_, 1) := by decide +kernel
set_option maxHeartbeats 4000000 in
theorem s_Mo_give {g : Mg} {d : Nat} {K : Ou → Wd → Prop} {w : Wd} {q : Nat} (hq : isMo q) {p2 : Int} {p3 : Int} (h : (0 ≤ p2 ∧ p2 < 4) ∧ ((0 ≤ p2 ∧ p2 < 4) ∧ ((0 ≤ p2 ∧ p2 < 4) ∧ (Cal g LC jPr_folded d [vI (w 11 p2.toNat), vI (w (q + 5) p2.toNat), vI (w (q + 6) p2.toNat), vI p3] w (fun o w1 => rI o (fun x2 => (0 ≤ p2 ∧ p2 < 4) ∧ ((0 ≤ p2 ∧ p2 < 4) ∧ ((0 ≤ p2 ∧ p2 < 4) ∧ (K (.inl none) (up (up w1 (q + 5) (p2.toNat) x2) (q + 6) (p2.toNat) (wr (((up w1 (q + 5) (p2.toNat) x2) (q + 6) p2.toNat) + 1)))))))))))) : V g LC jMo_give (d + 1) K 0 [(0, vA q), (1, vA 8), (2, vI p2), (3, vI p3)] [] w := by
  refine v_aload_n (pc := 0) d_Mo_give_0 rfl (.head _) ?_
  refine v_getr (C := "") (pc := 1) (r := q + 5) d_Mo_give_1 fl_Mo_27 (mo_0 hq).1 (mo_0 hq).2 (Or.inr ⟨_, rfl⟩) (mor_6 hq) ?_
  refine v_iload_n (pc := 4) d_Mo_give_4 rfl (.tail _ (.tail _ (.head _))) ?_
  refine v_aload_n (pc := 5) d_Mo_give_5 rfl (.tail _ (.head _)) ?_
  refine v_getr (C := "") (pc := 6) (r := 11) d_Mo_give_6 fl_Mo_68 cC_8.1 cC_8.2 (Or.inr ⟨_, rfl⟩) rC_8_8 ?_
  refine v_iload_n (pc := 9) d_Mo_give_9 rfl (.tail _ (.tail _ (.head _))) ?_
  refine v_iald (pc := 10) (x := (w 11 p2.toNat)) d_Mo_give_10 cC_11.1 cC_11.2 rfl h.1 ?_
  replace h := h.2
  refine v_aload_n (pc := 11) d_Mo_give_11 rfl (.head _) ?_
  refine v_getr (C := "") (pc := 12) (r := q + 5) d_Mo_give_12 fl_Mo_27 (mo_0 hq).1 (mo_0 hq).2 (Or.inr ⟨_, rfl⟩) (mor_6 hq) ?_
  refine v_iload_n (pc := 15) d_Mo_give_15 rfl (.tail _ (.tail _ (.head _))) ?_
  refine v_iald (pc := 16) (x := (w (q + 5) p2.toNat)) d_Mo_give_16 (mo_5 hq).1 (mo_5 hq).2 rfl h.1 ?_
  replace h := h.2
  refine v_aload_n (pc := 17) d_Mo_give_17 rfl (.head _) ?_
  refine v_getr (C := "") (pc := 18) (r := q + 6) d_Mo_give_18 fl_Mo_30 (mo_0 hq).1 (mo_0 hq).2 (Or.inr ⟨_, rfl⟩) (mor_7 hq) ?_
  refine v_iload_n (pc := 21) d_Mo_give_21 rfl (.tail _ (.tail _ (.head _))) ?_
  refine v_iald (pc := 22) (x := (w (q + 6) p2.toNat)) d_Mo_give_22 (mo_6 hq).1 (mo_6 hq).2 rfl h.1 ?_
  replace h := h.2
  refine v_iload_n (pc := 23) d_Mo_give_23 rfl (.tail _ (.tail _ (.tail _ (.head _)))) ?_
  refine v_callS (pc := 24) (J' := jPr_folded) (d' := d) (As := [vI (w 11 p2.toNat), vI (w (q + 5) p2.toNat), vI (w (q + 6) p2.toNat), vI p3]) d_Mo_give_24 ml_Mo_71 rfl (Nat.le_of_ble_eq_true rfl) (Nat.le_refl _) rfl (Cal.weak h (fun o w1 h => ?_))
  rcases rI_of h with ⟨x2, rfl, h⟩
  refine v_iast (pc := 27) d_Mo_give_27 (mo_5 hq).1 (mo_5 hq).2 (moa_5 hq _) h.1 ?_
  replace h := h.2
  refine v_aload_n (pc := 28) d_Mo_give_28 rfl (.head _) ?_
  refine v_getr (C := "") (pc := 29) (r := q + 6) d_Mo_give_29 fl_Mo_30 (mo_0 hq).1 (mo_0 hq).2 (Or.inr ⟨_, rfl⟩) (mor_7 hq) ?_
  refine v_iload_n (pc := 32) d_Mo_give_32 rfl (.tail _ (.tail _ (.head _))) ?_
  refine v_dup2 (pc := 33) d_Mo_give_33 rfl rfl ?_
  refine v_iald (pc := 34) (x := ((up w1 (q + 5) (p2.toNat) x2) (q + 6) p2.toNat)) d_Mo_give_34 (mo_6 hq).1 (mo_6 hq).2 rfl h.1 ?_
  replace h := h.2
  refine v_iconst (pc := 35) d_Mo_give_35 (by decide) ?_
  refine v_iadd (pc := 36) d_Mo_give_36 ?_
  refine v_iast (pc := 37) d_Mo_give_37 (mo_6 hq).1 (mo_6 hq).2 (moa_6 hq _) h.1 ?_
  replace h := h.2
  exact v_vret (pc := 38) d_Mo_give_38 rfl h
theorem d_Mo_restingOf_0 : decode jMo_restingOf.cc 0 = .ok (.iconst 0, 1) := by decide +kernel
theorem d_Mo_restingOf_1 : decode jMo_restingOf.cc 1 = .ok (.istore_n 2, 1) := by decide +kernel
theorem d_Mo_restingOf_2 : decode jMo_restingOf.cc 2 = .ok (.iconst 0, 1) := by decide +kernel
theorem d_Mo_restingOf_3 : decode jMo_restingOf.cc 3 = .ok (.istore_n 3, 1) := by decide +kernel
theorem d_Mo_restingOf_4 : decode jMo_restingOf.cc 4 = .ok (.iload_n 3, 1) := by decide +kernel
theorem d_Mo_restingOf_5 : decode jMo_restingOf.cc 5 = .ok (.iload_n 1, 1) := by decide +kernel
theorem d_Mo_restingOf_6 : decode jMo_restingOf.cc 6 = .ok (.if_icmp .ge 30, 3) := by decide +kernel
theorem d_Mo_restingOf_9 : decode jMo_restingOf.cc 9 = .ok (.iload_n 3, 1) := by decide +kernel
theorem d_Mo_restingOf_10 : decode jMo_restingOf.cc 10 = .ok (.aload_n 0, 1) := by decide +kernel
theorem d_Mo_restingOf_11 : decode jMo_restingOf.cc 11 = .ok (.getfield 17, 3) := by decide +kernel
theorem d_Mo_restingOf_14 : decode jMo_restingOf.cc 14 = .ok (.arraylength, 1) := by decide +kernel
theorem d_Mo_restingOf_15 : decode jMo_restingOf.cc 15 = .ok (.if_icmp .ge 21, 3) := by decide +kernel
theorem d_Mo_restingOf_18 : decode jMo_restingOf.cc 18 = .ok (.aload_n 0, 1) := by decide +kernel
theorem d_Mo_restingOf_19 : decode jMo_restingOf.cc 19 = .ok (.getfield 17, 3) := by decide +kernel
theorem d_Mo_restingOf_22 : decode jMo_restingOf.cc 22 = .ok (.iload_n 3, 1) := by decide +kernel
theorem d_Mo_restingOf_23 : decode jMo_restingOf.cc 23 = .ok (.baload, 1) := by decide +kernel
theorem d_Mo_restingOf_24 : decode jMo_restingOf.cc 24 = .ok (.ifCond .eq 6, 3) := by decide +kernel
theorem d_Mo_restingOf_27 : decode jMo_restingOf.cc 27 = .ok (.iinc 2 1, 3) := by decide +kernel
theorem d_Mo_restingOf_30 : decode jMo_restingOf.cc 30 = .ok (.iinc 3 1, 3) := by decide +kernel
theorem d_Mo_restingOf_33 : decode jMo_restingOf.cc 33 = .ok (.goto (-29), 3) := by decide +kernel
theorem d_Mo_restingOf_36 : decode jMo_restingOf.cc 36 = .ok (.iload_n 2, 1) := by decide +kernel
theorem d_Mo_restingOf_37 : decode jMo_restingOf.cc 37 = .ok (.ireturn, 1) := by decide +kernel
set_option maxHeartbeats 4000000 in
theorem s_Mo_restingOf {g : Mg} {d : Nat} {K : Ou → Wd → Prop} {w : Wd} {q : Nat} (hq : isMo q) {p1 : Int} (h : V g LC jMo_restingOf d K 4 [(0, vA q), (1, vI p1), (2, vI 0), (3, vI 0)] [] w) : V g LC jMo_restingOf d K 0 [(0, vA q), (1, vI p1)] [] w := by
  refine v_iconst (pc := 0) d_Mo_restingOf_0 (by decide) ?_
  refine v_istore_n (pc := 1) (ls' := [(2, vI 0), (0, vA q), (1, vI p1)]) d_Mo_restingOf_1 rfl (by decide) rfl ?_
  refine v_iconst (pc := 2) d_Mo_restingOf_2 (by decide) ?_
  refine v_istore_n (pc := 3) (ls' := [(3, vI 0), (2, vI 0), (0, vA q), (1, vI p1)]) d_Mo_restingOf_3 rfl (by decide) rfl ?_
  exact v_sub (List.forall_mem_cons.mpr ⟨(.tail _ (.tail _ (.head _))), (List.forall_mem_cons.mpr ⟨(.tail _ (.tail _ (.tail _ (.head _)))), (List.forall_mem_cons.mpr ⟨(.tail _ (.head _)), (List.forall_mem_cons.mpr ⟨(.head _), (fun _ z => absurd z List.not_mem_nil)⟩)⟩)⟩)⟩) h
set_option maxHeartbeats 4000000 in
theorem s_Mo_restingOf_4 {g : Mg} {d : Nat} {K : Ou → Wd → Prop} {w : Wd} {q0 : Nat} (hq0 : isMo q0) {x1_ : Int} {x2_ : Int} {x3_ : Int} (h : (x1_ ≤ x3_ → (K (.inl (some (vI x2_))) w)) ∧ (¬ x1_ ≤ x3_ → ((40 ≤ x3_ → (K (.inl (some (vI x2_))) w)) ∧ (¬ 40 ≤ x3_ → ((0 ≤ x3_ ∧ x3_ < 40) ∧ (((w (q0 + 2) x3_.toNat) = 0 → (V g LC jMo_restingOf d K 4 [(0, vA q0), (1, vI x1_), (2, vI x2_), (3, vI (wr (x3_ + 1)))] [] w)) ∧ (¬ (w (q0 + 2) x3_.toNat) = 0 → (V g LC jMo_restingOf d K 4 [(0, vA q0), (1, vI x1_), (2, vI (wr (x2_ + 1))), (3, vI (wr (x3_ + 1)))] [] w)))))))) : V g LC jMo_restingOf d K 4 [(0, vA q0), (1, vI x1_), (2, vI x2_), (3, vI x3_)] [] w := by
  refine v_iload_n (pc := 4) d_Mo_restingOf_4 rfl (.tail _ (.tail _ (.tail _ (.head _)))) ?_
  refine v_iload_n (pc := 5) d_Mo_restingOf_5 rfl (.tail _ (.head _)) ?_
  refine v_icmpge (pc := 6) (tgt := 36) d_Mo_restingOf_6 (by decide) (fun c => ?_) (fun c => ?_)
  · replace h := h.1 c
    refine v_iload_n (pc := 36) d_Mo_restingOf_36 rfl (.tail _ (.tail _ (.head _))) ?_
    exact v_iret (pc := 37) d_Mo_restingOf_37 rfl h
  · replace h := h.2 c
    refine v_iload_n (pc := 9) d_Mo_restingOf_9 rfl (.tail _ (.tail _ (.tail _ (.head _)))) ?_
    refine v_aload_n (pc := 10) d_Mo_restingOf_10 rfl (.head _) ?_
    refine v_getr (C := "") (pc := 11) (r := q0 + 2) d_Mo_restingOf_11 fl_Mo_17 (mo_0 hq0).1 (mo_0 hq0).2 (Or.inr ⟨_, rfl⟩) (mor_3 hq0) ?_
    refine v_alen (pc := 14) (n := 40) d_Mo_restingOf_14 (mo_2 hq0).1 (mo_2 hq0).2 (by decide) (by decide) ?_
    refine v_icmpge (pc := 15) (tgt := 36) d_Mo_restingOf_15 (by decide) (fun c => ?_) (fun c => ?_)
    · replace h := h.1 c
      refine v_iload_n (pc := 36) d_Mo_restingOf_36 rfl (.tail _ (.tail _ (.head _))) ?_
      exact v_iret (pc := 37) d_Mo_restingOf_37 rfl h
    · replace h := h.2 c
      refine v_aload_n (pc := 18) d_Mo_restingOf_18 rfl (.head _) ?_
      refine v_getr (C := "") (pc := 19) (r := q0 + 2) d_Mo_restingOf_19 fl_Mo_17 (mo_0 hq0).1 (mo_0 hq0).2 (Or.inr ⟨_, rfl⟩) (mor_3 hq0) ?_
      refine v_iload_n (pc := 22) d_Mo_restingOf_22 rfl (.tail _ (.tail _ (.tail _ (.head _)))) ?_
      refine v_zald (pc := 23) (x := (w (q0 + 2) x3_.toNat)) d_Mo_restingOf_23 (mo_2 hq0).1 (mo_2 hq0).2 rfl h.1 ?_
      replace h := h.2
      refine v_ifeq (pc := 24) (tgt := 30) d_Mo_restingOf_24 (by decide) (fun c => ?_) (fun c => ?_)
      · replace h := h.1 c
        refine v_iinc (pc := 30) (ls' := [(3, vI (wr (x3_ + 1))), (0, vA q0), (1, vI x1_), (2, vI x2_)]) d_Mo_restingOf_30 (.tail _ (.tail _ (.tail _ (.head _)))) (by decide) rfl ?_
        refine v_goto (pc := 33) (tgt := 4) d_Mo_restingOf_33 (by decide) ?_
        exact v_sub (List.forall_mem_cons.mpr ⟨(.tail _ (.head _)), (List.forall_mem_cons.mpr ⟨(.tail _ (.tail _ (.head _))), (List.forall_mem_cons.mpr ⟨(.tail _ (.tail _ (.tail _ (.head _)))), (List.forall_mem_cons.mpr ⟨(.head _), (fun _ z => absurd z List.not_mem_nil)⟩)⟩)⟩)⟩) h
      · replace h := h.2 c
        refine v_iinc (pc := 27) (ls' := [(2, vI (wr (x2_ + 1))), (0, vA q0), (1, vI x1_), (3, vI x3_)]) d_Mo_restingOf_27 (.tail _ (.tail _ (.head _))) (by decide) rfl ?_
        refine v_iinc (pc := 30) (ls' := [(3, vI (wr (x3_ + 1))), (2, vI (wr (x2_ + 1))), (0, vA q0), (1, vI x1_)]) d_Mo_restingOf_30 (.tail _ (.tail _ (.tail _ (.head _)))) (by decide) rfl ?_
        refine v_goto (pc := 33) (tgt := 4) d_Mo_restingOf_33 (by decide) ?_
        exact v_sub (List.forall_mem_cons.mpr ⟨(.tail _ (.tail _ (.head _))), (List.forall_mem_cons.mpr ⟨(.tail _ (.tail _ (.tail _ (.head _)))), (List.forall_mem_cons.mpr ⟨(.tail _ (.head _)), (List.forall_mem_cons.mpr ⟨(.head _), (fun _ z => absurd z List.not_mem_nil)⟩)⟩)⟩)⟩) h
theorem d_Wo_setTurn_0 : decode jWo_setTurn.cc 0 = .ok (.aload_n 0, 1) := by decide +kernel
theorem d_Wo_setTurn_1 : decode jWo_setTurn.cc 1 = .ok (.iload_n 1, 1) := by decide +kernel
theorem d_Wo_setTurn_2 : decode jWo_setTurn.cc 2 = .ok (.putfield 43, 3) := by decide +kernel
theorem d_Wo_setTurn_5 : decode jWo_setTurn.cc 5 = .ok (.aload_n 0, 1) := by decide +kernel
theorem d_Wo_setTurn_6 : decode jWo_setTurn.cc 6 = .ok (.aload_n 2, 1) := by decide +kernel
theorem d_Wo_setTurn_7 : decode jWo_setTurn.cc 7 = .ok (.putfield 36, 3) := by decide +kernel
theorem d_Wo_setTurn_10 : decode jWo_setTurn.cc 10 = .ok (.aload_n 0, 1) := by decide +kernel
theorem d_Wo_setTurn_11 : decode jWo_setTurn.cc 11 = .ok (.aload_n 3, 1) := by decide +kernel
theorem d_Wo_setTurn_12 : decode jWo_setTurn.cc 12 = .ok (.putfield 40, 3) := by decide +kernel
theorem d_Wo_setTurn_15 : decode jWo_setTurn.cc 15 = .ok (.return_, 1) := by decide +kernel
set_option maxHeartbeats 4000000 in
theorem s_Wo_setTurn {g : Mg} {d : Nat} {K : Ou → Wd → Prop} {w : Wd} {p1 : Int} {q2 : Nat} (hq2 : isMo q2) {q3 : Nat} (hq3 : isMo q3) (h : K (.inl none) (up (up (up w 101 8 p1) 101 6 (q2 : Int)) 101 7 (q3 : Int))) : V g LC jWo_setTurn d K 0 [(0, vA 101), (1, vI p1), (2, vA q2), (3, vA q3)] [] w := by
  refine v_aload_n (pc := 0) d_Wo_setTurn_0 rfl (.head _) ?_
  refine v_iload_n (pc := 1) d_Wo_setTurn_1 rfl (.tail _ (.head _)) ?_
  refine v_puti (pc := 2) d_Wo_setTurn_2 fp_Wo_43 cC_101.1 cC_101.2 (by decide) rfl ?_
  refine v_aload_n (pc := 5) d_Wo_setTurn_5 rfl (.head _) ?_
  refine v_aload_n (pc := 6) d_Wo_setTurn_6 rfl (.tail _ (.tail _ (.head _))) ?_
  refine v_putr (pc := 7) d_Wo_setTurn_7 fp_Wo_36 cC_101.1 cC_101.2 (by decide) rfl (mo_lt hq2) ?_
  refine v_aload_n (pc := 10) d_Wo_setTurn_10 rfl (.head _) ?_
  refine v_aload_n (pc := 11) d_Wo_setTurn_11 rfl (.tail _ (.tail _ (.tail _ (.head _)))) ?_
  refine v_putr (pc := 12) d_Wo_setTurn_12 fp_Wo_40 cC_101.1 cC_101.2 (by decide) rfl (mo_lt hq3) ?_
  exact v_vret (pc := 15) d_Wo_setTurn_15 rfl h
theorem d_Wo_work_0 : decode jWo_work.cc 0 = .ok (.aload_n 0, 1) := by decide +kernel
theorem d_Wo_work_1 : decode jWo_work.cc 1 = .ok (.iload_n 1, 1) := by decide +kernel
theorem d_Wo_work_2 : decode jWo_work.cc 2 = .ok (.putfield 47, 3) := by decide +kernel
theorem d_Wo_work_5 : decode jWo_work.cc 5 = .ok (.aload_n 0, 1) := by decide +kernel
theorem d_Wo_work_6 : decode jWo_work.cc 6 = .ok (.iconst 0, 1) := by decide +kernel
theorem d_Wo_work_7 : decode jWo_work.cc 7 = .ok (.putfield 50, 3) := by decide +kernel
theorem d_Wo_work_10 : decode jWo_work.cc 10 = .ok (.aload_n 0, 1) := by decide +kernel
theorem d_Wo_work_11 : decode jWo_work.cc 11 = .ok (.iconst 0, 1) := by decide +kernel
theorem d_Wo_work_12 : decode jWo_work.cc 12 = .ok (.putfield 53, 3) := by decide +kernel
theorem d_Wo_work_15 : decode jWo_work.cc 15 = .ok (.aload_n 0, 1) := by decide +kernel
theorem d_Wo_work_16 : decode jWo_work.cc 16 = .ok (.iconst 0, 1) := by decide +kernel
theorem d_Wo_work_17 : decode jWo_work.cc 17 = .ok (.putfield 56, 3) := by decide +kernel
theorem d_Wo_work_20 : decode jWo_work.cc 20 = .ok (.aload_n 0, 1) := by decide +kernel
theorem d_Wo_work_21 : decode jWo_work.cc 21 = .ok (.iconst 0, 1) := by decide +kernel
theorem d_Wo_work_22 : decode jWo_work.cc 22 = .ok (.putfield 59, 3) := by decide +kernel
theorem d_Wo_work_25 : decode jWo_work.cc 25 = .ok (.aload_n 0, 1) := by decide +kernel
theorem d_Wo_work_26 : decode jWo_work.cc 26 = .ok (.aload_n 0, 1) := by decide +kernel
theorem d_Wo_work_27 : decode jWo_work.cc 27 = .ok (.getfield 36, 3) := by decide +kernel
theorem d_Wo_work_30 : decode jWo_work.cc 30 = .ok (.getfield 62, 3) := by decide +kernel
theorem d_Wo_work_33 : decode jWo_work.cc 33 = .ok (.ifCond .ne 13, 3) := by decide +kernel
theorem d_Wo_work_36 : decode jWo_work.cc 36 = .ok (.aload_n 0, 1) := by decide +kernel
theorem d_Wo_work_37 : decode jWo_work.cc 37 = .ok (.getfield 21, 3) := by decide +kernel
theorem d_Wo_work_40 : decode jWo_work.cc 40 = .ok (.getfield 67, 3) := by decide +kernel
theorem d_Wo_work_43 : decode jWo_work.cc 43 = .ok (.goto 10, 3) := by decide +kernel
theorem d_Wo_work_46 : decode jWo_work.cc 46 = .ok (.aload_n 0, 1) := by decide +kernel
theorem d_Wo_work_47 : decode jWo_work.cc 47 = .ok (.getfield 21, 3) := by decide +kernel
theorem d_Wo_work_50 : decode jWo_work.cc 50 = .ok (.getfield 70, 3) := by decide +kernel
theorem d_Wo_work_53 : decode jWo_work.cc 53 = .ok (.putfield 73, 3) := by decide +kernel
theorem d_Wo_work_56 : decode jWo_work.cc 56 = .ok (.iconst 0, 1) := by decide +kernel
theorem d_Wo_work_57 : decode jWo_work.cc 57 = .ok (.istore_n 2, 1) := by decide +kernel
theorem d_Wo_work_58 : decode jWo_work.cc 58 = .ok (.iload_n 2, 1) := by decide +kernel
theorem d_Wo_work_59 : decode jWo_work.cc 59 = .ok (.ldc 76, 2) := by decide +kernel
theorem d_Wo_work_61 : decode jWo_work.cc 61 = .ok (.if_icmp .ge 59, 3) := by decide +kernel
theorem d_Wo_work_64 : decode jWo_work.cc 64 = .ok (.aload_n 0, 1) := by decide +kernel
theorem d_Wo_work_65 : decode jWo_work.cc 65 = .ok (.getfield 73, 3) := by decide +kernel
theorem d_Wo_work_68 : decode jWo_work.cc 68 = .ok (.ifCond .lt 52, 3) := by decide +kernel
theorem d_Wo_work_71 : decode jWo_work.cc 71 = .ok (.aload_n 0, 1) := by decide +kernel
theorem d_Wo_work_72 : decode jWo_work.cc 72 = .ok (.getfield 73, 3) := by decide +kernel
theorem d_Wo_work_75 : decode jWo_work.cc 75 = .ok (.aload_n 0, 1) := by decide +kernel
theorem d_Wo_work_76 : decode jWo_work.cc 76 = .ok (.getfield 31, 3) := by decide +kernel
theorem d_Wo_work_79 : decode jWo_work.cc 79 = .ok (.getfield 77, 3) := by decide +kernel
theorem d_Wo_work_82 : decode jWo_work.cc 82 = .ok (.if_icmp .ge 38, 3) := by decide +kernel
theorem d_Wo_work_85 : decode jWo_work.cc 85 = .ok (.aload_n 0, 1) := by decide +kernel
theorem d_Wo_work_86 : decode jWo_work.cc 86 = .ok (.getfield 73, 3) := by decide +kernel
theorem d_Wo_work_89 : decode jWo_work.cc 89 = .ok (.istore_n 3, 1) := by decide +kernel
theorem d_Wo_work_90 : decode jWo_work.cc 90 = .ok (.aload_n 0, 1) := by decide +kernel
theorem d_Wo_work_91 : decode jWo_work.cc 91 = .ok (.dup, 1) := by decide +kernel
theorem d_Wo_work_92 : decode jWo_work.cc 92 = .ok (.getfield 73, 3) := by decide +kernel
theorem d_Wo_work_95 : decode jWo_work.cc 95 = .ok (.iconst 1, 1) := by decide +kernel
theorem d_Wo_work_96 : decode jWo_work.cc 96 = .ok (.iadd, 1) := by decide +kernel
theorem d_Wo_work_97 : decode jWo_work.cc 97 = .ok (.putfield 73, 3) := by decide +kernel
theorem d_Wo_work_100 : decode jWo_work.cc 100 = .ok (.aload_n 0, 1) := by decide +kernel
theorem d_Wo_work_101 : decode jWo_work.cc 101 = .ok (.iload_n 3, 1) := by decide +kernel
theorem d_Wo_work_102 : decode jWo_work.cc 102 = .ok (.aload_n 0, 1) := by decide +kernel
theorem d_Wo_work_103 : decode jWo_work.cc 103 = .ok (.getfield 31, 3) := by decide +kernel
theorem d_Wo_work_106 : decode jWo_work.cc 106 = .ok (.getfield 82, 3) := by decide +kernel
theorem d_Wo_work_109 : decode jWo_work.cc 109 = .ok (.iload_n 3, 1) := by decide +kernel
theorem d_Wo_work_110 : decode jWo_work.cc 110 = .ok (.iaload, 1) := by decide +kernel
theorem d_Wo_work_111 : decode jWo_work.cc 111 = .ok (.invokevirtual 85, 3) := by decide +kernel
theorem d_Wo_work_114 : decode jWo_work.cc 114 = .ok (.iinc 2 1, 3) := by decide +kernel
theorem d_Wo_work_117 : decode jWo_work.cc 117 = .ok (.goto (-59), 3) := by decide +kernel
theorem d_Wo_work_120 : decode jWo_work.cc 120 = .ok (.return_, 1) := by decide +kernel
set_option maxHeartbeats 4000000 in
theorem s_Wo_work {g : Mg} {d : Nat} {K : Ou → Wd → Prop} {w : Wd} {p1 : Int} (h : ∃ q1 : Nat, ((up (up (up (up (up w 101 9 p1) 101 10 0) 101 14 0) 101 15 0) 101 16 0) 101 6) = (q1 : Int) ∧ isMo q1 ∧ ((¬ ((up (up (up (up (up w 101 9 p1) 101 10 0) 101 14 0) 101 15 0) 101 16 0) q1 0) = 0 → (V g LC jWo_work (d + 1) K 58 [(0, vA 101), (2, vI 0)] [] (up (up (up (up (up (up w 101 9 p1) 101 10 0) 101 14 0) 101 15 0) 101 16 0) 101 11 (w 8 5)))) ∧ (((up (up (up (up (up w 101 9 p1) 101 10 0) 101 14 0) 101 15 0) 101 16 0) q1 0) = 0 → (V g LC jWo_work (d + 1) K 58 [(0, vA 101), (2, vI 0)] [] (up (up (up (up (up (up w 101 9 p1) 101 10 0) 101 14 0) 101 15 0) 101 16 0) 101 11 (w 8 4)))))) : V g LC jWo_work (d + 1) K 0 [(0, vA 101), (1, vI p1)] [] w := by
  refine v_aload_n (pc := 0) d_Wo_work_0 rfl (.head _) ?_
  refine v_iload_n (pc := 1) d_Wo_work_1 rfl (.tail _ (.head _)) ?_
  refine v_puti (pc := 2) d_Wo_work_2 fp_Wo_47 cC_101.1 cC_101.2 (by decide) rfl ?_
  refine v_aload_n (pc := 5) d_Wo_work_5 rfl (.head _) ?_
  refine v_iconst (pc := 6) d_Wo_work_6 (by decide) ?_
  refine v_puti (pc := 7) d_Wo_work_7 fp_Wo_50 cC_101.1 cC_101.2 (by decide) rfl ?_
  refine v_aload_n (pc := 10) d_Wo_work_10 rfl (.head _) ?_
  refine v_iconst (pc := 11) d_Wo_work_11 (by decide) ?_
  refine v_puti (pc := 12) d_Wo_work_12 fp_Wo_53 cC_101.1 cC_101.2 (by decide) rfl ?_
  refine v_aload_n (pc := 15) d_Wo_work_15 rfl (.head _) ?_
  refine v_iconst (pc := 16) d_Wo_work_16 (by decide) ?_
  refine v_puti (pc := 17) d_Wo_work_17 fp_Wo_56 cC_101.1 cC_101.2 (by decide) rfl ?_
  refine v_aload_n (pc := 20) d_Wo_work_20 rfl (.head _) ?_
  refine v_iconst (pc := 21) d_Wo_work_21 (by decide) ?_
  refine v_puti (pc := 22) d_Wo_work_22 fp_Wo_59 cC_101.1 cC_101.2 (by decide) rfl ?_
  refine v_aload_n (pc := 25) d_Wo_work_25 rfl (.head _) ?_
  refine v_aload_n (pc := 26) d_Wo_work_26 rfl (.head _) ?_
  obtain ⟨q1, eq1, hq1, h⟩ := h
  refine v_getd (pc := 27) (r := q1) d_Wo_work_27 fl_Wo_36 cC_101.1 cC_101.2 (Or.inl ⟨_, rfl⟩) eq1 ?_
  refine v_geti (pc := 30) (x := ((up (up (up (up (up w 101 9 p1) 101 10 0) 101 14 0) 101 15 0) 101 16 0) q1 0)) d_Wo_work_30 fl_Wo_62 (mo_0 hq1).1 (mo_0 hq1).2 (Or.inl rfl) rfl ?_
  refine v_ifne (pc := 33) (tgt := 46) d_Wo_work_33 (by decide) (fun c => ?_) (fun c => ?_)
  · replace h := h.1 c
    refine v_aload_n (pc := 46) d_Wo_work_46 rfl (.head _) ?_
    refine v_getr (C := "") (pc := 47) (r := 8) d_Wo_work_47 fl_Wo_21 cC_101.1 cC_101.2 (Or.inl ⟨_, rfl⟩) rC_101_0 ?_
    refine v_geti (pc := 50) (x := (w 8 5)) d_Wo_work_50 fl_Wo_70 cC_8.1 cC_8.2 (Or.inl rfl) rfl ?_
    refine v_puti (pc := 53) d_Wo_work_53 fp_Wo_73 cC_101.1 cC_101.2 (by decide) rfl ?_
    refine v_iconst (pc := 56) d_Wo_work_56 (by decide) ?_
    refine v_istore_n (pc := 57) (ls' := [(2, vI 0), (0, vA 101), (1, vI p1)]) d_Wo_work_57 rfl (by decide) rfl ?_
    exact v_sub (List.forall_mem_cons.mpr ⟨(.tail _ (.head _)), (List.forall_mem_cons.mpr ⟨(.head _), (fun _ z => absurd z List.not_mem_nil)⟩)⟩) h
  · replace h := h.2 c
    refine v_aload_n (pc := 36) d_Wo_work_36 rfl (.head _) ?_
    refine v_getr (C := "") (pc := 37) (r := 8) d_Wo_work_37 fl_Wo_21 cC_101.1 cC_101.2 (Or.inl ⟨_, rfl⟩) rC_101_0 ?_
    refine v_geti (pc := 40) (x := (w 8 4)) d_Wo_work_40 fl_Wo_67 cC_8.1 cC_8.2 (Or.inl rfl) rfl ?_
    refine v_goto (pc := 43) (tgt := 53) d_Wo_work_43 (by decide) ?_
    refine v_puti (pc := 53) d_Wo_work_53 fp_Wo_73 cC_101.1 cC_101.2 (by decide) rfl ?_
    refine v_iconst (pc := 56) d_Wo_work_56 (by decide) ?_
    refine v_istore_n (pc := 57) (ls' := [(2, vI 0), (0, vA 101), (1, vI p1)]) d_Wo_work_57 rfl (by decide) rfl ?_
    exact v_sub (List.forall_mem_cons.mpr ⟨(.tail _ (.head _)), (List.forall_mem_cons.mpr ⟨(.head _), (fun _ z => absurd z List.not_mem_nil)⟩)⟩) h
set_option maxHeartbeats 4000000 in
theorem s_Wo_work_58 {g : Mg} {d : Nat} {K : Ou → Wd → Prop} {w : Wd} {x2_ : Int} (h : (1000000 ≤ x2_ → (K (.inl none) w)) ∧ (¬ 1000000 ≤ x2_ → (((w 101 11) < 0 → (K (.inl none) w)) ∧ (¬ (w 101 11) < 0 → (((w 19 4) ≤ (w 101 11) → (K (.inl none) w)) ∧ (¬ (w 19 4) ≤ (w 101 11) → ((0 ≤ (w 101 11) ∧ (w 101 11) < 1024) ∧ (Cal g LC jWo_perform d [vA 101, vI (w 101 11), vI (w 20 ((w 101 11).toNat))] (up w 101 11 (wr ((w 101 11) + 1))) (fun o w1 => rV o (V g LC jWo_work (d + 1) K 58 [(0, vA 101), (2, vI (wr (x2_ + 1)))] [] w1)))))))))) : V g LC jWo_work (d + 1) K 58 [(0, vA 101), (2, vI x2_)] [] w := by
  refine v_iload_n (pc := 58) d_Wo_work_58 rfl (.tail _ (.head _)) ?_
  refine v_ldc (pc := 59) (n := 1000000) d_Wo_work_59 (by decide) (mt_5 172 rfl rfl) ?_
  refine v_icmpge (pc := 61) (tgt := 120) d_Wo_work_61 (by decide) (fun c => ?_) (fun c => ?_)
  · replace h := h.1 c
    exact v_vret (pc := 120) d_Wo_work_120 rfl h
  · replace h := h.2 c
    refine v_aload_n (pc := 64) d_Wo_work_64 rfl (.head _) ?_
    refine v_geti (pc := 65) (x := (w 101 11)) d_Wo_work_65 fl_Wo_73 cC_101.1 cC_101.2 (Or.inl rfl) rfl ?_
    refine v_iflt (pc := 68) (tgt := 120) d_Wo_work_68 (by decide) (fun c => ?_) (fun c => ?_)
    · replace h := h.1 c
      exact v_vret (pc := 120) d_Wo_work_120 rfl h
    · replace h := h.2 c
      refine v_aload_n (pc := 71) d_Wo_work_71 rfl (.head _) ?_
      refine v_geti (pc := 72) (x := (w 101 11)) d_Wo_work_72 fl_Wo_73 cC_101.1 cC_101.2 (Or.inl rfl) rfl ?_
      refine v_aload_n (pc := 75) d_Wo_work_75 rfl (.head _) ?_
      refine v_getr (C := "") (pc := 76) (r := 19) d_Wo_work_76 fl_Wo_31 cC_101.1 cC_101.2 (Or.inl ⟨_, rfl⟩) rC_101_1 ?_
      refine v_geti (pc := 79) (x := (w 19 4)) d_Wo_work_79 fl_Wo_77 cC_19.1 cC_19.2 (Or.inl rfl) rfl ?_
      refine v_icmpge (pc := 82) (tgt := 120) d_Wo_work_82 (by decide) (fun c => ?_) (fun c => ?_)
      · replace h := h.1 c
        exact v_vret (pc := 120) d_Wo_work_120 rfl h
      · replace h := h.2 c
        refine v_aload_n (pc := 85) d_Wo_work_85 rfl (.head _) ?_
        refine v_geti (pc := 86) (x := (w 101 11)) d_Wo_work_86 fl_Wo_73 cC_101.1 cC_101.2 (Or.inl rfl) rfl ?_
        refine v_istore_n (pc := 89) (ls' := [(3, vI (w 101 11)), (0, vA 101), (2, vI x2_)]) d_Wo_work_89 rfl (by decide) rfl ?_
        refine v_aload_n (pc := 90) d_Wo_work_90 rfl (.tail _ (.head _)) ?_
        refine v_dup (pc := 91) d_Wo_work_91 rfl ?_
        refine v_geti (pc := 92) (x := (w 101 11)) d_Wo_work_92 fl_Wo_73 cC_101.1 cC_101.2 (Or.inl rfl) rfl ?_
        refine v_iconst (pc := 95) d_Wo_work_95 (by decide) ?_
        refine v_iadd (pc := 96) d_Wo_work_96 ?_
        refine v_puti (pc := 97) d_Wo_work_97 fp_Wo_73 cC_101.1 cC_101.2 (by decide) rfl ?_
        refine v_aload_n (pc := 100) d_Wo_work_100 rfl (.tail _ (.head _)) ?_
        refine v_iload_n (pc := 101) d_Wo_work_101 rfl (.head _) ?_
        refine v_aload_n (pc := 102) d_Wo_work_102 rfl (.tail _ (.head _)) ?_
        refine v_getr (C := "") (pc := 103) (r := 19) d_Wo_work_103 fl_Wo_31 cC_101.1 cC_101.2 (Or.inl ⟨_, rfl⟩) rC_101_1 ?_
        refine v_getr (C := "") (pc := 106) (r := 20) d_Wo_work_106 fl_Wo_82 cC_19.1 cC_19.2 (Or.inr ⟨_, rfl⟩) rC_19_0 ?_
        refine v_iload_n (pc := 109) d_Wo_work_109 rfl (.head _) ?_
        refine v_iald (pc := 110) (x := (w 20 ((w 101 11).toNat))) d_Wo_work_110 cC_20.1 cC_20.2 rfl h.1 ?_
        replace h := h.2
        refine v_callV (pc := 111) (J' := jWo_perform) (d' := d) (o := 101) (ci := 10) (N := 18) (T := cT10) (As := [vI (w 101 11), vI (w 20 ((w 101 11).toNat))]) d_Wo_work_111 ml_Wo_85 cC_101.1 cC_101.2 (by decide) rfl rfl (Nat.le_of_ble_eq_true rfl) (Nat.le_refl _) rfl (Cal.weak h (fun o w1 h => ?_))
        rcases rV_of h with ⟨rfl, h⟩
        refine v_iinc (pc := 114) (ls' := [(2, vI (wr (x2_ + 1))), (3, vI (w 101 11)), (0, vA 101)]) d_Wo_work_114 (.tail _ (.tail _ (.head _))) (by decide) rfl ?_
        refine v_goto (pc := 117) (tgt := 58) d_Wo_work_117 (by decide) ?_
        exact v_sub (List.forall_mem_cons.mpr ⟨(.tail _ (.tail _ (.head _))), (List.forall_mem_cons.mpr ⟨(.head _), (fun _ z => absurd z List.not_mem_nil)⟩)⟩) h
theorem d_Wo_perform_0 : decode jWo_perform.cc 0 = .ok (.iload_n 2, 1) := by decide +kernel
theorem d_Wo_perform_1 : decode jWo_perform.cc 1 = .ok (.bipush 19, 2) := by decide +kernel
theorem d_Wo_perform_3 : decode jWo_perform.cc 3 = .ok (.if_icmp .gt 12, 3) := by decide +kernel
theorem d_Wo_perform_6 : decode jWo_perform.cc 6 = .ok (.aload_n 0, 1) := by decide +kernel
theorem d_Wo_perform_7 : decode jWo_perform.cc 7 = .ok (.iload_n 1, 1) := by decide +kernel
theorem d_Wo_perform_8 : decode jWo_perform.cc 8 = .ok (.invokevirtual 89, 3) := by decide +kernel
theorem d_Wo_perform_11 : decode jWo_perform.cc 11 = .ok (.ifCond .ne 4, 3) := by decide +kernel
theorem d_Wo_perform_14 : decode jWo_perform.cc 14 = .ok (.return_, 1) := by decide +kernel
theorem d_Wo_perform_15 : decode jWo_perform.cc 15 = .ok (.iload_n 2, 1) := by decide +kernel
theorem d_Wo_perform_16 : decode jWo_perform.cc 16 = .ok (.bipush 11, 2) := by decide +kernel
theorem d_Wo_perform_18 : decode jWo_perform.cc 18 = .ok (.if_icmp .gt 24, 3) := by decide +kernel
theorem d_Wo_perform_21 : decode jWo_perform.cc 21 = .ok (.aload_n 0, 1) := by decide +kernel
theorem d_Wo_perform_22 : decode jWo_perform.cc 22 = .ok (.aload_n 0, 1) := by decide +kernel
theorem d_Wo_perform_23 : decode jWo_perform.cc 23 = .ok (.iload_n 2, 1) := by decide +kernel
theorem d_Wo_perform_24 : decode jWo_perform.cc 24 = .ok (.aload_n 0, 1) := by decide +kernel
theorem d_Wo_perform_25 : decode jWo_perform.cc 25 = .ok (.getfield 31, 3) := by decide +kernel
theorem d_Wo_perform_28 : decode jWo_perform.cc 28 = .ok (.getfield 93, 3) := by decide +kernel
theorem d_Wo_perform_31 : decode jWo_perform.cc 31 = .ok (.iload_n 1, 1) := by decide +kernel
theorem d_Wo_perform_32 : decode jWo_perform.cc 32 = .ok (.iaload, 1) := by decide +kernel
theorem d_Wo_perform_33 : decode jWo_perform.cc 33 = .ok (.invokevirtual 96, 3) := by decide +kernel
theorem d_Wo_perform_36 : decode jWo_perform.cc 36 = .ok (.invokevirtual 100, 3) := by decide +kernel
theorem d_Wo_perform_39 : decode jWo_perform.cc 39 = .ok (.goto 47, 3) := by decide +kernel
theorem d_Wo_perform_42 : decode jWo_perform.cc 42 = .ok (.iload_n 2, 1) := by decide +kernel
theorem d_Wo_perform_43 : decode jWo_perform.cc 43 = .ok (.bipush 15, 2) := by decide +kernel
theorem d_Wo_perform_45 : decode jWo_perform.cc 45 = .ok (.if_icmp .gt 12, 3) := by decide +kernel
theorem d_Wo_perform_48 : decode jWo_perform.cc 48 = .ok (.aload_n 0, 1) := by decide +kernel
theorem d_Wo_perform_49 : decode jWo_perform.cc 49 = .ok (.iload_n 1, 1) := by decide +kernel
theorem d_Wo_perform_50 : decode jWo_perform.cc 50 = .ok (.iload_n 2, 1) := by decide +kernel
theorem d_Wo_perform_51 : decode jWo_perform.cc 51 = .ok (.invokevirtual 104, 3) := by decide +kernel
theorem d_Wo_perform_54 : decode jWo_perform.cc 54 = .ok (.goto 32, 3) := by decide +kernel
theorem d_Wo_perform_57 : decode jWo_perform.cc 57 = .ok (.iload_n 2, 1) := by decide +kernel
theorem d_Wo_perform_58 : decode jWo_perform.cc 58 = .ok (.bipush 25, 2) := by decide +kernel
theorem d_Wo_perform_60 : decode jWo_perform.cc 60 = .ok (.if_icmp .gt 12, 3) := by decide +kernel
theorem d_Wo_perform_63 : decode jWo_perform.cc 63 = .ok (.aload_n 0, 1) := by decide +kernel
theorem d_Wo_perform_64 : decode jWo_perform.cc 64 = .ok (.iload_n 1, 1) := by decide +kernel
theorem d_Wo_perform_65 : decode jWo_perform.cc 65 = .ok (.iload_n 2, 1) := by decide +kernel
theorem d_Wo_perform_66 : decode jWo_perform.cc 66 = .ok (.invokevirtual 107, 3) := by decide +kernel
theorem d_Wo_perform_69 : decode jWo_perform.cc 69 = .ok (.goto 17, 3) := by decide +kernel
theorem d_Wo_perform_72 : decode jWo_perform.cc 72 = .ok (.aload_n 0, 1) := by decide +kernel
theorem d_Wo_perform_73 : decode jWo_perform.cc 73 = .ok (.iload_n 2, 1) := by decide +kernel
theorem d_Wo_perform_74 : decode jWo_perform.cc 74 = .ok (.aload_n 0, 1) := by decide +kernel
theorem d_Wo_perform_75 : decode jWo_perform.cc 75 = .ok (.getfield 31, 3) := by decide +kernel
theorem d_Wo_perform_78 : decode jWo_perform.cc 78 = .ok (.getfield 93, 3) := by decide +kernel
theorem d_Wo_perform_81 : decode jWo_perform.cc 81 = .ok (.iload_n 1, 1) := by decide +kernel
theorem d_Wo_perform_82 : decode jWo_perform.cc 82 = .ok (.iaload, 1) := by decide +kernel
theorem d_Wo_perform_83 : decode jWo_perform.cc 83 = .ok (.invokevirtual 110, 3) := by decide +kernel
theorem d_Wo_perform_86 : decode jWo_perform.cc 86 = .ok (.return_, 1) := by decide +kernel
set_option maxHeartbeats 4000000 in
theorem s_Wo_perform {g : Mg} {d : Nat} {K : Ou → Wd → Prop} {w : Wd} {p1 : Int} {p2 : Int} (h : (19 < p2 → ((11 < p2 → ((15 < p2 → ((25 < p2 → ((0 ≤ p1 ∧ p1 < 1024) ∧ (Cal g LC jWo_act d [vA 101, vI p2, vI (w 21 p1.toNat)] w (fun o w1 => rV o (K (.inl none) w1))))) ∧ (¬ 25 < p2 → (Cal g LC jWo_flow d [vA 101, vI p1, vI p2] w (fun o w2 => rV o (K (.inl none) w2)))))) ∧ (¬ 15 < p2 → (Cal g LC jWo_operate d [vA 101, vI p1, vI p2] w (fun o w3 => rV o (K (.inl none) w3)))))) ∧ (¬ 11 < p2 → ((0 ≤ p1 ∧ p1 < 1024) ∧ (Cal g LC jWo_operand d [vA 101, vI p2, vI (w 21 p1.toNat)] w (fun o w4 => rI o (fun x5 => Cal g LC jWo_push d [vA 101, vI x5] w4 (fun o w6 => rV o (K (.inl none) w6))))))))) ∧ (¬ 19 < p2 → (Cal g LC jWo_countStep d [vA 101, vI p1] w (fun o w7 => rI o (fun x8 => (¬ x8 = 0 → ((11 < p2 → ((15 < p2 → ((25 < p2 → ((0 ≤ p1 ∧ p1 < 1024) ∧ (Cal g LC jWo_act d [vA 101, vI p2, vI (w7 21 p1.toNat)] w7 (fun o w9 => rV o (K (.inl none) w9))))) ∧ (¬ 25 < p2 → (Cal g LC jWo_flow d [vA 101, vI p1, vI p2] w7 (fun o w10 => rV o (K (.inl none) w10)))))) ∧ (¬ 15 < p2 → (Cal g LC jWo_operate d [vA 101, vI p1, vI p2] w7 (fun o w11 => rV o (K (.inl none) w11)))))) ∧ (¬ 11 < p2 → ((0 ≤ p1 ∧ p1 < 1024) ∧ (Cal g LC jWo_operand d [vA 101, vI p2, vI (w7 21 p1.toNat)] w7 (fun o w12 => rI o (fun x13 => Cal g LC jWo_push d [vA 101, vI x13] w12 (fun o w14 => rV o (K (.inl none) w14))))))))) ∧ (x8 = 0 → (K (.inl none) w7))))))) : V g LC jWo_perform (d + 1) K 0 [(0, vA 101), (1, vI p1), (2, vI p2)] [] w := by
  refine v_iload_n (pc := 0) d_Wo_perform_0 rfl (.tail _ (.tail _ (.head _))) ?_
  refine v_bipush (pc := 1) d_Wo_perform_1 (by decide) rfl ?_
  refine v_icmpgt (pc := 3) (tgt := 15) d_Wo_perform_3 (by decide) (fun c => ?_) (fun c => ?_)
  · replace h := h.1 c
    refine v_iload_n (pc := 15) d_Wo_perform_15 rfl (.tail _ (.tail _ (.head _))) ?_
    refine v_bipush (pc := 16) d_Wo_perform_16 (by decide) rfl ?_
    refine v_icmpgt (pc := 18) (tgt := 42) d_Wo_perform_18 (by decide) (fun c => ?_) (fun c => ?_)
    · replace h := h.1 c
      refine v_iload_n (pc := 42) d_Wo_perform_42 rfl (.tail _ (.tail _ (.head _))) ?_
      refine v_bipush (pc := 43) d_Wo_perform_43 (by decide) rfl ?_
      refine v_icmpgt (pc := 45) (tgt := 57) d_Wo_perform_45 (by decide) (fun c => ?_) (fun c => ?_)
      · replace h := h.1 c
        refine v_iload_n (pc := 57) d_Wo_perform_57 rfl (.tail _ (.tail _ (.head _))) ?_
        refine v_bipush (pc := 58) d_Wo_perform_58 (by decide) rfl ?_
        refine v_icmpgt (pc := 60) (tgt := 72) d_Wo_perform_60 (by decide) (fun c => ?_) (fun c => ?_)
        · replace h := h.1 c
          refine v_aload_n (pc := 72) d_Wo_perform_72 rfl (.head _) ?_
          refine v_iload_n (pc := 73) d_Wo_perform_73 rfl (.tail _ (.tail _ (.head _))) ?_
          refine v_aload_n (pc := 74) d_Wo_perform_74 rfl (.head _) ?_
          refine v_getr (C := "") (pc := 75) (r := 19) d_Wo_perform_75 fl_Wo_31 cC_101.1 cC_101.2 (Or.inl ⟨_, rfl⟩) rC_101_1 ?_
          refine v_getr (C := "") (pc := 78) (r := 21) d_Wo_perform_78 fl_Wo_93 cC_19.1 cC_19.2 (Or.inr ⟨_, rfl⟩) rC_19_1 ?_
          refine v_iload_n (pc := 81) d_Wo_perform_81 rfl (.tail _ (.head _)) ?_
          refine v_iald (pc := 82) (x := (w 21 p1.toNat)) d_Wo_perform_82 cC_21.1 cC_21.2 rfl h.1 ?_
          replace h := h.2
          refine v_callV (pc := 83) (J' := jWo_act) (d' := d) (o := 101) (ci := 10) (N := 18) (T := cT10) (As := [vI p2, vI (w 21 p1.toNat)]) d_Wo_perform_83 ml_Wo_110 cC_101.1 cC_101.2 (by decide) rfl rfl (Nat.le_of_ble_eq_true rfl) (Nat.le_refl _) rfl (Cal.weak h (fun o w1 h => ?_))
          rcases rV_of h with ⟨rfl, h⟩
          exact v_vret (pc := 86) d_Wo_perform_86 rfl h
        · replace h := h.2 c
          refine v_aload_n (pc := 63) d_Wo_perform_63 rfl (.head _) ?_
          refine v_iload_n (pc := 64) d_Wo_perform_64 rfl (.tail _ (.head _)) ?_
          refine v_iload_n (pc := 65) d_Wo_perform_65 rfl (.tail _ (.tail _ (.head _))) ?_
          refine v_callV (pc := 66) (J' := jWo_flow) (d' := d) (o := 101) (ci := 10) (N := 18) (T := cT10) (As := [vI p1, vI p2]) d_Wo_perform_66 ml_Wo_107 cC_101.1 cC_101.2 (by decide) rfl rfl (Nat.le_of_ble_eq_true rfl) (Nat.le_refl _) rfl (Cal.weak h (fun o w2 h => ?_))
          rcases rV_of h with ⟨rfl, h⟩
          refine v_goto (pc := 69) (tgt := 86) d_Wo_perform_69 (by decide) ?_
          exact v_vret (pc := 86) d_Wo_perform_86 rfl h
      · replace h := h.2 c
        refine v_aload_n (pc := 48) d_Wo_perform_48 rfl (.head _) ?_
        refine v_iload_n (pc := 49) d_Wo_perform_49 rfl (.tail _ (.head _)) ?_
        refine v_iload_n (pc := 50) d_Wo_perform_50 rfl (.tail _ (.tail _ (.head _))) ?_
        refine v_callV (pc := 51) (J' := jWo_operate) (d' := d) (o := 101) (ci := 10) (N := 18) (T := cT10) (As := [vI p1, vI p2]) d_Wo_perform_51 ml_Wo_104 cC_101.1 cC_101.2 (by decide) rfl rfl (Nat.le_of_ble_eq_true rfl) (Nat.le_refl _) rfl (Cal.weak h (fun o w3 h => ?_))
        rcases rV_of h with ⟨rfl, h⟩
        refine v_goto (pc := 54) (tgt := 86) d_Wo_perform_54 (by decide) ?_
        exact v_vret (pc := 86) d_Wo_perform_86 rfl h
    · replace h := h.2 c
      refine v_aload_n (pc := 21) d_Wo_perform_21 rfl (.head _) ?_
      refine v_aload_n (pc := 22) d_Wo_perform_22 rfl (.head _) ?_
      refine v_iload_n (pc := 23) d_Wo_perform_23 rfl (.tail _ (.tail _ (.head _))) ?_
      refine v_aload_n (pc := 24) d_Wo_perform_24 rfl (.head _) ?_
      refine v_getr (C := "") (pc := 25) (r := 19) d_Wo_perform_25 fl_Wo_31 cC_101.1 cC_101.2 (Or.inl ⟨_, rfl⟩) rC_101_1 ?_
      refine v_getr (C := "") (pc := 28) (r := 21) d_Wo_perform_28 fl_Wo_93 cC_19.1 cC_19.2 (Or.inr ⟨_, rfl⟩) rC_19_1 ?_
      refine v_iload_n (pc := 31) d_Wo_perform_31 rfl (.tail _ (.head _)) ?_
      refine v_iald (pc := 32) (x := (w 21 p1.toNat)) d_Wo_perform_32 cC_21.1 cC_21.2 rfl h.1 ?_
      replace h := h.2
      refine v_callV (pc := 33) (J' := jWo_operand) (d' := d) (o := 101) (ci := 10) (N := 18) (T := cT10) (As := [vI p2, vI (w 21 p1.toNat)]) d_Wo_perform_33 ml_Wo_96 cC_101.1 cC_101.2 (by decide) rfl rfl (Nat.le_of_ble_eq_true rfl) (Nat.le_refl _) rfl (Cal.weak h (fun o w4 h => ?_))
      rcases rI_of h with ⟨x5, rfl, h⟩
      refine v_callV (pc := 36) (J' := jWo_push) (d' := d) (o := 101) (ci := 10) (N := 18) (T := cT10) (As := [vI x5]) d_Wo_perform_36 ml_Wo_100 cC_101.1 cC_101.2 (by decide) rfl rfl (Nat.le_of_ble_eq_true rfl) (Nat.le_refl _) rfl (Cal.weak h (fun o w6 h => ?_))
      rcases rV_of h with ⟨rfl, h⟩
      refine v_goto (pc := 39) (tgt := 86) d_Wo_perform_39 (by decide) ?_
      exact v_vret (pc := 86) d_Wo_perform_86 rfl h
  · replace h := h.2 c
    refine v_aload_n (pc := 6) d_Wo_perform_6 rfl (.head _) ?_
    refine v_iload_n (pc := 7) d_Wo_perform_7 rfl (.tail _ (.head _)) ?_
    refine v_callV (pc := 8) (J' := jWo_countStep) (d' := d) (o := 101) (ci := 10) (N := 18) (T := cT10) (As := [vI p1]) d_Wo_perform_8 ml_Wo_89 cC_101.1 cC_101.2 (by decide) rfl rfl (Nat.le_of_ble_eq_true rfl) (Nat.le_refl _) rfl (Cal.weak h (fun o w7 h => ?_))
    rcases rI_of h with ⟨x8, rfl, h⟩
    refine v_ifne (pc := 11) (tgt := 15) d_Wo_perform_11 (by decide) (fun c => ?_) (fun c => ?_)
    · replace h := h.1 c
      refine v_iload_n (pc := 15) d_Wo_perform_15 rfl (.tail _ (.tail _ (.head _))) ?_
      refine v_bipush (pc := 16) d_Wo_perform_16 (by decide) rfl ?_
      refine v_icmpgt (pc := 18) (tgt := 42) d_Wo_perform_18 (by decide) (fun c => ?_) (fun c => ?_)
      · replace h := h.1 c
        refine v_iload_n (pc := 42) d_Wo_perform_42 rfl (.tail _ (.tail _ (.head _))) ?_
        refine v_bipush (pc := 43) d_Wo_perform_43 (by decide) rfl ?_
        refine v_icmpgt (pc := 45) (tgt := 57) d_Wo_perform_45 (by decide) (fun c => ?_) (fun c => ?_)
        · replace h := h.1 c
          refine v_iload_n (pc := 57) d_Wo_perform_57 rfl (.tail _ (.tail _ (.head _))) ?_
          refine v_bipush (pc := 58) d_Wo_perform_58 (by decide) rfl ?_
          refine v_icmpgt (pc := 60) (tgt := 72) d_Wo_perform_60 (by decide) (fun c => ?_) (fun c => ?_)
          · replace h := h.1 c
            refine v_aload_n (pc := 72) d_Wo_perform_72 rfl (.head _) ?_
            refine v_iload_n (pc := 73) d_Wo_perform_73 rfl (.tail _ (.tail _ (.head _))) ?_
            refine v_aload_n (pc := 74) d_Wo_perform_74 rfl (.head _) ?_
            refine v_getr (C := "") (pc := 75) (r := 19) d_Wo_perform_75 fl_Wo_31 cC_101.1 cC_101.2 (Or.inl ⟨_, rfl⟩) rC_101_1 ?_
            refine v_getr (C := "") (pc := 78) (r := 21) d_Wo_perform_78 fl_Wo_93 cC_19.1 cC_19.2 (Or.inr ⟨_, rfl⟩) rC_19_1 ?_
            refine v_iload_n (pc := 81) d_Wo_perform_81 rfl (.tail _ (.head _)) ?_
            refine v_iald (pc := 82) (x := (w7 21 p1.toNat)) d_Wo_perform_82 cC_21.1 cC_21.2 rfl h.1 ?_
            replace h := h.2
            refine v_callV (pc := 83) (J' := jWo_act) (d' := d) (o := 101) (ci := 10) (N := 18) (T := cT10) (As := [vI p2, vI (w7 21 p1.toNat)]) d_Wo_perform_83 ml_Wo_110 cC_101.1 cC_101.2 (by decide) rfl rfl (Nat.le_of_ble_eq_true rfl) (Nat.le_refl _) rfl (Cal.weak h (fun o w9 h => ?_))
            rcases rV_of h with ⟨rfl, h⟩
            exact v_vret (pc := 86) d_Wo_perform_86 rfl h
          · replace h := h.2 c
            refine v_aload_n (pc := 63) d_Wo_perform_63 rfl (.head _) ?_
            refine v_iload_n (pc := 64) d_Wo_perform_64 rfl (.tail _ (.head _)) ?_
            refine v_iload_n (pc := 65) d_Wo_perform_65 rfl (.tail _ (.tail _ (.head _))) ?_
            refine v_callV (pc := 66) (J' := jWo_flow) (d' := d) (o := 101) (ci := 10) (N := 18) (T := cT10) (As := [vI p1, vI p2]) d_Wo_perform_66 ml_Wo_107 cC_101.1 cC_101.2 (by decide) rfl rfl (Nat.le_of_ble_eq_true rfl) (Nat.le_refl _) rfl (Cal.weak h (fun o w10 h => ?_))
            rcases rV_of h with ⟨rfl, h⟩
            refine v_goto (pc := 69) (tgt := 86) d_Wo_perform_69 (by decide) ?_
            exact v_vret (pc := 86) d_Wo_perform_86 rfl h
        · replace h := h.2 c
          refine v_aload_n (pc := 48) d_Wo_perform_48 rfl (.head _) ?_
          refine v_iload_n (pc := 49) d_Wo_perform_49 rfl (.tail _ (.head _)) ?_
          refine v_iload_n (pc := 50) d_Wo_perform_50 rfl (.tail _ (.tail _ (.head _))) ?_
          refine v_callV (pc := 51) (J' := jWo_operate) (d' := d) (o := 101) (ci := 10) (N := 18) (T := cT10) (As := [vI p1, vI p2]) d_Wo_perform_51 ml_Wo_104 cC_101.1 cC_101.2 (by decide) rfl rfl (Nat.le_of_ble_eq_true rfl) (Nat.le_refl _) rfl (Cal.weak h (fun o w11 h => ?_))
          rcases rV_of h with ⟨rfl, h⟩
          refine v_goto (pc := 54) (tgt := 86) d_Wo_perform_54 (by decide) ?_
          exact v_vret (pc := 86) d_Wo_perform_86 rfl h
      · replace h := h.2 c
        refine v_aload_n (pc := 21) d_Wo_perform_21 rfl (.head _) ?_
        refine v_aload_n (pc := 22) d_Wo_perform_22 rfl (.head _) ?_
        refine v_iload_n (pc := 23) d_Wo_perform_23 rfl (.tail _ (.tail _ (.head _))) ?_
        refine v_aload_n (pc := 24) d_Wo_perform_24 rfl (.head _) ?_
        refine v_getr (C := "") (pc := 25) (r := 19) d_Wo_perform_25 fl_Wo_31 cC_101.1 cC_101.2 (Or.inl ⟨_, rfl⟩) rC_101_1 ?_
        refine v_getr (C := "") (pc := 28) (r := 21) d_Wo_perform_28 fl_Wo_93 cC_19.1 cC_19.2 (Or.inr ⟨_, rfl⟩) rC_19_1 ?_
        refine v_iload_n (pc := 31) d_Wo_perform_31 rfl (.tail _ (.head _)) ?_
        refine v_iald (pc := 32) (x := (w7 21 p1.toNat)) d_Wo_perform_32 cC_21.1 cC_21.2 rfl h.1 ?_
        replace h := h.2
        refine v_callV (pc := 33) (J' := jWo_operand) (d' := d) (o := 101) (ci := 10) (N := 18) (T := cT10) (As := [vI p2, vI (w7 21 p1.toNat)]) d_Wo_perform_33 ml_Wo_96 cC_101.1 cC_101.2 (by decide) rfl rfl (Nat.le_of_ble_eq_true rfl) (Nat.le_refl _) rfl (Cal.weak h (fun o w12 h => ?_))
        rcases rI_of h with ⟨x13, rfl, h⟩
        refine v_callV (pc := 36) (J' := jWo_push) (d' := d) (o := 101) (ci := 10) (N := 18) (T := cT10) (As := [vI x13]) d_Wo_perform_36 ml_Wo_100 cC_101.1 cC_101.2 (by decide) rfl rfl (Nat.le_of_ble_eq_true rfl) (Nat.le_refl _) rfl (Cal.weak h (fun o w14 h => ?_))
        rcases rV_of h with ⟨rfl, h⟩
        refine v_goto (pc := 39) (tgt := 86) d_Wo_perform_39 (by decide) ?_
        exact v_vret (pc := 86) d_Wo_perform_86 rfl h
    · replace h := h.2 c
      exact v_vret (pc := 14) d_Wo_perform_14 rfl h
theorem d_Wo_countStep_0 : decode jWo_countStep.cc 0 = .ok (.aload_n 0, 1) := by decide +kernel
theorem d_Wo_countStep_1 : decode jWo_countStep.cc 1 = .ok (.getfield 56, 3) := by decide +kernel
theorem d_Wo_countStep_4 : decode jWo_countStep.cc 4 = .ok (.sipush 1000, 3) := by decide +kernel
theorem d_Wo_countStep_7 : decode jWo_countStep.cc 7 = .ok (.if_icmp .lt 19, 3) := by decide +kernel
theorem d_Wo_countStep_10 : decode jWo_countStep.cc 10 = .ok (.aload_n 0, 1) := by decide +kernel
theorem d_Wo_countStep_11 : decode jWo_countStep.cc 11 = .ok (.iconst 3, 1) := by decide +kernel
theorem d_Wo_countStep_12 : decode jWo_countStep.cc 12 = .ok (.aload_n 0, 1) := by decide +kernel
theorem d_Wo_countStep_13 : decode jWo_countStep.cc 13 = .ok (.getfield 31, 3) := by decide +kernel
theorem d_Wo_countStep_16 : decode jWo_countStep.cc 16 = .ok (.getfield 113, 3) := by decide +kernel
theorem d_Wo_countStep_19 : decode jWo_countStep.cc 19 = .ok (.iload_n 1, 1) := by decide +kernel
theorem d_Wo_countStep_20 : decode jWo_countStep.cc 20 = .ok (.iaload, 1) := by decide +kernel
theorem d_Wo_countStep_21 : decode jWo_countStep.cc 21 = .ok (.invokevirtual 116, 3) := by decide +kernel
theorem d_Wo_countStep_24 : decode jWo_countStep.cc 24 = .ok (.iconst 0, 1) := by decide +kernel
theorem d_Wo_countStep_25 : decode jWo_countStep.cc 25 = .ok (.ireturn, 1) := by decide +kernel
theorem d_Wo_countStep_26 : decode jWo_countStep.cc 26 = .ok (.aload_n 0, 1) := by decide +kernel
theorem d_Wo_countStep_27 : decode jWo_countStep.cc 27 = .ok (.dup, 1) := by decide +kernel
theorem d_Wo_countStep_28 : decode jWo_countStep.cc 28 = .ok (.getfield 56, 3) := by decide +kernel
theorem d_Wo_countStep_31 : decode jWo_countStep.cc 31 = .ok (.iconst 1, 1) := by decide +kernel
theorem d_Wo_countStep_32 : decode jWo_countStep.cc 32 = .ok (.iadd, 1) := by decide +kernel
theorem d_Wo_countStep_33 : decode jWo_countStep.cc 33 = .ok (.putfield 56, 3) := by decide +kernel
theorem d_Wo_countStep_36 : decode jWo_countStep.cc 36 = .ok (.iconst 1, 1) := by decide +kernel
theorem d_Wo_countStep_37 : decode jWo_countStep.cc 37 = .ok (.ireturn, 1) := by decide +kernel
set_option maxHeartbeats 4000000 in
theorem s_Wo_countStep {g : Mg} {d : Nat} {K : Ou → Wd → Prop} {w : Wd} {p1 : Int} (h : ((w 101 15) < 1000 → (K (.inl (some (vI 1))) (up w 101 15 (wr ((w 101 15) + 1))))) ∧ (¬ (w 101 15) < 1000 → ((0 ≤ p1 ∧ p1 < 1024) ∧ (Cal g LC jWo_fail d [vA 101, vI 3, vI (w 23 p1.toNat)] w (fun o w1 => rV o (K (.inl (some (vI 0))) w1)))))) : V g LC jWo_countStep (d + 1) K 0 [(0, vA 101), (1, vI p1)] [] w := by
  refine v_aload_n (pc := 0) d_Wo_countStep_0 rfl (.head _) ?_
  refine v_geti (pc := 1) (x := (w 101 15)) d_Wo_countStep_1 fl_Wo_56 cC_101.1 cC_101.2 (Or.inl rfl) rfl ?_
  refine v_sipush (pc := 4) d_Wo_countStep_4 (by decide) rfl ?_
  refine v_icmplt (pc := 7) (tgt := 26) d_Wo_countStep_7 (by decide) (fun c => ?_) (fun c => ?_)
  · replace h := h.1 c
    refine v_aload_n (pc := 26) d_Wo_countStep_26 rfl (.head _) ?_
    refine v_dup (pc := 27) d_Wo_countStep_27 rfl ?_
    refine v_geti (pc := 28) (x := (w 101 15)) d_Wo_countStep_28 fl_Wo_56 cC_101.1 cC_101.2 (Or.inl rfl) rfl ?_
    refine v_iconst (pc := 31) d_Wo_countStep_31 (by decide) ?_
    refine v_iadd (pc := 32) d_Wo_countStep_32 ?_
    refine v_puti (pc := 33) d_Wo_countStep_33 fp_Wo_56 cC_101.1 cC_101.2 (by decide) rfl ?_
    refine v_iconst (pc := 36) d_Wo_countStep_36 (by decide) ?_
    exact v_zret (pc := 37) d_Wo_countStep_37 rfl (by decide) h
  · replace h := h.2 c
    refine v_aload_n (pc := 10) d_Wo_countStep_10 rfl (.head _) ?_
    refine v_iconst (pc := 11) d_Wo_countStep_11 (by decide) ?_
    refine v_aload_n (pc := 12) d_Wo_countStep_12 rfl (.head _) ?_
    refine v_getr (C := "") (pc := 13) (r := 19) d_Wo_countStep_13 fl_Wo_31 cC_101.1 cC_101.2 (Or.inl ⟨_, rfl⟩) rC_101_1 ?_
    refine v_getr (C := "") (pc := 16) (r := 23) d_Wo_countStep_16 fl_Wo_113 cC_19.1 cC_19.2 (Or.inr ⟨_, rfl⟩) rC_19_3 ?_
    refine v_iload_n (pc := 19) d_Wo_countStep_19 rfl (.tail _ (.head _)) ?_
    refine v_iald (pc := 20) (x := (w 23 p1.toNat)) d_Wo_countStep_20 cC_23.1 cC_23.2 rfl h.1 ?_
    replace h := h.2
    refine v_callV (pc := 21) (J' := jWo_fail) (d' := d) (o := 101) (ci := 10) (N := 18) (T := cT10) (As := [vI 3, vI (w 23 p1.toNat)]) d_Wo_countStep_21 ml_Wo_116 cC_101.1 cC_101.2 (by decide) rfl rfl (Nat.le_of_ble_eq_true rfl) (Nat.le_refl _) rfl (Cal.weak h (fun o w1 h => ?_))
    rcases rV_of h with ⟨rfl, h⟩
    refine v_iconst (pc := 24) d_Wo_countStep_24 (by decide) ?_
    exact v_zret (pc := 25) d_Wo_countStep_25 rfl (by decide) h
theorem d_Wo_fail_0 : decode jWo_fail.cc 0 = .ok (.aload_n 0, 1) := by decide +kernel
theorem d_Wo_fail_1 : decode jWo_fail.cc 1 = .ok (.iload_n 1, 1) := by decide +kernel
theorem d_Wo_fail_2 : decode jWo_fail.cc 2 = .ok (.putfield 59, 3) := by decide +kernel
theorem d_Wo_fail_5 : decode jWo_fail.cc 5 = .ok (.aload_n 0, 1) := by decide +kernel
theorem d_Wo_fail_6 : decode jWo_fail.cc 6 = .ok (.iload_n 2, 1) := by decide +kernel
theorem d_Wo_fail_7 : decode jWo_fail.cc 7 = .ok (.putfield 119, 3) := by decide +kernel
theorem d_Wo_fail_10 : decode jWo_fail.cc 10 = .ok (.aload_n 0, 1) := by decide +kernel
theorem d_Wo_fail_11 : decode jWo_fail.cc 11 = .ok (.iconst (-1), 1) := by decide +kernel
theorem d_Wo_fail_12 : decode jWo_fail.cc 12 = .ok (.putfield 73, 3) := by decide +kernel
theorem d_Wo_fail_15 : decode jWo_fail.cc 15 = .ok (.return_, 1) := by decide +kernel
set_option maxHeartbeats 4000000 in
theorem s_Wo_fail {g : Mg} {d : Nat} {K : Ou → Wd → Prop} {w : Wd} {p1 : Int} {p2 : Int} (h : K (.inl none) (up (up (up w 101 16 p1) 101 17 p2) 101 11 (-1))) : V g LC jWo_fail d K 0 [(0, vA 101), (1, vI p1), (2, vI p2)] [] w := by
  refine v_aload_n (pc := 0) d_Wo_fail_0 rfl (.head _) ?_
  refine v_iload_n (pc := 1) d_Wo_fail_1 rfl (.tail _ (.head _)) ?_
  refine v_puti (pc := 2) d_Wo_fail_2 fp_Wo_59 cC_101.1 cC_101.2 (by decide) rfl ?_
  refine v_aload_n (pc := 5) d_Wo_fail_5 rfl (.head _) ?_
  refine v_iload_n (pc := 6) d_Wo_fail_6 rfl (.tail _ (.tail _ (.head _))) ?_
  refine v_puti (pc := 7) d_Wo_fail_7 fp_Wo_119 cC_101.1 cC_101.2 (by decide) rfl ?_
  refine v_aload_n (pc := 10) d_Wo_fail_10 rfl (.head _) ?_
  refine v_iconst (pc := 11) d_Wo_fail_11 (by decide) ?_
  refine v_puti (pc := 12) d_Wo_fail_12 fp_Wo_73 cC_101.1 cC_101.2 (by decide) rfl ?_
  exact v_vret (pc := 15) d_Wo_fail_15 rfl h
theorem d_Wo_push_0 : decode jWo_push.cc 0 = .ok (.aload_n 0, 1) := by decide +kernel
theorem d_Wo_push_1 : decode jWo_push.cc 1 = .ok (.getfield 50, 3) := by decide +kernel
theorem d_Wo_push_4 : decode jWo_push.cc 4 = .ok (.aload_n 0, 1) := by decide +kernel
theorem d_Wo_push_5 : decode jWo_push.cc 5 = .ok (.getfield 9, 3) := by decide +kernel
theorem d_Wo_push_8 : decode jWo_push.cc 8 = .ok (.arraylength, 1) := by decide +kernel
theorem d_Wo_push_9 : decode jWo_push.cc 9 = .ok (.if_icmp .ge 23, 3) := by decide +kernel
theorem d_Wo_push_12 : decode jWo_push.cc 12 = .ok (.aload_n 0, 1) := by decide +kernel
theorem d_Wo_push_13 : decode jWo_push.cc 13 = .ok (.getfield 9, 3) := by decide +kernel
theorem d_Wo_push_16 : decode jWo_push.cc 16 = .ok (.aload_n 0, 1) := by decide +kernel
theorem d_Wo_push_17 : decode jWo_push.cc 17 = .ok (.getfield 50, 3) := by decide +kernel
theorem d_Wo_push_20 : decode jWo_push.cc 20 = .ok (.iload_n 1, 1) := by decide +kernel
theorem d_Wo_push_21 : decode jWo_push.cc 21 = .ok (.iastore, 1) := by decide +kernel
theorem d_Wo_push_22 : decode jWo_push.cc 22 = .ok (.aload_n 0, 1) := by decide +kernel
theorem d_Wo_push_23 : decode jWo_push.cc 23 = .ok (.dup, 1) := by decide +kernel
theorem d_Wo_push_24 : decode jWo_push.cc 24 = .ok (.getfield 50, 3) := by decide +kernel
theorem d_Wo_push_27 : decode jWo_push.cc 27 = .ok (.iconst 1, 1) := by decide +kernel
theorem d_Wo_push_28 : decode jWo_push.cc 28 = .ok (.iadd, 1) := by decide +kernel
theorem d_Wo_push_29 : decode jWo_push.cc 29 = .ok (.putfield 50, 3) := by decide +kernel
theorem d_Wo_push_32 : decode jWo_push.cc 32 = .ok (.return_, 1) := by decide +kernel
set_option maxHeartbeats 4000000 in
theorem s_Wo_push {g : Mg} {d : Nat} {K : Ou → Wd → Prop} {w : Wd} {p1 : Int} (h : (64 ≤ (w 101 10) → (K (.inl none) w)) ∧ (¬ 64 ≤ (w 101 10) → ((0 ≤ (w 101 10) ∧ (w 101 10) < 64) ∧ (K (.inl none) (up (up w 102 ((w 101 10).toNat) p1) 101 10 (wr ((w 101 10) + 1))))))) : V g LC jWo_push d K 0 [(0, vA 101), (1, vI p1)] [] w := by
  refine v_aload_n (pc := 0) d_Wo_push_0 rfl (.head _) ?_
  refine v_geti (pc := 1) (x := (w 101 10)) d_Wo_push_1 fl_Wo_50 cC_101.1 cC_101.2 (Or.inl rfl) rfl ?_
  refine v_aload_n (pc := 4) d_Wo_push_4 rfl (.head _) ?_
  refine v_getr (C := "") (pc := 5) (r := 102) d_Wo_push_5 fl_Wo_9 cC_101.1 cC_101.2 (Or.inr ⟨_, rfl⟩) rC_101_3 ?_
  refine v_alen (pc := 8) (n := 64) d_Wo_push_8 cC_102.1 cC_102.2 (by decide) (by decide) ?_
  refine v_icmpge (pc := 9) (tgt := 32) d_Wo_push_9 (by decide) (fun c => ?_) (fun c => ?_)
  · replace h := h.1 c
    exact v_vret (pc := 32) d_Wo_push_32 rfl h
  · replace h := h.2 c
    refine v_aload_n (pc := 12) d_Wo_push_12 rfl (.head _) ?_
    refine v_getr (C := "") (pc := 13) (r := 102) d_Wo_push_13 fl_Wo_9 cC_101.1 cC_101.2 (Or.inr ⟨_, rfl⟩) rC_101_3 ?_
    refine v_aload_n (pc := 16) d_Wo_push_16 rfl (.head _) ?_
    refine v_geti (pc := 17) (x := (w 101 10)) d_Wo_push_17 fl_Wo_50 cC_101.1 cC_101.2 (Or.inl rfl) rfl ?_
    refine v_iload_n (pc := 20) d_Wo_push_20 rfl (.tail _ (.head _)) ?_
    refine v_iast (pc := 21) d_Wo_push_21 cC_102.1 cC_102.2 (aC_102 _) h.1 ?_
    replace h := h.2
    refine v_aload_n (pc := 22) d_Wo_push_22 rfl (.head _) ?_
    refine v_dup (pc := 23) d_Wo_push_23 rfl ?_
    refine v_geti (pc := 24) (x := (w 101 10)) d_Wo_push_24 fl_Wo_50 cC_101.1 cC_101.2 (Or.inl rfl) rfl ?_
    refine v_iconst (pc := 27) d_Wo_push_27 (by decide) ?_
    refine v_iadd (pc := 28) d_Wo_push_28 ?_
    refine v_puti (pc := 29) d_Wo_push_29 fp_Wo_50 cC_101.1 cC_101.2 (by decide) rfl ?_
    exact v_vret (pc := 32) d_Wo_push_32 rfl h
theorem d_Wo_pop_0 : decode jWo_pop.cc 0 = .ok (.aload_n 0, 1) := by decide +kernel
theorem d_Wo_pop_1 : decode jWo_pop.cc 1 = .ok (.getfield 50, 3) := by decide +kernel
theorem d_Wo_pop_4 : decode jWo_pop.cc 4 = .ok (.ifCond .gt 5, 3) := by decide +kernel
theorem d_Wo_pop_7 : decode jWo_pop.cc 7 = .ok (.iconst 0, 1) := by decide +kernel
theorem d_Wo_pop_8 : decode jWo_pop.cc 8 = .ok (.ireturn, 1) := by decide +kernel
theorem d_Wo_pop_9 : decode jWo_pop.cc 9 = .ok (.aload_n 0, 1) := by decide +kernel
theorem d_Wo_pop_10 : decode jWo_pop.cc 10 = .ok (.dup, 1) := by decide +kernel
theorem d_Wo_pop_11 : decode jWo_pop.cc 11 = .ok (.getfield 50, 3) := by decide +kernel
theorem d_Wo_pop_14 : decode jWo_pop.cc 14 = .ok (.iconst 1, 1) := by decide +kernel
theorem d_Wo_pop_15 : decode jWo_pop.cc 15 = .ok (.isub, 1) := by decide +kernel
theorem d_Wo_pop_16 : decode jWo_pop.cc 16 = .ok (.putfield 50, 3) := by decide +kernel
theorem d_Wo_pop_19 : decode jWo_pop.cc 19 = .ok (.aload_n 0, 1) := by decide +kernel
theorem d_Wo_pop_20 : decode jWo_pop.cc 20 = .ok (.getfield 9, 3) := by decide +kernel
theorem d_Wo_pop_23 : decode jWo_pop.cc 23 = .ok (.aload_n 0, 1) := by decide +kernel
theorem d_Wo_pop_24 : decode jWo_pop.cc 24 = .ok (.getfield 50, 3) := by decide +kernel
theorem d_Wo_pop_27 : decode jWo_pop.cc 27 = .ok (.iaload, 1) := by decide +kernel
theorem d_Wo_pop_28 : decode jWo_pop.cc 28 = .ok (.ireturn, 1) := by decide +kernel
set_option maxHeartbeats 4000000 in
theorem s_Wo_pop {g : Mg} {d : Nat} {K : Ou → Wd → Prop} {w : Wd} (h : (0 < (w 101 10) → ((0 ≤ (wr ((w 101 10) - 1)) ∧ (wr ((w 101 10) - 1)) < 64) ∧ (K (.inl (some (vI (w 102 ((wr ((w 101 10) - 1)).toNat))))) (up w 101 10 (wr ((w 101 10) - 1)))))) ∧ (¬ 0 < (w 101 10) → (K (.inl (some (vI 0))) w))) : V g LC jWo_pop d K 0 [(0, vA 101)] [] w := by
  refine v_aload_n (pc := 0) d_Wo_pop_0 rfl (.head _) ?_
  refine v_geti (pc := 1) (x := (w 101 10)) d_Wo_pop_1 fl_Wo_50 cC_101.1 cC_101.2 (Or.inl rfl) rfl ?_
  refine v_ifgt (pc := 4) (tgt := 9) d_Wo_pop_4 (by decide) (fun c => ?_) (fun c => ?_)
  · replace h := h.1 c
    refine v_aload_n (pc := 9) d_Wo_pop_9 rfl (.head _) ?_
    refine v_dup (pc := 10) d_Wo_pop_10 rfl ?_
    refine v_geti (pc := 11) (x := (w 101 10)) d_Wo_pop_11 fl_Wo_50 cC_101.1 cC_101.2 (Or.inl rfl) rfl ?_
    refine v_iconst (pc := 14) d_Wo_pop_14 (by decide) ?_
    refine v_isub (pc := 15) d_Wo_pop_15 ?_
    refine v_puti (pc := 16) d_Wo_pop_16 fp_Wo_50 cC_101.1 cC_101.2 (by decide) rfl ?_
    refine v_aload_n (pc := 19) d_Wo_pop_19 rfl (.head _) ?_
    refine v_getr (C := "") (pc := 20) (r := 102) d_Wo_pop_20 fl_Wo_9 cC_101.1 cC_101.2 (Or.inr ⟨_, rfl⟩) rC_101_3 ?_
    refine v_aload_n (pc := 23) d_Wo_pop_23 rfl (.head _) ?_
    refine v_geti (pc := 24) (x := (wr ((w 101 10) - 1))) d_Wo_pop_24 fl_Wo_50 cC_101.1 cC_101.2 (Or.inl rfl) rfl ?_
    refine v_iald (pc := 27) (x := (w 102 ((wr ((w 101 10) - 1)).toNat))) d_Wo_pop_27 cC_102.1 cC_102.2 rfl h.1 ?_
    replace h := h.2
    exact v_iret (pc := 28) d_Wo_pop_28 rfl h
  · replace h := h.2 c
    refine v_iconst (pc := 7) d_Wo_pop_7 (by decide) ?_
    exact v_iret (pc := 8) d_Wo_pop_8 rfl h
theorem d_Wo_operand_0 : decode jWo_operand.cc 0 = .ok (.iload_n 1, 1) := by decide +kernel
theorem d_Wo_operand_1 : decode jWo_operand.cc 1 = .ok (.tableswitch 185 0 10 #[59, 61, 79, 86, 103, 113, 126, 151, 156, 164, 172], 59) := by decide +kernel
theorem d_Wo_operand_60 : decode jWo_operand.cc 60 = .ok (.iload_n 2, 1) := by decide +kernel
theorem d_Wo_operand_61 : decode jWo_operand.cc 61 = .ok (.ireturn, 1) := by decide +kernel
theorem d_Wo_operand_62 : decode jWo_operand.cc 62 = .ok (.aload_n 0, 1) := by decide +kernel
theorem d_Wo_operand_63 : decode jWo_operand.cc 63 = .ok (.getfield 40, 3) := by decide +kernel
theorem d_Wo_operand_66 : decode jWo_operand.cc 66 = .ok (.getfield 122, 3) := by decide +kernel
theorem d_Wo_operand_69 : decode jWo_operand.cc 69 = .ok (.aload_n 0, 1) := by decide +kernel
theorem d_Wo_operand_70 : decode jWo_operand.cc 70 = .ok (.getfield 47, 3) := by decide +kernel
theorem d_Wo_operand_73 : decode jWo_operand.cc 73 = .ok (.bipush 8, 2) := by decide +kernel
theorem d_Wo_operand_75 : decode jWo_operand.cc 75 = .ok (.imul, 1) := by decide +kernel
theorem d_Wo_operand_76 : decode jWo_operand.cc 76 = .ok (.iload_n 2, 1) := by decide +kernel
theorem d_Wo_operand_77 : decode jWo_operand.cc 77 = .ok (.iadd, 1) := by decide +kernel
theorem d_Wo_operand_78 : decode jWo_operand.cc 78 = .ok (.iaload, 1) := by decide +kernel
theorem d_Wo_operand_79 : decode jWo_operand.cc 79 = .ok (.ireturn, 1) := by decide +kernel
theorem d_Wo_operand_80 : decode jWo_operand.cc 80 = .ok (.aload_n 0, 1) := by decide +kernel
theorem d_Wo_operand_81 : decode jWo_operand.cc 81 = .ok (.getfield 15, 3) := by decide +kernel
theorem d_Wo_operand_84 : decode jWo_operand.cc 84 = .ok (.iload_n 2, 1) := by decide +kernel
theorem d_Wo_operand_85 : decode jWo_operand.cc 85 = .ok (.iaload, 1) := by decide +kernel
theorem d_Wo_operand_86 : decode jWo_operand.cc 86 = .ok (.ireturn, 1) := by decide +kernel
theorem d_Wo_operand_87 : decode jWo_operand.cc 87 = .ok (.aload_n 0, 1) := by decide +kernel
theorem d_Wo_operand_88 : decode jWo_operand.cc 88 = .ok (.getfield 36, 3) := by decide +kernel
theorem d_Wo_operand_91 : decode jWo_operand.cc 91 = .ok (.getfield 125, 3) := by decide +kernel
theorem d_Wo_operand_94 : decode jWo_operand.cc 94 = .ok (.aload_n 0, 1) := by decide +kernel
theorem d_Wo_operand_95 : decode jWo_operand.cc 95 = .ok (.getfield 47, 3) := by decide +kernel
theorem d_Wo_operand_98 : decode jWo_operand.cc 98 = .ok (.iconst 4, 1) := by decide +kernel
theorem d_Wo_operand_99 : decode jWo_operand.cc 99 = .ok (.imul, 1) := by decide +kernel
theorem d_Wo_operand_100 : decode jWo_operand.cc 100 = .ok (.iload_n 2, 1) := by decide +kernel
theorem d_Wo_operand_101 : decode jWo_operand.cc 101 = .ok (.iadd, 1) := by decide +kernel
theorem d_Wo_operand_102 : decode jWo_operand.cc 102 = .ok (.iaload, 1) := by decide +kernel
theorem d_Wo_operand_103 : decode jWo_operand.cc 103 = .ok (.ireturn, 1) := by decide +kernel
theorem d_Wo_operand_104 : decode jWo_operand.cc 104 = .ok (.aload_n 0, 1) := by decide +kernel
theorem d_Wo_operand_105 : decode jWo_operand.cc 105 = .ok (.getfield 36, 3) := by decide +kernel
theorem d_Wo_operand_108 : decode jWo_operand.cc 108 = .ok (.getfield 128, 3) := by decide +kernel
theorem d_Wo_operand_111 : decode jWo_operand.cc 111 = .ok (.iload_n 2, 1) := by decide +kernel
theorem d_Wo_operand_112 : decode jWo_operand.cc 112 = .ok (.iaload, 1) := by decide +kernel
theorem d_Wo_operand_113 : decode jWo_operand.cc 113 = .ok (.ireturn, 1) := by decide +kernel
theorem d_Wo_operand_114 : decode jWo_operand.cc 114 = .ok (.aload_n 0, 1) := by decide +kernel
theorem d_Wo_operand_115 : decode jWo_operand.cc 115 = .ok (.getfield 32, 3) := by decide +kernel
theorem d_Wo_operand_118 : decode jWo_operand.cc 118 = .ok (.aload_n 0, 1) := by decide +kernel
theorem d_Wo_operand_119 : decode jWo_operand.cc 119 = .ok (.getfield 131, 3) := by decide +kernel
theorem d_Wo_operand_122 : decode jWo_operand.cc 122 = .ok (.iload_n 2, 1) := by decide +kernel
theorem d_Wo_operand_123 : decode jWo_operand.cc 123 = .ok (.invokevirtual 134, 3) := by decide +kernel
theorem d_Wo_operand_126 : decode jWo_operand.cc 126 = .ok (.ireturn, 1) := by decide +kernel
theorem d_Wo_operand_127 : decode jWo_operand.cc 127 = .ok (.aload_n 0, 1) := by decide +kernel
theorem d_Wo_operand_128 : decode jWo_operand.cc 128 = .ok (.getfield 36, 3) := by decide +kernel
theorem d_Wo_operand_131 : decode jWo_operand.cc 131 = .ok (.getfield 139, 3) := by decide +kernel
theorem d_Wo_operand_134 : decode jWo_operand.cc 134 = .ok (.aload_n 0, 1) := by decide +kernel
theorem d_Wo_operand_135 : decode jWo_operand.cc 135 = .ok (.getfield 47, 3) := by decide +kernel
theorem d_Wo_operand_138 : decode jWo_operand.cc 138 = .ok (.iconst 4, 1) := by decide +kernel
theorem d_Wo_operand_139 : decode jWo_operand.cc 139 = .ok (.imul, 1) := by decide +kernel
theorem d_Wo_operand_140 : decode jWo_operand.cc 140 = .ok (.iload_n 2, 1) := by decide +kernel
theorem d_Wo_operand_141 : decode jWo_operand.cc 141 = .ok (.iadd, 1) := by decide +kernel
theorem d_Wo_operand_142 : decode jWo_operand.cc 142 = .ok (.iaload, 1) := by decide +kernel
theorem d_Wo_operand_143 : decode jWo_operand.cc 143 = .ok (.ifCond .le 7, 3) := by decide +kernel
theorem d_Wo_operand_146 : decode jWo_operand.cc 146 = .ok (.iconst 1, 1) := by decide +kernel
theorem d_Wo_operand_147 : decode jWo_operand.cc 147 = .ok (.goto 4, 3) := by decide +kernel
theorem d_Wo_operand_150 : decode jWo_operand.cc 150 = .ok (.iconst 0, 1) := by decide +kernel
theorem d_Wo_operand_151 : decode jWo_operand.cc 151 = .ok (.ireturn, 1) := by decide +kernel
theorem d_Wo_operand_152 : decode jWo_operand.cc 152 = .ok (.aload_n 0, 1) := by decide +kernel
theorem d_Wo_operand_153 : decode jWo_operand.cc 153 = .ok (.getfield 47, 3) := by decide +kernel
theorem d_Wo_operand_156 : decode jWo_operand.cc 156 = .ok (.ireturn, 1) := by decide +kernel
theorem d_Wo_operand_157 : decode jWo_operand.cc 157 = .ok (.aload_n 0, 1) := by decide +kernel
theorem d_Wo_operand_158 : decode jWo_operand.cc 158 = .ok (.getfield 36, 3) := by decide +kernel
theorem d_Wo_operand_161 : decode jWo_operand.cc 161 = .ok (.getfield 62, 3) := by decide +kernel
theorem d_Wo_operand_164 : decode jWo_operand.cc 164 = .ok (.ireturn, 1) := by decide +kernel
theorem d_Wo_operand_165 : decode jWo_operand.cc 165 = .ok (.aload_n 0, 1) := by decide +kernel
theorem d_Wo_operand_166 : decode jWo_operand.cc 166 = .ok (.getfield 32, 3) := by decide +kernel
theorem d_Wo_operand_169 : decode jWo_operand.cc 169 = .ok (.getfield 142, 3) := by decide +kernel
theorem d_Wo_operand_172 : decode jWo_operand.cc 172 = .ok (.ireturn, 1) := by decide +kernel
theorem d_Wo_operand_173 : decode jWo_operand.cc 173 = .ok (.aload_n 0, 1) := by decide +kernel
theorem d_Wo_operand_174 : decode jWo_operand.cc 174 = .ok (.getfield 32, 3) := by decide +kernel
theorem d_Wo_operand_177 : decode jWo_operand.cc 177 = .ok (.getfield 145, 3) := by decide +kernel
theorem d_Wo_operand_180 : decode jWo_operand.cc 180 = .ok (.aload_n 0, 1) := by decide +kernel
theorem d_Wo_operand_181 : decode jWo_operand.cc 181 = .ok (.getfield 47, 3) := by decide +kernel
theorem d_Wo_operand_184 : decode jWo_operand.cc 184 = .ok (.iaload, 1) := by decide +kernel
theorem d_Wo_operand_185 : decode jWo_operand.cc 185 = .ok (.ireturn, 1) := by decide +kernel
theorem d_Wo_operand_186 : decode jWo_operand.cc 186 = .ok (.aload_n 0, 1) := by decide +kernel
theorem d_Wo_operand_187 : decode jWo_operand.cc 187 = .ok (.getfield 32, 3) := by decide +kernel
theorem d_Wo_operand_190 : decode jWo_operand.cc 190 = .ok (.getfield 148, 3) := by decide +kernel
theorem d_Wo_operand_193 : decode jWo_operand.cc 193 = .ok (.aload_n 0, 1) := by decide +kernel
theorem d_Wo_operand_194 : decode jWo_operand.cc 194 = .ok (.getfield 47, 3) := by decide +kernel
theorem d_Wo_operand_197 : decode jWo_operand.cc 197 = .ok (.iaload, 1) := by decide +kernel
theorem d_Wo_operand_198 : decode jWo_operand.cc 198 = .ok (.ireturn, 1) := by decide +kernel
set_option maxHeartbeats 4000000 in
theorem s_Wo_operand {g : Mg} {d : Nat} {K : Ou → Wd → Prop} {w : Wd} {p1 : Int} {p2 : Int} (h : ((p1 < 0 ∨ 10 < p1) → ((0 ≤ (w 101 9) ∧ (w 101 9) < 40) ∧ (K (.inl (some (vI (w 36 ((w 101 9).toNat))))) w))) ∧ (p1 = 0 → (K (.inl (some (vI p2))) w)) ∧ (p1 = 1 → (∃ q1 : Nat, (w 101 7) = (q1 : Int) ∧ isMo q1 ∧ ((0 ≤ (wr ((wr ((w 101 9) * 8)) + p2)) ∧ (wr ((wr ((w 101 9) * 8)) + p2)) < 320) ∧ (K (.inl (some (vI (w (q1 + 1) ((wr ((wr ((w 101 9) * 8)) + p2)).toNat))))) w)))) ∧ (p1 = 2 → ((0 ≤ p2 ∧ p2 < 8) ∧ (K (.inl (some (vI (w 103 p2.toNat)))) w))) ∧ (p1 = 3 → (∃ q2 : Nat, (w 101 6) = (q2 : Int) ∧ isMo q2 ∧ ((0 ≤ (wr ((wr ((w 101 9) * 4)) + p2)) ∧ (wr ((wr ((w 101 9) * 4)) + p2)) < 160) ∧ (K (.inl (some (vI (w (q2 + 3) ((wr ((wr ((w 101 9) * 4)) + p2)).toNat))))) w)))) ∧ (p1 = 4 → (∃ q3 : Nat, (w 101 6) = (q3 : Int) ∧ isMo q3 ∧ ((0 ≤ p2 ∧ p2 < 4) ∧ (K (.inl (some (vI (w (q3 + 5) p2.toNat)))) w)))) ∧ (p1 = 5 → (Cal g LC jGr_weightOf d [vA 31, vI (w 101 12), vI p2] w (fun o w4 => rI o (fun x5 => K (.inl (some (vI x5))) w4)))) ∧ (p1 = 6 → (∃ q6 : Nat, (w 101 6) = (q6 : Int) ∧ isMo q6 ∧ ((0 ≤ (wr ((wr ((w 101 9) * 4)) + p2)) ∧ (wr ((wr ((w 101 9) * 4)) + p2)) < 160) ∧ (((w (q6 + 4) ((wr ((wr ((w 101 9) * 4)) + p2)).toNat)) ≤ 0 → (K (.inl (some (vI 0))) w)) ∧ (¬ (w (q6 + 4) ((wr ((wr ((w 101 9) * 4)) + p2)).toNat)) ≤ 0 → (K (.inl (some (vI 1))) w)))))) ∧ (p1 = 7 → (K (.inl (some (vI (w 101 9)))) w)) ∧ (p1 = 8 → (∃ q7 : Nat, (w 101 6) = (q7 : Int) ∧ isMo q7 ∧ (K (.inl (some (vI (w q7 0)))) w))) ∧ (p1 = 9 → (K (.inl (some (vI (w 31 0)))) w)) ∧ (p1 = 10 → ((0 ≤ (w 101 9) ∧ (w 101 9) < 40) ∧ (K (.inl (some (vI (w 35 ((w 101 9).toNat))))) w)))) : V g LC jWo_operand (d + 1) K 0 [(0, vA 101), (1, vI p1), (2, vI p2)] [] w := by
  refine v_iload_n (pc := 0) d_Wo_operand_0 rfl (.tail _ (.head _)) ?_
  refine v_table (pc := 1) (tgd := 186) (tgs := [60, 62, 80, 87, 104, 114, 127, 152, 157, 165, 173]) d_Wo_operand_1 (by decide) (by decide) (by decide) (fun c => ?_) ⟨fun c => ?_, fun c => ?_, fun c => ?_, fun c => ?_, fun c => ?_, fun c => ?_, fun c => ?_, fun c => ?_, fun c => ?_, fun c => ?_, fun c => ?_, trivial⟩
  · replace h := h.1 c
    refine v_aload_n (pc := 186) d_Wo_operand_186 rfl (.head _) ?_
    refine v_getr (C := "") (pc := 187) (r := 31) d_Wo_operand_187 fl_Wo_32 cC_101.1 cC_101.2 (Or.inl ⟨_, rfl⟩) rC_101_2 ?_
    refine v_getr (C := "") (pc := 190) (r := 36) d_Wo_operand_190 fl_Wo_148 cC_31.1 cC_31.2 (Or.inr ⟨_, rfl⟩) rC_31_6 ?_
    refine v_aload_n (pc := 193) d_Wo_operand_193 rfl (.head _) ?_
    refine v_geti (pc := 194) (x := (w 101 9)) d_Wo_operand_194 fl_Wo_47 cC_101.1 cC_101.2 (Or.inl rfl) rfl ?_
    refine v_iald (pc := 197) (x := (w 36 ((w 101 9).toNat))) d_Wo_operand_197 cC_36.1 cC_36.2 rfl h.1 ?_
    replace h := h.2
    exact v_iret (pc := 198) d_Wo_operand_198 rfl h
  · replace h := h.2.1 c
    refine v_iload_n (pc := 60) d_Wo_operand_60 rfl (.tail _ (.tail _ (.head _))) ?_
    exact v_iret (pc := 61) d_Wo_operand_61 rfl h
  · replace h := h.2.2.1 c
    refine v_aload_n (pc := 62) d_Wo_operand_62 rfl (.head _) ?_
    obtain ⟨q1, eq1, hq1, h⟩ := h
    refine v_getd (pc := 63) (r := q1) d_Wo_operand_63 fl_Wo_40 cC_101.1 cC_101.2 (Or.inl ⟨_, rfl⟩) eq1 ?_
    refine v_getr (C := "") (pc := 66) (r := q1 + 1) d_Wo_operand_66 fl_Wo_122 (mo_0 hq1).1 (mo_0 hq1).2 (Or.inr ⟨_, rfl⟩) (mor_2 hq1) ?_
    refine v_aload_n (pc := 69) d_Wo_operand_69 rfl (.head _) ?_
    refine v_geti (pc := 70) (x := (w 101 9)) d_Wo_operand_70 fl_Wo_47 cC_101.1 cC_101.2 (Or.inl rfl) rfl ?_
    refine v_bipush (pc := 73) d_Wo_operand_73 (by decide) rfl ?_
    refine v_imul (pc := 75) d_Wo_operand_75 ?_
    refine v_iload_n (pc := 76) d_Wo_operand_76 rfl (.tail _ (.tail _ (.head _))) ?_
    refine v_iadd (pc := 77) d_Wo_operand_77 ?_
    refine v_iald (pc := 78) (x := (w (q1 + 1) ((wr ((wr ((w 101 9) * 8)) + p2)).toNat))) d_Wo_operand_78 (mo_1 hq1).1 (mo_1 hq1).2 rfl h.1 ?_
    replace h := h.2
    exact v_iret (pc := 79) d_Wo_operand_79 rfl h
  · replace h := h.2.2.2.1 c
    refine v_aload_n (pc := 80) d_Wo_operand_80 rfl (.head _) ?_
    refine v_getr (C := "") (pc := 81) (r := 103) d_Wo_operand_81 fl_Wo_15 cC_101.1 cC_101.2 (Or.inr ⟨_, rfl⟩) rC_101_4 ?_
    refine v_iload_n (pc := 84) d_Wo_operand_84 rfl (.tail _ (.tail _ (.head _))) ?_
    refine v_iald (pc := 85) (x := (w 103 p2.toNat)) d_Wo_operand_85 cC_103.1 cC_103.2 rfl h.1 ?_
    replace h := h.2
    exact v_iret (pc := 86) d_Wo_operand_86 rfl h
  · replace h := h.2.2.2.2.1 c
    refine v_aload_n (pc := 87) d_Wo_operand_87 rfl (.head _) ?_
    obtain ⟨q2, eq2, hq2, h⟩ := h
    refine v_getd (pc := 88) (r := q2) d_Wo_operand_88 fl_Wo_36 cC_101.1 cC_101.2 (Or.inl ⟨_, rfl⟩) eq2 ?_
    refine v_getr (C := "") (pc := 91) (r := q2 + 3) d_Wo_operand_91 fl_Wo_125 (mo_0 hq2).1 (mo_0 hq2).2 (Or.inr ⟨_, rfl⟩) (mor_4 hq2) ?_
    refine v_aload_n (pc := 94) d_Wo_operand_94 rfl (.head _) ?_
    refine v_geti (pc := 95) (x := (w 101 9)) d_Wo_operand_95 fl_Wo_47 cC_101.1 cC_101.2 (Or.inl rfl) rfl ?_
    refine v_iconst (pc := 98) d_Wo_operand_98 (by decide) ?_
    refine v_imul (pc := 99) d_Wo_operand_99 ?_
    refine v_iload_n (pc := 100) d_Wo_operand_100 rfl (.tail _ (.tail _ (.head _))) ?_
    refine v_iadd (pc := 101) d_Wo_operand_101 ?_
    refine v_iald (pc := 102) (x := (w (q2 + 3) ((wr ((wr ((w 101 9) * 4)) + p2)).toNat))) d_Wo_operand_102 (mo_3 hq2).1 (mo_3 hq2).2 rfl h.1 ?_
    replace h := h.2
    exact v_iret (pc := 103) d_Wo_operand_103 rfl h
  · replace h := h.2.2.2.2.2.1 c
    refine v_aload_n (pc := 104) d_Wo_operand_104 rfl (.head _) ?_
    obtain ⟨q3, eq3, hq3, h⟩ := h
    refine v_getd (pc := 105) (r := q3) d_Wo_operand_105 fl_Wo_36 cC_101.1 cC_101.2 (Or.inl ⟨_, rfl⟩) eq3 ?_
    refine v_getr (C := "") (pc := 108) (r := q3 + 5) d_Wo_operand_108 fl_Wo_128 (mo_0 hq3).1 (mo_0 hq3).2 (Or.inr ⟨_, rfl⟩) (mor_6 hq3) ?_
    refine v_iload_n (pc := 111) d_Wo_operand_111 rfl (.tail _ (.tail _ (.head _))) ?_
    refine v_iald (pc := 112) (x := (w (q3 + 5) p2.toNat)) d_Wo_operand_112 (mo_5 hq3).1 (mo_5 hq3).2 rfl h.1 ?_
    replace h := h.2
    exact v_iret (pc := 113) d_Wo_operand_113 rfl h
  · replace h := h.2.2.2.2.2.2.1 c
    refine v_aload_n (pc := 114) d_Wo_operand_114 rfl (.head _) ?_
    refine v_getr (C := "") (pc := 115) (r := 31) d_Wo_operand_115 fl_Wo_32 cC_101.1 cC_101.2 (Or.inl ⟨_, rfl⟩) rC_101_2 ?_
    refine v_aload_n (pc := 118) d_Wo_operand_118 rfl (.head _) ?_
    refine v_geti (pc := 119) (x := (w 101 12)) d_Wo_operand_119 fl_Wo_131 cC_101.1 cC_101.2 (Or.inl rfl) rfl ?_
    refine v_iload_n (pc := 122) d_Wo_operand_122 rfl (.tail _ (.tail _ (.head _))) ?_
    refine v_callV (pc := 123) (J' := jGr_weightOf) (d' := d) (o := 31) (ci := 3) (N := 13) (T := cT3) (As := [vI (w 101 12), vI p2]) d_Wo_operand_123 ml_Wo_134 cC_31.1 cC_31.2 (by decide) rfl rfl (Nat.le_of_ble_eq_true rfl) (Nat.le_refl _) rfl (Cal.weak h (fun o w4 h => ?_))
    rcases rI_of h with ⟨x5, rfl, h⟩
    exact v_iret (pc := 126) d_Wo_operand_126 rfl h
  · replace h := h.2.2.2.2.2.2.2.1 c
    refine v_aload_n (pc := 127) d_Wo_operand_127 rfl (.head _) ?_
    obtain ⟨q6, eq6, hq6, h⟩ := h
    refine v_getd (pc := 128) (r := q6) d_Wo_operand_128 fl_Wo_36 cC_101.1 cC_101.2 (Or.inl ⟨_, rfl⟩) eq6 ?_
    refine v_getr (C := "") (pc := 131) (r := q6 + 4) d_Wo_operand_131 fl_Wo_139 (mo_0 hq6).1 (mo_0 hq6).2 (Or.inr ⟨_, rfl⟩) (mor_5 hq6) ?_
    refine v_aload_n (pc := 134) d_Wo_operand_134 rfl (.head _) ?_
    refine v_geti (pc := 135) (x := (w 101 9)) d_Wo_operand_135 fl_Wo_47 cC_101.1 cC_101.2 (Or.inl rfl) rfl ?_
    refine v_iconst (pc := 138) d_Wo_operand_138 (by decide) ?_
    refine v_imul (pc := 139) d_Wo_operand_139 ?_
    refine v_iload_n (pc := 140) d_Wo_operand_140 rfl (.tail _ (.tail _ (.head _))) ?_
    refine v_iadd (pc := 141) d_Wo_operand_141 ?_
    refine v_iald (pc := 142) (x := (w (q6 + 4) ((wr ((wr ((w 101 9) * 4)) + p2)).toNat))) d_Wo_operand_142 (mo_4 hq6).1 (mo_4 hq6).2 rfl h.1 ?_
    replace h := h.2
    refine v_ifle (pc := 143) (tgt := 150) d_Wo_operand_143 (by decide) (fun c => ?_) (fun c => ?_)
    · replace h := h.1 c
      refine v_iconst (pc := 150) d_Wo_operand_150 (by decide) ?_
      exact v_iret (pc := 151) d_Wo_operand_151 rfl h
    · replace h := h.2 c
      refine v_iconst (pc := 146) d_Wo_operand_146 (by decide) ?_
      refine v_goto (pc := 147) (tgt := 151) d_Wo_operand_147 (by decide) ?_
      exact v_iret (pc := 151) d_Wo_operand_151 rfl h
  · replace h := h.2.2.2.2.2.2.2.2.1 c
    refine v_aload_n (pc := 152) d_Wo_operand_152 rfl (.head _) ?_
    refine v_geti (pc := 153) (x := (w 101 9)) d_Wo_operand_153 fl_Wo_47 cC_101.1 cC_101.2 (Or.inl rfl) rfl ?_
    exact v_iret (pc := 156) d_Wo_operand_156 rfl h
  · replace h := h.2.2.2.2.2.2.2.2.2.1 c
    refine v_aload_n (pc := 157) d_Wo_operand_157 rfl (.head _) ?_
    obtain ⟨q7, eq7, hq7, h⟩ := h
    refine v_getd (pc := 158) (r := q7) d_Wo_operand_158 fl_Wo_36 cC_101.1 cC_101.2 (Or.inl ⟨_, rfl⟩) eq7 ?_
    refine v_geti (pc := 161) (x := (w q7 0)) d_Wo_operand_161 fl_Wo_62 (mo_0 hq7).1 (mo_0 hq7).2 (Or.inl rfl) rfl ?_
    exact v_iret (pc := 164) d_Wo_operand_164 rfl h
  · replace h := h.2.2.2.2.2.2.2.2.2.2.1 c
    refine v_aload_n (pc := 165) d_Wo_operand_165 rfl (.head _) ?_
    refine v_getr (C := "") (pc := 166) (r := 31) d_Wo_operand_166 fl_Wo_32 cC_101.1 cC_101.2 (Or.inl ⟨_, rfl⟩) rC_101_2 ?_
    refine v_geti (pc := 169) (x := (w 31 0)) d_Wo_operand_169 fl_Wo_142 cC_31.1 cC_31.2 (Or.inl rfl) rfl ?_
    exact v_iret (pc := 172) d_Wo_operand_172 rfl h
  · replace h := h.2.2.2.2.2.2.2.2.2.2.2 c
    refine v_aload_n (pc := 173) d_Wo_operand_173 rfl (.head _) ?_
    refine v_getr (C := "") (pc := 174) (r := 31) d_Wo_operand_174 fl_Wo_32 cC_101.1 cC_101.2 (Or.inl ⟨_, rfl⟩) rC_101_2 ?_
    refine v_getr (C := "") (pc := 177) (r := 35) d_Wo_operand_177 fl_Wo_145 cC_31.1 cC_31.2 (Or.inr ⟨_, rfl⟩) rC_31_5 ?_
    refine v_aload_n (pc := 180) d_Wo_operand_180 rfl (.head _) ?_
    refine v_geti (pc := 181) (x := (w 101 9)) d_Wo_operand_181 fl_Wo_47 cC_101.1 cC_101.2 (Or.inl rfl) rfl ?_
    refine v_iald (pc := 184) (x := (w 35 ((w 101 9).toNat))) d_Wo_operand_184 cC_35.1 cC_35.2 rfl h.1 ?_
    replace h := h.2
    exact v_iret (pc := 185) d_Wo_operand_185 rfl h
theorem d_Wo_operate_0 : decode jWo_operate.cc 0 = .ok (.aload_n 0, 1) := by decide +kernel
theorem d_Wo_operate_1 : decode jWo_operate.cc 1 = .ok (.invokevirtual 151, 3) := by decide +kernel
theorem d_Wo_operate_4 : decode jWo_operate.cc 4 = .ok (.istore_n 3, 1) := by decide +kernel
theorem d_Wo_operate_5 : decode jWo_operate.cc 5 = .ok (.iload_n 2, 1) := by decide +kernel
theorem d_Wo_operate_6 : decode jWo_operate.cc 6 = .ok (.tableswitch 79 12 14 #[26, 35, 45], 26) := by decide +kernel
theorem d_Wo_operate_32 : decode jWo_operate.cc 32 = .ok (.aload_n 0, 1) := by decide +kernel
theorem d_Wo_operate_33 : decode jWo_operate.cc 33 = .ok (.iload_n 3, 1) := by decide +kernel
theorem d_Wo_operate_34 : decode jWo_operate.cc 34 = .ok (.ineg, 1) := by decide +kernel
theorem d_Wo_operate_35 : decode jWo_operate.cc 35 = .ok (.invokevirtual 100, 3) := by decide +kernel
theorem d_Wo_operate_38 : decode jWo_operate.cc 38 = .ok (.goto 57, 3) := by decide +kernel
theorem d_Wo_operate_41 : decode jWo_operate.cc 41 = .ok (.aload_n 0, 1) := by decide +kernel
theorem d_Wo_operate_42 : decode jWo_operate.cc 42 = .ok (.iconst 1, 1) := by decide +kernel
theorem d_Wo_operate_43 : decode jWo_operate.cc 43 = .ok (.iload_n 3, 1) := by decide +kernel
theorem d_Wo_operate_44 : decode jWo_operate.cc 44 = .ok (.isub, 1) := by decide +kernel
theorem d_Wo_operate_45 : decode jWo_operate.cc 45 = .ok (.invokevirtual 100, 3) := by decide +kernel
theorem d_Wo_operate_48 : decode jWo_operate.cc 48 = .ok (.goto 47, 3) := by decide +kernel
theorem d_Wo_operate_51 : decode jWo_operate.cc 51 = .ok (.iload_n 3, 1) := by decide +kernel
theorem d_Wo_operate_52 : decode jWo_operate.cc 52 = .ok (.iconst 1, 1) := by decide +kernel
theorem d_Wo_operate_53 : decode jWo_operate.cc 53 = .ok (.if_icmp .ge 20, 3) := by decide +kernel
theorem d_Wo_operate_56 : decode jWo_operate.cc 56 = .ok (.aload_n 0, 1) := by decide +kernel
theorem d_Wo_operate_57 : decode jWo_operate.cc 57 = .ok (.iconst 2, 1) := by decide +kernel
theorem d_Wo_operate_58 : decode jWo_operate.cc 58 = .ok (.aload_n 0, 1) := by decide +kernel
theorem d_Wo_operate_59 : decode jWo_operate.cc 59 = .ok (.getfield 31, 3) := by decide +kernel
theorem d_Wo_operate_62 : decode jWo_operate.cc 62 = .ok (.getfield 155, 3) := by decide +kernel
theorem d_Wo_operate_65 : decode jWo_operate.cc 65 = .ok (.iload_n 1, 1) := by decide +kernel
theorem d_Wo_operate_66 : decode jWo_operate.cc 66 = .ok (.iaload, 1) := by decide +kernel
theorem d_Wo_operate_67 : decode jWo_operate.cc 67 = .ok (.invokevirtual 116, 3) := by decide +kernel
theorem d_Wo_operate_70 : decode jWo_operate.cc 70 = .ok (.goto 25, 3) := by decide +kernel
theorem d_Wo_operate_73 : decode jWo_operate.cc 73 = .ok (.aload_n 0, 1) := by decide +kernel
theorem d_Wo_operate_74 : decode jWo_operate.cc 74 = .ok (.aload_n 0, 1) := by decide +kernel
theorem d_Wo_operate_75 : decode jWo_operate.cc 75 = .ok (.iload_n 3, 1) := by decide +kernel
theorem d_Wo_operate_76 : decode jWo_operate.cc 76 = .ok (.invokevirtual 158, 3) := by decide +kernel
theorem d_Wo_operate_79 : decode jWo_operate.cc 79 = .ok (.invokevirtual 100, 3) := by decide +kernel
theorem d_Wo_operate_82 : decode jWo_operate.cc 82 = .ok (.goto 13, 3) := by decide +kernel
theorem d_Wo_operate_85 : decode jWo_operate.cc 85 = .ok (.aload_n 0, 1) := by decide +kernel
theorem d_Wo_operate_86 : decode jWo_operate.cc 86 = .ok (.iload_n 1, 1) := by decide +kernel
theorem d_Wo_operate_87 : decode jWo_operate.cc 87 = .ok (.aload_n 0, 1) := by decide +kernel
theorem d_Wo_operate_88 : decode jWo_operate.cc 88 = .ok (.invokevirtual 151, 3) := by decide +kernel
theorem d_Wo_operate_91 : decode jWo_operate.cc 91 = .ok (.iload_n 3, 1) := by decide +kernel
theorem d_Wo_operate_92 : decode jWo_operate.cc 92 = .ok (.invokevirtual 162, 3) := by decide +kernel
theorem d_Wo_operate_95 : decode jWo_operate.cc 95 = .ok (.return_, 1) := by decide +kernel
set_option maxHeartbeats 4000000 in
theorem s_Wo_operate {g : Mg} {d : Nat} {K : Ou → Wd → Prop} {w : Wd} {p1 : Int} {p2 : Int} (h : Cal g LC jWo_pop d [vA 101] w (fun o w1 => rI o (fun x2 => ((p2 < 12 ∨ 14 < p2) → (Cal g LC jWo_pop d [vA 101] w1 (fun o w3 => rI o (fun x4 => Cal g LC jWo_binary d [vA 101, vI p1, vI x4, vI x2] w3 (fun o w5 => rV o (K (.inl none) w5)))))) ∧ (p2 = 12 → (Cal g LC jWo_push d [vA 101, vI (wr (-x2))] w1 (fun o w6 => rV o (K (.inl none) w6)))) ∧ (p2 = 13 → (Cal g LC jWo_push d [vA 101, vI (wr (1 - x2))] w1 (fun o w7 => rV o (K (.inl none) w7)))) ∧ (p2 = 14 → ((1 ≤ x2 → (Cal g LC jWo_draw d [vA 101, vI x2] w1 (fun o w8 => rI o (fun x9 => Cal g LC jWo_push d [vA 101, vI x9] w8 (fun o w10 => rV o (K (.inl none) w10)))))) ∧ (¬ 1 ≤ x2 → ((0 ≤ p1 ∧ p1 < 1024) ∧ (Cal g LC jWo_fail d [vA 101, vI 2, vI (w1 22 p1.toNat)] w1 (fun o w11 => rV o (K (.inl none) w11)))))))))) : V g LC jWo_operate (d + 1) K 0 [(0, vA 101), (1, vI p1), (2, vI p2)] [] w := by
  refine v_aload_n (pc := 0) d_Wo_operate_0 rfl (.head _) ?_
  refine v_callV (pc := 1) (J' := jWo_pop) (d' := d) (o := 101) (ci := 10) (N := 18) (T := cT10) (As := []) d_Wo_operate_1 ml_Wo_151 cC_101.1 cC_101.2 (by decide) rfl rfl (Nat.le_of_ble_eq_true rfl) (Nat.le_refl _) rfl (Cal.weak h (fun o w1 h => ?_))
  rcases rI_of h with ⟨x2, rfl, h⟩
  refine v_istore_n (pc := 4) (ls' := [(3, vI x2), (0, vA 101), (1, vI p1), (2, vI p2)]) d_Wo_operate_4 rfl (by decide) rfl ?_
  refine v_iload_n (pc := 5) d_Wo_operate_5 rfl (.tail _ (.tail _ (.tail _ (.head _)))) ?_
  refine v_table (pc := 6) (tgd := 85) (tgs := [32, 41, 51]) d_Wo_operate_6 (by decide) (by decide) (by decide) (fun c => ?_) ⟨fun c => ?_, fun c => ?_, fun c => ?_, trivial⟩
  · replace h := h.1 c
    refine v_aload_n (pc := 85) d_Wo_operate_85 rfl (.tail _ (.head _)) ?_
    refine v_iload_n (pc := 86) d_Wo_operate_86 rfl (.tail _ (.tail _ (.head _))) ?_
    refine v_aload_n (pc := 87) d_Wo_operate_87 rfl (.tail _ (.head _)) ?_
    refine v_callV (pc := 88) (J' := jWo_pop) (d' := d) (o := 101) (ci := 10) (N := 18) (T := cT10) (As := []) d_Wo_operate_88 ml_Wo_151 cC_101.1 cC_101.2 (by decide) rfl rfl (Nat.le_of_ble_eq_true rfl) (Nat.le_refl _) rfl (Cal.weak h (fun o w3 h => ?_))
    rcases rI_of h with ⟨x4, rfl, h⟩
    refine v_iload_n (pc := 91) d_Wo_operate_91 rfl (.head _) ?_
    refine v_callV (pc := 92) (J' := jWo_binary) (d' := d) (o := 101) (ci := 10) (N := 18) (T := cT10) (As := [vI p1, vI x4, vI x2]) d_Wo_operate_92 ml_Wo_162 cC_101.1 cC_101.2 (by decide) rfl rfl (Nat.le_of_ble_eq_true rfl) (Nat.le_refl _) rfl (Cal.weak h (fun o w5 h => ?_))
    rcases rV_of h with ⟨rfl, h⟩
    exact v_vret (pc := 95) d_Wo_operate_95 rfl h
  · replace h := h.2.1 c
    refine v_aload_n (pc := 32) d_Wo_operate_32 rfl (.tail _ (.head _)) ?_
    refine v_iload_n (pc := 33) d_Wo_operate_33 rfl (.head _) ?_
    refine v_ineg (pc := 34) d_Wo_operate_34 ?_
    refine v_callV (pc := 35) (J' := jWo_push) (d' := d) (o := 101) (ci := 10) (N := 18) (T := cT10) (As := [vI (wr (-x2))]) d_Wo_operate_35 ml_Wo_100 cC_101.1 cC_101.2 (by decide) rfl rfl (Nat.le_of_ble_eq_true rfl) (Nat.le_refl _) rfl (Cal.weak h (fun o w6 h => ?_))
    rcases rV_of h with ⟨rfl, h⟩
    refine v_goto (pc := 38) (tgt := 95) d_Wo_operate_38 (by decide) ?_
    exact v_vret (pc := 95) d_Wo_operate_95 rfl h
  · replace h := h.2.2.1 c
    refine v_aload_n (pc := 41) d_Wo_operate_41 rfl (.tail _ (.head _)) ?_
    refine v_iconst (pc := 42) d_Wo_operate_42 (by decide) ?_
    refine v_iload_n (pc := 43) d_Wo_operate_43 rfl (.head _) ?_
    refine v_isub (pc := 44) d_Wo_operate_44 ?_
    refine v_callV (pc := 45) (J' := jWo_push) (d' := d) (o := 101) (ci := 10) (N := 18) (T := cT10) (As := [vI (wr (1 - x2))]) d_Wo_operate_45 ml_Wo_100 cC_101.1 cC_101.2 (by decide) rfl rfl (Nat.le_of_ble_eq_true rfl) (Nat.le_refl _) rfl (Cal.weak h (fun o w7 h => ?_))
    rcases rV_of h with ⟨rfl, h⟩
    refine v_goto (pc := 48) (tgt := 95) d_Wo_operate_48 (by decide) ?_
    exact v_vret (pc := 95) d_Wo_operate_95 rfl h
  · replace h := h.2.2.2 c
    refine v_iload_n (pc := 51) d_Wo_operate_51 rfl (.head _) ?_
    refine v_iconst (pc := 52) d_Wo_operate_52 (by decide) ?_
    refine v_icmpge (pc := 53) (tgt := 73) d_Wo_operate_53 (by decide) (fun c => ?_) (fun c => ?_)
    · replace h := h.1 c
      refine v_aload_n (pc := 73) d_Wo_operate_73 rfl (.tail _ (.head _)) ?_
      refine v_aload_n (pc := 74) d_Wo_operate_74 rfl (.tail _ (.head _)) ?_
      refine v_iload_n (pc := 75) d_Wo_operate_75 rfl (.head _) ?_
      refine v_callV (pc := 76) (J' := jWo_draw) (d' := d) (o := 101) (ci := 10) (N := 18) (T := cT10) (As := [vI x2]) d_Wo_operate_76 ml_Wo_158 cC_101.1 cC_101.2 (by decide) rfl rfl (Nat.le_of_ble_eq_true rfl) (Nat.le_refl _) rfl (Cal.weak h (fun o w8 h => ?_))
      rcases rI_of h with ⟨x9, rfl, h⟩
      refine v_callV (pc := 79) (J' := jWo_push) (d' := d) (o := 101) (ci := 10) (N := 18) (T := cT10) (As := [vI x9]) d_Wo_operate_79 ml_Wo_100 cC_101.1 cC_101.2 (by decide) rfl rfl (Nat.le_of_ble_eq_true rfl) (Nat.le_refl _) rfl (Cal.weak h (fun o w10 h => ?_))
      rcases rV_of h with ⟨rfl, h⟩
      refine v_goto (pc := 82) (tgt := 95) d_Wo_operate_82 (by decide) ?_
      exact v_vret (pc := 95) d_Wo_operate_95 rfl h
    · replace h := h.2 c
      refine v_aload_n (pc := 56) d_Wo_operate_56 rfl (.tail _ (.head _)) ?_
      refine v_iconst (pc := 57) d_Wo_operate_57 (by decide) ?_
      refine v_aload_n (pc := 58) d_Wo_operate_58 rfl (.tail _ (.head _)) ?_
      refine v_getr (C := "") (pc := 59) (r := 19) d_Wo_operate_59 fl_Wo_31 cC_101.1 cC_101.2 (Or.inl ⟨_, rfl⟩) rC_101_1 ?_
      refine v_getr (C := "") (pc := 62) (r := 22) d_Wo_operate_62 fl_Wo_155 cC_19.1 cC_19.2 (Or.inr ⟨_, rfl⟩) rC_19_2 ?_
      refine v_iload_n (pc := 65) d_Wo_operate_65 rfl (.tail _ (.tail _ (.head _))) ?_
      refine v_iald (pc := 66) (x := (w1 22 p1.toNat)) d_Wo_operate_66 cC_22.1 cC_22.2 rfl h.1 ?_
      replace h := h.2
      refine v_callV (pc := 67) (J' := jWo_fail) (d' := d) (o := 101) (ci := 10) (N := 18) (T := cT10) (As := [vI 2, vI (w1 22 p1.toNat)]) d_Wo_operate_67 ml_Wo_116 cC_101.1 cC_101.2 (by decide) rfl rfl (Nat.le_of_ble_eq_true rfl) (Nat.le_refl _) rfl (Cal.weak h (fun o w11 h => ?_))
      rcases rV_of h with ⟨rfl, h⟩
      refine v_goto (pc := 70) (tgt := 95) d_Wo_operate_70 (by decide) ?_
      exact v_vret (pc := 95) d_Wo_operate_95 rfl h
theorem d_Wo_draw_0 : decode jWo_draw.cc 0 = .ok (.aload_n 0, 1) := by decide +kernel
theorem d_Wo_draw_1 : decode jWo_draw.cc 1 = .ok (.getfield 43, 3) := by decide +kernel
theorem d_Wo_draw_4 : decode jWo_draw.cc 4 = .ok (.aload_n 0, 1) := by decide +kernel
theorem d_Wo_draw_5 : decode jWo_draw.cc 5 = .ok (.getfield 47, 3) := by decide +kernel
theorem d_Wo_draw_8 : decode jWo_draw.cc 8 = .ok (.invokestatic 166, 3) := by decide +kernel
theorem d_Wo_draw_11 : decode jWo_draw.cc 11 = .ok (.aload_n 0, 1) := by decide +kernel
theorem d_Wo_draw_12 : decode jWo_draw.cc 12 = .ok (.getfield 36, 3) := by decide +kernel
theorem d_Wo_draw_15 : decode jWo_draw.cc 15 = .ok (.getfield 62, 3) := by decide +kernel
theorem d_Wo_draw_18 : decode jWo_draw.cc 18 = .ok (.invokestatic 166, 3) := by decide +kernel
theorem d_Wo_draw_21 : decode jWo_draw.cc 21 = .ok (.aload_n 0, 1) := by decide +kernel
theorem d_Wo_draw_22 : decode jWo_draw.cc 22 = .ok (.getfield 53, 3) := by decide +kernel
theorem d_Wo_draw_25 : decode jWo_draw.cc 25 = .ok (.invokestatic 166, 3) := by decide +kernel
theorem d_Wo_draw_28 : decode jWo_draw.cc 28 = .ok (.istore_n 2, 1) := by decide +kernel
theorem d_Wo_draw_29 : decode jWo_draw.cc 29 = .ok (.aload_n 0, 1) := by decide +kernel
theorem d_Wo_draw_30 : decode jWo_draw.cc 30 = .ok (.dup, 1) := by decide +kernel
theorem d_Wo_draw_31 : decode jWo_draw.cc 31 = .ok (.getfield 53, 3) := by decide +kernel
theorem d_Wo_draw_34 : decode jWo_draw.cc 34 = .ok (.iconst 1, 1) := by decide +kernel
theorem d_Wo_draw_35 : decode jWo_draw.cc 35 = .ok (.iadd, 1) := by decide +kernel
theorem d_Wo_draw_36 : decode jWo_draw.cc 36 = .ok (.putfield 53, 3) := by decide +kernel
theorem d_Wo_draw_39 : decode jWo_draw.cc 39 = .ok (.iload_n 2, 1) := by decide +kernel
theorem d_Wo_draw_40 : decode jWo_draw.cc 40 = .ok (.i2l, 1) := by decide +kernel
theorem d_Wo_draw_41 : decode jWo_draw.cc 41 = .ok (.ldc2_w 169, 3) := by decide +kernel
theorem d_Wo_draw_44 : decode jWo_draw.cc 44 = .ok (.land, 1) := by decide +kernel
theorem d_Wo_draw_45 : decode jWo_draw.cc 45 = .ok (.iload_n 1, 1) := by decide +kernel
theorem d_Wo_draw_46 : decode jWo_draw.cc 46 = .ok (.i2l, 1) := by decide +kernel
theorem d_Wo_draw_47 : decode jWo_draw.cc 47 = .ok (.lrem, 1) := by decide +kernel
theorem d_Wo_draw_48 : decode jWo_draw.cc 48 = .ok (.l2i, 1) := by decide +kernel
theorem d_Wo_draw_49 : decode jWo_draw.cc 49 = .ok (.ireturn, 1) := by decide +kernel
set_option maxHeartbeats 4000000 in
theorem s_Wo_draw {g : Mg} {d : Nat} {K : Ou → Wd → Prop} {w : Wd} {p1 : Int} (h : Cal g LC jWo_mixed d [vI (w 101 8), vI (w 101 9)] w (fun o w1 => rI o (fun x2 => ∃ q3 : Nat, (w1 101 6) = (q3 : Int) ∧ isMo q3 ∧ (Cal g LC jWo_mixed d [vI x2, vI (w1 q3 0)] w1 (fun o w4 => rI o (fun x5 => Cal g LC jWo_mixed d [vI x5, vI (w4 101 14)] w4 (fun o w6 => rI o (fun x7 => (¬ p1 = 0) ∧ (K (.inl (some (vI (l2iF (lRem (lAnd x7 4294967295) p1))))) (up w6 101 14 (wr ((w6 101 14) + 1)))))))))))) : V g LC jWo_draw (d + 1) K 0 [(0, vA 101), (1, vI p1)] [] w := by
  refine v_aload_n (pc := 0) d_Wo_draw_0 rfl (.head _) ?_
  refine v_geti (pc := 1) (x := (w 101 8)) d_Wo_draw_1 fl_Wo_43 cC_101.1 cC_101.2 (Or.inl rfl) rfl ?_
  refine v_aload_n (pc := 4) d_Wo_draw_4 rfl (.head _) ?_
  refine v_geti (pc := 5) (x := (w 101 9)) d_Wo_draw_5 fl_Wo_47 cC_101.1 cC_101.2 (Or.inl rfl) rfl ?_
  refine v_callS (pc := 8) (J' := jWo_mixed) (d' := d) (As := [vI (w 101 8), vI (w 101 9)]) d_Wo_draw_8 ml_Wo_166 rfl (Nat.le_of_ble_eq_true rfl) (Nat.le_refl _) rfl (Cal.weak h (fun o w1 h => ?_))
  rcases rI_of h with ⟨x2, rfl, h⟩
  refine v_aload_n (pc := 11) d_Wo_draw_11 rfl (.head _) ?_
  obtain ⟨q3, eq3, hq3, h⟩ := h
  refine v_getd (pc := 12) (r := q3) d_Wo_draw_12 fl_Wo_36 cC_101.1 cC_101.2 (Or.inl ⟨_, rfl⟩) eq3 ?_
  refine v_geti (pc := 15) (x := (w1 q3 0)) d_Wo_draw_15 fl_Wo_62 (mo_0 hq3).1 (mo_0 hq3).2 (Or.inl rfl) rfl ?_
  refine v_callS (pc := 18) (J' := jWo_mixed) (d' := d) (As := [vI x2, vI (w1 q3 0)]) d_Wo_draw_18 ml_Wo_166 rfl (Nat.le_of_ble_eq_true rfl) (Nat.le_refl _) rfl (Cal.weak h (fun o w4 h => ?_))
  rcases rI_of h with ⟨x5, rfl, h⟩
  refine v_aload_n (pc := 21) d_Wo_draw_21 rfl (.head _) ?_
  refine v_geti (pc := 22) (x := (w4 101 14)) d_Wo_draw_22 fl_Wo_53 cC_101.1 cC_101.2 (Or.inl rfl) rfl ?_
  refine v_callS (pc := 25) (J' := jWo_mixed) (d' := d) (As := [vI x5, vI (w4 101 14)]) d_Wo_draw_25 ml_Wo_166 rfl (Nat.le_of_ble_eq_true rfl) (Nat.le_refl _) rfl (Cal.weak h (fun o w6 h => ?_))
  rcases rI_of h with ⟨x7, rfl, h⟩
  refine v_istore_n (pc := 28) (ls' := [(2, vI x7), (0, vA 101), (1, vI p1)]) d_Wo_draw_28 rfl (by decide) rfl ?_
  refine v_aload_n (pc := 29) d_Wo_draw_29 rfl (.tail _ (.head _)) ?_
  refine v_dup (pc := 30) d_Wo_draw_30 rfl ?_
  refine v_geti (pc := 31) (x := (w6 101 14)) d_Wo_draw_31 fl_Wo_53 cC_101.1 cC_101.2 (Or.inl rfl) rfl ?_
  refine v_iconst (pc := 34) d_Wo_draw_34 (by decide) ?_
  refine v_iadd (pc := 35) d_Wo_draw_35 ?_
  refine v_puti (pc := 36) d_Wo_draw_36 fp_Wo_53 cC_101.1 cC_101.2 (by decide) rfl ?_
  refine v_iload_n (pc := 39) d_Wo_draw_39 rfl (.head _) ?_
  refine v_i2l (pc := 40) d_Wo_draw_40 ?_
  refine v_ldc2 (pc := 41) (n := 4294967295) d_Wo_draw_41 (by decide) (mt_5 210 rfl rfl) ?_
  refine v_land (pc := 44) d_Wo_draw_44 ?_
  refine v_iload_n (pc := 45) d_Wo_draw_45 rfl (.tail _ (.tail _ (.head _))) ?_
  refine v_i2l (pc := 46) d_Wo_draw_46 ?_
  refine v_lrem (pc := 47) d_Wo_draw_47 h.1 ?_
  replace h := h.2
  refine v_l2i (pc := 48) d_Wo_draw_48 ?_
  exact v_iret (pc := 49) d_Wo_draw_49 rfl h
theorem d_Wo_mixed_0 : decode jWo_mixed.cc 0 = .ok (.iload_n 0, 1) := by decide +kernel
theorem d_Wo_mixed_1 : decode jWo_mixed.cc 1 = .ok (.iload_n 1, 1) := by decide +kernel
theorem d_Wo_mixed_2 : decode jWo_mixed.cc 2 = .ok (.ixor, 1) := by decide +kernel
theorem d_Wo_mixed_3 : decode jWo_mixed.cc 3 = .ok (.ldc 171, 2) := by decide +kernel
theorem d_Wo_mixed_5 : decode jWo_mixed.cc 5 = .ok (.imul, 1) := by decide +kernel
theorem d_Wo_mixed_6 : decode jWo_mixed.cc 6 = .ok (.istore_n 2, 1) := by decide +kernel
theorem d_Wo_mixed_7 : decode jWo_mixed.cc 7 = .ok (.iload_n 2, 1) := by decide +kernel
theorem d_Wo_mixed_8 : decode jWo_mixed.cc 8 = .ok (.iload_n 2, 1) := by decide +kernel
theorem d_Wo_mixed_9 : decode jWo_mixed.cc 9 = .ok (.bipush 15, 2) := by decide +kernel
theorem d_Wo_mixed_11 : decode jWo_mixed.cc 11 = .ok (.iushr, 1) := by decide +kernel
theorem d_Wo_mixed_12 : decode jWo_mixed.cc 12 = .ok (.ixor, 1) := by decide +kernel
theorem d_Wo_mixed_13 : decode jWo_mixed.cc 13 = .ok (.ireturn, 1) := by decide +kernel
set_option maxHeartbeats 4000000 in
theorem s_Wo_mixed {g : Mg} {d : Nat} {K : Ou → Wd → Prop} {w : Wd} {p0 : Int} {p1 : Int} (h : K (.inl (some (vI (iXor (wr ((iXor p0 p1) * (-1640531535))) (iUshr (wr ((iXor p0 p1) * (-1640531535))) 15))))) w) : V g LC jWo_mixed d K 0 [(0, vI p0), (1, vI p1)] [] w := by
  refine v_iload_n (pc := 0) d_Wo_mixed_0 rfl (.head _) ?_
  refine v_iload_n (pc := 1) d_Wo_mixed_1 rfl (.tail _ (.head _)) ?_
  refine v_ixor (pc := 2) d_Wo_mixed_2 ?_
  refine v_ldc (pc := 3) (n := (-1640531535)) d_Wo_mixed_3 (by decide) (mt_5 209 rfl rfl) ?_
  refine v_imul (pc := 5) d_Wo_mixed_5 ?_
  refine v_istore_n (pc := 6) (ls' := [(2, vI (wr ((iXor p0 p1) * (-1640531535)))), (0, vI p0), (1, vI p1)]) d_Wo_mixed_6 rfl (by decide) rfl ?_
  refine v_iload_n (pc := 7) d_Wo_mixed_7 rfl (.head _) ?_
  refine v_iload_n (pc := 8) d_Wo_mixed_8 rfl (.head _) ?_
  refine v_bipush (pc := 9) d_Wo_mixed_9 (by decide) rfl ?_
  refine v_iushr (pc := 11) d_Wo_mixed_11 ?_
  refine v_ixor (pc := 12) d_Wo_mixed_12 ?_
  exact v_iret (pc := 13) d_Wo_mixed_13 rfl h
theorem d_Wo_binary_0 : decode jWo_binary.cc 0 = .ok (.aload_n 0, 1) := by decide +kernel
theorem d_Wo_binary_1 : decode jWo_binary.cc 1 = .ok (.getfield 31, 3) := by decide +kernel
theorem d_Wo_binary_4 : decode jWo_binary.cc 4 = .ok (.getfield 93, 3) := by decide +kernel
theorem d_Wo_binary_7 : decode jWo_binary.cc 7 = .ok (.iload_n 1, 1) := by decide +kernel
theorem d_Wo_binary_8 : decode jWo_binary.cc 8 = .ok (.iaload, 1) := by decide +kernel
theorem d_Wo_binary_9 : decode jWo_binary.cc 9 = .ok (.istore 4, 2) := by decide +kernel
theorem d_Wo_binary_11 : decode jWo_binary.cc 11 = .ok (.iload 4, 2) := by decide +kernel
theorem d_Wo_binary_13 : decode jWo_binary.cc 13 = .ok (.bipush 18, 2) := by decide +kernel
theorem d_Wo_binary_15 : decode jWo_binary.cc 15 = .ok (.if_icmp .eq 10, 3) := by decide +kernel
theorem d_Wo_binary_18 : decode jWo_binary.cc 18 = .ok (.iload 4, 2) := by decide +kernel
theorem d_Wo_binary_20 : decode jWo_binary.cc 20 = .ok (.bipush 19, 2) := by decide +kernel
theorem d_Wo_binary_22 : decode jWo_binary.cc 22 = .ok (.if_icmp .ne 24, 3) := by decide +kernel
theorem d_Wo_binary_25 : decode jWo_binary.cc 25 = .ok (.iload_n 3, 1) := by decide +kernel
theorem d_Wo_binary_26 : decode jWo_binary.cc 26 = .ok (.ifCond .ne 20, 3) := by decide +kernel
theorem d_Wo_binary_29 : decode jWo_binary.cc 29 = .ok (.aload_n 0, 1) := by decide +kernel
theorem d_Wo_binary_30 : decode jWo_binary.cc 30 = .ok (.iconst 1, 1) := by decide +kernel
theorem d_Wo_binary_31 : decode jWo_binary.cc 31 = .ok (.aload_n 0, 1) := by decide +kernel
theorem d_Wo_binary_32 : decode jWo_binary.cc 32 = .ok (.getfield 31, 3) := by decide +kernel
theorem d_Wo_binary_35 : decode jWo_binary.cc 35 = .ok (.getfield 155, 3) := by decide +kernel
theorem d_Wo_binary_38 : decode jWo_binary.cc 38 = .ok (.iload_n 1, 1) := by decide +kernel
theorem d_Wo_binary_39 : decode jWo_binary.cc 39 = .ok (.iaload, 1) := by decide +kernel
theorem d_Wo_binary_40 : decode jWo_binary.cc 40 = .ok (.invokevirtual 116, 3) := by decide +kernel
theorem d_Wo_binary_43 : decode jWo_binary.cc 43 = .ok (.goto 48, 3) := by decide +kernel
theorem d_Wo_binary_46 : decode jWo_binary.cc 46 = .ok (.iload 4, 2) := by decide +kernel
theorem d_Wo_binary_48 : decode jWo_binary.cc 48 = .ok (.bipush 18, 2) := by decide +kernel
theorem d_Wo_binary_50 : decode jWo_binary.cc 50 = .ok (.if_icmp .ne 13, 3) := by decide +kernel
theorem d_Wo_binary_53 : decode jWo_binary.cc 53 = .ok (.aload_n 0, 1) := by decide +kernel
theorem d_Wo_binary_54 : decode jWo_binary.cc 54 = .ok (.iload_n 2, 1) := by decide +kernel
theorem d_Wo_binary_55 : decode jWo_binary.cc 55 = .ok (.iload_n 3, 1) := by decide +kernel
theorem d_Wo_binary_56 : decode jWo_binary.cc 56 = .ok (.idiv, 1) := by decide +kernel
theorem d_Wo_binary_57 : decode jWo_binary.cc 57 = .ok (.invokevirtual 100, 3) := by decide +kernel
theorem d_Wo_binary_60 : decode jWo_binary.cc 60 = .ok (.goto 31, 3) := by decide +kernel
theorem d_Wo_binary_63 : decode jWo_binary.cc 63 = .ok (.iload 4, 2) := by decide +kernel
theorem d_Wo_binary_65 : decode jWo_binary.cc 65 = .ok (.bipush 19, 2) := by decide +kernel
theorem d_Wo_binary_67 : decode jWo_binary.cc 67 = .ok (.if_icmp .ne 13, 3) := by decide +kernel
theorem d_Wo_binary_70 : decode jWo_binary.cc 70 = .ok (.aload_n 0, 1) := by decide +kernel
theorem d_Wo_binary_71 : decode jWo_binary.cc 71 = .ok (.iload_n 2, 1) := by decide +kernel
theorem d_Wo_binary_72 : decode jWo_binary.cc 72 = .ok (.iload_n 3, 1) := by decide +kernel
theorem d_Wo_binary_73 : decode jWo_binary.cc 73 = .ok (.irem, 1) := by decide +kernel
theorem d_Wo_binary_74 : decode jWo_binary.cc 74 = .ok (.invokevirtual 100, 3) := by decide +kernel
theorem d_Wo_binary_77 : decode jWo_binary.cc 77 = .ok (.goto 14, 3) := by decide +kernel
theorem d_Wo_binary_80 : decode jWo_binary.cc 80 = .ok (.aload_n 0, 1) := by decide +kernel
theorem d_Wo_binary_81 : decode jWo_binary.cc 81 = .ok (.iload 4, 2) := by decide +kernel
theorem d_Wo_binary_83 : decode jWo_binary.cc 83 = .ok (.iload_n 2, 1) := by decide +kernel
theorem d_Wo_binary_84 : decode jWo_binary.cc 84 = .ok (.iload_n 3, 1) := by decide +kernel
theorem d_Wo_binary_85 : decode jWo_binary.cc 85 = .ok (.invokestatic 174, 3) := by decide +kernel
theorem d_Wo_binary_88 : decode jWo_binary.cc 88 = .ok (.invokevirtual 100, 3) := by decide +kernel
theorem d_Wo_binary_91 : decode jWo_binary.cc 91 = .ok (.return_, 1) := by decide +kernel
set_option maxHeartbeats 4000000 in
theorem s_Wo_binary {g : Mg} {d : Nat} {K : Ou → Wd → Prop} {w : Wd} {p1 : Int} {p2 : Int} {p3 : Int} (h : (0 ≤ p1 ∧ p1 < 1024) ∧ (((w 21 p1.toNat) = 18 → ((¬ p3 = 0 → ((¬ (w 21 p1.toNat) = 18 → ((¬ (w 21 p1.toNat) = 19 → (Cal g LC jWo_combined d [vI (w 21 p1.toNat), vI p2, vI p3] w (fun o w1 => rI o (fun x2 => Cal g LC jWo_push d [vA 101, vI x2] w1 (fun o w3 => rV o (K (.inl none) w3)))))) ∧ ((w 21 p1.toNat) = 19 → ((¬ p3 = 0) ∧ (Cal g LC jWo_push d [vA 101, vI (iRem p2 p3)] w (fun o w4 => rV o (K (.inl none) w4))))))) ∧ ((w 21 p1.toNat) = 18 → ((¬ p3 = 0) ∧ (Cal g LC jWo_push d [vA 101, vI (iDiv p2 p3)] w (fun o w5 => rV o (K (.inl none) w5))))))) ∧ (p3 = 0 → ((0 ≤ p1 ∧ p1 < 1024) ∧ (Cal g LC jWo_fail d [vA 101, vI 1, vI (w 22 p1.toNat)] w (fun o w6 => rV o (K (.inl none) w6))))))) ∧ (¬ (w 21 p1.toNat) = 18 → ((¬ (w 21 p1.toNat) = 19 → ((¬ (w 21 p1.toNat) = 18 → ((¬ (w 21 p1.toNat) = 19 → (Cal g LC jWo_combined d [vI (w 21 p1.toNat), vI p2, vI p3] w (fun o w7 => rI o (fun x8 => Cal g LC jWo_push d [vA 101, vI x8] w7 (fun o w9 => rV o (K (.inl none) w9)))))) ∧ ((w 21 p1.toNat) = 19 → ((¬ p3 = 0) ∧ (Cal g LC jWo_push d [vA 101, vI (iRem p2 p3)] w (fun o w10 => rV o (K (.inl none) w10))))))) ∧ ((w 21 p1.toNat) = 18 → ((¬ p3 = 0) ∧ (Cal g LC jWo_push d [vA 101, vI (iDiv p2 p3)] w (fun o w11 => rV o (K (.inl none) w11))))))) ∧ ((w 21 p1.toNat) = 19 → ((¬ p3 = 0 → ((¬ (w 21 p1.toNat) = 18 → ((¬ (w 21 p1.toNat) = 19 → (Cal g LC jWo_combined d [vI (w 21 p1.toNat), vI p2, vI p3] w (fun o w12 => rI o (fun x13 => Cal g LC jWo_push d [vA 101, vI x13] w12 (fun o w14 => rV o (K (.inl none) w14)))))) ∧ ((w 21 p1.toNat) = 19 → ((¬ p3 = 0) ∧ (Cal g LC jWo_push d [vA 101, vI (iRem p2 p3)] w (fun o w15 => rV o (K (.inl none) w15))))))) ∧ ((w 21 p1.toNat) = 18 → ((¬ p3 = 0) ∧ (Cal g LC jWo_push d [vA 101, vI (iDiv p2 p3)] w (fun o w16 => rV o (K (.inl none) w16))))))) ∧ (p3 = 0 → ((0 ≤ p1 ∧ p1 < 1024) ∧ (Cal g LC jWo_fail d [vA 101, vI 1, vI (w 22 p1.toNat)] w (fun o w17 => rV o (K (.inl none) w17))))))))))) : V g LC jWo_binary (d + 1) K 0 [(0, vA 101), (1, vI p1), (2, vI p2), (3, vI p3)] [] w := by
  refine v_aload_n (pc := 0) d_Wo_binary_0 rfl (.head _) ?_
  refine v_getr (C := "") (pc := 1) (r := 19) d_Wo_binary_1 fl_Wo_31 cC_101.1 cC_101.2 (Or.inl ⟨_, rfl⟩) rC_101_1 ?_
  refine v_getr (C := "") (pc := 4) (r := 21) d_Wo_binary_4 fl_Wo_93 cC_19.1 cC_19.2 (Or.inr ⟨_, rfl⟩) rC_19_1 ?_
  refine v_iload_n (pc := 7) d_Wo_binary_7 rfl (.tail _ (.head _)) ?_
  refine v_iald (pc := 8) (x := (w 21 p1.toNat)) d_Wo_binary_8 cC_21.1 cC_21.2 rfl h.1 ?_
  replace h := h.2
  refine v_istore (pc := 9) (ls' := [(4, vI (w 21 p1.toNat)), (0, vA 101), (1, vI p1), (2, vI p2), (3, vI p3)]) d_Wo_binary_9 (by decide) rfl ?_
  refine v_iload (pc := 11) d_Wo_binary_11 (.head _) ?_
  refine v_bipush (pc := 13) d_Wo_binary_13 (by decide) rfl ?_
  refine v_icmpeq (pc := 15) (tgt := 25) d_Wo_binary_15 (by decide) (fun c => ?_) (fun c => ?_)
  · replace h := h.1 c
    refine v_iload_n (pc := 25) d_Wo_binary_25 rfl (.tail _ (.tail _ (.tail _ (.tail _ (.head _))))) ?_
    refine v_ifne (pc := 26) (tgt := 46) d_Wo_binary_26 (by decide) (fun c => ?_) (fun c => ?_)
    · replace h := h.1 c
      refine v_iload (pc := 46) d_Wo_binary_46 (.head _) ?_
      refine v_bipush (pc := 48) d_Wo_binary_48 (by decide) rfl ?_
      refine v_icmpne (pc := 50) (tgt := 63) d_Wo_binary_50 (by decide) (fun c => ?_) (fun c => ?_)
      · replace h := h.1 c
        refine v_iload (pc := 63) d_Wo_binary_63 (.head _) ?_
        refine v_bipush (pc := 65) d_Wo_binary_65 (by decide) rfl ?_
        refine v_icmpne (pc := 67) (tgt := 80) d_Wo_binary_67 (by decide) (fun c => ?_) (fun c => ?_)
        · replace h := h.1 c
          refine v_aload_n (pc := 80) d_Wo_binary_80 rfl (.tail _ (.head _)) ?_
          refine v_iload (pc := 81) d_Wo_binary_81 (.head _) ?_
          refine v_iload_n (pc := 83) d_Wo_binary_83 rfl (.tail _ (.tail _ (.tail _ (.head _)))) ?_
          refine v_iload_n (pc := 84) d_Wo_binary_84 rfl (.tail _ (.tail _ (.tail _ (.tail _ (.head _))))) ?_
          refine v_callS (pc := 85) (J' := jWo_combined) (d' := d) (As := [vI (w 21 p1.toNat), vI p2, vI p3]) d_Wo_binary_85 ml_Wo_174 rfl (Nat.le_of_ble_eq_true rfl) (Nat.le_refl _) rfl (Cal.weak h (fun o w1 h => ?_))
          rcases rI_of h with ⟨x2, rfl, h⟩
          refine v_callV (pc := 88) (J' := jWo_push) (d' := d) (o := 101) (ci := 10) (N := 18) (T := cT10) (As := [vI x2]) d_Wo_binary_88 ml_Wo_100 cC_101.1 cC_101.2 (by decide) rfl rfl (Nat.le_of_ble_eq_true rfl) (Nat.le_refl _) rfl (Cal.weak h (fun o w3 h => ?_))
          rcases rV_of h with ⟨rfl, h⟩
          exact v_vret (pc := 91) d_Wo_binary_91 rfl h
        · replace h := h.2 c
          refine v_aload_n (pc := 70) d_Wo_binary_70 rfl (.tail _ (.head _)) ?_
          refine v_iload_n (pc := 71) d_Wo_binary_71 rfl (.tail _ (.tail _ (.tail _ (.head _)))) ?_
          refine v_iload_n (pc := 72) d_Wo_binary_72 rfl (.tail _ (.tail _ (.tail _ (.tail _ (.head _))))) ?_
          refine v_irem (pc := 73) d_Wo_binary_73 h.1 ?_
          replace h := h.2
          refine v_callV (pc := 74) (J' := jWo_push) (d' := d) (o := 101) (ci := 10) (N := 18) (T := cT10) (As := [vI (iRem p2 p3)]) d_Wo_binary_74 ml_Wo_100 cC_101.1 cC_101.2 (by decide) rfl rfl (Nat.le_of_ble_eq_true rfl) (Nat.le_refl _) rfl (Cal.weak h (fun o w4 h => ?_))
          rcases rV_of h with ⟨rfl, h⟩
          refine v_goto (pc := 77) (tgt := 91) d_Wo_binary_77 (by decide) ?_
          exact v_vret (pc := 91) d_Wo_binary_91 rfl h
      · replace h := h.2 c
        refine v_aload_n (pc := 53) d_Wo_binary_53 rfl (.tail _ (.head _)) ?_
        refine v_iload_n (pc := 54) d_Wo_binary_54 rfl (.tail _ (.tail _ (.tail _ (.head _)))) ?_
        refine v_iload_n (pc := 55) d_Wo_binary_55 rfl (.tail _ (.tail _ (.tail _ (.tail _ (.head _))))) ?_
        refine v_idiv (pc := 56) d_Wo_binary_56 h.1 ?_
        replace h := h.2
        refine v_callV (pc := 57) (J' := jWo_push) (d' := d) (o := 101) (ci := 10) (N := 18) (T := cT10) (As := [vI (iDiv p2 p3)]) d_Wo_binary_57 ml_Wo_100 cC_101.1 cC_101.2 (by decide) rfl rfl (Nat.le_of_ble_eq_true rfl) (Nat.le_refl _) rfl (Cal.weak h (fun o w5 h => ?_))
        rcases rV_of h with ⟨rfl, h⟩
        refine v_goto (pc := 60) (tgt := 91) d_Wo_binary_60 (by decide) ?_
        exact v_vret (pc := 91) d_Wo_binary_91 rfl h
    · replace h := h.2 c
      refine v_aload_n (pc := 29) d_Wo_binary_29 rfl (.tail _ (.head _)) ?_
      refine v_iconst (pc := 30) d_Wo_binary_30 (by decide) ?_
      refine v_aload_n (pc := 31) d_Wo_binary_31 rfl (.tail _ (.head _)) ?_
      refine v_getr (C := "") (pc := 32) (r := 19) d_Wo_binary_32 fl_Wo_31 cC_101.1 cC_101.2 (Or.inl ⟨_, rfl⟩) rC_101_1 ?_
      refine v_getr (C := "") (pc := 35) (r := 22) d_Wo_binary_35 fl_Wo_155 cC_19.1 cC_19.2 (Or.inr ⟨_, rfl⟩) rC_19_2 ?_
      refine v_iload_n (pc := 38) d_Wo_binary_38 rfl (.tail _ (.tail _ (.head _))) ?_
      refine v_iald (pc := 39) (x := (w 22 p1.toNat)) d_Wo_binary_39 cC_22.1 cC_22.2 rfl h.1 ?_
      replace h := h.2
      refine v_callV (pc := 40) (J' := jWo_fail) (d' := d) (o := 101) (ci := 10) (N := 18) (T := cT10) (As := [vI 1, vI (w 22 p1.toNat)]) d_Wo_binary_40 ml_Wo_116 cC_101.1 cC_101.2 (by decide) rfl rfl (Nat.le_of_ble_eq_true rfl) (Nat.le_refl _) rfl (Cal.weak h (fun o w6 h => ?_))
      rcases rV_of h with ⟨rfl, h⟩
      refine v_goto (pc := 43) (tgt := 91) d_Wo_binary_43 (by decide) ?_
      exact v_vret (pc := 91) d_Wo_binary_91 rfl h
  · replace h := h.2 c
    refine v_iload (pc := 18) d_Wo_binary_18 (.head _) ?_
    refine v_bipush (pc := 20) d_Wo_binary_20 (by decide) rfl ?_
    refine v_icmpne (pc := 22) (tgt := 46) d_Wo_binary_22 (by decide) (fun c => ?_) (fun c => ?_)
    · replace h := h.1 c
      refine v_iload (pc := 46) d_Wo_binary_46 (.head _) ?_
      refine v_bipush (pc := 48) d_Wo_binary_48 (by decide) rfl ?_
      refine v_icmpne (pc := 50) (tgt := 63) d_Wo_binary_50 (by decide) (fun c => ?_) (fun c => ?_)
      · replace h := h.1 c
        refine v_iload (pc := 63) d_Wo_binary_63 (.head _) ?_
        refine v_bipush (pc := 65) d_Wo_binary_65 (by decide) rfl ?_
        refine v_icmpne (pc := 67) (tgt := 80) d_Wo_binary_67 (by decide) (fun c => ?_) (fun c => ?_)
        · replace h := h.1 c
          refine v_aload_n (pc := 80) d_Wo_binary_80 rfl (.tail _ (.head _)) ?_
          refine v_iload (pc := 81) d_Wo_binary_81 (.head _) ?_
          refine v_iload_n (pc := 83) d_Wo_binary_83 rfl (.tail _ (.tail _ (.tail _ (.head _)))) ?_
          refine v_iload_n (pc := 84) d_Wo_binary_84 rfl (.tail _ (.tail _ (.tail _ (.tail _ (.head _))))) ?_
          refine v_callS (pc := 85) (J' := jWo_combined) (d' := d) (As := [vI (w 21 p1.toNat), vI p2, vI p3]) d_Wo_binary_85 ml_Wo_174 rfl (Nat.le_of_ble_eq_true rfl) (Nat.le_refl _) rfl (Cal.weak h (fun o w7 h => ?_))
          rcases rI_of h with ⟨x8, rfl, h⟩
          refine v_callV (pc := 88) (J' := jWo_push) (d' := d) (o := 101) (ci := 10) (N := 18) (T := cT10) (As := [vI x8]) d_Wo_binary_88 ml_Wo_100 cC_101.1 cC_101.2 (by decide) rfl rfl (Nat.le_of_ble_eq_true rfl) (Nat.le_refl _) rfl (Cal.weak h (fun o w9 h => ?_))
          rcases rV_of h with ⟨rfl, h⟩
          exact v_vret (pc := 91) d_Wo_binary_91 rfl h
        · replace h := h.2 c
          refine v_aload_n (pc := 70) d_Wo_binary_70 rfl (.tail _ (.head _)) ?_
          refine v_iload_n (pc := 71) d_Wo_binary_71 rfl (.tail _ (.tail _ (.tail _ (.head _)))) ?_
          refine v_iload_n (pc := 72) d_Wo_binary_72 rfl (.tail _ (.tail _ (.tail _ (.tail _ (.head _))))) ?_
          refine v_irem (pc := 73) d_Wo_binary_73 h.1 ?_
          replace h := h.2
          refine v_callV (pc := 74) (J' := jWo_push) (d' := d) (o := 101) (ci := 10) (N := 18) (T := cT10) (As := [vI (iRem p2 p3)]) d_Wo_binary_74 ml_Wo_100 cC_101.1 cC_101.2 (by decide) rfl rfl (Nat.le_of_ble_eq_true rfl) (Nat.le_refl _) rfl (Cal.weak h (fun o w10 h => ?_))
          rcases rV_of h with ⟨rfl, h⟩
          refine v_goto (pc := 77) (tgt := 91) d_Wo_binary_77 (by decide) ?_
          exact v_vret (pc := 91) d_Wo_binary_91 rfl h
      · replace h := h.2 c
        refine v_aload_n (pc := 53) d_Wo_binary_53 rfl (.tail _ (.head _)) ?_
        refine v_iload_n (pc := 54) d_Wo_binary_54 rfl (.tail _ (.tail _ (.tail _ (.head _)))) ?_
        refine v_iload_n (pc := 55) d_Wo_binary_55 rfl (.tail _ (.tail _ (.tail _ (.tail _ (.head _))))) ?_
        refine v_idiv (pc := 56) d_Wo_binary_56 h.1 ?_
        replace h := h.2
        refine v_callV (pc := 57) (J' := jWo_push) (d' := d) (o := 101) (ci := 10) (N := 18) (T := cT10) (As := [vI (iDiv p2 p3)]) d_Wo_binary_57 ml_Wo_100 cC_101.1 cC_101.2 (by decide) rfl rfl (Nat.le_of_ble_eq_true rfl) (Nat.le_refl _) rfl (Cal.weak h (fun o w11 h => ?_))
        rcases rV_of h with ⟨rfl, h⟩
        refine v_goto (pc := 60) (tgt := 91) d_Wo_binary_60 (by decide) ?_
        exact v_vret (pc := 91) d_Wo_binary_91 rfl h
    · replace h := h.2 c
      refine v_iload_n (pc := 25) d_Wo_binary_25 rfl (.tail _ (.tail _ (.tail _ (.tail _ (.head _))))) ?_
      refine v_ifne (pc := 26) (tgt := 46) d_Wo_binary_26 (by decide) (fun c => ?_) (fun c => ?_)
      · replace h := h.1 c
        refine v_iload (pc := 46) d_Wo_binary_46 (.head _) ?_
        refine v_bipush (pc := 48) d_Wo_binary_48 (by decide) rfl ?_
        refine v_icmpne (pc := 50) (tgt := 63) d_Wo_binary_50 (by decide) (fun c => ?_) (fun c => ?_)
        · replace h := h.1 c
          refine v_iload (pc := 63) d_Wo_binary_63 (.head _) ?_
          refine v_bipush (pc := 65) d_Wo_binary_65 (by decide) rfl ?_
          refine v_icmpne (pc := 67) (tgt := 80) d_Wo_binary_67 (by decide) (fun c => ?_) (fun c => ?_)
          · replace h := h.1 c
            refine v_aload_n (pc := 80) d_Wo_binary_80 rfl (.tail _ (.head _)) ?_
            refine v_iload (pc := 81) d_Wo_binary_81 (.head _) ?_
            refine v_iload_n (pc := 83) d_Wo_binary_83 rfl (.tail _ (.tail _ (.tail _ (.head _)))) ?_
            refine v_iload_n (pc := 84) d_Wo_binary_84 rfl (.tail _ (.tail _ (.tail _ (.tail _ (.head _))))) ?_
            refine v_callS (pc := 85) (J' := jWo_combined) (d' := d) (As := [vI (w 21 p1.toNat), vI p2, vI p3]) d_Wo_binary_85 ml_Wo_174 rfl (Nat.le_of_ble_eq_true rfl) (Nat.le_refl _) rfl (Cal.weak h (fun o w12 h => ?_))
            rcases rI_of h with ⟨x13, rfl, h⟩
            refine v_callV (pc := 88) (J' := jWo_push) (d' := d) (o := 101) (ci := 10) (N := 18) (T := cT10) (As := [vI x13]) d_Wo_binary_88 ml_Wo_100 cC_101.1 cC_101.2 (by decide) rfl rfl (Nat.le_of_ble_eq_true rfl) (Nat.le_refl _) rfl (Cal.weak h (fun o w14 h => ?_))
            rcases rV_of h with ⟨rfl, h⟩
            exact v_vret (pc := 91) d_Wo_binary_91 rfl h
          · replace h := h.2 c
            refine v_aload_n (pc := 70) d_Wo_binary_70 rfl (.tail _ (.head _)) ?_
            refine v_iload_n (pc := 71) d_Wo_binary_71 rfl (.tail _ (.tail _ (.tail _ (.head _)))) ?_
            refine v_iload_n (pc := 72) d_Wo_binary_72 rfl (.tail _ (.tail _ (.tail _ (.tail _ (.head _))))) ?_
            refine v_irem (pc := 73) d_Wo_binary_73 h.1 ?_
            replace h := h.2
            refine v_callV (pc := 74) (J' := jWo_push) (d' := d) (o := 101) (ci := 10) (N := 18) (T := cT10) (As := [vI (iRem p2 p3)]) d_Wo_binary_74 ml_Wo_100 cC_101.1 cC_101.2 (by decide) rfl rfl (Nat.le_of_ble_eq_true rfl) (Nat.le_refl _) rfl (Cal.weak h (fun o w15 h => ?_))
            rcases rV_of h with ⟨rfl, h⟩
            refine v_goto (pc := 77) (tgt := 91) d_Wo_binary_77 (by decide) ?_
            exact v_vret (pc := 91) d_Wo_binary_91 rfl h
        · replace h := h.2 c
          refine v_aload_n (pc := 53) d_Wo_binary_53 rfl (.tail _ (.head _)) ?_
          refine v_iload_n (pc := 54) d_Wo_binary_54 rfl (.tail _ (.tail _ (.tail _ (.head _)))) ?_
          refine v_iload_n (pc := 55) d_Wo_binary_55 rfl (.tail _ (.tail _ (.tail _ (.tail _ (.head _))))) ?_
          refine v_idiv (pc := 56) d_Wo_binary_56 h.1 ?_
          replace h := h.2
          refine v_callV (pc := 57) (J' := jWo_push) (d' := d) (o := 101) (ci := 10) (N := 18) (T := cT10) (As := [vI (iDiv p2 p3)]) d_Wo_binary_57 ml_Wo_100 cC_101.1 cC_101.2 (by decide) rfl rfl (Nat.le_of_ble_eq_true rfl) (Nat.le_refl _) rfl (Cal.weak h (fun o w16 h => ?_))
          rcases rV_of h with ⟨rfl, h⟩
          refine v_goto (pc := 60) (tgt := 91) d_Wo_binary_60 (by decide) ?_
          exact v_vret (pc := 91) d_Wo_binary_91 rfl h
      · replace h := h.2 c
        refine v_aload_n (pc := 29) d_Wo_binary_29 rfl (.tail _ (.head _)) ?_
        refine v_iconst (pc := 30) d_Wo_binary_30 (by decide) ?_
        refine v_aload_n (pc := 31) d_Wo_binary_31 rfl (.tail _ (.head _)) ?_
        refine v_getr (C := "") (pc := 32) (r := 19) d_Wo_binary_32 fl_Wo_31 cC_101.1 cC_101.2 (Or.inl ⟨_, rfl⟩) rC_101_1 ?_
        refine v_getr (C := "") (pc := 35) (r := 22) d_Wo_binary_35 fl_Wo_155 cC_19.1 cC_19.2 (Or.inr ⟨_, rfl⟩) rC_19_2 ?_
        refine v_iload_n (pc := 38) d_Wo_binary_38 rfl (.tail _ (.tail _ (.head _))) ?_
        refine v_iald (pc := 39) (x := (w 22 p1.toNat)) d_Wo_binary_39 cC_22.1 cC_22.2 rfl h.1 ?_
        replace h := h.2
        refine v_callV (pc := 40) (J' := jWo_fail) (d' := d) (o := 101) (ci := 10) (N := 18) (T := cT10) (As := [vI 1, vI (w 22 p1.toNat)]) d_Wo_binary_40 ml_Wo_116 cC_101.1 cC_101.2 (by decide) rfl rfl (Nat.le_of_ble_eq_true rfl) (Nat.le_refl _) rfl (Cal.weak h (fun o w17 h => ?_))
        rcases rV_of h with ⟨rfl, h⟩
        refine v_goto (pc := 43) (tgt := 91) d_Wo_binary_43 (by decide) ?_
        exact v_vret (pc := 91) d_Wo_binary_91 rfl h
theorem d_Wo_combined_0 : decode jWo_combined.cc 0 = .ok (.iload_n 0, 1) := by decide +kernel
theorem d_Wo_combined_1 : decode jWo_combined.cc 1 = .ok (.tableswitch 126 13 23 #[93, 115, 59, 63, 67, 126, 126, 126, 71, 82, 104], 59) := by decide +kernel
theorem d_Wo_combined_60 : decode jWo_combined.cc 60 = .ok (.iload_n 1, 1) := by decide +kernel
theorem d_Wo_combined_61 : decode jWo_combined.cc 61 = .ok (.iload_n 2, 1) := by decide +kernel
theorem d_Wo_combined_62 : decode jWo_combined.cc 62 = .ok (.iadd, 1) := by decide +kernel
theorem d_Wo_combined_63 : decode jWo_combined.cc 63 = .ok (.ireturn, 1) := by decide +kernel
theorem d_Wo_combined_64 : decode jWo_combined.cc 64 = .ok (.iload_n 1, 1) := by decide +kernel
theorem d_Wo_combined_65 : decode jWo_combined.cc 65 = .ok (.iload_n 2, 1) := by decide +kernel
theorem d_Wo_combined_66 : decode jWo_combined.cc 66 = .ok (.isub, 1) := by decide +kernel
theorem d_Wo_combined_67 : decode jWo_combined.cc 67 = .ok (.ireturn, 1) := by decide +kernel
theorem d_Wo_combined_68 : decode jWo_combined.cc 68 = .ok (.iload_n 1, 1) := by decide +kernel
theorem d_Wo_combined_69 : decode jWo_combined.cc 69 = .ok (.iload_n 2, 1) := by decide +kernel
theorem d_Wo_combined_70 : decode jWo_combined.cc 70 = .ok (.imul, 1) := by decide +kernel
theorem d_Wo_combined_71 : decode jWo_combined.cc 71 = .ok (.ireturn, 1) := by decide +kernel
theorem d_Wo_combined_72 : decode jWo_combined.cc 72 = .ok (.iload_n 1, 1) := by decide +kernel
theorem d_Wo_combined_73 : decode jWo_combined.cc 73 = .ok (.iload_n 2, 1) := by decide +kernel
theorem d_Wo_combined_74 : decode jWo_combined.cc 74 = .ok (.if_icmp .ne 7, 3) := by decide +kernel
theorem d_Wo_combined_77 : decode jWo_combined.cc 77 = .ok (.iconst 1, 1) := by decide +kernel
theorem d_Wo_combined_78 : decode jWo_combined.cc 78 = .ok (.goto 4, 3) := by decide +kernel
theorem d_Wo_combined_81 : decode jWo_combined.cc 81 = .ok (.iconst 0, 1) := by decide +kernel
theorem d_Wo_combined_82 : decode jWo_combined.cc 82 = .ok (.ireturn, 1) := by decide +kernel
theorem d_Wo_combined_83 : decode jWo_combined.cc 83 = .ok (.iload_n 1, 1) := by decide +kernel
theorem d_Wo_combined_84 : decode jWo_combined.cc 84 = .ok (.iload_n 2, 1) := by decide +kernel
theorem d_Wo_combined_85 : decode jWo_combined.cc 85 = .ok (.if_icmp .eq 7, 3) := by decide +kernel
theorem d_Wo_combined_88 : decode jWo_combined.cc 88 = .ok (.iconst 1, 1) := by decide +kernel
theorem d_Wo_combined_89 : decode jWo_combined.cc 89 = .ok (.goto 4, 3) := by decide +kernel
theorem d_Wo_combined_92 : decode jWo_combined.cc 92 = .ok (.iconst 0, 1) := by decide +kernel
theorem d_Wo_combined_93 : decode jWo_combined.cc 93 = .ok (.ireturn, 1) := by decide +kernel
theorem d_Wo_combined_94 : decode jWo_combined.cc 94 = .ok (.iload_n 1, 1) := by decide +kernel
theorem d_Wo_combined_95 : decode jWo_combined.cc 95 = .ok (.iload_n 2, 1) := by decide +kernel
theorem d_Wo_combined_96 : decode jWo_combined.cc 96 = .ok (.if_icmp .ge 7, 3) := by decide +kernel
theorem d_Wo_combined_99 : decode jWo_combined.cc 99 = .ok (.iconst 1, 1) := by decide +kernel
theorem d_Wo_combined_100 : decode jWo_combined.cc 100 = .ok (.goto 4, 3) := by decide +kernel
theorem d_Wo_combined_103 : decode jWo_combined.cc 103 = .ok (.iconst 0, 1) := by decide +kernel
theorem d_Wo_combined_104 : decode jWo_combined.cc 104 = .ok (.ireturn, 1) := by decide +kernel
theorem d_Wo_combined_105 : decode jWo_combined.cc 105 = .ok (.iload_n 1, 1) := by decide +kernel
theorem d_Wo_combined_106 : decode jWo_combined.cc 106 = .ok (.iload_n 2, 1) := by decide +kernel
theorem d_Wo_combined_107 : decode jWo_combined.cc 107 = .ok (.if_icmp .gt 7, 3) := by decide +kernel
theorem d_Wo_combined_110 : decode jWo_combined.cc 110 = .ok (.iconst 1, 1) := by decide +kernel
theorem d_Wo_combined_111 : decode jWo_combined.cc 111 = .ok (.goto 4, 3) := by decide +kernel
theorem d_Wo_combined_114 : decode jWo_combined.cc 114 = .ok (.iconst 0, 1) := by decide +kernel
theorem d_Wo_combined_115 : decode jWo_combined.cc 115 = .ok (.ireturn, 1) := by decide +kernel
theorem d_Wo_combined_116 : decode jWo_combined.cc 116 = .ok (.iload_n 1, 1) := by decide +kernel
theorem d_Wo_combined_117 : decode jWo_combined.cc 117 = .ok (.iload_n 2, 1) := by decide +kernel
theorem d_Wo_combined_118 : decode jWo_combined.cc 118 = .ok (.if_icmp .le 7, 3) := by decide +kernel
theorem d_Wo_combined_121 : decode jWo_combined.cc 121 = .ok (.iconst 1, 1) := by decide +kernel
theorem d_Wo_combined_122 : decode jWo_combined.cc 122 = .ok (.goto 4, 3) := by decide +kernel
theorem d_Wo_combined_125 : decode jWo_combined.cc 125 = .ok (.iconst 0, 1) := by decide +kernel
theorem d_Wo_combined_126 : decode jWo_combined.cc 126 = .ok (.ireturn, 1) := by decide +kernel
theorem d_Wo_combined_127 : decode jWo_combined.cc 127 = .ok (.iload_n 1, 1) := by decide +kernel
theorem d_Wo_combined_128 : decode jWo_combined.cc 128 = .ok (.iload_n 2, 1) := by decide +kernel
theorem d_Wo_combined_129 : decode jWo_combined.cc 129 = .ok (.if_icmp .lt 7, 3) := by decide +kernel
theorem d_Wo_combined_132 : decode jWo_combined.cc 132 = .ok (.iconst 1, 1) := by decide +kernel
theorem d_Wo_combined_133 : decode jWo_combined.cc 133 = .ok (.goto 4, 3) := by decide +kernel
theorem d_Wo_combined_136 : decode jWo_combined.cc 136 = .ok (.iconst 0, 1) := by decide +kernel
theorem d_Wo_combined_137 : decode jWo_combined.cc 137 = .ok (.ireturn, 1) := by decide +kernel
set_option maxHeartbeats 4000000 in
theorem s_Wo_combined {g : Mg} {d : Nat} {K : Ou → Wd → Prop} {w : Wd} {p0 : Int} {p1 : Int} {p2 : Int} (h : ((p0 < 13 ∨ 23 < p0) → ((p1 < p2 → (K (.inl (some (vI 0))) w)) ∧ (¬ p1 < p2 → (K (.inl (some (vI 1))) w)))) ∧ (p0 = 13 → ((p2 ≤ p1 → (K (.inl (some (vI 0))) w)) ∧ (¬ p2 ≤ p1 → (K (.inl (some (vI 1))) w)))) ∧ (p0 = 14 → ((p1 ≤ p2 → (K (.inl (some (vI 0))) w)) ∧ (¬ p1 ≤ p2 → (K (.inl (some (vI 1))) w)))) ∧ (p0 = 15 → (K (.inl (some (vI (wr (p1 + p2))))) w)) ∧ (p0 = 16 → (K (.inl (some (vI (wr (p1 - p2))))) w)) ∧ (p0 = 17 → (K (.inl (some (vI (wr (p1 * p2))))) w)) ∧ (p0 = 18 → ((p1 < p2 → (K (.inl (some (vI 0))) w)) ∧ (¬ p1 < p2 → (K (.inl (some (vI 1))) w)))) ∧ (p0 = 19 → ((p1 < p2 → (K (.inl (some (vI 0))) w)) ∧ (¬ p1 < p2 → (K (.inl (some (vI 1))) w)))) ∧ (p0 = 20 → ((p1 < p2 → (K (.inl (some (vI 0))) w)) ∧ (¬ p1 < p2 → (K (.inl (some (vI 1))) w)))) ∧ (p0 = 21 → ((¬ p1 = p2 → (K (.inl (some (vI 0))) w)) ∧ (p1 = p2 → (K (.inl (some (vI 1))) w)))) ∧ (p0 = 22 → ((p1 = p2 → (K (.inl (some (vI 0))) w)) ∧ (¬ p1 = p2 → (K (.inl (some (vI 1))) w)))) ∧ (p0 = 23 → ((p2 < p1 → (K (.inl (some (vI 0))) w)) ∧ (¬ p2 < p1 → (K (.inl (some (vI 1))) w))))) : V g LC jWo_combined d K 0 [(0, vI p0), (1, vI p1), (2, vI p2)] [] w := by
  refine v_iload_n (pc := 0) d_Wo_combined_0 rfl (.head _) ?_
  refine v_table (pc := 1) (tgd := 127) (tgs := [94, 116, 60, 64, 68, 127, 127, 127, 72, 83, 105]) d_Wo_combined_1 (by decide) (by decide) (by decide) (fun c => ?_) ⟨fun c => ?_, fun c => ?_, fun c => ?_, fun c => ?_, fun c => ?_, fun c => ?_, fun c => ?_, fun c => ?_, fun c => ?_, fun c => ?_, fun c => ?_, trivial⟩
  · replace h := h.1 c
    refine v_iload_n (pc := 127) d_Wo_combined_127 rfl (.tail _ (.head _)) ?_
    refine v_iload_n (pc := 128) d_Wo_combined_128 rfl (.tail _ (.tail _ (.head _))) ?_
    refine v_icmplt (pc := 129) (tgt := 136) d_Wo_combined_129 (by decide) (fun c => ?_) (fun c => ?_)
    · replace h := h.1 c
      refine v_iconst (pc := 136) d_Wo_combined_136 (by decide) ?_
      exact v_iret (pc := 137) d_Wo_combined_137 rfl h
    · replace h := h.2 c
      refine v_iconst (pc := 132) d_Wo_combined_132 (by decide) ?_
      refine v_goto (pc := 133) (tgt := 137) d_Wo_combined_133 (by decide) ?_
      exact v_iret (pc := 137) d_Wo_combined_137 rfl h
  · replace h := h.2.1 c
    refine v_iload_n (pc := 94) d_Wo_combined_94 rfl (.tail _ (.head _)) ?_
    refine v_iload_n (pc := 95) d_Wo_combined_95 rfl (.tail _ (.tail _ (.head _))) ?_
    refine v_icmpge (pc := 96) (tgt := 103) d_Wo_combined_96 (by decide) (fun c => ?_) (fun c => ?_)
    · replace h := h.1 c
      refine v_iconst (pc := 103) d_Wo_combined_103 (by decide) ?_
      exact v_iret (pc := 104) d_Wo_combined_104 rfl h
    · replace h := h.2 c
      refine v_iconst (pc := 99) d_Wo_combined_99 (by decide) ?_
      refine v_goto (pc := 100) (tgt := 104) d_Wo_combined_100 (by decide) ?_
      exact v_iret (pc := 104) d_Wo_combined_104 rfl h
  · replace h := h.2.2.1 c
    refine v_iload_n (pc := 116) d_Wo_combined_116 rfl (.tail _ (.head _)) ?_
    refine v_iload_n (pc := 117) d_Wo_combined_117 rfl (.tail _ (.tail _ (.head _))) ?_
    refine v_icmple (pc := 118) (tgt := 125) d_Wo_combined_118 (by decide) (fun c => ?_) (fun c => ?_)
    · replace h := h.1 c
      refine v_iconst (pc := 125) d_Wo_combined_125 (by decide) ?_
      exact v_iret (pc := 126) d_Wo_combined_126 rfl h
    · replace h := h.2 c
      refine v_iconst (pc := 121) d_Wo_combined_121 (by decide) ?_
      refine v_goto (pc := 122) (tgt := 126) d_Wo_combined_122 (by decide) ?_
      exact v_iret (pc := 126) d_Wo_combined_126 rfl h
  · replace h := h.2.2.2.1 c
    refine v_iload_n (pc := 60) d_Wo_combined_60 rfl (.tail _ (.head _)) ?_
    refine v_iload_n (pc := 61) d_Wo_combined_61 rfl (.tail _ (.tail _ (.head _))) ?_
    refine v_iadd (pc := 62) d_Wo_combined_62 ?_
    exact v_iret (pc := 63) d_Wo_combined_63 rfl h
  · replace h := h.2.2.2.2.1 c
    refine v_iload_n (pc := 64) d_Wo_combined_64 rfl (.tail _ (.head _)) ?_
    refine v_iload_n (pc := 65) d_Wo_combined_65 rfl (.tail _ (.tail _ (.head _))) ?_
    refine v_isub (pc := 66) d_Wo_combined_66 ?_
    exact v_iret (pc := 67) d_Wo_combined_67 rfl h
  · replace h := h.2.2.2.2.2.1 c
    refine v_iload_n (pc := 68) d_Wo_combined_68 rfl (.tail _ (.head _)) ?_
    refine v_iload_n (pc := 69) d_Wo_combined_69 rfl (.tail _ (.tail _ (.head _))) ?_
    refine v_imul (pc := 70) d_Wo_combined_70 ?_
    exact v_iret (pc := 71) d_Wo_combined_71 rfl h
  · replace h := h.2.2.2.2.2.2.1 c
    refine v_iload_n (pc := 127) d_Wo_combined_127 rfl (.tail _ (.head _)) ?_
    refine v_iload_n (pc := 128) d_Wo_combined_128 rfl (.tail _ (.tail _ (.head _))) ?_
    refine v_icmplt (pc := 129) (tgt := 136) d_Wo_combined_129 (by decide) (fun c => ?_) (fun c => ?_)
    · replace h := h.1 c
      refine v_iconst (pc := 136) d_Wo_combined_136 (by decide) ?_
      exact v_iret (pc := 137) d_Wo_combined_137 rfl h
    · replace h := h.2 c
      refine v_iconst (pc := 132) d_Wo_combined_132 (by decide) ?_
      refine v_goto (pc := 133) (tgt := 137) d_Wo_combined_133 (by decide) ?_
      exact v_iret (pc := 137) d_Wo_combined_137 rfl h
  · replace h := h.2.2.2.2.2.2.2.1 c
    refine v_iload_n (pc := 127) d_Wo_combined_127 rfl (.tail _ (.head _)) ?_
    refine v_iload_n (pc := 128) d_Wo_combined_128 rfl (.tail _ (.tail _ (.head _))) ?_
    refine v_icmplt (pc := 129) (tgt := 136) d_Wo_combined_129 (by decide) (fun c => ?_) (fun c => ?_)
    · replace h := h.1 c
      refine v_iconst (pc := 136) d_Wo_combined_136 (by decide) ?_
      exact v_iret (pc := 137) d_Wo_combined_137 rfl h
    · replace h := h.2 c
      refine v_iconst (pc := 132) d_Wo_combined_132 (by decide) ?_
      refine v_goto (pc := 133) (tgt := 137) d_Wo_combined_133 (by decide) ?_
      exact v_iret (pc := 137) d_Wo_combined_137 rfl h
  · replace h := h.2.2.2.2.2.2.2.2.1 c
    refine v_iload_n (pc := 127) d_Wo_combined_127 rfl (.tail _ (.head _)) ?_
    refine v_iload_n (pc := 128) d_Wo_combined_128 rfl (.tail _ (.tail _ (.head _))) ?_
    refine v_icmplt (pc := 129) (tgt := 136) d_Wo_combined_129 (by decide) (fun c => ?_) (fun c => ?_)
    · replace h := h.1 c
      refine v_iconst (pc := 136) d_Wo_combined_136 (by decide) ?_
      exact v_iret (pc := 137) d_Wo_combined_137 rfl h
    · replace h := h.2 c
      refine v_iconst (pc := 132) d_Wo_combined_132 (by decide) ?_
      refine v_goto (pc := 133) (tgt := 137) d_Wo_combined_133 (by decide) ?_
      exact v_iret (pc := 137) d_Wo_combined_137 rfl h
  · replace h := h.2.2.2.2.2.2.2.2.2.1 c
    refine v_iload_n (pc := 72) d_Wo_combined_72 rfl (.tail _ (.head _)) ?_
    refine v_iload_n (pc := 73) d_Wo_combined_73 rfl (.tail _ (.tail _ (.head _))) ?_
    refine v_icmpne (pc := 74) (tgt := 81) d_Wo_combined_74 (by decide) (fun c => ?_) (fun c => ?_)
    · replace h := h.1 c
      refine v_iconst (pc := 81) d_Wo_combined_81 (by decide) ?_
      exact v_iret (pc := 82) d_Wo_combined_82 rfl h
    · replace h := h.2 c
      refine v_iconst (pc := 77) d_Wo_combined_77 (by decide) ?_
      refine v_goto (pc := 78) (tgt := 82) d_Wo_combined_78 (by decide) ?_
      exact v_iret (pc := 82) d_Wo_combined_82 rfl h
  · replace h := h.2.2.2.2.2.2.2.2.2.2.1 c
    refine v_iload_n (pc := 83) d_Wo_combined_83 rfl (.tail _ (.head _)) ?_
    refine v_iload_n (pc := 84) d_Wo_combined_84 rfl (.tail _ (.tail _ (.head _))) ?_
    refine v_icmpeq (pc := 85) (tgt := 92) d_Wo_combined_85 (by decide) (fun c => ?_) (fun c => ?_)
    · replace h := h.1 c
      refine v_iconst (pc := 92) d_Wo_combined_92 (by decide) ?_
      exact v_iret (pc := 93) d_Wo_combined_93 rfl h
    · replace h := h.2 c
      refine v_iconst (pc := 88) d_Wo_combined_88 (by decide) ?_
      refine v_goto (pc := 89) (tgt := 93) d_Wo_combined_89 (by decide) ?_
      exact v_iret (pc := 93) d_Wo_combined_93 rfl h
  · replace h := h.2.2.2.2.2.2.2.2.2.2.2 c
    refine v_iload_n (pc := 105) d_Wo_combined_105 rfl (.tail _ (.head _)) ?_
    refine v_iload_n (pc := 106) d_Wo_combined_106 rfl (.tail _ (.tail _ (.head _))) ?_
    refine v_icmpgt (pc := 107) (tgt := 114) d_Wo_combined_107 (by decide) (fun c => ?_) (fun c => ?_)
    · replace h := h.1 c
      refine v_iconst (pc := 114) d_Wo_combined_114 (by decide) ?_
      exact v_iret (pc := 115) d_Wo_combined_115 rfl h
    · replace h := h.2 c
      refine v_iconst (pc := 110) d_Wo_combined_110 (by decide) ?_
      refine v_goto (pc := 111) (tgt := 115) d_Wo_combined_111 (by decide) ?_
      exact v_iret (pc := 115) d_Wo_combined_115 rfl h
theorem d_Wo_flow_0 : decode jWo_flow.cc 0 = .ok (.aload_n 0, 1) := by decide +kernel
theorem d_Wo_flow_1 : decode jWo_flow.cc 1 = .ok (.getfield 31, 3) := by decide +kernel
theorem d_Wo_flow_4 : decode jWo_flow.cc 4 = .ok (.getfield 93, 3) := by decide +kernel
theorem d_Wo_flow_7 : decode jWo_flow.cc 7 = .ok (.iload_n 1, 1) := by decide +kernel
theorem d_Wo_flow_8 : decode jWo_flow.cc 8 = .ok (.iaload, 1) := by decide +kernel
theorem d_Wo_flow_9 : decode jWo_flow.cc 9 = .ok (.istore_n 3, 1) := by decide +kernel
theorem d_Wo_flow_10 : decode jWo_flow.cc 10 = .ok (.iload_n 2, 1) := by decide +kernel
theorem d_Wo_flow_11 : decode jWo_flow.cc 11 = .ok (.tableswitch 236 16 25 #[53, 62, 71, 236, 71, 86, 94, 111, 129, 194], 53) := by decide +kernel
theorem d_Wo_flow_64 : decode jWo_flow.cc 64 = .ok (.aload_n 0, 1) := by decide +kernel
theorem d_Wo_flow_65 : decode jWo_flow.cc 65 = .ok (.iconst 0, 1) := by decide +kernel
theorem d_Wo_flow_66 : decode jWo_flow.cc 66 = .ok (.iload_n 3, 1) := by decide +kernel
theorem d_Wo_flow_67 : decode jWo_flow.cc 67 = .ok (.invokevirtual 178, 3) := by decide +kernel
theorem d_Wo_flow_70 : decode jWo_flow.cc 70 = .ok (.goto 177, 3) := by decide +kernel
theorem d_Wo_flow_73 : decode jWo_flow.cc 73 = .ok (.aload_n 0, 1) := by decide +kernel
theorem d_Wo_flow_74 : decode jWo_flow.cc 74 = .ok (.iconst 1, 1) := by decide +kernel
theorem d_Wo_flow_75 : decode jWo_flow.cc 75 = .ok (.iload_n 3, 1) := by decide +kernel
theorem d_Wo_flow_76 : decode jWo_flow.cc 76 = .ok (.invokevirtual 178, 3) := by decide +kernel
theorem d_Wo_flow_79 : decode jWo_flow.cc 79 = .ok (.goto 168, 3) := by decide +kernel
theorem d_Wo_flow_82 : decode jWo_flow.cc 82 = .ok (.aload_n 0, 1) := by decide +kernel
theorem d_Wo_flow_83 : decode jWo_flow.cc 83 = .ok (.invokevirtual 151, 3) := by decide +kernel
theorem d_Wo_flow_86 : decode jWo_flow.cc 86 = .ok (.ifCond .ne 161, 3) := by decide +kernel
theorem d_Wo_flow_89 : decode jWo_flow.cc 89 = .ok (.aload_n 0, 1) := by decide +kernel
theorem d_Wo_flow_90 : decode jWo_flow.cc 90 = .ok (.iload_n 3, 1) := by decide +kernel
theorem d_Wo_flow_91 : decode jWo_flow.cc 91 = .ok (.putfield 73, 3) := by decide +kernel
theorem d_Wo_flow_94 : decode jWo_flow.cc 94 = .ok (.goto 153, 3) := by decide +kernel
theorem d_Wo_flow_97 : decode jWo_flow.cc 97 = .ok (.aload_n 0, 1) := by decide +kernel
theorem d_Wo_flow_98 : decode jWo_flow.cc 98 = .ok (.iload_n 3, 1) := by decide +kernel
theorem d_Wo_flow_99 : decode jWo_flow.cc 99 = .ok (.putfield 73, 3) := by decide +kernel
theorem d_Wo_flow_102 : decode jWo_flow.cc 102 = .ok (.goto 145, 3) := by decide +kernel
theorem d_Wo_flow_105 : decode jWo_flow.cc 105 = .ok (.aload_n 0, 1) := by decide +kernel
theorem d_Wo_flow_106 : decode jWo_flow.cc 106 = .ok (.aload_n 0, 1) := by decide +kernel
theorem d_Wo_flow_107 : decode jWo_flow.cc 107 = .ok (.getfield 31, 3) := by decide +kernel
theorem d_Wo_flow_110 : decode jWo_flow.cc 110 = .ok (.getfield 155, 3) := by decide +kernel
theorem d_Wo_flow_113 : decode jWo_flow.cc 113 = .ok (.iload_n 1, 1) := by decide +kernel
theorem d_Wo_flow_114 : decode jWo_flow.cc 114 = .ok (.iaload, 1) := by decide +kernel
theorem d_Wo_flow_115 : decode jWo_flow.cc 115 = .ok (.iload_n 3, 1) := by decide +kernel
theorem d_Wo_flow_116 : decode jWo_flow.cc 116 = .ok (.invokevirtual 181, 3) := by decide +kernel
theorem d_Wo_flow_119 : decode jWo_flow.cc 119 = .ok (.goto 128, 3) := by decide +kernel
theorem d_Wo_flow_122 : decode jWo_flow.cc 122 = .ok (.aload_n 0, 1) := by decide +kernel
theorem d_Wo_flow_123 : decode jWo_flow.cc 123 = .ok (.iload_n 1, 1) := by decide +kernel
theorem d_Wo_flow_124 : decode jWo_flow.cc 124 = .ok (.aload_n 0, 1) := by decide +kernel
theorem d_Wo_flow_125 : decode jWo_flow.cc 125 = .ok (.getfield 31, 3) := by decide +kernel
theorem d_Wo_flow_128 : decode jWo_flow.cc 128 = .ok (.getfield 155, 3) := by decide +kernel
theorem d_Wo_flow_131 : decode jWo_flow.cc 131 = .ok (.iload_n 1, 1) := by decide +kernel
theorem d_Wo_flow_132 : decode jWo_flow.cc 132 = .ok (.iaload, 1) := by decide +kernel
theorem d_Wo_flow_133 : decode jWo_flow.cc 133 = .ok (.iload_n 3, 1) := by decide +kernel
theorem d_Wo_flow_134 : decode jWo_flow.cc 134 = .ok (.invokevirtual 184, 3) := by decide +kernel
theorem d_Wo_flow_137 : decode jWo_flow.cc 137 = .ok (.goto 110, 3) := by decide +kernel
theorem d_Wo_flow_140 : decode jWo_flow.cc 140 = .ok (.aload_n 0, 1) := by decide +kernel
theorem d_Wo_flow_141 : decode jWo_flow.cc 141 = .ok (.aload_n 0, 1) := by decide +kernel
theorem d_Wo_flow_142 : decode jWo_flow.cc 142 = .ok (.getfield 31, 3) := by decide +kernel
theorem d_Wo_flow_145 : decode jWo_flow.cc 145 = .ok (.getfield 155, 3) := by decide +kernel
theorem d_Wo_flow_148 : decode jWo_flow.cc 148 = .ok (.iload_n 1, 1) := by decide +kernel
theorem d_Wo_flow_149 : decode jWo_flow.cc 149 = .ok (.iaload, 1) := by decide +kernel
theorem d_Wo_flow_150 : decode jWo_flow.cc 150 = .ok (.iconst 1, 1) := by decide +kernel
theorem d_Wo_flow_151 : decode jWo_flow.cc 151 = .ok (.if_icmp .ne 7, 3) := by decide +kernel
theorem d_Wo_flow_154 : decode jWo_flow.cc 154 = .ok (.iconst 1, 1) := by decide +kernel
theorem d_Wo_flow_155 : decode jWo_flow.cc 155 = .ok (.goto 4, 3) := by decide +kernel
theorem d_Wo_flow_158 : decode jWo_flow.cc 158 = .ok (.iconst 0, 1) := by decide +kernel
theorem d_Wo_flow_159 : decode jWo_flow.cc 159 = .ok (.putfield 187, 3) := by decide +kernel
theorem d_Wo_flow_162 : decode jWo_flow.cc 162 = .ok (.aload_n 0, 1) := by decide +kernel
theorem d_Wo_flow_163 : decode jWo_flow.cc 163 = .ok (.aload_n 0, 1) := by decide +kernel
theorem d_Wo_flow_164 : decode jWo_flow.cc 164 = .ok (.getfield 32, 3) := by decide +kernel
theorem d_Wo_flow_167 : decode jWo_flow.cc 167 = .ok (.aload_n 0, 1) := by decide +kernel
theorem d_Wo_flow_168 : decode jWo_flow.cc 168 = .ok (.getfield 47, 3) := by decide +kernel
theorem d_Wo_flow_171 : decode jWo_flow.cc 171 = .ok (.aload_n 0, 1) := by decide +kernel
theorem d_Wo_flow_172 : decode jWo_flow.cc 172 = .ok (.getfield 187, 3) := by decide +kernel
theorem d_Wo_flow_175 : decode jWo_flow.cc 175 = .ok (.invokevirtual 191, 3) := by decide +kernel
theorem d_Wo_flow_178 : decode jWo_flow.cc 178 = .ok (.putfield 131, 3) := by decide +kernel
theorem d_Wo_flow_181 : decode jWo_flow.cc 181 = .ok (.aload_n 0, 1) := by decide +kernel
theorem d_Wo_flow_182 : decode jWo_flow.cc 182 = .ok (.getfield 131, 3) := by decide +kernel
theorem d_Wo_flow_185 : decode jWo_flow.cc 185 = .ok (.ifCond .ge 11, 3) := by decide +kernel
theorem d_Wo_flow_188 : decode jWo_flow.cc 188 = .ok (.aload_n 0, 1) := by decide +kernel
theorem d_Wo_flow_189 : decode jWo_flow.cc 189 = .ok (.iload_n 3, 1) := by decide +kernel
theorem d_Wo_flow_190 : decode jWo_flow.cc 190 = .ok (.putfield 73, 3) := by decide +kernel
theorem d_Wo_flow_193 : decode jWo_flow.cc 193 = .ok (.goto 54, 3) := by decide +kernel
theorem d_Wo_flow_196 : decode jWo_flow.cc 196 = .ok (.aload_n 0, 1) := by decide +kernel
theorem d_Wo_flow_197 : decode jWo_flow.cc 197 = .ok (.iload_n 1, 1) := by decide +kernel
theorem d_Wo_flow_198 : decode jWo_flow.cc 198 = .ok (.invokevirtual 89, 3) := by decide +kernel
theorem d_Wo_flow_201 : decode jWo_flow.cc 201 = .ok (.pop, 1) := by decide +kernel
theorem d_Wo_flow_202 : decode jWo_flow.cc 202 = .ok (.goto 45, 3) := by decide +kernel
theorem d_Wo_flow_205 : decode jWo_flow.cc 205 = .ok (.aload_n 0, 1) := by decide +kernel
theorem d_Wo_flow_206 : decode jWo_flow.cc 206 = .ok (.aload_n 0, 1) := by decide +kernel
theorem d_Wo_flow_207 : decode jWo_flow.cc 207 = .ok (.getfield 32, 3) := by decide +kernel
theorem d_Wo_flow_210 : decode jWo_flow.cc 210 = .ok (.aload_n 0, 1) := by decide +kernel
theorem d_Wo_flow_211 : decode jWo_flow.cc 211 = .ok (.getfield 131, 3) := by decide +kernel
theorem d_Wo_flow_214 : decode jWo_flow.cc 214 = .ok (.aload_n 0, 1) := by decide +kernel
theorem d_Wo_flow_215 : decode jWo_flow.cc 215 = .ok (.getfield 187, 3) := by decide +kernel
theorem d_Wo_flow_218 : decode jWo_flow.cc 218 = .ok (.invokevirtual 195, 3) := by decide +kernel
theorem d_Wo_flow_221 : decode jWo_flow.cc 221 = .ok (.putfield 131, 3) := by decide +kernel
theorem d_Wo_flow_224 : decode jWo_flow.cc 224 = .ok (.aload_n 0, 1) := by decide +kernel
theorem d_Wo_flow_225 : decode jWo_flow.cc 225 = .ok (.getfield 131, 3) := by decide +kernel
theorem d_Wo_flow_228 : decode jWo_flow.cc 228 = .ok (.ifCond .lt 19, 3) := by decide +kernel
theorem d_Wo_flow_231 : decode jWo_flow.cc 231 = .ok (.aload_n 0, 1) := by decide +kernel
theorem d_Wo_flow_232 : decode jWo_flow.cc 232 = .ok (.iload_n 1, 1) := by decide +kernel
theorem d_Wo_flow_233 : decode jWo_flow.cc 233 = .ok (.invokevirtual 89, 3) := by decide +kernel
theorem d_Wo_flow_236 : decode jWo_flow.cc 236 = .ok (.ifCond .eq 11, 3) := by decide +kernel
theorem d_Wo_flow_239 : decode jWo_flow.cc 239 = .ok (.aload_n 0, 1) := by decide +kernel
theorem d_Wo_flow_240 : decode jWo_flow.cc 240 = .ok (.iload_n 3, 1) := by decide +kernel
theorem d_Wo_flow_241 : decode jWo_flow.cc 241 = .ok (.putfield 73, 3) := by decide +kernel
theorem d_Wo_flow_244 : decode jWo_flow.cc 244 = .ok (.goto 3, 3) := by decide +kernel
theorem d_Wo_flow_247 : decode jWo_flow.cc 247 = .ok (.return_, 1) := by decide +kernel
set_option maxHeartbeats 4000000 in
theorem s_Wo_flow {g : Mg} {d : Nat} {K : Ou → Wd → Prop} {w : Wd} {p1 : Int} {p2 : Int} (h : (0 ≤ p1 ∧ p1 < 1024) ∧ (((p2 < 16 ∨ 25 < p2) → (K (.inl none) w)) ∧ (p2 = 16 → (Cal g LC jWo_keepOrDrop d [vA 101, vI 0, vI (w 21 p1.toNat)] w (fun o w1 => rV o (K (.inl none) w1)))) ∧ (p2 = 17 → (Cal g LC jWo_keepOrDrop d [vA 101, vI 1, vI (w 21 p1.toNat)] w (fun o w2 => rV o (K (.inl none) w2)))) ∧ (p2 = 18 → (Cal g LC jWo_pop d [vA 101] w (fun o w3 => rI o (fun x4 => (¬ x4 = 0 → (K (.inl none) w3)) ∧ (x4 = 0 → (K (.inl none) (up w3 101 11 (w 21 p1.toNat)))))))) ∧ (p2 = 19 → (K (.inl none) w)) ∧ (p2 = 20 → (Cal g LC jWo_pop d [vA 101] w (fun o w5 => rI o (fun x6 => (¬ x6 = 0 → (K (.inl none) w5)) ∧ (x6 = 0 → (K (.inl none) (up w5 101 11 (w 21 p1.toNat)))))))) ∧ (p2 = 21 → (K (.inl none) (up w 101 11 (w 21 p1.toNat)))) ∧ (p2 = 22 → ((0 ≤ p1 ∧ p1 < 1024) ∧ (Cal g LC jWo_setRepeats d [vA 101, vI (w 22 p1.toNat), vI (w 21 p1.toNat)] w (fun o w7 => rV o (K (.inl none) w7))))) ∧ (p2 = 23 → ((0 ≤ p1 ∧ p1 < 1024) ∧ (Cal g LC jWo_repeat d [vA 101, vI p1, vI (w 22 p1.toNat), vI (w 21 p1.toNat)] w (fun o w8 => rV o (K (.inl none) w8))))) ∧ (p2 = 24 → ((0 ≤ p1 ∧ p1 < 1024) ∧ ((¬ (w 22 p1.toNat) = 1 → (Cal g LC jGr_firstArc d [vA 31, vI (w 101 9), vI 0] (up w 101 13 0) (fun o w9 => rI o (fun x10 => (0 ≤ x10 → (Cal g LC jWo_countStep d [vA 101, vI p1] (up w9 101 12 x10) (fun o w11 => rI o (fun x12 => K (.inl none) w11)))) ∧ (¬ 0 ≤ x10 → (K (.inl none) (up (up w9 101 12 x10) 101 11 (w 21 p1.toNat)))))))) ∧ ((w 22 p1.toNat) = 1 → (Cal g LC jGr_firstArc d [vA 31, vI (w 101 9), vI 1] (up w 101 13 1) (fun o w13 => rI o (fun x14 => (0 ≤ x14 → (Cal g LC jWo_countStep d [vA 101, vI p1] (up w13 101 12 x14) (fun o w15 => rI o (fun x16 => K (.inl none) w15)))) ∧ (¬ 0 ≤ x14 → (K (.inl none) (up (up w13 101 12 x14) 101 11 (w 21 p1.toNat))))))))))) ∧ (p2 = 25 → (Cal g LC jGr_nextArc d [vA 31, vI (w 101 12), vI (w 101 13)] w (fun o w17 => rI o (fun x18 => (x18 < 0 → (K (.inl none) (up w17 101 12 x18))) ∧ (¬ x18 < 0 → (Cal g LC jWo_countStep d [vA 101, vI p1] (up w17 101 12 x18) (fun o w19 => rI o (fun x20 => (x20 = 0 → (K (.inl none) w19)) ∧ (¬ x20 = 0 → (K (.inl none) (up w19 101 11 (w 21 p1.toNat)))))))))))))) : V g LC jWo_flow (d + 1) K 0 [(0, vA 101), (1, vI p1), (2, vI p2)] [] w := by
  refine v_aload_n (pc := 0) d_Wo_flow_0 rfl (.head _) ?_
  refine v_getr (C := "") (pc := 1) (r := 19) d_Wo_flow_1 fl_Wo_31 cC_101.1 cC_101.2 (Or.inl ⟨_, rfl⟩) rC_101_1 ?_
  refine v_getr (C := "") (pc := 4) (r := 21) d_Wo_flow_4 fl_Wo_93 cC_19.1 cC_19.2 (Or.inr ⟨_, rfl⟩) rC_19_1 ?_
  refine v_iload_n (pc := 7) d_Wo_flow_7 rfl (.tail _ (.head _)) ?_
  refine v_iald (pc := 8) (x := (w 21 p1.toNat)) d_Wo_flow_8 cC_21.1 cC_21.2 rfl h.1 ?_
  replace h := h.2
  refine v_istore_n (pc := 9) (ls' := [(3, vI (w 21 p1.toNat)), (0, vA 101), (1, vI p1), (2, vI p2)]) d_Wo_flow_9 rfl (by decide) rfl ?_
  refine v_iload_n (pc := 10) d_Wo_flow_10 rfl (.tail _ (.tail _ (.tail _ (.head _)))) ?_
  refine v_table (pc := 11) (tgd := 247) (tgs := [64, 73, 82, 247, 82, 97, 105, 122, 140, 205]) d_Wo_flow_11 (by decide) (by decide) (by decide) (fun c => ?_) ⟨fun c => ?_, fun c => ?_, fun c => ?_, fun c => ?_, fun c => ?_, fun c => ?_, fun c => ?_, fun c => ?_, fun c => ?_, fun c => ?_, trivial⟩
  · replace h := h.1 c
    exact v_vret (pc := 247) d_Wo_flow_247 rfl h
  · replace h := h.2.1 c
    refine v_aload_n (pc := 64) d_Wo_flow_64 rfl (.tail _ (.head _)) ?_
    refine v_iconst (pc := 65) d_Wo_flow_65 (by decide) ?_
    refine v_iload_n (pc := 66) d_Wo_flow_66 rfl (.head _) ?_
    refine v_callV (pc := 67) (J' := jWo_keepOrDrop) (d' := d) (o := 101) (ci := 10) (N := 18) (T := cT10) (As := [vI 0, vI (w 21 p1.toNat)]) d_Wo_flow_67 ml_Wo_178 cC_101.1 cC_101.2 (by decide) rfl rfl (Nat.le_of_ble_eq_true rfl) (Nat.le_refl _) rfl (Cal.weak h (fun o w1 h => ?_))
    rcases rV_of h with ⟨rfl, h⟩
    refine v_goto (pc := 70) (tgt := 247) d_Wo_flow_70 (by decide) ?_
    exact v_vret (pc := 247) d_Wo_flow_247 rfl h
  · replace h := h.2.2.1 c
    refine v_aload_n (pc := 73) d_Wo_flow_73 rfl (.tail _ (.head _)) ?_
    refine v_iconst (pc := 74) d_Wo_flow_74 (by decide) ?_
    refine v_iload_n (pc := 75) d_Wo_flow_75 rfl (.head _) ?_
    refine v_callV (pc := 76) (J' := jWo_keepOrDrop) (d' := d) (o := 101) (ci := 10) (N := 18) (T := cT10) (As := [vI 1, vI (w 21 p1.toNat)]) d_Wo_flow_76 ml_Wo_178 cC_101.1 cC_101.2 (by decide) rfl rfl (Nat.le_of_ble_eq_true rfl) (Nat.le_refl _) rfl (Cal.weak h (fun o w2 h => ?_))
    rcases rV_of h with ⟨rfl, h⟩
    refine v_goto (pc := 79) (tgt := 247) d_Wo_flow_79 (by decide) ?_
    exact v_vret (pc := 247) d_Wo_flow_247 rfl h
  · replace h := h.2.2.2.1 c
    refine v_aload_n (pc := 82) d_Wo_flow_82 rfl (.tail _ (.head _)) ?_
    refine v_callV (pc := 83) (J' := jWo_pop) (d' := d) (o := 101) (ci := 10) (N := 18) (T := cT10) (As := []) d_Wo_flow_83 ml_Wo_151 cC_101.1 cC_101.2 (by decide) rfl rfl (Nat.le_of_ble_eq_true rfl) (Nat.le_refl _) rfl (Cal.weak h (fun o w3 h => ?_))
    rcases rI_of h with ⟨x4, rfl, h⟩
    refine v_ifne (pc := 86) (tgt := 247) d_Wo_flow_86 (by decide) (fun c => ?_) (fun c => ?_)
    · replace h := h.1 c
      exact v_vret (pc := 247) d_Wo_flow_247 rfl h
    · replace h := h.2 c
      refine v_aload_n (pc := 89) d_Wo_flow_89 rfl (.tail _ (.head _)) ?_
      refine v_iload_n (pc := 90) d_Wo_flow_90 rfl (.head _) ?_
      refine v_puti (pc := 91) d_Wo_flow_91 fp_Wo_73 cC_101.1 cC_101.2 (by decide) rfl ?_
      refine v_goto (pc := 94) (tgt := 247) d_Wo_flow_94 (by decide) ?_
      exact v_vret (pc := 247) d_Wo_flow_247 rfl h
  · replace h := h.2.2.2.2.1 c
    exact v_vret (pc := 247) d_Wo_flow_247 rfl h
  · replace h := h.2.2.2.2.2.1 c
    refine v_aload_n (pc := 82) d_Wo_flow_82 rfl (.tail _ (.head _)) ?_
    refine v_callV (pc := 83) (J' := jWo_pop) (d' := d) (o := 101) (ci := 10) (N := 18) (T := cT10) (As := []) d_Wo_flow_83 ml_Wo_151 cC_101.1 cC_101.2 (by decide) rfl rfl (Nat.le_of_ble_eq_true rfl) (Nat.le_refl _) rfl (Cal.weak h (fun o w5 h => ?_))
    rcases rI_of h with ⟨x6, rfl, h⟩
    refine v_ifne (pc := 86) (tgt := 247) d_Wo_flow_86 (by decide) (fun c => ?_) (fun c => ?_)
    · replace h := h.1 c
      exact v_vret (pc := 247) d_Wo_flow_247 rfl h
    · replace h := h.2 c
      refine v_aload_n (pc := 89) d_Wo_flow_89 rfl (.tail _ (.head _)) ?_
      refine v_iload_n (pc := 90) d_Wo_flow_90 rfl (.head _) ?_
      refine v_puti (pc := 91) d_Wo_flow_91 fp_Wo_73 cC_101.1 cC_101.2 (by decide) rfl ?_
      refine v_goto (pc := 94) (tgt := 247) d_Wo_flow_94 (by decide) ?_
      exact v_vret (pc := 247) d_Wo_flow_247 rfl h
  · replace h := h.2.2.2.2.2.2.1 c
    refine v_aload_n (pc := 97) d_Wo_flow_97 rfl (.tail _ (.head _)) ?_
    refine v_iload_n (pc := 98) d_Wo_flow_98 rfl (.head _) ?_
    refine v_puti (pc := 99) d_Wo_flow_99 fp_Wo_73 cC_101.1 cC_101.2 (by decide) rfl ?_
    refine v_goto (pc := 102) (tgt := 247) d_Wo_flow_102 (by decide) ?_
    exact v_vret (pc := 247) d_Wo_flow_247 rfl h
  · replace h := h.2.2.2.2.2.2.2.1 c
    refine v_aload_n (pc := 105) d_Wo_flow_105 rfl (.tail _ (.head _)) ?_
    refine v_aload_n (pc := 106) d_Wo_flow_106 rfl (.tail _ (.head _)) ?_
    refine v_getr (C := "") (pc := 107) (r := 19) d_Wo_flow_107 fl_Wo_31 cC_101.1 cC_101.2 (Or.inl ⟨_, rfl⟩) rC_101_1 ?_
    refine v_getr (C := "") (pc := 110) (r := 22) d_Wo_flow_110 fl_Wo_155 cC_19.1 cC_19.2 (Or.inr ⟨_, rfl⟩) rC_19_2 ?_
    refine v_iload_n (pc := 113) d_Wo_flow_113 rfl (.tail _ (.tail _ (.head _))) ?_
    refine v_iald (pc := 114) (x := (w 22 p1.toNat)) d_Wo_flow_114 cC_22.1 cC_22.2 rfl h.1 ?_
    replace h := h.2
    refine v_iload_n (pc := 115) d_Wo_flow_115 rfl (.head _) ?_
    refine v_callV (pc := 116) (J' := jWo_setRepeats) (d' := d) (o := 101) (ci := 10) (N := 18) (T := cT10) (As := [vI (w 22 p1.toNat), vI (w 21 p1.toNat)]) d_Wo_flow_116 ml_Wo_181 cC_101.1 cC_101.2 (by decide) rfl rfl (Nat.le_of_ble_eq_true rfl) (Nat.le_refl _) rfl (Cal.weak h (fun o w7 h => ?_))
    rcases rV_of h with ⟨rfl, h⟩
    refine v_goto (pc := 119) (tgt := 247) d_Wo_flow_119 (by decide) ?_
    exact v_vret (pc := 247) d_Wo_flow_247 rfl h
  · replace h := h.2.2.2.2.2.2.2.2.1 c
    refine v_aload_n (pc := 122) d_Wo_flow_122 rfl (.tail _ (.head _)) ?_
    refine v_iload_n (pc := 123) d_Wo_flow_123 rfl (.tail _ (.tail _ (.head _))) ?_
    refine v_aload_n (pc := 124) d_Wo_flow_124 rfl (.tail _ (.head _)) ?_
    refine v_getr (C := "") (pc := 125) (r := 19) d_Wo_flow_125 fl_Wo_31 cC_101.1 cC_101.2 (Or.inl ⟨_, rfl⟩) rC_101_1 ?_
    refine v_getr (C := "") (pc := 128) (r := 22) d_Wo_flow_128 fl_Wo_155 cC_19.1 cC_19.2 (Or.inr ⟨_, rfl⟩) rC_19_2 ?_
    refine v_iload_n (pc := 131) d_Wo_flow_131 rfl (.tail _ (.tail _ (.head _))) ?_
    refine v_iald (pc := 132) (x := (w 22 p1.toNat)) d_Wo_flow_132 cC_22.1 cC_22.2 rfl h.1 ?_
    replace h := h.2
    refine v_iload_n (pc := 133) d_Wo_flow_133 rfl (.head _) ?_
    refine v_callV (pc := 134) (J' := jWo_repeat) (d' := d) (o := 101) (ci := 10) (N := 18) (T := cT10) (As := [vI p1, vI (w 22 p1.toNat), vI (w 21 p1.toNat)]) d_Wo_flow_134 ml_Wo_184 cC_101.1 cC_101.2 (by decide) rfl rfl (Nat.le_of_ble_eq_true rfl) (Nat.le_refl _) rfl (Cal.weak h (fun o w8 h => ?_))
    rcases rV_of h with ⟨rfl, h⟩
    refine v_goto (pc := 137) (tgt := 247) d_Wo_flow_137 (by decide) ?_
    exact v_vret (pc := 247) d_Wo_flow_247 rfl h
  · replace h := h.2.2.2.2.2.2.2.2.2.1 c
    refine v_aload_n (pc := 140) d_Wo_flow_140 rfl (.tail _ (.head _)) ?_
    refine v_aload_n (pc := 141) d_Wo_flow_141 rfl (.tail _ (.head _)) ?_
    refine v_getr (C := "") (pc := 142) (r := 19) d_Wo_flow_142 fl_Wo_31 cC_101.1 cC_101.2 (Or.inl ⟨_, rfl⟩) rC_101_1 ?_
    refine v_getr (C := "") (pc := 145) (r := 22) d_Wo_flow_145 fl_Wo_155 cC_19.1 cC_19.2 (Or.inr ⟨_, rfl⟩) rC_19_2 ?_
    refine v_iload_n (pc := 148) d_Wo_flow_148 rfl (.tail _ (.tail _ (.head _))) ?_
    refine v_iald (pc := 149) (x := (w 22 p1.toNat)) d_Wo_flow_149 cC_22.1 cC_22.2 rfl h.1 ?_
    replace h := h.2
    refine v_iconst (pc := 150) d_Wo_flow_150 (by decide) ?_
    refine v_icmpne (pc := 151) (tgt := 158) d_Wo_flow_151 (by decide) (fun c => ?_) (fun c => ?_)
    · replace h := h.1 c
      refine v_iconst (pc := 158) d_Wo_flow_158 (by decide) ?_
      refine v_putz (pc := 159) d_Wo_flow_159 fp_Wo_187 cC_101.1 cC_101.2 (by decide) rfl (by decide) ?_
      refine v_aload_n (pc := 162) d_Wo_flow_162 rfl (.tail _ (.head _)) ?_
      refine v_aload_n (pc := 163) d_Wo_flow_163 rfl (.tail _ (.head _)) ?_
      refine v_getr (C := "") (pc := 164) (r := 31) d_Wo_flow_164 fl_Wo_32 cC_101.1 cC_101.2 (Or.inl ⟨_, rfl⟩) rC_101_2 ?_
      refine v_aload_n (pc := 167) d_Wo_flow_167 rfl (.tail _ (.head _)) ?_
      refine v_geti (pc := 168) (x := (w 101 9)) d_Wo_flow_168 fl_Wo_47 cC_101.1 cC_101.2 (Or.inl rfl) rfl ?_
      refine v_aload_n (pc := 171) d_Wo_flow_171 rfl (.tail _ (.head _)) ?_
      refine v_geti (pc := 172) (x := 0) d_Wo_flow_172 fl_Wo_187 cC_101.1 cC_101.2 (Or.inr rfl) rfl ?_
      refine v_callV (pc := 175) (J' := jGr_firstArc) (d' := d) (o := 31) (ci := 3) (N := 13) (T := cT3) (As := [vI (w 101 9), vI 0]) d_Wo_flow_175 ml_Wo_191 cC_31.1 cC_31.2 (by decide) rfl rfl (Nat.le_of_ble_eq_true rfl) (Nat.le_refl _) rfl (Cal.weak h (fun o w9 h => ?_))
      rcases rI_of h with ⟨x10, rfl, h⟩
      refine v_puti (pc := 178) d_Wo_flow_178 fp_Wo_131 cC_101.1 cC_101.2 (by decide) rfl ?_
      refine v_aload_n (pc := 181) d_Wo_flow_181 rfl (.tail _ (.head _)) ?_
      refine v_geti (pc := 182) (x := x10) d_Wo_flow_182 fl_Wo_131 cC_101.1 cC_101.2 (Or.inl rfl) rfl ?_
      refine v_ifge (pc := 185) (tgt := 196) d_Wo_flow_185 (by decide) (fun c => ?_) (fun c => ?_)
      · replace h := h.1 c
        refine v_aload_n (pc := 196) d_Wo_flow_196 rfl (.tail _ (.head _)) ?_
        refine v_iload_n (pc := 197) d_Wo_flow_197 rfl (.tail _ (.tail _ (.head _))) ?_
        refine v_callV (pc := 198) (J' := jWo_countStep) (d' := d) (o := 101) (ci := 10) (N := 18) (T := cT10) (As := [vI p1]) d_Wo_flow_198 ml_Wo_89 cC_101.1 cC_101.2 (by decide) rfl rfl (Nat.le_of_ble_eq_true rfl) (Nat.le_refl _) rfl (Cal.weak h (fun o w11 h => ?_))
        rcases rI_of h with ⟨x12, rfl, h⟩
        refine v_pop (pc := 201) d_Wo_flow_201 rfl ?_
        refine v_goto (pc := 202) (tgt := 247) d_Wo_flow_202 (by decide) ?_
        exact v_vret (pc := 247) d_Wo_flow_247 rfl h
      · replace h := h.2 c
        refine v_aload_n (pc := 188) d_Wo_flow_188 rfl (.tail _ (.head _)) ?_
        refine v_iload_n (pc := 189) d_Wo_flow_189 rfl (.head _) ?_
        refine v_puti (pc := 190) d_Wo_flow_190 fp_Wo_73 cC_101.1 cC_101.2 (by decide) rfl ?_
        refine v_goto (pc := 193) (tgt := 247) d_Wo_flow_193 (by decide) ?_
        exact v_vret (pc := 247) d_Wo_flow_247 rfl h
    · replace h := h.2 c
      refine v_iconst (pc := 154) d_Wo_flow_154 (by decide) ?_
      refine v_goto (pc := 155) (tgt := 159) d_Wo_flow_155 (by decide) ?_
      refine v_putz (pc := 159) d_Wo_flow_159 fp_Wo_187 cC_101.1 cC_101.2 (by decide) rfl (by decide) ?_
      refine v_aload_n (pc := 162) d_Wo_flow_162 rfl (.tail _ (.head _)) ?_
      refine v_aload_n (pc := 163) d_Wo_flow_163 rfl (.tail _ (.head _)) ?_
      refine v_getr (C := "") (pc := 164) (r := 31) d_Wo_flow_164 fl_Wo_32 cC_101.1 cC_101.2 (Or.inl ⟨_, rfl⟩) rC_101_2 ?_
      refine v_aload_n (pc := 167) d_Wo_flow_167 rfl (.tail _ (.head _)) ?_
      refine v_geti (pc := 168) (x := (w 101 9)) d_Wo_flow_168 fl_Wo_47 cC_101.1 cC_101.2 (Or.inl rfl) rfl ?_
      refine v_aload_n (pc := 171) d_Wo_flow_171 rfl (.tail _ (.head _)) ?_
      refine v_geti (pc := 172) (x := 1) d_Wo_flow_172 fl_Wo_187 cC_101.1 cC_101.2 (Or.inr rfl) rfl ?_
      refine v_callV (pc := 175) (J' := jGr_firstArc) (d' := d) (o := 31) (ci := 3) (N := 13) (T := cT3) (As := [vI (w 101 9), vI 1]) d_Wo_flow_175 ml_Wo_191 cC_31.1 cC_31.2 (by decide) rfl rfl (Nat.le_of_ble_eq_true rfl) (Nat.le_refl _) rfl (Cal.weak h (fun o w13 h => ?_))
      rcases rI_of h with ⟨x14, rfl, h⟩
      refine v_puti (pc := 178) d_Wo_flow_178 fp_Wo_131 cC_101.1 cC_101.2 (by decide) rfl ?_
      refine v_aload_n (pc := 181) d_Wo_flow_181 rfl (.tail _ (.head _)) ?_
      refine v_geti (pc := 182) (x := x14) d_Wo_flow_182 fl_Wo_131 cC_101.1 cC_101.2 (Or.inl rfl) rfl ?_
      refine v_ifge (pc := 185) (tgt := 196) d_Wo_flow_185 (by decide) (fun c => ?_) (fun c => ?_)
      · replace h := h.1 c
        refine v_aload_n (pc := 196) d_Wo_flow_196 rfl (.tail _ (.head _)) ?_
        refine v_iload_n (pc := 197) d_Wo_flow_197 rfl (.tail _ (.tail _ (.head _))) ?_
        refine v_callV (pc := 198) (J' := jWo_countStep) (d' := d) (o := 101) (ci := 10) (N := 18) (T := cT10) (As := [vI p1]) d_Wo_flow_198 ml_Wo_89 cC_101.1 cC_101.2 (by decide) rfl rfl (Nat.le_of_ble_eq_true rfl) (Nat.le_refl _) rfl (Cal.weak h (fun o w15 h => ?_))
        rcases rI_of h with ⟨x16, rfl, h⟩
        refine v_pop (pc := 201) d_Wo_flow_201 rfl ?_
        refine v_goto (pc := 202) (tgt := 247) d_Wo_flow_202 (by decide) ?_
        exact v_vret (pc := 247) d_Wo_flow_247 rfl h
      · replace h := h.2 c
        refine v_aload_n (pc := 188) d_Wo_flow_188 rfl (.tail _ (.head _)) ?_
        refine v_iload_n (pc := 189) d_Wo_flow_189 rfl (.head _) ?_
        refine v_puti (pc := 190) d_Wo_flow_190 fp_Wo_73 cC_101.1 cC_101.2 (by decide) rfl ?_
        refine v_goto (pc := 193) (tgt := 247) d_Wo_flow_193 (by decide) ?_
        exact v_vret (pc := 247) d_Wo_flow_247 rfl h
  · replace h := h.2.2.2.2.2.2.2.2.2.2 c
    refine v_aload_n (pc := 205) d_Wo_flow_205 rfl (.tail _ (.head _)) ?_
    refine v_aload_n (pc := 206) d_Wo_flow_206 rfl (.tail _ (.head _)) ?_
    refine v_getr (C := "") (pc := 207) (r := 31) d_Wo_flow_207 fl_Wo_32 cC_101.1 cC_101.2 (Or.inl ⟨_, rfl⟩) rC_101_2 ?_
    refine v_aload_n (pc := 210) d_Wo_flow_210 rfl (.tail _ (.head _)) ?_
    refine v_geti (pc := 211) (x := (w 101 12)) d_Wo_flow_211 fl_Wo_131 cC_101.1 cC_101.2 (Or.inl rfl) rfl ?_
    refine v_aload_n (pc := 214) d_Wo_flow_214 rfl (.tail _ (.head _)) ?_
    refine v_geti (pc := 215) (x := (w 101 13)) d_Wo_flow_215 fl_Wo_187 cC_101.1 cC_101.2 (Or.inr rfl) rfl ?_
    refine v_callV (pc := 218) (J' := jGr_nextArc) (d' := d) (o := 31) (ci := 3) (N := 13) (T := cT3) (As := [vI (w 101 12), vI (w 101 13)]) d_Wo_flow_218 ml_Wo_195 cC_31.1 cC_31.2 (by decide) rfl rfl (Nat.le_of_ble_eq_true rfl) (Nat.le_refl _) rfl (Cal.weak h (fun o w17 h => ?_))
    rcases rI_of h with ⟨x18, rfl, h⟩
    refine v_puti (pc := 221) d_Wo_flow_221 fp_Wo_131 cC_101.1 cC_101.2 (by decide) rfl ?_
    refine v_aload_n (pc := 224) d_Wo_flow_224 rfl (.tail _ (.head _)) ?_
    refine v_geti (pc := 225) (x := x18) d_Wo_flow_225 fl_Wo_131 cC_101.1 cC_101.2 (Or.inl rfl) rfl ?_
    refine v_iflt (pc := 228) (tgt := 247) d_Wo_flow_228 (by decide) (fun c => ?_) (fun c => ?_)
    · replace h := h.1 c
      exact v_vret (pc := 247) d_Wo_flow_247 rfl h
    · replace h := h.2 c
      refine v_aload_n (pc := 231) d_Wo_flow_231 rfl (.tail _ (.head _)) ?_
      refine v_iload_n (pc := 232) d_Wo_flow_232 rfl (.tail _ (.tail _ (.head _))) ?_
      refine v_callV (pc := 233) (J' := jWo_countStep) (d' := d) (o := 101) (ci := 10) (N := 18) (T := cT10) (As := [vI p1]) d_Wo_flow_233 ml_Wo_89 cC_101.1 cC_101.2 (by decide) rfl rfl (Nat.le_of_ble_eq_true rfl) (Nat.le_refl _) rfl (Cal.weak h (fun o w19 h => ?_))
      rcases rI_of h with ⟨x20, rfl, h⟩
      refine v_ifeq (pc := 236) (tgt := 247) d_Wo_flow_236 (by decide) (fun c => ?_) (fun c => ?_)
      · replace h := h.1 c
        exact v_vret (pc := 247) d_Wo_flow_247 rfl h
      · replace h := h.2 c
        refine v_aload_n (pc := 239) d_Wo_flow_239 rfl (.tail _ (.head _)) ?_
        refine v_iload_n (pc := 240) d_Wo_flow_240 rfl (.head _) ?_
        refine v_puti (pc := 241) d_Wo_flow_241 fp_Wo_73 cC_101.1 cC_101.2 (by decide) rfl ?_
        refine v_goto (pc := 244) (tgt := 247) d_Wo_flow_244 (by decide) ?_
        exact v_vret (pc := 247) d_Wo_flow_247 rfl h
theorem d_Wo_keepOrDrop_0 : decode jWo_keepOrDrop.cc 0 = .ok (.aload_n 0, 1) := by decide +kernel
theorem d_Wo_keepOrDrop_1 : decode jWo_keepOrDrop.cc 1 = .ok (.invokevirtual 151, 3) := by decide +kernel
theorem d_Wo_keepOrDrop_4 : decode jWo_keepOrDrop.cc 4 = .ok (.istore_n 3, 1) := by decide +kernel
theorem d_Wo_keepOrDrop_5 : decode jWo_keepOrDrop.cc 5 = .ok (.iload_n 3, 1) := by decide +kernel
theorem d_Wo_keepOrDrop_6 : decode jWo_keepOrDrop.cc 6 = .ok (.iload_n 1, 1) := by decide +kernel
theorem d_Wo_keepOrDrop_7 : decode jWo_keepOrDrop.cc 7 = .ok (.if_icmp .ne 13, 3) := by decide +kernel
theorem d_Wo_keepOrDrop_10 : decode jWo_keepOrDrop.cc 10 = .ok (.aload_n 0, 1) := by decide +kernel
theorem d_Wo_keepOrDrop_11 : decode jWo_keepOrDrop.cc 11 = .ok (.iload_n 3, 1) := by decide +kernel
theorem d_Wo_keepOrDrop_12 : decode jWo_keepOrDrop.cc 12 = .ok (.invokevirtual 100, 3) := by decide +kernel
theorem d_Wo_keepOrDrop_15 : decode jWo_keepOrDrop.cc 15 = .ok (.aload_n 0, 1) := by decide +kernel
theorem d_Wo_keepOrDrop_16 : decode jWo_keepOrDrop.cc 16 = .ok (.iload_n 2, 1) := by decide +kernel
theorem d_Wo_keepOrDrop_17 : decode jWo_keepOrDrop.cc 17 = .ok (.putfield 73, 3) := by decide +kernel
theorem d_Wo_keepOrDrop_20 : decode jWo_keepOrDrop.cc 20 = .ok (.return_, 1) := by decide +kernel
set_option maxHeartbeats 4000000 in
theorem s_Wo_keepOrDrop {g : Mg} {d : Nat} {K : Ou → Wd → Prop} {w : Wd} {p1 : Int} {p2 : Int} (h : Cal g LC jWo_pop d [vA 101] w (fun o w1 => rI o (fun x2 => (¬ x2 = p1 → (K (.inl none) w1)) ∧ (x2 = p1 → (Cal g LC jWo_push d [vA 101, vI x2] w1 (fun o w3 => rV o (K (.inl none) (up w3 101 11 p2)))))))) : V g LC jWo_keepOrDrop (d + 1) K 0 [(0, vA 101), (1, vI p1), (2, vI p2)] [] w := by
  refine v_aload_n (pc := 0) d_Wo_keepOrDrop_0 rfl (.head _) ?_
  refine v_callV (pc := 1) (J' := jWo_pop) (d' := d) (o := 101) (ci := 10) (N := 18) (T := cT10) (As := []) d_Wo_keepOrDrop_1 ml_Wo_151 cC_101.1 cC_101.2 (by decide) rfl rfl (Nat.le_of_ble_eq_true rfl) (Nat.le_refl _) rfl (Cal.weak h (fun o w1 h => ?_))
  rcases rI_of h with ⟨x2, rfl, h⟩
  refine v_istore_n (pc := 4) (ls' := [(3, vI x2), (0, vA 101), (1, vI p1), (2, vI p2)]) d_Wo_keepOrDrop_4 rfl (by decide) rfl ?_
  refine v_iload_n (pc := 5) d_Wo_keepOrDrop_5 rfl (.head _) ?_
  refine v_iload_n (pc := 6) d_Wo_keepOrDrop_6 rfl (.tail _ (.tail _ (.head _))) ?_
  refine v_icmpne (pc := 7) (tgt := 20) d_Wo_keepOrDrop_7 (by decide) (fun c => ?_) (fun c => ?_)
  · replace h := h.1 c
    exact v_vret (pc := 20) d_Wo_keepOrDrop_20 rfl h
  · replace h := h.2 c
    refine v_aload_n (pc := 10) d_Wo_keepOrDrop_10 rfl (.tail _ (.head _)) ?_
    refine v_iload_n (pc := 11) d_Wo_keepOrDrop_11 rfl (.head _) ?_
    refine v_callV (pc := 12) (J' := jWo_push) (d' := d) (o := 101) (ci := 10) (N := 18) (T := cT10) (As := [vI x2]) d_Wo_keepOrDrop_12 ml_Wo_100 cC_101.1 cC_101.2 (by decide) rfl rfl (Nat.le_of_ble_eq_true rfl) (Nat.le_refl _) rfl (Cal.weak h (fun o w3 h => ?_))
    rcases rV_of h with ⟨rfl, h⟩
    refine v_aload_n (pc := 15) d_Wo_keepOrDrop_15 rfl (.tail _ (.head _)) ?_
    refine v_iload_n (pc := 16) d_Wo_keepOrDrop_16 rfl (.tail _ (.tail _ (.tail _ (.head _)))) ?_
    refine v_puti (pc := 17) d_Wo_keepOrDrop_17 fp_Wo_73 cC_101.1 cC_101.2 (by decide) rfl ?_
    exact v_vret (pc := 20) d_Wo_keepOrDrop_20 rfl h
theorem d_Wo_setRepeats_0 : decode jWo_setRepeats.cc 0 = .ok (.iload_n 1, 1) := by decide +kernel
theorem d_Wo_setRepeats_1 : decode jWo_setRepeats.cc 1 = .ok (.ifCond .lt 19, 3) := by decide +kernel
theorem d_Wo_setRepeats_4 : decode jWo_setRepeats.cc 4 = .ok (.iload_n 1, 1) := by decide +kernel
theorem d_Wo_setRepeats_5 : decode jWo_setRepeats.cc 5 = .ok (.aload_n 0, 1) := by decide +kernel
theorem d_Wo_setRepeats_6 : decode jWo_setRepeats.cc 6 = .ok (.getfield 18, 3) := by decide +kernel
theorem d_Wo_setRepeats_9 : decode jWo_setRepeats.cc 9 = .ok (.arraylength, 1) := by decide +kernel
theorem d_Wo_setRepeats_10 : decode jWo_setRepeats.cc 10 = .ok (.if_icmp .ge 10, 3) := by decide +kernel
theorem d_Wo_setRepeats_13 : decode jWo_setRepeats.cc 13 = .ok (.aload_n 0, 1) := by decide +kernel
theorem d_Wo_setRepeats_14 : decode jWo_setRepeats.cc 14 = .ok (.getfield 18, 3) := by decide +kernel
theorem d_Wo_setRepeats_17 : decode jWo_setRepeats.cc 17 = .ok (.iload_n 1, 1) := by decide +kernel
theorem d_Wo_setRepeats_18 : decode jWo_setRepeats.cc 18 = .ok (.iload_n 2, 1) := by decide +kernel
theorem d_Wo_setRepeats_19 : decode jWo_setRepeats.cc 19 = .ok (.iastore, 1) := by decide +kernel
theorem d_Wo_setRepeats_20 : decode jWo_setRepeats.cc 20 = .ok (.return_, 1) := by decide +kernel
set_option maxHeartbeats 4000000 in
theorem s_Wo_setRepeats {g : Mg} {d : Nat} {K : Ou → Wd → Prop} {w : Wd} {p1 : Int} {p2 : Int} (h : (p1 < 0 → (K (.inl none) w)) ∧ (¬ p1 < 0 → ((16 ≤ p1 → (K (.inl none) w)) ∧ (¬ 16 ≤ p1 → ((0 ≤ p1 ∧ p1 < 16) ∧ (K (.inl none) (up w 104 (p1.toNat) p2))))))) : V g LC jWo_setRepeats d K 0 [(0, vA 101), (1, vI p1), (2, vI p2)] [] w := by
  refine v_iload_n (pc := 0) d_Wo_setRepeats_0 rfl (.tail _ (.head _)) ?_
  refine v_iflt (pc := 1) (tgt := 20) d_Wo_setRepeats_1 (by decide) (fun c => ?_) (fun c => ?_)
  · replace h := h.1 c
    exact v_vret (pc := 20) d_Wo_setRepeats_20 rfl h
  · replace h := h.2 c
    refine v_iload_n (pc := 4) d_Wo_setRepeats_4 rfl (.tail _ (.head _)) ?_
    refine v_aload_n (pc := 5) d_Wo_setRepeats_5 rfl (.head _) ?_
    refine v_getr (C := "") (pc := 6) (r := 104) d_Wo_setRepeats_6 fl_Wo_18 cC_101.1 cC_101.2 (Or.inr ⟨_, rfl⟩) rC_101_5 ?_
    refine v_alen (pc := 9) (n := 16) d_Wo_setRepeats_9 cC_104.1 cC_104.2 (by decide) (by decide) ?_
    refine v_icmpge (pc := 10) (tgt := 20) d_Wo_setRepeats_10 (by decide) (fun c => ?_) (fun c => ?_)
    · replace h := h.1 c
      exact v_vret (pc := 20) d_Wo_setRepeats_20 rfl h
    · replace h := h.2 c
      refine v_aload_n (pc := 13) d_Wo_setRepeats_13 rfl (.head _) ?_
      refine v_getr (C := "") (pc := 14) (r := 104) d_Wo_setRepeats_14 fl_Wo_18 cC_101.1 cC_101.2 (Or.inr ⟨_, rfl⟩) rC_101_5 ?_
      refine v_iload_n (pc := 17) d_Wo_setRepeats_17 rfl (.tail _ (.head _)) ?_
      refine v_iload_n (pc := 18) d_Wo_setRepeats_18 rfl (.tail _ (.tail _ (.head _))) ?_
      refine v_iast (pc := 19) d_Wo_setRepeats_19 cC_104.1 cC_104.2 (aC_104 _) h.1 ?_
      replace h := h.2
      exact v_vret (pc := 20) d_Wo_setRepeats_20 rfl h
theorem d_Wo_repeat_0 : decode jWo_repeat.cc 0 = .ok (.iload_n 2, 1) := by decide +kernel
theorem d_Wo_repeat_1 : decode jWo_repeat.cc 1 = .ok (.ifCond .lt 21, 3) := by decide +kernel
theorem d_Wo_repeat_4 : decode jWo_repeat.cc 4 = .ok (.iload_n 2, 1) := by decide +kernel
theorem d_Wo_repeat_5 : decode jWo_repeat.cc 5 = .ok (.aload_n 0, 1) := by decide +kernel
theorem d_Wo_repeat_6 : decode jWo_repeat.cc 6 = .ok (.getfield 18, 3) := by decide +kernel
theorem d_Wo_repeat_9 : decode jWo_repeat.cc 9 = .ok (.arraylength, 1) := by decide +kernel
theorem d_Wo_repeat_10 : decode jWo_repeat.cc 10 = .ok (.if_icmp .ge 12, 3) := by decide +kernel
theorem d_Wo_repeat_13 : decode jWo_repeat.cc 13 = .ok (.aload_n 0, 1) := by decide +kernel
theorem d_Wo_repeat_14 : decode jWo_repeat.cc 14 = .ok (.getfield 18, 3) := by decide +kernel
theorem d_Wo_repeat_17 : decode jWo_repeat.cc 17 = .ok (.iload_n 2, 1) := by decide +kernel
theorem d_Wo_repeat_18 : decode jWo_repeat.cc 18 = .ok (.iaload, 1) := by decide +kernel
theorem d_Wo_repeat_19 : decode jWo_repeat.cc 19 = .ok (.ifCond .gt 11, 3) := by decide +kernel
theorem d_Wo_repeat_22 : decode jWo_repeat.cc 22 = .ok (.aload_n 0, 1) := by decide +kernel
theorem d_Wo_repeat_23 : decode jWo_repeat.cc 23 = .ok (.iload_n 3, 1) := by decide +kernel
theorem d_Wo_repeat_24 : decode jWo_repeat.cc 24 = .ok (.putfield 73, 3) := by decide +kernel
theorem d_Wo_repeat_27 : decode jWo_repeat.cc 27 = .ok (.goto 21, 3) := by decide +kernel
theorem d_Wo_repeat_30 : decode jWo_repeat.cc 30 = .ok (.aload_n 0, 1) := by decide +kernel
theorem d_Wo_repeat_31 : decode jWo_repeat.cc 31 = .ok (.iload_n 1, 1) := by decide +kernel
theorem d_Wo_repeat_32 : decode jWo_repeat.cc 32 = .ok (.invokevirtual 89, 3) := by decide +kernel
theorem d_Wo_repeat_35 : decode jWo_repeat.cc 35 = .ok (.ifCond .eq 13, 3) := by decide +kernel
theorem d_Wo_repeat_38 : decode jWo_repeat.cc 38 = .ok (.aload_n 0, 1) := by decide +kernel
theorem d_Wo_repeat_39 : decode jWo_repeat.cc 39 = .ok (.getfield 18, 3) := by decide +kernel
theorem d_Wo_repeat_42 : decode jWo_repeat.cc 42 = .ok (.iload_n 2, 1) := by decide +kernel
theorem d_Wo_repeat_43 : decode jWo_repeat.cc 43 = .ok (.dup2, 1) := by decide +kernel
theorem d_Wo_repeat_44 : decode jWo_repeat.cc 44 = .ok (.iaload, 1) := by decide +kernel
theorem d_Wo_repeat_45 : decode jWo_repeat.cc 45 = .ok (.iconst 1, 1) := by decide +kernel
theorem d_Wo_repeat_46 : decode jWo_repeat.cc 46 = .ok (.isub, 1) := by decide +kernel
theorem d_Wo_repeat_47 : decode jWo_repeat.cc 47 = .ok (.iastore, 1) := by decide +kernel
theorem d_Wo_repeat_48 : decode jWo_repeat.cc 48 = .ok (.return_, 1) := by decide +kernel
set_option maxHeartbeats 4000000 in
theorem s_Wo_repeat {g : Mg} {d : Nat} {K : Ou → Wd → Prop} {w : Wd} {p1 : Int} {p2 : Int} {p3 : Int} (h : (p2 < 0 → (K (.inl none) (up w 101 11 p3))) ∧ (¬ p2 < 0 → ((16 ≤ p2 → (K (.inl none) (up w 101 11 p3))) ∧ (¬ 16 ≤ p2 → ((0 ≤ p2 ∧ p2 < 16) ∧ ((0 < (w 104 p2.toNat) → (Cal g LC jWo_countStep d [vA 101, vI p1] w (fun o w1 => rI o (fun x2 => (x2 = 0 → (K (.inl none) w1)) ∧ (¬ x2 = 0 → ((0 ≤ p2 ∧ p2 < 16) ∧ ((0 ≤ p2 ∧ p2 < 16) ∧ (K (.inl none) (up w1 104 (p2.toNat) (wr ((w1 104 p2.toNat) - 1))))))))))) ∧ (¬ 0 < (w 104 p2.toNat) → (K (.inl none) (up w 101 11 p3))))))))) : V g LC jWo_repeat (d + 1) K 0 [(0, vA 101), (1, vI p1), (2, vI p2), (3, vI p3)] [] w := by
  refine v_iload_n (pc := 0) d_Wo_repeat_0 rfl (.tail _ (.tail _ (.head _))) ?_
  refine v_iflt (pc := 1) (tgt := 22) d_Wo_repeat_1 (by decide) (fun c => ?_) (fun c => ?_)
  · replace h := h.1 c
    refine v_aload_n (pc := 22) d_Wo_repeat_22 rfl (.head _) ?_
    refine v_iload_n (pc := 23) d_Wo_repeat_23 rfl (.tail _ (.tail _ (.tail _ (.head _)))) ?_
    refine v_puti (pc := 24) d_Wo_repeat_24 fp_Wo_73 cC_101.1 cC_101.2 (by decide) rfl ?_
    refine v_goto (pc := 27) (tgt := 48) d_Wo_repeat_27 (by decide) ?_
    exact v_vret (pc := 48) d_Wo_repeat_48 rfl h
  · replace h := h.2 c
    refine v_iload_n (pc := 4) d_Wo_repeat_4 rfl (.tail _ (.tail _ (.head _))) ?_
    refine v_aload_n (pc := 5) d_Wo_repeat_5 rfl (.head _) ?_
    refine v_getr (C := "") (pc := 6) (r := 104) d_Wo_repeat_6 fl_Wo_18 cC_101.1 cC_101.2 (Or.inr ⟨_, rfl⟩) rC_101_5 ?_
    refine v_alen (pc := 9) (n := 16) d_Wo_repeat_9 cC_104.1 cC_104.2 (by decide) (by decide) ?_
    refine v_icmpge (pc := 10) (tgt := 22) d_Wo_repeat_10 (by decide) (fun c => ?_) (fun c => ?_)
    · replace h := h.1 c
      refine v_aload_n (pc := 22) d_Wo_repeat_22 rfl (.head _) ?_
      refine v_iload_n (pc := 23) d_Wo_repeat_23 rfl (.tail _ (.tail _ (.tail _ (.head _)))) ?_
      refine v_puti (pc := 24) d_Wo_repeat_24 fp_Wo_73 cC_101.1 cC_101.2 (by decide) rfl ?_
      refine v_goto (pc := 27) (tgt := 48) d_Wo_repeat_27 (by decide) ?_
      exact v_vret (pc := 48) d_Wo_repeat_48 rfl h
    · replace h := h.2 c
      refine v_aload_n (pc := 13) d_Wo_repeat_13 rfl (.head _) ?_
      refine v_getr (C := "") (pc := 14) (r := 104) d_Wo_repeat_14 fl_Wo_18 cC_101.1 cC_101.2 (Or.inr ⟨_, rfl⟩) rC_101_5 ?_
      refine v_iload_n (pc := 17) d_Wo_repeat_17 rfl (.tail _ (.tail _ (.head _))) ?_
      refine v_iald (pc := 18) (x := (w 104 p2.toNat)) d_Wo_repeat_18 cC_104.1 cC_104.2 rfl h.1 ?_
      replace h := h.2
      refine v_ifgt (pc := 19) (tgt := 30) d_Wo_repeat_19 (by decide) (fun c => ?_) (fun c => ?_)
      · replace h := h.1 c
        refine v_aload_n (pc := 30) d_Wo_repeat_30 rfl (.head _) ?_
        refine v_iload_n (pc := 31) d_Wo_repeat_31 rfl (.tail _ (.head _)) ?_
        refine v_callV (pc := 32) (J' := jWo_countStep) (d' := d) (o := 101) (ci := 10) (N := 18) (T := cT10) (As := [vI p1]) d_Wo_repeat_32 ml_Wo_89 cC_101.1 cC_101.2 (by decide) rfl rfl (Nat.le_of_ble_eq_true rfl) (Nat.le_refl _) rfl (Cal.weak h (fun o w1 h => ?_))
        rcases rI_of h with ⟨x2, rfl, h⟩
        refine v_ifeq (pc := 35) (tgt := 48) d_Wo_repeat_35 (by decide) (fun c => ?_) (fun c => ?_)
        · replace h := h.1 c
          exact v_vret (pc := 48) d_Wo_repeat_48 rfl h
        · replace h := h.2 c
          refine v_aload_n (pc := 38) d_Wo_repeat_38 rfl (.head _) ?_
          refine v_getr (C := "") (pc := 39) (r := 104) d_Wo_repeat_39 fl_Wo_18 cC_101.1 cC_101.2 (Or.inr ⟨_, rfl⟩) rC_101_5 ?_
          refine v_iload_n (pc := 42) d_Wo_repeat_42 rfl (.tail _ (.tail _ (.head _))) ?_
          refine v_dup2 (pc := 43) d_Wo_repeat_43 rfl rfl ?_
          refine v_iald (pc := 44) (x := (w1 104 p2.toNat)) d_Wo_repeat_44 cC_104.1 cC_104.2 rfl h.1 ?_
          replace h := h.2
          refine v_iconst (pc := 45) d_Wo_repeat_45 (by decide) ?_
          refine v_isub (pc := 46) d_Wo_repeat_46 ?_
          refine v_iast (pc := 47) d_Wo_repeat_47 cC_104.1 cC_104.2 (aC_104 _) h.1 ?_
          replace h := h.2
          exact v_vret (pc := 48) d_Wo_repeat_48 rfl h
      · replace h := h.2 c
        refine v_aload_n (pc := 22) d_Wo_repeat_22 rfl (.head _) ?_
        refine v_iload_n (pc := 23) d_Wo_repeat_23 rfl (.tail _ (.tail _ (.tail _ (.head _)))) ?_
        refine v_puti (pc := 24) d_Wo_repeat_24 fp_Wo_73 cC_101.1 cC_101.2 (by decide) rfl ?_
        refine v_goto (pc := 27) (tgt := 48) d_Wo_repeat_27 (by decide) ?_
        exact v_vret (pc := 48) d_Wo_repeat_48 rfl h
theorem d_Wo_act_0 : decode jWo_act.cc 0 = .ok (.iload_n 1, 1) := by decide +kernel
theorem d_Wo_act_1 : decode jWo_act.cc 1 = .ok (.tableswitch 146 26 30 #[35, 59, 72, 106, 125], 35) := by decide +kernel
theorem d_Wo_act_36 : decode jWo_act.cc 36 = .ok (.aload_n 0, 1) := by decide +kernel
theorem d_Wo_act_37 : decode jWo_act.cc 37 = .ok (.getfield 40, 3) := by decide +kernel
theorem d_Wo_act_40 : decode jWo_act.cc 40 = .ok (.getfield 122, 3) := by decide +kernel
theorem d_Wo_act_43 : decode jWo_act.cc 43 = .ok (.aload_n 0, 1) := by decide +kernel
theorem d_Wo_act_44 : decode jWo_act.cc 44 = .ok (.getfield 47, 3) := by decide +kernel
theorem d_Wo_act_47 : decode jWo_act.cc 47 = .ok (.bipush 8, 2) := by decide +kernel
theorem d_Wo_act_49 : decode jWo_act.cc 49 = .ok (.imul, 1) := by decide +kernel
theorem d_Wo_act_50 : decode jWo_act.cc 50 = .ok (.iload_n 2, 1) := by decide +kernel
theorem d_Wo_act_51 : decode jWo_act.cc 51 = .ok (.iadd, 1) := by decide +kernel
theorem d_Wo_act_52 : decode jWo_act.cc 52 = .ok (.aload_n 0, 1) := by decide +kernel
theorem d_Wo_act_53 : decode jWo_act.cc 53 = .ok (.invokevirtual 151, 3) := by decide +kernel
theorem d_Wo_act_56 : decode jWo_act.cc 56 = .ok (.iastore, 1) := by decide +kernel
theorem d_Wo_act_57 : decode jWo_act.cc 57 = .ok (.goto 95, 3) := by decide +kernel
theorem d_Wo_act_60 : decode jWo_act.cc 60 = .ok (.aload_n 0, 1) := by decide +kernel
theorem d_Wo_act_61 : decode jWo_act.cc 61 = .ok (.getfield 15, 3) := by decide +kernel
theorem d_Wo_act_64 : decode jWo_act.cc 64 = .ok (.iload_n 2, 1) := by decide +kernel
theorem d_Wo_act_65 : decode jWo_act.cc 65 = .ok (.aload_n 0, 1) := by decide +kernel
theorem d_Wo_act_66 : decode jWo_act.cc 66 = .ok (.invokevirtual 151, 3) := by decide +kernel
theorem d_Wo_act_69 : decode jWo_act.cc 69 = .ok (.iastore, 1) := by decide +kernel
theorem d_Wo_act_70 : decode jWo_act.cc 70 = .ok (.goto 82, 3) := by decide +kernel
theorem d_Wo_act_73 : decode jWo_act.cc 73 = .ok (.aload_n 0, 1) := by decide +kernel
theorem d_Wo_act_74 : decode jWo_act.cc 74 = .ok (.getfield 40, 3) := by decide +kernel
theorem d_Wo_act_77 : decode jWo_act.cc 77 = .ok (.aload_n 0, 1) := by decide +kernel
theorem d_Wo_act_78 : decode jWo_act.cc 78 = .ok (.getfield 21, 3) := by decide +kernel
theorem d_Wo_act_81 : decode jWo_act.cc 81 = .ok (.aload_n 0, 1) := by decide +kernel
theorem d_Wo_act_82 : decode jWo_act.cc 82 = .ok (.getfield 32, 3) := by decide +kernel
theorem d_Wo_act_85 : decode jWo_act.cc 85 = .ok (.aload_n 0, 1) := by decide +kernel
theorem d_Wo_act_86 : decode jWo_act.cc 86 = .ok (.getfield 131, 3) := by decide +kernel
theorem d_Wo_act_89 : decode jWo_act.cc 89 = .ok (.aload_n 0, 1) := by decide +kernel
theorem d_Wo_act_90 : decode jWo_act.cc 90 = .ok (.getfield 187, 3) := by decide +kernel
theorem d_Wo_act_93 : decode jWo_act.cc 93 = .ok (.invokevirtual 198, 3) := by decide +kernel
theorem d_Wo_act_96 : decode jWo_act.cc 96 = .ok (.iload_n 2, 1) := by decide +kernel
theorem d_Wo_act_97 : decode jWo_act.cc 97 = .ok (.aload_n 0, 1) := by decide +kernel
theorem d_Wo_act_98 : decode jWo_act.cc 98 = .ok (.invokevirtual 151, 3) := by decide +kernel
theorem d_Wo_act_101 : decode jWo_act.cc 101 = .ok (.invokevirtual 201, 3) := by decide +kernel
theorem d_Wo_act_104 : decode jWo_act.cc 104 = .ok (.goto 48, 3) := by decide +kernel
theorem d_Wo_act_107 : decode jWo_act.cc 107 = .ok (.aload_n 0, 1) := by decide +kernel
theorem d_Wo_act_108 : decode jWo_act.cc 108 = .ok (.getfield 40, 3) := by decide +kernel
theorem d_Wo_act_111 : decode jWo_act.cc 111 = .ok (.aload_n 0, 1) := by decide +kernel
theorem d_Wo_act_112 : decode jWo_act.cc 112 = .ok (.getfield 21, 3) := by decide +kernel
theorem d_Wo_act_115 : decode jWo_act.cc 115 = .ok (.iload_n 2, 1) := by decide +kernel
theorem d_Wo_act_116 : decode jWo_act.cc 116 = .ok (.aload_n 0, 1) := by decide +kernel
theorem d_Wo_act_117 : decode jWo_act.cc 117 = .ok (.invokevirtual 151, 3) := by decide +kernel
theorem d_Wo_act_120 : decode jWo_act.cc 120 = .ok (.invokevirtual 205, 3) := by decide +kernel
theorem d_Wo_act_123 : decode jWo_act.cc 123 = .ok (.goto 29, 3) := by decide +kernel
theorem d_Wo_act_126 : decode jWo_act.cc 126 = .ok (.aload_n 0, 1) := by decide +kernel
theorem d_Wo_act_127 : decode jWo_act.cc 127 = .ok (.getfield 40, 3) := by decide +kernel
theorem d_Wo_act_130 : decode jWo_act.cc 130 = .ok (.getfield 209, 3) := by decide +kernel
theorem d_Wo_act_133 : decode jWo_act.cc 133 = .ok (.aload_n 0, 1) := by decide +kernel
theorem d_Wo_act_134 : decode jWo_act.cc 134 = .ok (.getfield 47, 3) := by decide +kernel
theorem d_Wo_act_137 : decode jWo_act.cc 137 = .ok (.iconst 1, 1) := by decide +kernel
theorem d_Wo_act_138 : decode jWo_act.cc 138 = .ok (.bastore, 1) := by decide +kernel
theorem d_Wo_act_139 : decode jWo_act.cc 139 = .ok (.aload_n 0, 1) := by decide +kernel
theorem d_Wo_act_140 : decode jWo_act.cc 140 = .ok (.iconst (-1), 1) := by decide +kernel
theorem d_Wo_act_141 : decode jWo_act.cc 141 = .ok (.putfield 73, 3) := by decide +kernel
theorem d_Wo_act_144 : decode jWo_act.cc 144 = .ok (.goto 8, 3) := by decide +kernel
theorem d_Wo_act_147 : decode jWo_act.cc 147 = .ok (.aload_n 0, 1) := by decide +kernel
theorem d_Wo_act_148 : decode jWo_act.cc 148 = .ok (.iconst (-1), 1) := by decide +kernel
theorem d_Wo_act_149 : decode jWo_act.cc 149 = .ok (.putfield 73, 3) := by decide +kernel
theorem d_Wo_act_152 : decode jWo_act.cc 152 = .ok (.return_, 1) := by decide +kernel
set_option maxHeartbeats 4000000 in
theorem s_Wo_act {g : Mg} {d : Nat} {K : Ou → Wd → Prop} {w : Wd} {p1 : Int} {p2 : Int} (h : ((p1 < 26 ∨ 30 < p1) → (K (.inl none) (up w 101 11 (-1)))) ∧ (p1 = 26 → (∃ q1 : Nat, (w 101 7) = (q1 : Int) ∧ isMo q1 ∧ (Cal g LC jWo_pop d [vA 101] w (fun o w2 => rI o (fun x3 => (0 ≤ (wr ((wr ((w 101 9) * 8)) + p2)) ∧ (wr ((wr ((w 101 9) * 8)) + p2)) < 320) ∧ (K (.inl none) (up w2 (q1 + 1) ((wr ((wr ((w 101 9) * 8)) + p2)).toNat) x3))))))) ∧ (p1 = 27 → (Cal g LC jWo_pop d [vA 101] w (fun o w4 => rI o (fun x5 => (0 ≤ p2 ∧ p2 < 8) ∧ (K (.inl none) (up w4 103 (p2.toNat) x5)))))) ∧ (p1 = 28 → (∃ q6 : Nat, (w 101 7) = (q6 : Int) ∧ isMo q6 ∧ (Cal g LC jGr_otherEnd d [vA 31, vI (w 101 12), vI (w 101 13)] w (fun o w7 => rI o (fun x8 => Cal g LC jWo_pop d [vA 101] w7 (fun o w9 => rI o (fun x10 => Cal g LC jMo_deliver d [vA q6, vA 8, vI x8, vI p2, vI x10] w9 (fun o w11 => rV o (K (.inl none) w11))))))))) ∧ (p1 = 29 → (∃ q12 : Nat, (w 101 7) = (q12 : Int) ∧ isMo q12 ∧ (Cal g LC jWo_pop d [vA 101] w (fun o w13 => rI o (fun x14 => Cal g LC jMo_give d [vA q12, vA 8, vI p2, vI x14] w13 (fun o w15 => rV o (K (.inl none) w15))))))) ∧ (p1 = 30 → (∃ q16 : Nat, (w 101 7) = (q16 : Int) ∧ isMo q16 ∧ ((0 ≤ (w 101 9) ∧ (w 101 9) < 40) ∧ (K (.inl none) (up (up w (q16 + 2) ((w 101 9).toNat) 1) 101 11 (-1))))))) : V g LC jWo_act (d + 1) K 0 [(0, vA 101), (1, vI p1), (2, vI p2)] [] w := by
  refine v_iload_n (pc := 0) d_Wo_act_0 rfl (.tail _ (.head _)) ?_
  refine v_table (pc := 1) (tgd := 147) (tgs := [36, 60, 73, 107, 126]) d_Wo_act_1 (by decide) (by decide) (by decide) (fun c => ?_) ⟨fun c => ?_, fun c => ?_, fun c => ?_, fun c => ?_, fun c => ?_, trivial⟩
  · replace h := h.1 c
    refine v_aload_n (pc := 147) d_Wo_act_147 rfl (.head _) ?_
    refine v_iconst (pc := 148) d_Wo_act_148 (by decide) ?_
    refine v_puti (pc := 149) d_Wo_act_149 fp_Wo_73 cC_101.1 cC_101.2 (by decide) rfl ?_
    exact v_vret (pc := 152) d_Wo_act_152 rfl h
  · replace h := h.2.1 c
    refine v_aload_n (pc := 36) d_Wo_act_36 rfl (.head _) ?_
    obtain ⟨q1, eq1, hq1, h⟩ := h
    refine v_getd (pc := 37) (r := q1) d_Wo_act_37 fl_Wo_40 cC_101.1 cC_101.2 (Or.inl ⟨_, rfl⟩) eq1 ?_
    refine v_getr (C := "") (pc := 40) (r := q1 + 1) d_Wo_act_40 fl_Wo_122 (mo_0 hq1).1 (mo_0 hq1).2 (Or.inr ⟨_, rfl⟩) (mor_2 hq1) ?_
    refine v_aload_n (pc := 43) d_Wo_act_43 rfl (.head _) ?_
    refine v_geti (pc := 44) (x := (w 101 9)) d_Wo_act_44 fl_Wo_47 cC_101.1 cC_101.2 (Or.inl rfl) rfl ?_
    refine v_bipush (pc := 47) d_Wo_act_47 (by decide) rfl ?_
    refine v_imul (pc := 49) d_Wo_act_49 ?_
    refine v_iload_n (pc := 50) d_Wo_act_50 rfl (.tail _ (.tail _ (.head _))) ?_
    refine v_iadd (pc := 51) d_Wo_act_51 ?_
    refine v_aload_n (pc := 52) d_Wo_act_52 rfl (.head _) ?_
    refine v_callV (pc := 53) (J' := jWo_pop) (d' := d) (o := 101) (ci := 10) (N := 18) (T := cT10) (As := []) d_Wo_act_53 ml_Wo_151 cC_101.1 cC_101.2 (by decide) rfl rfl (Nat.le_of_ble_eq_true rfl) (Nat.le_refl _) rfl (Cal.weak h (fun o w2 h => ?_))
    rcases rI_of h with ⟨x3, rfl, h⟩
    refine v_iast (pc := 56) d_Wo_act_56 (mo_1 hq1).1 (mo_1 hq1).2 (moa_1 hq1 _) h.1 ?_
    replace h := h.2
    refine v_goto (pc := 57) (tgt := 152) d_Wo_act_57 (by decide) ?_
    exact v_vret (pc := 152) d_Wo_act_152 rfl h
  · replace h := h.2.2.1 c
    refine v_aload_n (pc := 60) d_Wo_act_60 rfl (.head _) ?_
    refine v_getr (C := "") (pc := 61) (r := 103) d_Wo_act_61 fl_Wo_15 cC_101.1 cC_101.2 (Or.inr ⟨_, rfl⟩) rC_101_4 ?_
    refine v_iload_n (pc := 64) d_Wo_act_64 rfl (.tail _ (.tail _ (.head _))) ?_
    refine v_aload_n (pc := 65) d_Wo_act_65 rfl (.head _) ?_
    refine v_callV (pc := 66) (J' := jWo_pop) (d' := d) (o := 101) (ci := 10) (N := 18) (T := cT10) (As := []) d_Wo_act_66 ml_Wo_151 cC_101.1 cC_101.2 (by decide) rfl rfl (Nat.le_of_ble_eq_true rfl) (Nat.le_refl _) rfl (Cal.weak h (fun o w4 h => ?_))
    rcases rI_of h with ⟨x5, rfl, h⟩
    refine v_iast (pc := 69) d_Wo_act_69 cC_103.1 cC_103.2 (aC_103 _) h.1 ?_
    replace h := h.2
    refine v_goto (pc := 70) (tgt := 152) d_Wo_act_70 (by decide) ?_
    exact v_vret (pc := 152) d_Wo_act_152 rfl h
  · replace h := h.2.2.2.1 c
    refine v_aload_n (pc := 73) d_Wo_act_73 rfl (.head _) ?_
    obtain ⟨q6, eq6, hq6, h⟩ := h
    refine v_getd (pc := 74) (r := q6) d_Wo_act_74 fl_Wo_40 cC_101.1 cC_101.2 (Or.inl ⟨_, rfl⟩) eq6 ?_
    refine v_aload_n (pc := 77) d_Wo_act_77 rfl (.head _) ?_
    refine v_getr (C := "") (pc := 78) (r := 8) d_Wo_act_78 fl_Wo_21 cC_101.1 cC_101.2 (Or.inl ⟨_, rfl⟩) rC_101_0 ?_
    refine v_aload_n (pc := 81) d_Wo_act_81 rfl (.head _) ?_
    refine v_getr (C := "") (pc := 82) (r := 31) d_Wo_act_82 fl_Wo_32 cC_101.1 cC_101.2 (Or.inl ⟨_, rfl⟩) rC_101_2 ?_
    refine v_aload_n (pc := 85) d_Wo_act_85 rfl (.head _) ?_
    refine v_geti (pc := 86) (x := (w 101 12)) d_Wo_act_86 fl_Wo_131 cC_101.1 cC_101.2 (Or.inl rfl) rfl ?_
    refine v_aload_n (pc := 89) d_Wo_act_89 rfl (.head _) ?_
    refine v_geti (pc := 90) (x := (w 101 13)) d_Wo_act_90 fl_Wo_187 cC_101.1 cC_101.2 (Or.inr rfl) rfl ?_
    refine v_callV (pc := 93) (J' := jGr_otherEnd) (d' := d) (o := 31) (ci := 3) (N := 13) (T := cT3) (As := [vI (w 101 12), vI (w 101 13)]) d_Wo_act_93 ml_Wo_198 cC_31.1 cC_31.2 (by decide) rfl rfl (Nat.le_of_ble_eq_true rfl) (Nat.le_refl _) rfl (Cal.weak h (fun o w7 h => ?_))
    rcases rI_of h with ⟨x8, rfl, h⟩
    refine v_iload_n (pc := 96) d_Wo_act_96 rfl (.tail _ (.tail _ (.head _))) ?_
    refine v_aload_n (pc := 97) d_Wo_act_97 rfl (.head _) ?_
    refine v_callV (pc := 98) (J' := jWo_pop) (d' := d) (o := 101) (ci := 10) (N := 18) (T := cT10) (As := []) d_Wo_act_98 ml_Wo_151 cC_101.1 cC_101.2 (by decide) rfl rfl (Nat.le_of_ble_eq_true rfl) (Nat.le_refl _) rfl (Cal.weak h (fun o w9 h => ?_))
    rcases rI_of h with ⟨x10, rfl, h⟩
    refine v_callV (pc := 101) (J' := jMo_deliver) (d' := d) (o := q6) (ci := 6) (N := 8) (T := cT6) (As := [vA 8, vI x8, vI p2, vI x10]) d_Wo_act_101 ml_Wo_201 (mo_0 hq6).1 (mo_0 hq6).2 (by decide) rfl rfl (Nat.le_of_ble_eq_true rfl) (Nat.le_refl _) rfl (Cal.weak h (fun o w11 h => ?_))
    rcases rV_of h with ⟨rfl, h⟩
    refine v_goto (pc := 104) (tgt := 152) d_Wo_act_104 (by decide) ?_
    exact v_vret (pc := 152) d_Wo_act_152 rfl h
  · replace h := h.2.2.2.2.1 c
    refine v_aload_n (pc := 107) d_Wo_act_107 rfl (.head _) ?_
    obtain ⟨q12, eq12, hq12, h⟩ := h
    refine v_getd (pc := 108) (r := q12) d_Wo_act_108 fl_Wo_40 cC_101.1 cC_101.2 (Or.inl ⟨_, rfl⟩) eq12 ?_
    refine v_aload_n (pc := 111) d_Wo_act_111 rfl (.head _) ?_
    refine v_getr (C := "") (pc := 112) (r := 8) d_Wo_act_112 fl_Wo_21 cC_101.1 cC_101.2 (Or.inl ⟨_, rfl⟩) rC_101_0 ?_
    refine v_iload_n (pc := 115) d_Wo_act_115 rfl (.tail _ (.tail _ (.head _))) ?_
    refine v_aload_n (pc := 116) d_Wo_act_116 rfl (.head _) ?_
    refine v_callV (pc := 117) (J' := jWo_pop) (d' := d) (o := 101) (ci := 10) (N := 18) (T := cT10) (As := []) d_Wo_act_117 ml_Wo_151 cC_101.1 cC_101.2 (by decide) rfl rfl (Nat.le_of_ble_eq_true rfl) (Nat.le_refl _) rfl (Cal.weak h (fun o w13 h => ?_))
    rcases rI_of h with ⟨x14, rfl, h⟩
    refine v_callV (pc := 120) (J' := jMo_give) (d' := d) (o := q12) (ci := 6) (N := 8) (T := cT6) (As := [vA 8, vI p2, vI x14]) d_Wo_act_120 ml_Wo_205 (mo_0 hq12).1 (mo_0 hq12).2 (by decide) rfl rfl (Nat.le_of_ble_eq_true rfl) (Nat.le_refl _) rfl (Cal.weak h (fun o w15 h => ?_))
    rcases rV_of h with ⟨rfl, h⟩
    refine v_goto (pc := 123) (tgt := 152) d_Wo_act_123 (by decide) ?_
    exact v_vret (pc := 152) d_Wo_act_152 rfl h
  · replace h := h.2.2.2.2.2 c
    refine v_aload_n (pc := 126) d_Wo_act_126 rfl (.head _) ?_
    obtain ⟨q16, eq16, hq16, h⟩ := h
    refine v_getd (pc := 127) (r := q16) d_Wo_act_127 fl_Wo_40 cC_101.1 cC_101.2 (Or.inl ⟨_, rfl⟩) eq16 ?_
    refine v_getr (C := "") (pc := 130) (r := q16 + 2) d_Wo_act_130 fl_Wo_209 (mo_0 hq16).1 (mo_0 hq16).2 (Or.inr ⟨_, rfl⟩) (mor_3 hq16) ?_
    refine v_aload_n (pc := 133) d_Wo_act_133 rfl (.head _) ?_
    refine v_geti (pc := 134) (x := (w 101 9)) d_Wo_act_134 fl_Wo_47 cC_101.1 cC_101.2 (Or.inl rfl) rfl ?_
    refine v_iconst (pc := 137) d_Wo_act_137 (by decide) ?_
    refine v_zast (pc := 138) d_Wo_act_138 (mo_2 hq16).1 (mo_2 hq16).2 (moa_2 hq16 _) (by decide) h.1 ?_
    replace h := h.2
    refine v_aload_n (pc := 139) d_Wo_act_139 rfl (.head _) ?_
    refine v_iconst (pc := 140) d_Wo_act_140 (by decide) ?_
    refine v_puti (pc := 141) d_Wo_act_141 fp_Wo_73 cC_101.1 cC_101.2 (by decide) rfl ?_
    refine v_goto (pc := 144) (tgt := 152) d_Wo_act_144 (by decide) ?_
    exact v_vret (pc := 152) d_Wo_act_152 rfl h
