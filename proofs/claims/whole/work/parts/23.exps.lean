theorem d_Ex_clear_0 : decode jEx_clear.cc 0 = .ok (.aload_n 0, 1) := by decide +kernel
theorem d_Ex_clear_1 : decode jEx_clear.cc 1 = .ok (.iconst 0, 1) := by decide +kernel
theorem d_Ex_clear_2 : decode jEx_clear.cc 2 = .ok (.putfield 45, 3) := by decide +kernel
theorem d_Ex_clear_5 : decode jEx_clear.cc 5 = .ok (.iconst 0, 1) := by decide +kernel
theorem d_Ex_clear_6 : decode jEx_clear.cc 6 = .ok (.istore_n 1, 1) := by decide +kernel
theorem d_Ex_clear_7 : decode jEx_clear.cc 7 = .ok (.iload_n 1, 1) := by decide +kernel
theorem d_Ex_clear_8 : decode jEx_clear.cc 8 = .ok (.aload_n 0, 1) := by decide +kernel
theorem d_Ex_clear_9 : decode jEx_clear.cc 9 = .ok (.getfield 21, 3) := by decide +kernel
theorem d_Ex_clear_12 : decode jEx_clear.cc 12 = .ok (.arraylength, 1) := by decide +kernel
theorem d_Ex_clear_13 : decode jEx_clear.cc 13 = .ok (.if_icmp .ge 16, 3) := by decide +kernel
theorem d_Ex_clear_16 : decode jEx_clear.cc 16 = .ok (.aload_n 0, 1) := by decide +kernel
theorem d_Ex_clear_17 : decode jEx_clear.cc 17 = .ok (.getfield 21, 3) := by decide +kernel
theorem d_Ex_clear_20 : decode jEx_clear.cc 20 = .ok (.iload_n 1, 1) := by decide +kernel
theorem d_Ex_clear_21 : decode jEx_clear.cc 21 = .ok (.iconst 0, 1) := by decide +kernel
theorem d_Ex_clear_22 : decode jEx_clear.cc 22 = .ok (.bastore, 1) := by decide +kernel
theorem d_Ex_clear_23 : decode jEx_clear.cc 23 = .ok (.iinc 1 1, 3) := by decide +kernel
theorem d_Ex_clear_26 : decode jEx_clear.cc 26 = .ok (.goto (-19), 3) := by decide +kernel
theorem d_Ex_clear_29 : decode jEx_clear.cc 29 = .ok (.return_, 1) := by decide +kernel
set_option maxHeartbeats 4000000 in
theorem s_Ex_clear {g : Mg} {d : Nat} {K : Ou → Wd → Prop} {w : Wd} (h : V g LC jEx_clear d K 7 [(0, vA 26), (1, vI 0)] [] (up w 26 4 0)) : V g LC jEx_clear d K 0 [(0, vA 26)] [] w := by
  refine v_aload_n (pc := 0) d_Ex_clear_0 rfl (.head _) ?_
  refine v_iconst (pc := 1) d_Ex_clear_1 (by decide) ?_
  refine v_putz (pc := 2) d_Ex_clear_2 fp_Ex_45 cC_26.1 cC_26.2 (by decide) rfl (by decide) ?_
  refine v_iconst (pc := 5) d_Ex_clear_5 (by decide) ?_
  refine v_istore_n (pc := 6) (ls' := [(1, vI 0), (0, vA 26)]) d_Ex_clear_6 rfl (by decide) rfl ?_
  exact v_sub (List.forall_mem_cons.mpr ⟨(.tail _ (.head _)), (List.forall_mem_cons.mpr ⟨(.head _), (fun _ z => absurd z List.not_mem_nil)⟩)⟩) h
set_option maxHeartbeats 4000000 in
theorem s_Ex_clear_7 {g : Mg} {d : Nat} {K : Ou → Wd → Prop} {w : Wd} {x1_ : Int} (h : (1002 ≤ x1_ → (K (.inl none) w)) ∧ (¬ 1002 ≤ x1_ → ((0 ≤ x1_ ∧ x1_ < 1002) ∧ (V g LC jEx_clear d K 7 [(0, vA 26), (1, vI (wr (x1_ + 1)))] [] (up w 30 (x1_.toNat) 0))))) : V g LC jEx_clear d K 7 [(0, vA 26), (1, vI x1_)] [] w := by
  refine v_iload_n (pc := 7) d_Ex_clear_7 rfl (.tail _ (.head _)) ?_
  refine v_aload_n (pc := 8) d_Ex_clear_8 rfl (.head _) ?_
  refine v_getr (C := "") (pc := 9) (r := 30) d_Ex_clear_9 fl_Ex_21 cC_26.1 cC_26.2 (Or.inr ⟨_, rfl⟩) rC_26_8 ?_
  refine v_alen (pc := 12) (n := 1002) d_Ex_clear_12 cC_30.1 cC_30.2 (by decide) (by decide) ?_
  refine v_icmpge (pc := 13) (tgt := 29) d_Ex_clear_13 (by decide) (fun c => ?_) (fun c => ?_)
  · replace h := h.1 c
    exact v_vret (pc := 29) d_Ex_clear_29 rfl h
  · replace h := h.2 c
    refine v_aload_n (pc := 16) d_Ex_clear_16 rfl (.head _) ?_
    refine v_getr (C := "") (pc := 17) (r := 30) d_Ex_clear_17 fl_Ex_21 cC_26.1 cC_26.2 (Or.inr ⟨_, rfl⟩) rC_26_8 ?_
    refine v_iload_n (pc := 20) d_Ex_clear_20 rfl (.tail _ (.head _)) ?_
    refine v_iconst (pc := 21) d_Ex_clear_21 (by decide) ?_
    refine v_zast (pc := 22) d_Ex_clear_22 cC_30.1 cC_30.2 (aC_30 _) (by decide) h.1 ?_
    replace h := h.2
    refine v_iinc (pc := 23) (ls' := [(1, vI (wr (x1_ + 1))), (0, vA 26)]) d_Ex_clear_23 (.tail _ (.head _)) (by decide) rfl ?_
    refine v_goto (pc := 26) (tgt := 7) d_Ex_clear_26 (by decide) ?_
    exact v_sub (List.forall_mem_cons.mpr ⟨(.tail _ (.head _)), (List.forall_mem_cons.mpr ⟨(.head _), (fun _ z => absurd z List.not_mem_nil)⟩)⟩) h
theorem d_Ex_kindOf_0 : decode jEx_kindOf.cc 0 = .ok (.aload_n 0, 1) := by decide +kernel
theorem d_Ex_kindOf_1 : decode jEx_kindOf.cc 1 = .ok (.getfield 9, 3) := by decide +kernel
theorem d_Ex_kindOf_4 : decode jEx_kindOf.cc 4 = .ok (.iload_n 1, 1) := by decide +kernel
theorem d_Ex_kindOf_5 : decode jEx_kindOf.cc 5 = .ok (.iaload, 1) := by decide +kernel
theorem d_Ex_kindOf_6 : decode jEx_kindOf.cc 6 = .ok (.ireturn, 1) := by decide +kernel
set_option maxHeartbeats 4000000 in
theorem s_Ex_kindOf {g : Mg} {d : Nat} {K : Ou → Wd → Prop} {w : Wd} {p1 : Int} (h : (0 ≤ p1 ∧ p1 < 1002) ∧ (K (.inl (some (vI (w 27 p1.toNat)))) w)) : V g LC jEx_kindOf d K 0 [(0, vA 26), (1, vI p1)] [] w := by
  refine v_aload_n (pc := 0) d_Ex_kindOf_0 rfl (.head _) ?_
  refine v_getr (C := "") (pc := 1) (r := 27) d_Ex_kindOf_1 fl_Ex_9 cC_26.1 cC_26.2 (Or.inr ⟨_, rfl⟩) rC_26_5 ?_
  refine v_iload_n (pc := 4) d_Ex_kindOf_4 rfl (.tail _ (.head _)) ?_
  refine v_iald (pc := 5) (x := (w 27 p1.toNat)) d_Ex_kindOf_5 cC_27.1 cC_27.2 rfl h.1 ?_
  replace h := h.2
  exact v_iret (pc := 6) d_Ex_kindOf_6 rfl h
theorem d_Ex_isDropped_0 : decode jEx_isDropped.cc 0 = .ok (.aload_n 0, 1) := by decide +kernel
theorem d_Ex_isDropped_1 : decode jEx_isDropped.cc 1 = .ok (.getfield 21, 3) := by decide +kernel
theorem d_Ex_isDropped_4 : decode jEx_isDropped.cc 4 = .ok (.iload_n 1, 1) := by decide +kernel
theorem d_Ex_isDropped_5 : decode jEx_isDropped.cc 5 = .ok (.baload, 1) := by decide +kernel
theorem d_Ex_isDropped_6 : decode jEx_isDropped.cc 6 = .ok (.ireturn, 1) := by decide +kernel
set_option maxHeartbeats 4000000 in
theorem s_Ex_isDropped {g : Mg} {d : Nat} {K : Ou → Wd → Prop} {w : Wd} {p1 : Int} (h : (0 ≤ p1 ∧ p1 < 1002) ∧ (((w 30 p1.toNat) = 0 ∨ (w 30 p1.toNat) = 1) ∧ K (.inl (some (vI (w 30 p1.toNat)))) w)) : V g LC jEx_isDropped d K 0 [(0, vA 26), (1, vI p1)] [] w := by
  refine v_aload_n (pc := 0) d_Ex_isDropped_0 rfl (.head _) ?_
  refine v_getr (C := "") (pc := 1) (r := 30) d_Ex_isDropped_1 fl_Ex_21 cC_26.1 cC_26.2 (Or.inr ⟨_, rfl⟩) rC_26_8 ?_
  refine v_iload_n (pc := 4) d_Ex_isDropped_4 rfl (.tail _ (.head _)) ?_
  refine v_zald (pc := 5) (x := (w 30 p1.toNat)) d_Ex_isDropped_5 cC_30.1 cC_30.2 rfl h.1 ?_
  replace h := h.2
  exact v_zret (pc := 6) d_Ex_isDropped_6 rfl h.1 h.2
theorem d_Ex_demand_0 : decode jEx_demand.cc 0 = .ok (.iload_n 2, 1) := by decide +kernel
theorem d_Ex_demand_1 : decode jEx_demand.cc 1 = .ok (.ifCond .eq 31, 3) := by decide +kernel
theorem d_Ex_demand_4 : decode jEx_demand.cc 4 = .ok (.aload_n 0, 1) := by decide +kernel
theorem d_Ex_demand_5 : decode jEx_demand.cc 5 = .ok (.getfield 9, 3) := by decide +kernel
theorem d_Ex_demand_8 : decode jEx_demand.cc 8 = .ok (.iload_n 1, 1) := by decide +kernel
theorem d_Ex_demand_9 : decode jEx_demand.cc 9 = .ok (.iaload, 1) := by decide +kernel
theorem d_Ex_demand_10 : decode jEx_demand.cc 10 = .ok (.ifCond .eq 22, 3) := by decide +kernel
theorem d_Ex_demand_13 : decode jEx_demand.cc 13 = .ok (.aload_n 0, 1) := by decide +kernel
theorem d_Ex_demand_14 : decode jEx_demand.cc 14 = .ok (.getfield 9, 3) := by decide +kernel
theorem d_Ex_demand_17 : decode jEx_demand.cc 17 = .ok (.iload_n 1, 1) := by decide +kernel
theorem d_Ex_demand_18 : decode jEx_demand.cc 18 = .ok (.iaload, 1) := by decide +kernel
theorem d_Ex_demand_19 : decode jEx_demand.cc 19 = .ok (.iload_n 2, 1) := by decide +kernel
theorem d_Ex_demand_20 : decode jEx_demand.cc 20 = .ok (.if_icmp .eq 12, 3) := by decide +kernel
theorem d_Ex_demand_23 : decode jEx_demand.cc 23 = .ok (.aload_n 0, 1) := by decide +kernel
theorem d_Ex_demand_24 : decode jEx_demand.cc 24 = .ok (.getfield 29, 3) := by decide +kernel
theorem d_Ex_demand_27 : decode jEx_demand.cc 27 = .ok (.iconst 5, 1) := by decide +kernel
theorem d_Ex_demand_28 : decode jEx_demand.cc 28 = .ok (.iload_n 1, 1) := by decide +kernel
theorem d_Ex_demand_29 : decode jEx_demand.cc 29 = .ok (.invokevirtual 49, 3) := by decide +kernel
theorem d_Ex_demand_32 : decode jEx_demand.cc 32 = .ok (.return_, 1) := by decide +kernel
set_option maxHeartbeats 4000000 in
theorem s_Ex_demand {g : Mg} {d : Nat} {K : Ou → Wd → Prop} {w : Wd} {p1 : Int} {p2 : Int} (h : (p2 = 0 → (K (.inl none) w)) ∧ (¬ p2 = 0 → ((0 ≤ p1 ∧ p1 < 1002) ∧ (((w 27 p1.toNat) = 0 → (K (.inl none) w)) ∧ (¬ (w 27 p1.toNat) = 0 → ((0 ≤ p1 ∧ p1 < 1002) ∧ (((w 27 p1.toNat) = p2 → (K (.inl none) w)) ∧ (¬ (w 27 p1.toNat) = p2 → (Cal g LC jCu_blame d [vA 25, vI 5, vI p1] w (fun o w1 => rV o (K (.inl none) w1))))))))))) : V g LC jEx_demand (d + 1) K 0 [(0, vA 26), (1, vI p1), (2, vI p2)] [] w := by
  refine v_iload_n (pc := 0) d_Ex_demand_0 rfl (.tail _ (.tail _ (.head _))) ?_
  refine v_ifeq (pc := 1) (tgt := 32) d_Ex_demand_1 (by decide) (fun c => ?_) (fun c => ?_)
  · replace h := h.1 c
    exact v_vret (pc := 32) d_Ex_demand_32 rfl h
  · replace h := h.2 c
    refine v_aload_n (pc := 4) d_Ex_demand_4 rfl (.head _) ?_
    refine v_getr (C := "") (pc := 5) (r := 27) d_Ex_demand_5 fl_Ex_9 cC_26.1 cC_26.2 (Or.inr ⟨_, rfl⟩) rC_26_5 ?_
    refine v_iload_n (pc := 8) d_Ex_demand_8 rfl (.tail _ (.head _)) ?_
    refine v_iald (pc := 9) (x := (w 27 p1.toNat)) d_Ex_demand_9 cC_27.1 cC_27.2 rfl h.1 ?_
    replace h := h.2
    refine v_ifeq (pc := 10) (tgt := 32) d_Ex_demand_10 (by decide) (fun c => ?_) (fun c => ?_)
    · replace h := h.1 c
      exact v_vret (pc := 32) d_Ex_demand_32 rfl h
    · replace h := h.2 c
      refine v_aload_n (pc := 13) d_Ex_demand_13 rfl (.head _) ?_
      refine v_getr (C := "") (pc := 14) (r := 27) d_Ex_demand_14 fl_Ex_9 cC_26.1 cC_26.2 (Or.inr ⟨_, rfl⟩) rC_26_5 ?_
      refine v_iload_n (pc := 17) d_Ex_demand_17 rfl (.tail _ (.head _)) ?_
      refine v_iald (pc := 18) (x := (w 27 p1.toNat)) d_Ex_demand_18 cC_27.1 cC_27.2 rfl h.1 ?_
      replace h := h.2
      refine v_iload_n (pc := 19) d_Ex_demand_19 rfl (.tail _ (.tail _ (.head _))) ?_
      refine v_icmpeq (pc := 20) (tgt := 32) d_Ex_demand_20 (by decide) (fun c => ?_) (fun c => ?_)
      · replace h := h.1 c
        exact v_vret (pc := 32) d_Ex_demand_32 rfl h
      · replace h := h.2 c
        refine v_aload_n (pc := 23) d_Ex_demand_23 rfl (.head _) ?_
        refine v_getr (C := "") (pc := 24) (r := 25) d_Ex_demand_24 fl_Ex_29 cC_26.1 cC_26.2 (Or.inl ⟨_, rfl⟩) rC_26_1 ?_
        refine v_iconst (pc := 27) d_Ex_demand_27 (by decide) ?_
        refine v_iload_n (pc := 28) d_Ex_demand_28 rfl (.tail _ (.head _)) ?_
        refine v_callV (pc := 29) (J' := jCu_blame) (d' := d) (o := 25) (ci := 1) (N := 6) (T := cT1) (As := [vI 5, vI p1]) d_Ex_demand_29 ml_Ex_49 cC_25.1 cC_25.2 (by decide) rfl rfl (Nat.le_of_ble_eq_true rfl) (Nat.le_refl _) rfl (Cal.weak h (fun o w1 h => ?_))
        rcases rV_of h with ⟨rfl, h⟩
        exact v_vret (pc := 32) d_Ex_demand_32 rfl h
theorem d_Ex_exp_0 : decode jEx_exp.cc 0 = .ok (.aload_n 0, 1) := by decide +kernel
theorem d_Ex_exp_1 : decode jEx_exp.cc 1 = .ok (.iconst 1, 1) := by decide +kernel
theorem d_Ex_exp_2 : decode jEx_exp.cc 2 = .ok (.iload_n 1, 1) := by decide +kernel
theorem d_Ex_exp_3 : decode jEx_exp.cc 3 = .ok (.invokevirtual 55, 3) := by decide +kernel
theorem d_Ex_exp_6 : decode jEx_exp.cc 6 = .ok (.istore_n 2, 1) := by decide +kernel
theorem d_Ex_exp_7 : decode jEx_exp.cc 7 = .ok (.aload_n 0, 1) := by decide +kernel
theorem d_Ex_exp_8 : decode jEx_exp.cc 8 = .ok (.iload_n 2, 1) := by decide +kernel
theorem d_Ex_exp_9 : decode jEx_exp.cc 9 = .ok (.iconst 1, 1) := by decide +kernel
theorem d_Ex_exp_10 : decode jEx_exp.cc 10 = .ok (.invokevirtual 59, 3) := by decide +kernel
theorem d_Ex_exp_13 : decode jEx_exp.cc 13 = .ok (.iload_n 2, 1) := by decide +kernel
theorem d_Ex_exp_14 : decode jEx_exp.cc 14 = .ok (.ireturn, 1) := by decide +kernel
set_option maxHeartbeats 4000000 in
theorem s_Ex_exp {g : Mg} {d : Nat} {K : Ou → Wd → Prop} {w : Wd} {p1 : Int} (h : Cal g LC jEx_chain d [vA 26, vI 1, vI p1] w (fun o w1 => rI o (fun x2 => Cal g LC jEx_settle d [vA 26, vI x2, vI 1] w1 (fun o w3 => rV o (K (.inl (some (vI x2))) w3))))) : V g LC jEx_exp (d + 1) K 0 [(0, vA 26), (1, vI p1)] [] w := by
  refine v_aload_n (pc := 0) d_Ex_exp_0 rfl (.head _) ?_
  refine v_iconst (pc := 1) d_Ex_exp_1 (by decide) ?_
  refine v_iload_n (pc := 2) d_Ex_exp_2 rfl (.tail _ (.head _)) ?_
  refine v_callV (pc := 3) (J' := jEx_chain) (d' := d) (o := 26) (ci := 2) (N := 9) (T := cT2) (As := [vI 1, vI p1]) d_Ex_exp_3 ml_Ex_55 cC_26.1 cC_26.2 (by decide) rfl rfl (Nat.le_of_ble_eq_true rfl) (Nat.le_refl _) rfl (Cal.weak h (fun o w1 h => ?_))
  rcases rI_of h with ⟨x2, rfl, h⟩
  refine v_istore_n (pc := 6) (ls' := [(2, vI x2), (0, vA 26), (1, vI p1)]) d_Ex_exp_6 rfl (by decide) rfl ?_
  refine v_aload_n (pc := 7) d_Ex_exp_7 rfl (.tail _ (.head _)) ?_
  refine v_iload_n (pc := 8) d_Ex_exp_8 rfl (.head _) ?_
  refine v_iconst (pc := 9) d_Ex_exp_9 (by decide) ?_
  refine v_callV (pc := 10) (J' := jEx_settle) (d' := d) (o := 26) (ci := 2) (N := 9) (T := cT2) (As := [vI x2, vI 1]) d_Ex_exp_10 ml_Ex_59 cC_26.1 cC_26.2 (by decide) rfl rfl (Nat.le_of_ble_eq_true rfl) (Nat.le_refl _) rfl (Cal.weak h (fun o w3 h => ?_))
  rcases rV_of h with ⟨rfl, h⟩
  refine v_iload_n (pc := 13) d_Ex_exp_13 rfl (.head _) ?_
  exact v_iret (pc := 14) d_Ex_exp_14 rfl h
theorem d_Ex_chain_0 : decode jEx_chain.cc 0 = .ok (.iload_n 1, 1) := by decide +kernel
theorem d_Ex_chain_1 : decode jEx_chain.cc 1 = .ok (.iconst 5, 1) := by decide +kernel
theorem d_Ex_chain_2 : decode jEx_chain.cc 2 = .ok (.if_icmp .ne 11, 3) := by decide +kernel
theorem d_Ex_chain_5 : decode jEx_chain.cc 5 = .ok (.aload_n 0, 1) := by decide +kernel
theorem d_Ex_chain_6 : decode jEx_chain.cc 6 = .ok (.iload_n 2, 1) := by decide +kernel
theorem d_Ex_chain_7 : decode jEx_chain.cc 7 = .ok (.invokevirtual 62, 3) := by decide +kernel
theorem d_Ex_chain_10 : decode jEx_chain.cc 10 = .ok (.goto 11, 3) := by decide +kernel
theorem d_Ex_chain_13 : decode jEx_chain.cc 13 = .ok (.aload_n 0, 1) := by decide +kernel
theorem d_Ex_chain_14 : decode jEx_chain.cc 14 = .ok (.iload_n 1, 1) := by decide +kernel
theorem d_Ex_chain_15 : decode jEx_chain.cc 15 = .ok (.iconst 1, 1) := by decide +kernel
theorem d_Ex_chain_16 : decode jEx_chain.cc 16 = .ok (.iadd, 1) := by decide +kernel
theorem d_Ex_chain_17 : decode jEx_chain.cc 17 = .ok (.iload_n 2, 1) := by decide +kernel
theorem d_Ex_chain_18 : decode jEx_chain.cc 18 = .ok (.invokevirtual 55, 3) := by decide +kernel
theorem d_Ex_chain_21 : decode jEx_chain.cc 21 = .ok (.istore_n 3, 1) := by decide +kernel
theorem d_Ex_chain_22 : decode jEx_chain.cc 22 = .ok (.iload_n 1, 1) := by decide +kernel
theorem d_Ex_chain_23 : decode jEx_chain.cc 23 = .ok (.iconst 3, 1) := by decide +kernel
theorem d_Ex_chain_24 : decode jEx_chain.cc 24 = .ok (.if_icmp .ne 7, 3) := by decide +kernel
theorem d_Ex_chain_27 : decode jEx_chain.cc 27 = .ok (.iconst 1, 1) := by decide +kernel
theorem d_Ex_chain_28 : decode jEx_chain.cc 28 = .ok (.goto 6, 3) := by decide +kernel
theorem d_Ex_chain_31 : decode jEx_chain.cc 31 = .ok (.sipush 1000, 3) := by decide +kernel
theorem d_Ex_chain_34 : decode jEx_chain.cc 34 = .ok (.istore 4, 2) := by decide +kernel
theorem d_Ex_chain_36 : decode jEx_chain.cc 36 = .ok (.iconst 0, 1) := by decide +kernel
theorem d_Ex_chain_37 : decode jEx_chain.cc 37 = .ok (.istore 5, 2) := by decide +kernel
theorem d_Ex_chain_39 : decode jEx_chain.cc 39 = .ok (.iload 5, 2) := by decide +kernel
theorem d_Ex_chain_41 : decode jEx_chain.cc 41 = .ok (.iload 4, 2) := by decide +kernel
theorem d_Ex_chain_43 : decode jEx_chain.cc 43 = .ok (.if_icmp .ge 147, 3) := by decide +kernel
theorem d_Ex_chain_46 : decode jEx_chain.cc 46 = .ok (.aload_n 0, 1) := by decide +kernel
theorem d_Ex_chain_47 : decode jEx_chain.cc 47 = .ok (.getfield 29, 3) := by decide +kernel
theorem d_Ex_chain_50 : decode jEx_chain.cc 50 = .ok (.invokevirtual 66, 3) := by decide +kernel
theorem d_Ex_chain_53 : decode jEx_chain.cc 53 = .ok (.invokestatic 70, 3) := by decide +kernel
theorem d_Ex_chain_56 : decode jEx_chain.cc 56 = .ok (.iload_n 1, 1) := by decide +kernel
theorem d_Ex_chain_57 : decode jEx_chain.cc 57 = .ok (.if_icmp .ne 133, 3) := by decide +kernel
theorem d_Ex_chain_60 : decode jEx_chain.cc 60 = .ok (.aload_n 0, 1) := by decide +kernel
theorem d_Ex_chain_61 : decode jEx_chain.cc 61 = .ok (.getfield 29, 3) := by decide +kernel
theorem d_Ex_chain_64 : decode jEx_chain.cc 64 = .ok (.invokevirtual 66, 3) := by decide +kernel
theorem d_Ex_chain_67 : decode jEx_chain.cc 67 = .ok (.istore 6, 2) := by decide +kernel
theorem d_Ex_chain_69 : decode jEx_chain.cc 69 = .ok (.aload_n 0, 1) := by decide +kernel
theorem d_Ex_chain_70 : decode jEx_chain.cc 70 = .ok (.getfield 29, 3) := by decide +kernel
theorem d_Ex_chain_73 : decode jEx_chain.cc 73 = .ok (.iload 6, 2) := by decide +kernel
theorem d_Ex_chain_75 : decode jEx_chain.cc 75 = .ok (.invokevirtual 73, 3) := by decide +kernel
theorem d_Ex_chain_78 : decode jEx_chain.cc 78 = .ok (.istore 7, 2) := by decide +kernel
theorem d_Ex_chain_80 : decode jEx_chain.cc 80 = .ok (.iload_n 1, 1) := by decide +kernel
theorem d_Ex_chain_81 : decode jEx_chain.cc 81 = .ok (.iconst 2, 1) := by decide +kernel
theorem d_Ex_chain_82 : decode jEx_chain.cc 82 = .ok (.if_icmp .gt 27, 3) := by decide +kernel
theorem d_Ex_chain_85 : decode jEx_chain.cc 85 = .ok (.aload_n 0, 1) := by decide +kernel
theorem d_Ex_chain_86 : decode jEx_chain.cc 86 = .ok (.getfield 44, 3) := by decide +kernel
theorem d_Ex_chain_89 : decode jEx_chain.cc 89 = .ok (.iload_n 1, 1) := by decide +kernel
theorem d_Ex_chain_90 : decode jEx_chain.cc 90 = .ok (.iconst 2, 1) := by decide +kernel
theorem d_Ex_chain_91 : decode jEx_chain.cc 91 = .ok (.if_icmp .ne 8, 3) := by decide +kernel
theorem d_Ex_chain_94 : decode jEx_chain.cc 94 = .ok (.bipush 16, 2) := by decide +kernel
theorem d_Ex_chain_96 : decode jEx_chain.cc 96 = .ok (.goto 5, 3) := by decide +kernel
theorem d_Ex_chain_99 : decode jEx_chain.cc 99 = .ok (.bipush 17, 2) := by decide +kernel
theorem d_Ex_chain_101 : decode jEx_chain.cc 101 = .ok (.iconst 0, 1) := by decide +kernel
theorem d_Ex_chain_102 : decode jEx_chain.cc 102 = .ok (.iconst 0, 1) := by decide +kernel
theorem d_Ex_chain_103 : decode jEx_chain.cc 103 = .ok (.invokevirtual 78, 3) := by decide +kernel
theorem d_Ex_chain_106 : decode jEx_chain.cc 106 = .ok (.goto 4, 3) := by decide +kernel
theorem d_Ex_chain_109 : decode jEx_chain.cc 109 = .ok (.iconst (-1), 1) := by decide +kernel
theorem d_Ex_chain_110 : decode jEx_chain.cc 110 = .ok (.istore 8, 2) := by decide +kernel
theorem d_Ex_chain_112 : decode jEx_chain.cc 112 = .ok (.iload_n 1, 1) := by decide +kernel
theorem d_Ex_chain_113 : decode jEx_chain.cc 113 = .ok (.iconst 5, 1) := by decide +kernel
theorem d_Ex_chain_114 : decode jEx_chain.cc 114 = .ok (.if_icmp .ne 11, 3) := by decide +kernel
theorem d_Ex_chain_117 : decode jEx_chain.cc 117 = .ok (.aload_n 0, 1) := by decide +kernel
theorem d_Ex_chain_118 : decode jEx_chain.cc 118 = .ok (.iload_n 2, 1) := by decide +kernel
theorem d_Ex_chain_119 : decode jEx_chain.cc 119 = .ok (.invokevirtual 62, 3) := by decide +kernel
theorem d_Ex_chain_122 : decode jEx_chain.cc 122 = .ok (.goto 11, 3) := by decide +kernel
theorem d_Ex_chain_125 : decode jEx_chain.cc 125 = .ok (.aload_n 0, 1) := by decide +kernel
theorem d_Ex_chain_126 : decode jEx_chain.cc 126 = .ok (.iload_n 1, 1) := by decide +kernel
theorem d_Ex_chain_127 : decode jEx_chain.cc 127 = .ok (.iconst 1, 1) := by decide +kernel
theorem d_Ex_chain_128 : decode jEx_chain.cc 128 = .ok (.iadd, 1) := by decide +kernel
theorem d_Ex_chain_129 : decode jEx_chain.cc 129 = .ok (.iload_n 2, 1) := by decide +kernel
theorem d_Ex_chain_130 : decode jEx_chain.cc 130 = .ok (.invokevirtual 55, 3) := by decide +kernel
theorem d_Ex_chain_133 : decode jEx_chain.cc 133 = .ok (.istore 9, 2) := by decide +kernel
theorem d_Ex_chain_135 : decode jEx_chain.cc 135 = .ok (.iload 8, 2) := by decide +kernel
theorem d_Ex_chain_137 : decode jEx_chain.cc 137 = .ok (.ifCond .lt 15, 3) := by decide +kernel
theorem d_Ex_chain_140 : decode jEx_chain.cc 140 = .ok (.aload_n 0, 1) := by decide +kernel
theorem d_Ex_chain_141 : decode jEx_chain.cc 141 = .ok (.getfield 44, 3) := by decide +kernel
theorem d_Ex_chain_144 : decode jEx_chain.cc 144 = .ok (.iload 8, 2) := by decide +kernel
theorem d_Ex_chain_146 : decode jEx_chain.cc 146 = .ok (.invokevirtual 82, 3) := by decide +kernel
theorem d_Ex_chain_149 : decode jEx_chain.cc 149 = .ok (.goto 25, 3) := by decide +kernel
theorem d_Ex_chain_152 : decode jEx_chain.cc 152 = .ok (.aload_n 0, 1) := by decide +kernel
theorem d_Ex_chain_153 : decode jEx_chain.cc 153 = .ok (.getfield 44, 3) := by decide +kernel
theorem d_Ex_chain_156 : decode jEx_chain.cc 156 = .ok (.bipush 15, 2) := by decide +kernel
theorem d_Ex_chain_158 : decode jEx_chain.cc 158 = .ok (.iload 6, 2) := by decide +kernel
theorem d_Ex_chain_160 : decode jEx_chain.cc 160 = .ok (.aload_n 0, 1) := by decide +kernel
theorem d_Ex_chain_161 : decode jEx_chain.cc 161 = .ok (.getfield 25, 3) := by decide +kernel
theorem d_Ex_chain_164 : decode jEx_chain.cc 164 = .ok (.getfield 86, 3) := by decide +kernel
theorem d_Ex_chain_167 : decode jEx_chain.cc 167 = .ok (.iload 7, 2) := by decide +kernel
theorem d_Ex_chain_169 : decode jEx_chain.cc 169 = .ok (.iaload, 1) := by decide +kernel
theorem d_Ex_chain_170 : decode jEx_chain.cc 170 = .ok (.invokevirtual 78, 3) := by decide +kernel
theorem d_Ex_chain_173 : decode jEx_chain.cc 173 = .ok (.pop, 1) := by decide +kernel
theorem d_Ex_chain_174 : decode jEx_chain.cc 174 = .ok (.aload_n 0, 1) := by decide +kernel
theorem d_Ex_chain_175 : decode jEx_chain.cc 175 = .ok (.iload_n 1, 1) := by decide +kernel
theorem d_Ex_chain_176 : decode jEx_chain.cc 176 = .ok (.iload 6, 2) := by decide +kernel
theorem d_Ex_chain_178 : decode jEx_chain.cc 178 = .ok (.iload_n 3, 1) := by decide +kernel
theorem d_Ex_chain_179 : decode jEx_chain.cc 179 = .ok (.iload 9, 2) := by decide +kernel
theorem d_Ex_chain_181 : decode jEx_chain.cc 181 = .ok (.invokevirtual 89, 3) := by decide +kernel
theorem d_Ex_chain_184 : decode jEx_chain.cc 184 = .ok (.iinc 5 1, 3) := by decide +kernel
theorem d_Ex_chain_187 : decode jEx_chain.cc 187 = .ok (.goto (-148), 3) := by decide +kernel
theorem d_Ex_chain_190 : decode jEx_chain.cc 190 = .ok (.iload_n 3, 1) := by decide +kernel
theorem d_Ex_chain_191 : decode jEx_chain.cc 191 = .ok (.ireturn, 1) := by decide +kernel
set_option maxHeartbeats 4000000 in
theorem s_Ex_chain {g : Mg} {d : Nat} {K : Ou → Wd → Prop} {w : Wd} {p1 : Int} {p2 : Int} (h : (¬ p1 = 5 → (Cal g LC jEx_chain d [vA 26, vI (wr (p1 + 1)), vI p2] w (fun o w1 => rI o (fun x2 => V g LC jEx_chain (d + 1) K 21 [(0, vA 26), (1, vI p1), (2, vI p2)] [vI x2] w1)))) ∧ (p1 = 5 → (Cal g LC jEx_one d [vA 26, vI p2] w (fun o w3 => rI o (fun x4 => V g LC jEx_chain (d + 1) K 21 [(0, vA 26), (1, vI p1), (2, vI p2)] [vI x4] w3))))) : V g LC jEx_chain (d + 1) K 0 [(0, vA 26), (1, vI p1), (2, vI p2)] [] w := by
  refine v_iload_n (pc := 0) d_Ex_chain_0 rfl (.tail _ (.head _)) ?_
  refine v_iconst (pc := 1) d_Ex_chain_1 (by decide) ?_
  refine v_icmpne (pc := 2) (tgt := 13) d_Ex_chain_2 (by decide) (fun c => ?_) (fun c => ?_)
  · replace h := h.1 c
    refine v_aload_n (pc := 13) d_Ex_chain_13 rfl (.head _) ?_
    refine v_iload_n (pc := 14) d_Ex_chain_14 rfl (.tail _ (.head _)) ?_
    refine v_iconst (pc := 15) d_Ex_chain_15 (by decide) ?_
    refine v_iadd (pc := 16) d_Ex_chain_16 ?_
    refine v_iload_n (pc := 17) d_Ex_chain_17 rfl (.tail _ (.tail _ (.head _))) ?_
    refine v_callV (pc := 18) (J' := jEx_chain) (d' := d) (o := 26) (ci := 2) (N := 9) (T := cT2) (As := [vI (wr (p1 + 1)), vI p2]) d_Ex_chain_18 ml_Ex_55 cC_26.1 cC_26.2 (by decide) rfl rfl (Nat.le_of_ble_eq_true rfl) (Nat.le_refl _) rfl (Cal.weak h (fun o w1 h => ?_))
    rcases rI_of h with ⟨x2, rfl, h⟩
    exact v_sub (List.forall_mem_cons.mpr ⟨(.head _), (List.forall_mem_cons.mpr ⟨(.tail _ (.head _)), (List.forall_mem_cons.mpr ⟨(.tail _ (.tail _ (.head _))), (fun _ z => absurd z List.not_mem_nil)⟩)⟩)⟩) h
  · replace h := h.2 c
    refine v_aload_n (pc := 5) d_Ex_chain_5 rfl (.head _) ?_
    refine v_iload_n (pc := 6) d_Ex_chain_6 rfl (.tail _ (.tail _ (.head _))) ?_
    refine v_callV (pc := 7) (J' := jEx_one) (d' := d) (o := 26) (ci := 2) (N := 9) (T := cT2) (As := [vI p2]) d_Ex_chain_7 ml_Ex_62 cC_26.1 cC_26.2 (by decide) rfl rfl (Nat.le_of_ble_eq_true rfl) (Nat.le_refl _) rfl (Cal.weak h (fun o w3 h => ?_))
    rcases rI_of h with ⟨x4, rfl, h⟩
    refine v_goto (pc := 10) (tgt := 21) d_Ex_chain_10 (by decide) ?_
    exact v_sub (List.forall_mem_cons.mpr ⟨(.head _), (List.forall_mem_cons.mpr ⟨(.tail _ (.head _)), (List.forall_mem_cons.mpr ⟨(.tail _ (.tail _ (.head _))), (fun _ z => absurd z List.not_mem_nil)⟩)⟩)⟩) h
set_option maxHeartbeats 4000000 in
theorem s_Ex_chain_21 {g : Mg} {d : Nat} {K : Ou → Wd → Prop} {w : Wd} {x1_ : Int} {x2_ : Int} {s0_ : Int} (h : (¬ x1_ = 3 → (V g LC jEx_chain (d + 1) K 34 [(0, vA 26), (1, vI x1_), (2, vI x2_), (3, vI s0_)] [vI 1000] w)) ∧ (x1_ = 3 → (V g LC jEx_chain (d + 1) K 34 [(0, vA 26), (1, vI x1_), (2, vI x2_), (3, vI s0_)] [vI 1] w))) : V g LC jEx_chain (d + 1) K 21 [(0, vA 26), (1, vI x1_), (2, vI x2_)] [vI s0_] w := by
  refine v_istore_n (pc := 21) (ls' := [(3, vI s0_), (0, vA 26), (1, vI x1_), (2, vI x2_)]) d_Ex_chain_21 rfl (by decide) rfl ?_
  refine v_iload_n (pc := 22) d_Ex_chain_22 rfl (.tail _ (.tail _ (.head _))) ?_
  refine v_iconst (pc := 23) d_Ex_chain_23 (by decide) ?_
  refine v_icmpne (pc := 24) (tgt := 31) d_Ex_chain_24 (by decide) (fun c => ?_) (fun c => ?_)
  · replace h := h.1 c
    refine v_sipush (pc := 31) d_Ex_chain_31 (by decide) rfl ?_
    exact v_sub (List.forall_mem_cons.mpr ⟨(.tail _ (.head _)), (List.forall_mem_cons.mpr ⟨(.tail _ (.tail _ (.head _))), (List.forall_mem_cons.mpr ⟨(.tail _ (.tail _ (.tail _ (.head _)))), (List.forall_mem_cons.mpr ⟨(.head _), (fun _ z => absurd z List.not_mem_nil)⟩)⟩)⟩)⟩) h
  · replace h := h.2 c
    refine v_iconst (pc := 27) d_Ex_chain_27 (by decide) ?_
    refine v_goto (pc := 28) (tgt := 34) d_Ex_chain_28 (by decide) ?_
    exact v_sub (List.forall_mem_cons.mpr ⟨(.tail _ (.head _)), (List.forall_mem_cons.mpr ⟨(.tail _ (.tail _ (.head _))), (List.forall_mem_cons.mpr ⟨(.tail _ (.tail _ (.tail _ (.head _)))), (List.forall_mem_cons.mpr ⟨(.head _), (fun _ z => absurd z List.not_mem_nil)⟩)⟩)⟩)⟩) h
set_option maxHeartbeats 4000000 in
theorem s_Ex_chain_34 {g : Mg} {d : Nat} {K : Ou → Wd → Prop} {w : Wd} {x1_ : Int} {x2_ : Int} {x3_ : Int} {s0_ : Int} (h : V g LC jEx_chain (d + 1) K 39 [(0, vA 26), (1, vI x1_), (2, vI x2_), (3, vI x3_), (4, vI s0_), (5, vI 0)] [] w) : V g LC jEx_chain (d + 1) K 34 [(0, vA 26), (1, vI x1_), (2, vI x2_), (3, vI x3_)] [vI s0_] w := by
  refine v_istore (pc := 34) (ls' := [(4, vI s0_), (0, vA 26), (1, vI x1_), (2, vI x2_), (3, vI x3_)]) d_Ex_chain_34 (by decide) rfl ?_
  refine v_iconst (pc := 36) d_Ex_chain_36 (by decide) ?_
  refine v_istore (pc := 37) (ls' := [(5, vI 0), (4, vI s0_), (0, vA 26), (1, vI x1_), (2, vI x2_), (3, vI x3_)]) d_Ex_chain_37 (by decide) rfl ?_
  exact v_sub (List.forall_mem_cons.mpr ⟨(.tail _ (.tail _ (.head _))), (List.forall_mem_cons.mpr ⟨(.tail _ (.tail _ (.tail _ (.head _)))), (List.forall_mem_cons.mpr ⟨(.tail _ (.tail _ (.tail _ (.tail _ (.head _))))), (List.forall_mem_cons.mpr ⟨(.tail _ (.tail _ (.tail _ (.tail _ (.tail _ (.head _)))))), (List.forall_mem_cons.mpr ⟨(.tail _ (.head _)), (List.forall_mem_cons.mpr ⟨(.head _), (fun _ z => absurd z List.not_mem_nil)⟩)⟩)⟩)⟩)⟩)⟩) h
set_option maxHeartbeats 4000000 in
theorem s_Ex_chain_39 {g : Mg} {d : Nat} {K : Ou → Wd → Prop} {w : Wd} {x1_ : Int} {x2_ : Int} {x3_ : Int} {x4_ : Int} {x5_ : Int} (h : (x4_ ≤ x5_ → (V g LC jEx_chain (d + 1) K 190 [(3, vI x3_)] [] w)) ∧ (¬ x4_ ≤ x5_ → (Cal g LC jCu_kind d [vA 25] w (fun o w1 => rI o (fun x2 => Cal g LC jEx_lineOf d [vI x2] w1 (fun o w3 => rI o (fun x4 => (¬ x4 = x1_ → (V g LC jEx_chain (d + 1) K 190 [(3, vI x3_)] [] w3)) ∧ (x4 = x1_ → (Cal g LC jCu_kind d [vA 25] w3 (fun o w5 => rI o (fun x6 => Cal g LC jCu_take d [vA 25, vI x6] w5 (fun o w7 => rI o (fun x8 => (2 < x1_ → (V g LC jEx_chain (d + 1) K 110 [(0, vA 26), (1, vI x1_), (2, vI x2_), (3, vI x3_), (4, vI x4_), (5, vI x5_), (6, vI x6), (7, vI x8)] [vI (-1)] w7)) ∧ (¬ 2 < x1_ → ((¬ x1_ = 2 → (V g LC jEx_chain (d + 1) K 101 [(0, vA 26), (1, vI x1_), (2, vI x2_), (3, vI x3_), (4, vI x4_), (5, vI x5_), (6, vI x6), (7, vI x8)] [vI 17, vA 19] w7)) ∧ (x1_ = 2 → (V g LC jEx_chain (d + 1) K 101 [(0, vA 26), (1, vI x1_), (2, vI x2_), (3, vI x3_), (4, vI x4_), (5, vI x5_), (6, vI x6), (7, vI x8)] [vI 16, vA 19] w7))))))))))))))))) : V g LC jEx_chain (d + 1) K 39 [(0, vA 26), (1, vI x1_), (2, vI x2_), (3, vI x3_), (4, vI x4_), (5, vI x5_)] [] w := by
  refine v_iload (pc := 39) d_Ex_chain_39 (.tail _ (.tail _ (.tail _ (.tail _ (.tail _ (.head _)))))) ?_
  refine v_iload (pc := 41) d_Ex_chain_41 (.tail _ (.tail _ (.tail _ (.tail _ (.head _))))) ?_
  refine v_icmpge (pc := 43) (tgt := 190) d_Ex_chain_43 (by decide) (fun c => ?_) (fun c => ?_)
  · replace h := h.1 c
    exact v_sub (List.forall_mem_cons.mpr ⟨(.tail _ (.tail _ (.tail _ (.head _)))), (fun _ z => absurd z List.not_mem_nil)⟩) h
  · replace h := h.2 c
    refine v_aload_n (pc := 46) d_Ex_chain_46 rfl (.head _) ?_
    refine v_getr (C := "") (pc := 47) (r := 25) d_Ex_chain_47 fl_Ex_29 cC_26.1 cC_26.2 (Or.inl ⟨_, rfl⟩) rC_26_1 ?_
    refine v_callV (pc := 50) (J' := jCu_kind) (d' := d) (o := 25) (ci := 1) (N := 6) (T := cT1) (As := []) d_Ex_chain_50 ml_Ex_66 cC_25.1 cC_25.2 (by decide) rfl rfl (Nat.le_of_ble_eq_true rfl) (Nat.le_refl _) rfl (Cal.weak h (fun o w1 h => ?_))
    rcases rI_of h with ⟨x2, rfl, h⟩
    refine v_callS (pc := 53) (J' := jEx_lineOf) (d' := d) (As := [vI x2]) d_Ex_chain_53 ml_Ex_70 rfl (Nat.le_of_ble_eq_true rfl) (Nat.le_refl _) rfl (Cal.weak h (fun o w3 h => ?_))
    rcases rI_of h with ⟨x4, rfl, h⟩
    refine v_iload_n (pc := 56) d_Ex_chain_56 rfl (.tail _ (.head _)) ?_
    refine v_icmpne (pc := 57) (tgt := 190) d_Ex_chain_57 (by decide) (fun c => ?_) (fun c => ?_)
    · replace h := h.1 c
      exact v_sub (List.forall_mem_cons.mpr ⟨(.tail _ (.tail _ (.tail _ (.head _)))), (fun _ z => absurd z List.not_mem_nil)⟩) h
    · replace h := h.2 c
      refine v_aload_n (pc := 60) d_Ex_chain_60 rfl (.head _) ?_
      refine v_getr (C := "") (pc := 61) (r := 25) d_Ex_chain_61 fl_Ex_29 cC_26.1 cC_26.2 (Or.inl ⟨_, rfl⟩) rC_26_1 ?_
      refine v_callV (pc := 64) (J' := jCu_kind) (d' := d) (o := 25) (ci := 1) (N := 6) (T := cT1) (As := []) d_Ex_chain_64 ml_Ex_66 cC_25.1 cC_25.2 (by decide) rfl rfl (Nat.le_of_ble_eq_true rfl) (Nat.le_refl _) rfl (Cal.weak h (fun o w5 h => ?_))
      rcases rI_of h with ⟨x6, rfl, h⟩
      refine v_istore (pc := 67) (ls' := [(6, vI x6), (0, vA 26), (1, vI x1_), (2, vI x2_), (3, vI x3_), (4, vI x4_), (5, vI x5_)]) d_Ex_chain_67 (by decide) rfl ?_
      refine v_aload_n (pc := 69) d_Ex_chain_69 rfl (.tail _ (.head _)) ?_
      refine v_getr (C := "") (pc := 70) (r := 25) d_Ex_chain_70 fl_Ex_29 cC_26.1 cC_26.2 (Or.inl ⟨_, rfl⟩) rC_26_1 ?_
      refine v_iload (pc := 73) d_Ex_chain_73 (.head _) ?_
      refine v_callV (pc := 75) (J' := jCu_take) (d' := d) (o := 25) (ci := 1) (N := 6) (T := cT1) (As := [vI x6]) d_Ex_chain_75 ml_Ex_73 cC_25.1 cC_25.2 (by decide) rfl rfl (Nat.le_of_ble_eq_true rfl) (Nat.le_refl _) rfl (Cal.weak h (fun o w7 h => ?_))
      rcases rI_of h with ⟨x8, rfl, h⟩
      refine v_istore (pc := 78) (ls' := [(7, vI x8), (6, vI x6), (0, vA 26), (1, vI x1_), (2, vI x2_), (3, vI x3_), (4, vI x4_), (5, vI x5_)]) d_Ex_chain_78 (by decide) rfl ?_
      refine v_iload_n (pc := 80) d_Ex_chain_80 rfl (.tail _ (.tail _ (.tail _ (.head _)))) ?_
      refine v_iconst (pc := 81) d_Ex_chain_81 (by decide) ?_
      refine v_icmpgt (pc := 82) (tgt := 109) d_Ex_chain_82 (by decide) (fun c => ?_) (fun c => ?_)
      · replace h := h.1 c
        refine v_iconst (pc := 109) d_Ex_chain_109 (by decide) ?_
        exact v_sub (List.forall_mem_cons.mpr ⟨(.tail _ (.tail _ (.head _))), (List.forall_mem_cons.mpr ⟨(.tail _ (.tail _ (.tail _ (.head _)))), (List.forall_mem_cons.mpr ⟨(.tail _ (.tail _ (.tail _ (.tail _ (.head _))))), (List.forall_mem_cons.mpr ⟨(.tail _ (.tail _ (.tail _ (.tail _ (.tail _ (.head _)))))), (List.forall_mem_cons.mpr ⟨(.tail _ (.tail _ (.tail _ (.tail _ (.tail _ (.tail _ (.head _))))))), (List.forall_mem_cons.mpr ⟨(.tail _ (.tail _ (.tail _ (.tail _ (.tail _ (.tail _ (.tail _ (.head _)))))))), (List.forall_mem_cons.mpr ⟨(.tail _ (.head _)), (List.forall_mem_cons.mpr ⟨(.head _), (fun _ z => absurd z List.not_mem_nil)⟩)⟩)⟩)⟩)⟩)⟩)⟩)⟩) h
      · replace h := h.2 c
        refine v_aload_n (pc := 85) d_Ex_chain_85 rfl (.tail _ (.tail _ (.head _))) ?_
        refine v_getr (C := "") (pc := 86) (r := 19) d_Ex_chain_86 fl_Ex_44 cC_26.1 cC_26.2 (Or.inl ⟨_, rfl⟩) rC_26_3 ?_
        refine v_iload_n (pc := 89) d_Ex_chain_89 rfl (.tail _ (.tail _ (.tail _ (.head _)))) ?_
        refine v_iconst (pc := 90) d_Ex_chain_90 (by decide) ?_
        refine v_icmpne (pc := 91) (tgt := 99) d_Ex_chain_91 (by decide) (fun c => ?_) (fun c => ?_)
        · replace h := h.1 c
          refine v_bipush (pc := 99) d_Ex_chain_99 (by decide) rfl ?_
          exact v_sub (List.forall_mem_cons.mpr ⟨(.tail _ (.tail _ (.head _))), (List.forall_mem_cons.mpr ⟨(.tail _ (.tail _ (.tail _ (.head _)))), (List.forall_mem_cons.mpr ⟨(.tail _ (.tail _ (.tail _ (.tail _ (.head _))))), (List.forall_mem_cons.mpr ⟨(.tail _ (.tail _ (.tail _ (.tail _ (.tail _ (.head _)))))), (List.forall_mem_cons.mpr ⟨(.tail _ (.tail _ (.tail _ (.tail _ (.tail _ (.tail _ (.head _))))))), (List.forall_mem_cons.mpr ⟨(.tail _ (.tail _ (.tail _ (.tail _ (.tail _ (.tail _ (.tail _ (.head _)))))))), (List.forall_mem_cons.mpr ⟨(.tail _ (.head _)), (List.forall_mem_cons.mpr ⟨(.head _), (fun _ z => absurd z List.not_mem_nil)⟩)⟩)⟩)⟩)⟩)⟩)⟩)⟩) h
        · replace h := h.2 c
          refine v_bipush (pc := 94) d_Ex_chain_94 (by decide) rfl ?_
          refine v_goto (pc := 96) (tgt := 101) d_Ex_chain_96 (by decide) ?_
          exact v_sub (List.forall_mem_cons.mpr ⟨(.tail _ (.tail _ (.head _))), (List.forall_mem_cons.mpr ⟨(.tail _ (.tail _ (.tail _ (.head _)))), (List.forall_mem_cons.mpr ⟨(.tail _ (.tail _ (.tail _ (.tail _ (.head _))))), (List.forall_mem_cons.mpr ⟨(.tail _ (.tail _ (.tail _ (.tail _ (.tail _ (.head _)))))), (List.forall_mem_cons.mpr ⟨(.tail _ (.tail _ (.tail _ (.tail _ (.tail _ (.tail _ (.head _))))))), (List.forall_mem_cons.mpr ⟨(.tail _ (.tail _ (.tail _ (.tail _ (.tail _ (.tail _ (.tail _ (.head _)))))))), (List.forall_mem_cons.mpr ⟨(.tail _ (.head _)), (List.forall_mem_cons.mpr ⟨(.head _), (fun _ z => absurd z List.not_mem_nil)⟩)⟩)⟩)⟩)⟩)⟩)⟩)⟩) h
set_option maxHeartbeats 4000000 in
theorem s_Ex_chain_190 {g : Mg} {d : Nat} {K : Ou → Wd → Prop} {w : Wd} {x3_ : Int} (h : K (.inl (some (vI x3_))) w) : V g LC jEx_chain (d + 1) K 190 [(3, vI x3_)] [] w := by
  refine v_iload_n (pc := 190) d_Ex_chain_190 rfl (.head _) ?_
  exact v_iret (pc := 191) d_Ex_chain_191 rfl h
set_option maxHeartbeats 4000000 in
theorem s_Ex_chain_110 {g : Mg} {d : Nat} {K : Ou → Wd → Prop} {w : Wd} {x1_ : Int} {x2_ : Int} {x3_ : Int} {x4_ : Int} {x5_ : Int} {x6_ : Int} {x7_ : Int} {s0_ : Int} (h : (¬ x1_ = 5 → (Cal g LC jEx_chain d [vA 26, vI (wr (x1_ + 1)), vI x2_] w (fun o w1 => rI o (fun x2 => V g LC jEx_chain (d + 1) K 133 [(0, vA 26), (1, vI x1_), (2, vI x2_), (3, vI x3_), (4, vI x4_), (5, vI x5_), (6, vI x6_), (7, vI x7_), (8, vI s0_)] [vI x2] w1)))) ∧ (x1_ = 5 → (Cal g LC jEx_one d [vA 26, vI x2_] w (fun o w3 => rI o (fun x4 => V g LC jEx_chain (d + 1) K 133 [(0, vA 26), (1, vI x1_), (2, vI x2_), (3, vI x3_), (4, vI x4_), (5, vI x5_), (6, vI x6_), (7, vI x7_), (8, vI s0_)] [vI x4] w3))))) : V g LC jEx_chain (d + 1) K 110 [(0, vA 26), (1, vI x1_), (2, vI x2_), (3, vI x3_), (4, vI x4_), (5, vI x5_), (6, vI x6_), (7, vI x7_)] [vI s0_] w := by
  refine v_istore (pc := 110) (ls' := [(8, vI s0_), (0, vA 26), (1, vI x1_), (2, vI x2_), (3, vI x3_), (4, vI x4_), (5, vI x5_), (6, vI x6_), (7, vI x7_)]) d_Ex_chain_110 (by decide) rfl ?_
  refine v_iload_n (pc := 112) d_Ex_chain_112 rfl (.tail _ (.tail _ (.head _))) ?_
  refine v_iconst (pc := 113) d_Ex_chain_113 (by decide) ?_
  refine v_icmpne (pc := 114) (tgt := 125) d_Ex_chain_114 (by decide) (fun c => ?_) (fun c => ?_)
  · replace h := h.1 c
    refine v_aload_n (pc := 125) d_Ex_chain_125 rfl (.tail _ (.head _)) ?_
    refine v_iload_n (pc := 126) d_Ex_chain_126 rfl (.tail _ (.tail _ (.head _))) ?_
    refine v_iconst (pc := 127) d_Ex_chain_127 (by decide) ?_
    refine v_iadd (pc := 128) d_Ex_chain_128 ?_
    refine v_iload_n (pc := 129) d_Ex_chain_129 rfl (.tail _ (.tail _ (.tail _ (.head _)))) ?_
    refine v_callV (pc := 130) (J' := jEx_chain) (d' := d) (o := 26) (ci := 2) (N := 9) (T := cT2) (As := [vI (wr (x1_ + 1)), vI x2_]) d_Ex_chain_130 ml_Ex_55 cC_26.1 cC_26.2 (by decide) rfl rfl (Nat.le_of_ble_eq_true rfl) (Nat.le_refl _) rfl (Cal.weak h (fun o w1 h => ?_))
    rcases rI_of h with ⟨x2, rfl, h⟩
    exact v_sub (List.forall_mem_cons.mpr ⟨(.tail _ (.head _)), (List.forall_mem_cons.mpr ⟨(.tail _ (.tail _ (.head _))), (List.forall_mem_cons.mpr ⟨(.tail _ (.tail _ (.tail _ (.head _)))), (List.forall_mem_cons.mpr ⟨(.tail _ (.tail _ (.tail _ (.tail _ (.head _))))), (List.forall_mem_cons.mpr ⟨(.tail _ (.tail _ (.tail _ (.tail _ (.tail _ (.head _)))))), (List.forall_mem_cons.mpr ⟨(.tail _ (.tail _ (.tail _ (.tail _ (.tail _ (.tail _ (.head _))))))), (List.forall_mem_cons.mpr ⟨(.tail _ (.tail _ (.tail _ (.tail _ (.tail _ (.tail _ (.tail _ (.head _)))))))), (List.forall_mem_cons.mpr ⟨(.tail _ (.tail _ (.tail _ (.tail _ (.tail _ (.tail _ (.tail _ (.tail _ (.head _))))))))), (List.forall_mem_cons.mpr ⟨(.head _), (fun _ z => absurd z List.not_mem_nil)⟩)⟩)⟩)⟩)⟩)⟩)⟩)⟩)⟩) h
  · replace h := h.2 c
    refine v_aload_n (pc := 117) d_Ex_chain_117 rfl (.tail _ (.head _)) ?_
    refine v_iload_n (pc := 118) d_Ex_chain_118 rfl (.tail _ (.tail _ (.tail _ (.head _)))) ?_
    refine v_callV (pc := 119) (J' := jEx_one) (d' := d) (o := 26) (ci := 2) (N := 9) (T := cT2) (As := [vI x2_]) d_Ex_chain_119 ml_Ex_62 cC_26.1 cC_26.2 (by decide) rfl rfl (Nat.le_of_ble_eq_true rfl) (Nat.le_refl _) rfl (Cal.weak h (fun o w3 h => ?_))
    rcases rI_of h with ⟨x4, rfl, h⟩
    refine v_goto (pc := 122) (tgt := 133) d_Ex_chain_122 (by decide) ?_
    exact v_sub (List.forall_mem_cons.mpr ⟨(.tail _ (.head _)), (List.forall_mem_cons.mpr ⟨(.tail _ (.tail _ (.head _))), (List.forall_mem_cons.mpr ⟨(.tail _ (.tail _ (.tail _ (.head _)))), (List.forall_mem_cons.mpr ⟨(.tail _ (.tail _ (.tail _ (.tail _ (.head _))))), (List.forall_mem_cons.mpr ⟨(.tail _ (.tail _ (.tail _ (.tail _ (.tail _ (.head _)))))), (List.forall_mem_cons.mpr ⟨(.tail _ (.tail _ (.tail _ (.tail _ (.tail _ (.tail _ (.head _))))))), (List.forall_mem_cons.mpr ⟨(.tail _ (.tail _ (.tail _ (.tail _ (.tail _ (.tail _ (.tail _ (.head _)))))))), (List.forall_mem_cons.mpr ⟨(.tail _ (.tail _ (.tail _ (.tail _ (.tail _ (.tail _ (.tail _ (.tail _ (.head _))))))))), (List.forall_mem_cons.mpr ⟨(.head _), (fun _ z => absurd z List.not_mem_nil)⟩)⟩)⟩)⟩)⟩)⟩)⟩)⟩)⟩) h
set_option maxHeartbeats 4000000 in
theorem s_Ex_chain_101 {g : Mg} {d : Nat} {K : Ou → Wd → Prop} {w : Wd} {x1_ : Int} {x2_ : Int} {x3_ : Int} {x4_ : Int} {x5_ : Int} {x6_ : Int} {x7_ : Int} {s1_ : Int} (h : Cal g LC jCo_add d [vA 19, vI s1_, vI 0, vI 0] w (fun o w1 => rI o (fun x2 => V g LC jEx_chain (d + 1) K 110 [(0, vA 26), (1, vI x1_), (2, vI x2_), (3, vI x3_), (4, vI x4_), (5, vI x5_), (6, vI x6_), (7, vI x7_)] [vI x2] w1))) : V g LC jEx_chain (d + 1) K 101 [(0, vA 26), (1, vI x1_), (2, vI x2_), (3, vI x3_), (4, vI x4_), (5, vI x5_), (6, vI x6_), (7, vI x7_)] [vI s1_, vA 19] w := by
  refine v_iconst (pc := 101) d_Ex_chain_101 (by decide) ?_
  refine v_iconst (pc := 102) d_Ex_chain_102 (by decide) ?_
  refine v_callV (pc := 103) (J' := jCo_add) (d' := d) (o := 19) (ci := 0) (N := 6) (T := cT0) (As := [vI s1_, vI 0, vI 0]) d_Ex_chain_103 ml_Ex_78 cC_19.1 cC_19.2 (by decide) rfl rfl (Nat.le_of_ble_eq_true rfl) (Nat.le_refl _) rfl (Cal.weak h (fun o w1 h => ?_))
  rcases rI_of h with ⟨x2, rfl, h⟩
  refine v_goto (pc := 106) (tgt := 110) d_Ex_chain_106 (by decide) ?_
  exact v_sub (List.forall_mem_cons.mpr ⟨(.head _), (List.forall_mem_cons.mpr ⟨(.tail _ (.head _)), (List.forall_mem_cons.mpr ⟨(.tail _ (.tail _ (.head _))), (List.forall_mem_cons.mpr ⟨(.tail _ (.tail _ (.tail _ (.head _)))), (List.forall_mem_cons.mpr ⟨(.tail _ (.tail _ (.tail _ (.tail _ (.head _))))), (List.forall_mem_cons.mpr ⟨(.tail _ (.tail _ (.tail _ (.tail _ (.tail _ (.head _)))))), (List.forall_mem_cons.mpr ⟨(.tail _ (.tail _ (.tail _ (.tail _ (.tail _ (.tail _ (.head _))))))), (List.forall_mem_cons.mpr ⟨(.tail _ (.tail _ (.tail _ (.tail _ (.tail _ (.tail _ (.tail _ (.head _)))))))), (fun _ z => absurd z List.not_mem_nil)⟩)⟩)⟩)⟩)⟩)⟩)⟩)⟩) h
set_option maxHeartbeats 4000000 in
theorem s_Ex_chain_133 {g : Mg} {d : Nat} {K : Ou → Wd → Prop} {w : Wd} {x1_ : Int} {x2_ : Int} {x3_ : Int} {x4_ : Int} {x5_ : Int} {x6_ : Int} {x7_ : Int} {x8_ : Int} {s0_ : Int} (h : (x8_ < 0 → ((0 ≤ x7_ ∧ x7_ < 1002) ∧ (Cal g LC jCo_add d [vA 19, vI 15, vI x6_, vI (w 5 x7_.toNat)] w (fun o w1 => rI o (fun x2 => V g LC jEx_chain (d + 1) K 174 [(0, vA 26), (1, vI x1_), (2, vI x2_), (3, vI x3_), (4, vI x4_), (5, vI x5_), (6, vI x6_), (9, vI s0_)] [] w1))))) ∧ (¬ x8_ < 0 → (Cal g LC jCo_aimHere d [vA 19, vI x8_] w (fun o w3 => rV o (V g LC jEx_chain (d + 1) K 174 [(0, vA 26), (1, vI x1_), (2, vI x2_), (3, vI x3_), (4, vI x4_), (5, vI x5_), (6, vI x6_), (9, vI s0_)] [] w3))))) : V g LC jEx_chain (d + 1) K 133 [(0, vA 26), (1, vI x1_), (2, vI x2_), (3, vI x3_), (4, vI x4_), (5, vI x5_), (6, vI x6_), (7, vI x7_), (8, vI x8_)] [vI s0_] w := by
  refine v_istore (pc := 133) (ls' := [(9, vI s0_), (0, vA 26), (1, vI x1_), (2, vI x2_), (3, vI x3_), (4, vI x4_), (5, vI x5_), (6, vI x6_), (7, vI x7_), (8, vI x8_)]) d_Ex_chain_133 (by decide) rfl ?_
  refine v_iload (pc := 135) d_Ex_chain_135 (.tail _ (.tail _ (.tail _ (.tail _ (.tail _ (.tail _ (.tail _ (.tail _ (.tail _ (.head _)))))))))) ?_
  refine v_iflt (pc := 137) (tgt := 152) d_Ex_chain_137 (by decide) (fun c => ?_) (fun c => ?_)
  · replace h := h.1 c
    refine v_aload_n (pc := 152) d_Ex_chain_152 rfl (.tail _ (.head _)) ?_
    refine v_getr (C := "") (pc := 153) (r := 19) d_Ex_chain_153 fl_Ex_44 cC_26.1 cC_26.2 (Or.inl ⟨_, rfl⟩) rC_26_3 ?_
    refine v_bipush (pc := 156) d_Ex_chain_156 (by decide) rfl ?_
    refine v_iload (pc := 158) d_Ex_chain_158 (.tail _ (.tail _ (.tail _ (.tail _ (.tail _ (.tail _ (.tail _ (.head _)))))))) ?_
    refine v_aload_n (pc := 160) d_Ex_chain_160 rfl (.tail _ (.head _)) ?_
    refine v_getr (C := "") (pc := 161) (r := 2) d_Ex_chain_161 fl_Ex_25 cC_26.1 cC_26.2 (Or.inl ⟨_, rfl⟩) rC_26_0 ?_
    refine v_getr (C := "") (pc := 164) (r := 5) d_Ex_chain_164 fl_Ex_86 cC_2.1 cC_2.2 (Or.inr ⟨_, rfl⟩) rC_2_3 ?_
    refine v_iload (pc := 167) d_Ex_chain_167 (.tail _ (.tail _ (.tail _ (.tail _ (.tail _ (.tail _ (.tail _ (.tail _ (.head _))))))))) ?_
    refine v_iald (pc := 169) (x := (w 5 x7_.toNat)) d_Ex_chain_169 cC_5.1 cC_5.2 rfl h.1 ?_
    replace h := h.2
    refine v_callV (pc := 170) (J' := jCo_add) (d' := d) (o := 19) (ci := 0) (N := 6) (T := cT0) (As := [vI 15, vI x6_, vI (w 5 x7_.toNat)]) d_Ex_chain_170 ml_Ex_78 cC_19.1 cC_19.2 (by decide) rfl rfl (Nat.le_of_ble_eq_true rfl) (Nat.le_refl _) rfl (Cal.weak h (fun o w1 h => ?_))
    rcases rI_of h with ⟨x2, rfl, h⟩
    refine v_pop (pc := 173) d_Ex_chain_173 rfl ?_
    exact v_sub (List.forall_mem_cons.mpr ⟨(.tail _ (.head _)), (List.forall_mem_cons.mpr ⟨(.tail _ (.tail _ (.head _))), (List.forall_mem_cons.mpr ⟨(.tail _ (.tail _ (.tail _ (.head _)))), (List.forall_mem_cons.mpr ⟨(.tail _ (.tail _ (.tail _ (.tail _ (.head _))))), (List.forall_mem_cons.mpr ⟨(.tail _ (.tail _ (.tail _ (.tail _ (.tail _ (.head _)))))), (List.forall_mem_cons.mpr ⟨(.tail _ (.tail _ (.tail _ (.tail _ (.tail _ (.tail _ (.head _))))))), (List.forall_mem_cons.mpr ⟨(.tail _ (.tail _ (.tail _ (.tail _ (.tail _ (.tail _ (.tail _ (.head _)))))))), (List.forall_mem_cons.mpr ⟨(.head _), (fun _ z => absurd z List.not_mem_nil)⟩)⟩)⟩)⟩)⟩)⟩)⟩)⟩) h
  · replace h := h.2 c
    refine v_aload_n (pc := 140) d_Ex_chain_140 rfl (.tail _ (.head _)) ?_
    refine v_getr (C := "") (pc := 141) (r := 19) d_Ex_chain_141 fl_Ex_44 cC_26.1 cC_26.2 (Or.inl ⟨_, rfl⟩) rC_26_3 ?_
    refine v_iload (pc := 144) d_Ex_chain_144 (.tail _ (.tail _ (.tail _ (.tail _ (.tail _ (.tail _ (.tail _ (.tail _ (.tail _ (.head _)))))))))) ?_
    refine v_callV (pc := 146) (J' := jCo_aimHere) (d' := d) (o := 19) (ci := 0) (N := 6) (T := cT0) (As := [vI x8_]) d_Ex_chain_146 ml_Ex_82 cC_19.1 cC_19.2 (by decide) rfl rfl (Nat.le_of_ble_eq_true rfl) (Nat.le_refl _) rfl (Cal.weak h (fun o w3 h => ?_))
    rcases rV_of h with ⟨rfl, h⟩
    refine v_goto (pc := 149) (tgt := 174) d_Ex_chain_149 (by decide) ?_
    exact v_sub (List.forall_mem_cons.mpr ⟨(.tail _ (.head _)), (List.forall_mem_cons.mpr ⟨(.tail _ (.tail _ (.head _))), (List.forall_mem_cons.mpr ⟨(.tail _ (.tail _ (.tail _ (.head _)))), (List.forall_mem_cons.mpr ⟨(.tail _ (.tail _ (.tail _ (.tail _ (.head _))))), (List.forall_mem_cons.mpr ⟨(.tail _ (.tail _ (.tail _ (.tail _ (.tail _ (.head _)))))), (List.forall_mem_cons.mpr ⟨(.tail _ (.tail _ (.tail _ (.tail _ (.tail _ (.tail _ (.head _))))))), (List.forall_mem_cons.mpr ⟨(.tail _ (.tail _ (.tail _ (.tail _ (.tail _ (.tail _ (.tail _ (.head _)))))))), (List.forall_mem_cons.mpr ⟨(.head _), (fun _ z => absurd z List.not_mem_nil)⟩)⟩)⟩)⟩)⟩)⟩)⟩)⟩) h
set_option maxHeartbeats 4000000 in
theorem s_Ex_chain_174 {g : Mg} {d : Nat} {K : Ou → Wd → Prop} {w : Wd} {x1_ : Int} {x2_ : Int} {x3_ : Int} {x4_ : Int} {x5_ : Int} {x6_ : Int} {x9_ : Int} (h : Cal g LC jEx_join d [vA 26, vI x1_, vI x6_, vI x3_, vI x9_] w (fun o w1 => rV o (V g LC jEx_chain (d + 1) K 39 [(0, vA 26), (1, vI x1_), (2, vI x2_), (3, vI x3_), (4, vI x4_), (5, vI (wr (x5_ + 1)))] [] w1))) : V g LC jEx_chain (d + 1) K 174 [(0, vA 26), (1, vI x1_), (2, vI x2_), (3, vI x3_), (4, vI x4_), (5, vI x5_), (6, vI x6_), (9, vI x9_)] [] w := by
  refine v_aload_n (pc := 174) d_Ex_chain_174 rfl (.head _) ?_
  refine v_iload_n (pc := 175) d_Ex_chain_175 rfl (.tail _ (.head _)) ?_
  refine v_iload (pc := 176) d_Ex_chain_176 (.tail _ (.tail _ (.tail _ (.tail _ (.tail _ (.tail _ (.head _))))))) ?_
  refine v_iload_n (pc := 178) d_Ex_chain_178 rfl (.tail _ (.tail _ (.tail _ (.head _)))) ?_
  refine v_iload (pc := 179) d_Ex_chain_179 (.tail _ (.tail _ (.tail _ (.tail _ (.tail _ (.tail _ (.tail _ (.head _)))))))) ?_
  refine v_callV (pc := 181) (J' := jEx_join) (d' := d) (o := 26) (ci := 2) (N := 9) (T := cT2) (As := [vI x1_, vI x6_, vI x3_, vI x9_]) d_Ex_chain_181 ml_Ex_89 cC_26.1 cC_26.2 (by decide) rfl rfl (Nat.le_of_ble_eq_true rfl) (Nat.le_refl _) rfl (Cal.weak h (fun o w1 h => ?_))
  rcases rV_of h with ⟨rfl, h⟩
  refine v_iinc (pc := 184) (ls' := [(5, vI (wr (x5_ + 1))), (0, vA 26), (1, vI x1_), (2, vI x2_), (3, vI x3_), (4, vI x4_), (6, vI x6_), (9, vI x9_)]) d_Ex_chain_184 (.tail _ (.tail _ (.tail _ (.tail _ (.tail _ (.head _)))))) (by decide) rfl ?_
  refine v_goto (pc := 187) (tgt := 39) d_Ex_chain_187 (by decide) ?_
  exact v_sub (List.forall_mem_cons.mpr ⟨(.tail _ (.head _)), (List.forall_mem_cons.mpr ⟨(.tail _ (.tail _ (.head _))), (List.forall_mem_cons.mpr ⟨(.tail _ (.tail _ (.tail _ (.head _)))), (List.forall_mem_cons.mpr ⟨(.tail _ (.tail _ (.tail _ (.tail _ (.head _))))), (List.forall_mem_cons.mpr ⟨(.tail _ (.tail _ (.tail _ (.tail _ (.tail _ (.head _)))))), (List.forall_mem_cons.mpr ⟨(.head _), (fun _ z => absurd z List.not_mem_nil)⟩)⟩)⟩)⟩)⟩)⟩) h
theorem d_Ex_join_0 : decode jEx_join.cc 0 = .ok (.iload_n 2, 1) := by decide +kernel
theorem d_Ex_join_1 : decode jEx_join.cc 1 = .ok (.bipush 21, 2) := by decide +kernel
theorem d_Ex_join_3 : decode jEx_join.cc 3 = .ok (.if_icmp .eq 9, 3) := by decide +kernel
theorem d_Ex_join_6 : decode jEx_join.cc 6 = .ok (.iload_n 2, 1) := by decide +kernel
theorem d_Ex_join_7 : decode jEx_join.cc 7 = .ok (.bipush 22, 2) := by decide +kernel
theorem d_Ex_join_9 : decode jEx_join.cc 9 = .ok (.if_icmp .ne 18, 3) := by decide +kernel
theorem d_Ex_join_12 : decode jEx_join.cc 12 = .ok (.aload_n 0, 1) := by decide +kernel
theorem d_Ex_join_13 : decode jEx_join.cc 13 = .ok (.iload 4, 2) := by decide +kernel
theorem d_Ex_join_15 : decode jEx_join.cc 15 = .ok (.aload_n 0, 1) := by decide +kernel
theorem d_Ex_join_16 : decode jEx_join.cc 16 = .ok (.getfield 9, 3) := by decide +kernel
theorem d_Ex_join_19 : decode jEx_join.cc 19 = .ok (.iload_n 3, 1) := by decide +kernel
theorem d_Ex_join_20 : decode jEx_join.cc 20 = .ok (.iaload, 1) := by decide +kernel
theorem d_Ex_join_21 : decode jEx_join.cc 21 = .ok (.invokevirtual 93, 3) := by decide +kernel
theorem d_Ex_join_24 : decode jEx_join.cc 24 = .ok (.goto 30, 3) := by decide +kernel
theorem d_Ex_join_27 : decode jEx_join.cc 27 = .ok (.iload_n 1, 1) := by decide +kernel
theorem d_Ex_join_28 : decode jEx_join.cc 28 = .ok (.iconst 2, 1) := by decide +kernel
theorem d_Ex_join_29 : decode jEx_join.cc 29 = .ok (.if_icmp .gt 7, 3) := by decide +kernel
theorem d_Ex_join_32 : decode jEx_join.cc 32 = .ok (.iconst 2, 1) := by decide +kernel
theorem d_Ex_join_33 : decode jEx_join.cc 33 = .ok (.goto 4, 3) := by decide +kernel
theorem d_Ex_join_36 : decode jEx_join.cc 36 = .ok (.iconst 1, 1) := by decide +kernel
theorem d_Ex_join_37 : decode jEx_join.cc 37 = .ok (.istore 5, 2) := by decide +kernel
theorem d_Ex_join_39 : decode jEx_join.cc 39 = .ok (.aload_n 0, 1) := by decide +kernel
theorem d_Ex_join_40 : decode jEx_join.cc 40 = .ok (.iload_n 3, 1) := by decide +kernel
theorem d_Ex_join_41 : decode jEx_join.cc 41 = .ok (.iload 5, 2) := by decide +kernel
theorem d_Ex_join_43 : decode jEx_join.cc 43 = .ok (.invokevirtual 93, 3) := by decide +kernel
theorem d_Ex_join_46 : decode jEx_join.cc 46 = .ok (.aload_n 0, 1) := by decide +kernel
theorem d_Ex_join_47 : decode jEx_join.cc 47 = .ok (.iload 4, 2) := by decide +kernel
theorem d_Ex_join_49 : decode jEx_join.cc 49 = .ok (.iload 5, 2) := by decide +kernel
theorem d_Ex_join_51 : decode jEx_join.cc 51 = .ok (.invokevirtual 93, 3) := by decide +kernel
theorem d_Ex_join_54 : decode jEx_join.cc 54 = .ok (.aload_n 0, 1) := by decide +kernel
theorem d_Ex_join_55 : decode jEx_join.cc 55 = .ok (.iload_n 3, 1) := by decide +kernel
theorem d_Ex_join_56 : decode jEx_join.cc 56 = .ok (.iload_n 1, 1) := by decide +kernel
theorem d_Ex_join_57 : decode jEx_join.cc 57 = .ok (.iconst 3, 1) := by decide +kernel
theorem d_Ex_join_58 : decode jEx_join.cc 58 = .ok (.if_icmp .ne 7, 3) := by decide +kernel
theorem d_Ex_join_61 : decode jEx_join.cc 61 = .ok (.iconst 4, 1) := by decide +kernel
theorem d_Ex_join_62 : decode jEx_join.cc 62 = .ok (.goto 4, 3) := by decide +kernel
theorem d_Ex_join_65 : decode jEx_join.cc 65 = .ok (.iload_n 1, 1) := by decide +kernel
theorem d_Ex_join_66 : decode jEx_join.cc 66 = .ok (.invokevirtual 59, 3) := by decide +kernel
theorem d_Ex_join_69 : decode jEx_join.cc 69 = .ok (.aload_n 0, 1) := by decide +kernel
theorem d_Ex_join_70 : decode jEx_join.cc 70 = .ok (.iload 4, 2) := by decide +kernel
theorem d_Ex_join_72 : decode jEx_join.cc 72 = .ok (.iload_n 1, 1) := by decide +kernel
theorem d_Ex_join_73 : decode jEx_join.cc 73 = .ok (.iconst 1, 1) := by decide +kernel
theorem d_Ex_join_74 : decode jEx_join.cc 74 = .ok (.iadd, 1) := by decide +kernel
theorem d_Ex_join_75 : decode jEx_join.cc 75 = .ok (.invokevirtual 59, 3) := by decide +kernel
theorem d_Ex_join_78 : decode jEx_join.cc 78 = .ok (.aload_n 0, 1) := by decide +kernel
theorem d_Ex_join_79 : decode jEx_join.cc 79 = .ok (.iload_n 3, 1) := by decide +kernel
theorem d_Ex_join_80 : decode jEx_join.cc 80 = .ok (.iload_n 1, 1) := by decide +kernel
theorem d_Ex_join_81 : decode jEx_join.cc 81 = .ok (.iconst 3, 1) := by decide +kernel
theorem d_Ex_join_82 : decode jEx_join.cc 82 = .ok (.if_icmp .gt 7, 3) := by decide +kernel
theorem d_Ex_join_85 : decode jEx_join.cc 85 = .ok (.iconst 2, 1) := by decide +kernel
theorem d_Ex_join_86 : decode jEx_join.cc 86 = .ok (.goto 4, 3) := by decide +kernel
theorem d_Ex_join_89 : decode jEx_join.cc 89 = .ok (.iconst 1, 1) := by decide +kernel
theorem d_Ex_join_90 : decode jEx_join.cc 90 = .ok (.iload_n 1, 1) := by decide +kernel
theorem d_Ex_join_91 : decode jEx_join.cc 91 = .ok (.invokevirtual 98, 3) := by decide +kernel
theorem d_Ex_join_94 : decode jEx_join.cc 94 = .ok (.return_, 1) := by decide +kernel
set_option maxHeartbeats 4000000 in
theorem s_Ex_join {g : Mg} {d : Nat} {K : Ou → Wd → Prop} {w : Wd} {p1 : Int} {p2 : Int} {p3 : Int} {p4 : Int} (h : (p2 = 21 → (V g LC jEx_join (d + 1) K 12 [(0, vA 26), (1, vI p1), (3, vI p3), (4, vI p4)] [] w)) ∧ (¬ p2 = 21 → ((¬ p2 = 22 → ((2 < p1 → (V g LC jEx_join (d + 1) K 37 [(0, vA 26), (1, vI p1), (3, vI p3), (4, vI p4)] [vI 1] w)) ∧ (¬ 2 < p1 → (V g LC jEx_join (d + 1) K 37 [(0, vA 26), (1, vI p1), (3, vI p3), (4, vI p4)] [vI 2] w)))) ∧ (p2 = 22 → (V g LC jEx_join (d + 1) K 12 [(0, vA 26), (1, vI p1), (3, vI p3), (4, vI p4)] [] w))))) : V g LC jEx_join (d + 1) K 0 [(0, vA 26), (1, vI p1), (2, vI p2), (3, vI p3), (4, vI p4)] [] w := by
  refine v_iload_n (pc := 0) d_Ex_join_0 rfl (.tail _ (.tail _ (.head _))) ?_
  refine v_bipush (pc := 1) d_Ex_join_1 (by decide) rfl ?_
  refine v_icmpeq (pc := 3) (tgt := 12) d_Ex_join_3 (by decide) (fun c => ?_) (fun c => ?_)
  · replace h := h.1 c
    exact v_sub (List.forall_mem_cons.mpr ⟨(.head _), (List.forall_mem_cons.mpr ⟨(.tail _ (.head _)), (List.forall_mem_cons.mpr ⟨(.tail _ (.tail _ (.tail _ (.head _)))), (List.forall_mem_cons.mpr ⟨(.tail _ (.tail _ (.tail _ (.tail _ (.head _))))), (fun _ z => absurd z List.not_mem_nil)⟩)⟩)⟩)⟩) h
  · replace h := h.2 c
    refine v_iload_n (pc := 6) d_Ex_join_6 rfl (.tail _ (.tail _ (.head _))) ?_
    refine v_bipush (pc := 7) d_Ex_join_7 (by decide) rfl ?_
    refine v_icmpne (pc := 9) (tgt := 27) d_Ex_join_9 (by decide) (fun c => ?_) (fun c => ?_)
    · replace h := h.1 c
      refine v_iload_n (pc := 27) d_Ex_join_27 rfl (.tail _ (.head _)) ?_
      refine v_iconst (pc := 28) d_Ex_join_28 (by decide) ?_
      refine v_icmpgt (pc := 29) (tgt := 36) d_Ex_join_29 (by decide) (fun c => ?_) (fun c => ?_)
      · replace h := h.1 c
        refine v_iconst (pc := 36) d_Ex_join_36 (by decide) ?_
        exact v_sub (List.forall_mem_cons.mpr ⟨(.head _), (List.forall_mem_cons.mpr ⟨(.tail _ (.head _)), (List.forall_mem_cons.mpr ⟨(.tail _ (.tail _ (.tail _ (.head _)))), (List.forall_mem_cons.mpr ⟨(.tail _ (.tail _ (.tail _ (.tail _ (.head _))))), (fun _ z => absurd z List.not_mem_nil)⟩)⟩)⟩)⟩) h
      · replace h := h.2 c
        refine v_iconst (pc := 32) d_Ex_join_32 (by decide) ?_
        refine v_goto (pc := 33) (tgt := 37) d_Ex_join_33 (by decide) ?_
        exact v_sub (List.forall_mem_cons.mpr ⟨(.head _), (List.forall_mem_cons.mpr ⟨(.tail _ (.head _)), (List.forall_mem_cons.mpr ⟨(.tail _ (.tail _ (.tail _ (.head _)))), (List.forall_mem_cons.mpr ⟨(.tail _ (.tail _ (.tail _ (.tail _ (.head _))))), (fun _ z => absurd z List.not_mem_nil)⟩)⟩)⟩)⟩) h
    · replace h := h.2 c
      exact v_sub (List.forall_mem_cons.mpr ⟨(.head _), (List.forall_mem_cons.mpr ⟨(.tail _ (.head _)), (List.forall_mem_cons.mpr ⟨(.tail _ (.tail _ (.tail _ (.head _)))), (List.forall_mem_cons.mpr ⟨(.tail _ (.tail _ (.tail _ (.tail _ (.head _))))), (fun _ z => absurd z List.not_mem_nil)⟩)⟩)⟩)⟩) h
set_option maxHeartbeats 4000000 in
theorem s_Ex_join_12 {g : Mg} {d : Nat} {K : Ou → Wd → Prop} {w : Wd} {x1_ : Int} {x3_ : Int} {x4_ : Int} (h : (0 ≤ x3_ ∧ x3_ < 1002) ∧ (Cal g LC jEx_demand d [vA 26, vI x4_, vI (w 27 x3_.toNat)] w (fun o w1 => rV o (V g LC jEx_join (d + 1) K 54 [(0, vA 26), (1, vI x1_), (3, vI x3_), (4, vI x4_)] [] w1)))) : V g LC jEx_join (d + 1) K 12 [(0, vA 26), (1, vI x1_), (3, vI x3_), (4, vI x4_)] [] w := by
  refine v_aload_n (pc := 12) d_Ex_join_12 rfl (.head _) ?_
  refine v_iload (pc := 13) d_Ex_join_13 (.tail _ (.tail _ (.tail _ (.head _)))) ?_
  refine v_aload_n (pc := 15) d_Ex_join_15 rfl (.head _) ?_
  refine v_getr (C := "") (pc := 16) (r := 27) d_Ex_join_16 fl_Ex_9 cC_26.1 cC_26.2 (Or.inr ⟨_, rfl⟩) rC_26_5 ?_
  refine v_iload_n (pc := 19) d_Ex_join_19 rfl (.tail _ (.tail _ (.head _))) ?_
  refine v_iald (pc := 20) (x := (w 27 x3_.toNat)) d_Ex_join_20 cC_27.1 cC_27.2 rfl h.1 ?_
  replace h := h.2
  refine v_callV (pc := 21) (J' := jEx_demand) (d' := d) (o := 26) (ci := 2) (N := 9) (T := cT2) (As := [vI x4_, vI (w 27 x3_.toNat)]) d_Ex_join_21 ml_Ex_93 cC_26.1 cC_26.2 (by decide) rfl rfl (Nat.le_of_ble_eq_true rfl) (Nat.le_refl _) rfl (Cal.weak h (fun o w1 h => ?_))
  rcases rV_of h with ⟨rfl, h⟩
  refine v_goto (pc := 24) (tgt := 54) d_Ex_join_24 (by decide) ?_
  exact v_sub (List.forall_mem_cons.mpr ⟨(.head _), (List.forall_mem_cons.mpr ⟨(.tail _ (.head _)), (List.forall_mem_cons.mpr ⟨(.tail _ (.tail _ (.head _))), (List.forall_mem_cons.mpr ⟨(.tail _ (.tail _ (.tail _ (.head _)))), (fun _ z => absurd z List.not_mem_nil)⟩)⟩)⟩)⟩) h
set_option maxHeartbeats 4000000 in
theorem s_Ex_join_37 {g : Mg} {d : Nat} {K : Ou → Wd → Prop} {w : Wd} {x1_ : Int} {x3_ : Int} {x4_ : Int} {s0_ : Int} (h : Cal g LC jEx_demand d [vA 26, vI x3_, vI s0_] w (fun o w1 => rV o (Cal g LC jEx_demand d [vA 26, vI x4_, vI s0_] w1 (fun o w2 => rV o (V g LC jEx_join (d + 1) K 54 [(0, vA 26), (1, vI x1_), (3, vI x3_), (4, vI x4_)] [] w2))))) : V g LC jEx_join (d + 1) K 37 [(0, vA 26), (1, vI x1_), (3, vI x3_), (4, vI x4_)] [vI s0_] w := by
  refine v_istore (pc := 37) (ls' := [(5, vI s0_), (0, vA 26), (1, vI x1_), (3, vI x3_), (4, vI x4_)]) d_Ex_join_37 (by decide) rfl ?_
  refine v_aload_n (pc := 39) d_Ex_join_39 rfl (.tail _ (.head _)) ?_
  refine v_iload_n (pc := 40) d_Ex_join_40 rfl (.tail _ (.tail _ (.tail _ (.head _)))) ?_
  refine v_iload (pc := 41) d_Ex_join_41 (.head _) ?_
  refine v_callV (pc := 43) (J' := jEx_demand) (d' := d) (o := 26) (ci := 2) (N := 9) (T := cT2) (As := [vI x3_, vI s0_]) d_Ex_join_43 ml_Ex_93 cC_26.1 cC_26.2 (by decide) rfl rfl (Nat.le_of_ble_eq_true rfl) (Nat.le_refl _) rfl (Cal.weak h (fun o w1 h => ?_))
  rcases rV_of h with ⟨rfl, h⟩
  refine v_aload_n (pc := 46) d_Ex_join_46 rfl (.tail _ (.head _)) ?_
  refine v_iload (pc := 47) d_Ex_join_47 (.tail _ (.tail _ (.tail _ (.tail _ (.head _))))) ?_
  refine v_iload (pc := 49) d_Ex_join_49 (.head _) ?_
  refine v_callV (pc := 51) (J' := jEx_demand) (d' := d) (o := 26) (ci := 2) (N := 9) (T := cT2) (As := [vI x4_, vI s0_]) d_Ex_join_51 ml_Ex_93 cC_26.1 cC_26.2 (by decide) rfl rfl (Nat.le_of_ble_eq_true rfl) (Nat.le_refl _) rfl (Cal.weak h (fun o w2 h => ?_))
  rcases rV_of h with ⟨rfl, h⟩
  exact v_sub (List.forall_mem_cons.mpr ⟨(.tail _ (.head _)), (List.forall_mem_cons.mpr ⟨(.tail _ (.tail _ (.head _))), (List.forall_mem_cons.mpr ⟨(.tail _ (.tail _ (.tail _ (.head _)))), (List.forall_mem_cons.mpr ⟨(.tail _ (.tail _ (.tail _ (.tail _ (.head _))))), (fun _ z => absurd z List.not_mem_nil)⟩)⟩)⟩)⟩) h
set_option maxHeartbeats 4000000 in
theorem s_Ex_join_54 {g : Mg} {d : Nat} {K : Ou → Wd → Prop} {w : Wd} {x1_ : Int} {x3_ : Int} {x4_ : Int} (h : (¬ x1_ = 3 → (V g LC jEx_join (d + 1) K 66 [(0, vA 26), (1, vI x1_), (3, vI x3_), (4, vI x4_)] [vI x1_, vI x3_, vA 26] w)) ∧ (x1_ = 3 → (V g LC jEx_join (d + 1) K 66 [(0, vA 26), (1, vI x1_), (3, vI x3_), (4, vI x4_)] [vI 4, vI x3_, vA 26] w))) : V g LC jEx_join (d + 1) K 54 [(0, vA 26), (1, vI x1_), (3, vI x3_), (4, vI x4_)] [] w := by
  refine v_aload_n (pc := 54) d_Ex_join_54 rfl (.head _) ?_
  refine v_iload_n (pc := 55) d_Ex_join_55 rfl (.tail _ (.tail _ (.head _))) ?_
  refine v_iload_n (pc := 56) d_Ex_join_56 rfl (.tail _ (.head _)) ?_
  refine v_iconst (pc := 57) d_Ex_join_57 (by decide) ?_
  refine v_icmpne (pc := 58) (tgt := 65) d_Ex_join_58 (by decide) (fun c => ?_) (fun c => ?_)
  · replace h := h.1 c
    refine v_iload_n (pc := 65) d_Ex_join_65 rfl (.tail _ (.head _)) ?_
    exact v_sub (List.forall_mem_cons.mpr ⟨(.head _), (List.forall_mem_cons.mpr ⟨(.tail _ (.head _)), (List.forall_mem_cons.mpr ⟨(.tail _ (.tail _ (.head _))), (List.forall_mem_cons.mpr ⟨(.tail _ (.tail _ (.tail _ (.head _)))), (fun _ z => absurd z List.not_mem_nil)⟩)⟩)⟩)⟩) h
  · replace h := h.2 c
    refine v_iconst (pc := 61) d_Ex_join_61 (by decide) ?_
    refine v_goto (pc := 62) (tgt := 66) d_Ex_join_62 (by decide) ?_
    exact v_sub (List.forall_mem_cons.mpr ⟨(.head _), (List.forall_mem_cons.mpr ⟨(.tail _ (.head _)), (List.forall_mem_cons.mpr ⟨(.tail _ (.tail _ (.head _))), (List.forall_mem_cons.mpr ⟨(.tail _ (.tail _ (.tail _ (.head _)))), (fun _ z => absurd z List.not_mem_nil)⟩)⟩)⟩)⟩) h
set_option maxHeartbeats 4000000 in
theorem s_Ex_join_66 {g : Mg} {d : Nat} {K : Ou → Wd → Prop} {w : Wd} {x1_ : Int} {x3_ : Int} {x4_ : Int} {s1_ : Int} {s2_ : Int} (h : Cal g LC jEx_settle d [vA 26, vI s1_, vI s2_] w (fun o w1 => rV o (Cal g LC jEx_settle d [vA 26, vI x4_, vI (wr (x1_ + 1))] w1 (fun o w2 => rV o ((3 < x1_ → (V g LC jEx_join (d + 1) K 90 [(1, vI x1_)] [vI 1, vI x3_, vA 26] w2)) ∧ (¬ 3 < x1_ → (V g LC jEx_join (d + 1) K 90 [(1, vI x1_)] [vI 2, vI x3_, vA 26] w2))))))) : V g LC jEx_join (d + 1) K 66 [(0, vA 26), (1, vI x1_), (3, vI x3_), (4, vI x4_)] [vI s2_, vI s1_, vA 26] w := by
  refine v_callV (pc := 66) (J' := jEx_settle) (d' := d) (o := 26) (ci := 2) (N := 9) (T := cT2) (As := [vI s1_, vI s2_]) d_Ex_join_66 ml_Ex_59 cC_26.1 cC_26.2 (by decide) rfl rfl (Nat.le_of_ble_eq_true rfl) (Nat.le_refl _) rfl (Cal.weak h (fun o w1 h => ?_))
  rcases rV_of h with ⟨rfl, h⟩
  refine v_aload_n (pc := 69) d_Ex_join_69 rfl (.head _) ?_
  refine v_iload (pc := 70) d_Ex_join_70 (.tail _ (.tail _ (.tail _ (.head _)))) ?_
  refine v_iload_n (pc := 72) d_Ex_join_72 rfl (.tail _ (.head _)) ?_
  refine v_iconst (pc := 73) d_Ex_join_73 (by decide) ?_
  refine v_iadd (pc := 74) d_Ex_join_74 ?_
  refine v_callV (pc := 75) (J' := jEx_settle) (d' := d) (o := 26) (ci := 2) (N := 9) (T := cT2) (As := [vI x4_, vI (wr (x1_ + 1))]) d_Ex_join_75 ml_Ex_59 cC_26.1 cC_26.2 (by decide) rfl rfl (Nat.le_of_ble_eq_true rfl) (Nat.le_refl _) rfl (Cal.weak h (fun o w2 h => ?_))
  rcases rV_of h with ⟨rfl, h⟩
  refine v_aload_n (pc := 78) d_Ex_join_78 rfl (.head _) ?_
  refine v_iload_n (pc := 79) d_Ex_join_79 rfl (.tail _ (.tail _ (.head _))) ?_
  refine v_iload_n (pc := 80) d_Ex_join_80 rfl (.tail _ (.head _)) ?_
  refine v_iconst (pc := 81) d_Ex_join_81 (by decide) ?_
  refine v_icmpgt (pc := 82) (tgt := 89) d_Ex_join_82 (by decide) (fun c => ?_) (fun c => ?_)
  · replace h := h.1 c
    refine v_iconst (pc := 89) d_Ex_join_89 (by decide) ?_
    exact v_sub (List.forall_mem_cons.mpr ⟨(.tail _ (.head _)), (fun _ z => absurd z List.not_mem_nil)⟩) h
  · replace h := h.2 c
    refine v_iconst (pc := 85) d_Ex_join_85 (by decide) ?_
    refine v_goto (pc := 86) (tgt := 90) d_Ex_join_86 (by decide) ?_
    exact v_sub (List.forall_mem_cons.mpr ⟨(.tail _ (.head _)), (fun _ z => absurd z List.not_mem_nil)⟩) h
set_option maxHeartbeats 4000000 in
theorem s_Ex_join_90 {g : Mg} {d : Nat} {K : Ou → Wd → Prop} {w : Wd} {x1_ : Int} {s1_ : Int} {s2_ : Int} (h : Cal g LC jEx_know d [vA 26, vI s1_, vI s2_, vI x1_] w (fun o w1 => rV o (K (.inl none) w1))) : V g LC jEx_join (d + 1) K 90 [(1, vI x1_)] [vI s2_, vI s1_, vA 26] w := by
  refine v_iload_n (pc := 90) d_Ex_join_90 rfl (.head _) ?_
  refine v_callV (pc := 91) (J' := jEx_know) (d' := d) (o := 26) (ci := 2) (N := 9) (T := cT2) (As := [vI s1_, vI s2_, vI x1_]) d_Ex_join_91 ml_Ex_98 cC_26.1 cC_26.2 (by decide) rfl rfl (Nat.le_of_ble_eq_true rfl) (Nat.le_refl _) rfl (Cal.weak h (fun o w1 h => ?_))
  rcases rV_of h with ⟨rfl, h⟩
  exact v_vret (pc := 94) d_Ex_join_94 rfl h
theorem d_Ex_one_0 : decode jEx_one.cc 0 = .ok (.iload_n 1, 1) := by decide +kernel
theorem d_Ex_one_1 : decode jEx_one.cc 1 = .ok (.bipush 12, 2) := by decide +kernel
theorem d_Ex_one_3 : decode jEx_one.cc 3 = .ok (.if_icmp .le 24, 3) := by decide +kernel
theorem d_Ex_one_6 : decode jEx_one.cc 6 = .ok (.aload_n 0, 1) := by decide +kernel
theorem d_Ex_one_7 : decode jEx_one.cc 7 = .ok (.getfield 29, 3) := by decide +kernel
theorem d_Ex_one_10 : decode jEx_one.cc 10 = .ok (.invokevirtual 66, 3) := by decide +kernel
theorem d_Ex_one_13 : decode jEx_one.cc 13 = .ok (.invokestatic 102, 3) := by decide +kernel
theorem d_Ex_one_16 : decode jEx_one.cc 16 = .ok (.ifCond .eq 11, 3) := by decide +kernel
theorem d_Ex_one_19 : decode jEx_one.cc 19 = .ok (.aload_n 0, 1) := by decide +kernel
theorem d_Ex_one_20 : decode jEx_one.cc 20 = .ok (.getfield 29, 3) := by decide +kernel
theorem d_Ex_one_23 : decode jEx_one.cc 23 = .ok (.iconst 2, 1) := by decide +kernel
theorem d_Ex_one_24 : decode jEx_one.cc 24 = .ok (.invokevirtual 106, 3) := by decide +kernel
theorem d_Ex_one_27 : decode jEx_one.cc 27 = .ok (.aload_n 0, 1) := by decide +kernel
theorem d_Ex_one_28 : decode jEx_one.cc 28 = .ok (.getfield 29, 3) := by decide +kernel
theorem d_Ex_one_31 : decode jEx_one.cc 31 = .ok (.invokevirtual 66, 3) := by decide +kernel
theorem d_Ex_one_34 : decode jEx_one.cc 34 = .ok (.istore_n 2, 1) := by decide +kernel
theorem d_Ex_one_35 : decode jEx_one.cc 35 = .ok (.iload_n 2, 1) := by decide +kernel
theorem d_Ex_one_36 : decode jEx_one.cc 36 = .ok (.bipush 16, 2) := by decide +kernel
theorem d_Ex_one_38 : decode jEx_one.cc 38 = .ok (.if_icmp .eq 15, 3) := by decide +kernel
theorem d_Ex_one_41 : decode jEx_one.cc 41 = .ok (.iload_n 2, 1) := by decide +kernel
theorem d_Ex_one_42 : decode jEx_one.cc 42 = .ok (.bipush 20, 2) := by decide +kernel
theorem d_Ex_one_44 : decode jEx_one.cc 44 = .ok (.if_icmp .eq 9, 3) := by decide +kernel
theorem d_Ex_one_47 : decode jEx_one.cc 47 = .ok (.aload_n 0, 1) := by decide +kernel
theorem d_Ex_one_48 : decode jEx_one.cc 48 = .ok (.iload_n 1, 1) := by decide +kernel
theorem d_Ex_one_49 : decode jEx_one.cc 49 = .ok (.invokevirtual 109, 3) := by decide +kernel
theorem d_Ex_one_52 : decode jEx_one.cc 52 = .ok (.ireturn, 1) := by decide +kernel
theorem d_Ex_one_53 : decode jEx_one.cc 53 = .ok (.aload_n 0, 1) := by decide +kernel
theorem d_Ex_one_54 : decode jEx_one.cc 54 = .ok (.getfield 29, 3) := by decide +kernel
theorem d_Ex_one_57 : decode jEx_one.cc 57 = .ok (.iload_n 2, 1) := by decide +kernel
theorem d_Ex_one_58 : decode jEx_one.cc 58 = .ok (.invokevirtual 73, 3) := by decide +kernel
theorem d_Ex_one_61 : decode jEx_one.cc 61 = .ok (.istore_n 3, 1) := by decide +kernel
theorem d_Ex_one_62 : decode jEx_one.cc 62 = .ok (.iload_n 2, 1) := by decide +kernel
theorem d_Ex_one_63 : decode jEx_one.cc 63 = .ok (.bipush 16, 2) := by decide +kernel
theorem d_Ex_one_65 : decode jEx_one.cc 65 = .ok (.if_icmp .ne 7, 3) := by decide +kernel
theorem d_Ex_one_68 : decode jEx_one.cc 68 = .ok (.iconst 1, 1) := by decide +kernel
theorem d_Ex_one_69 : decode jEx_one.cc 69 = .ok (.goto 4, 3) := by decide +kernel
theorem d_Ex_one_72 : decode jEx_one.cc 72 = .ok (.iconst 2, 1) := by decide +kernel
theorem d_Ex_one_73 : decode jEx_one.cc 73 = .ok (.istore 4, 2) := by decide +kernel
theorem d_Ex_one_75 : decode jEx_one.cc 75 = .ok (.aload_n 0, 1) := by decide +kernel
theorem d_Ex_one_76 : decode jEx_one.cc 76 = .ok (.iload_n 1, 1) := by decide +kernel
theorem d_Ex_one_77 : decode jEx_one.cc 77 = .ok (.iconst 1, 1) := by decide +kernel
theorem d_Ex_one_78 : decode jEx_one.cc 78 = .ok (.iadd, 1) := by decide +kernel
theorem d_Ex_one_79 : decode jEx_one.cc 79 = .ok (.invokevirtual 62, 3) := by decide +kernel
theorem d_Ex_one_82 : decode jEx_one.cc 82 = .ok (.istore 5, 2) := by decide +kernel
theorem d_Ex_one_84 : decode jEx_one.cc 84 = .ok (.aload_n 0, 1) := by decide +kernel
theorem d_Ex_one_85 : decode jEx_one.cc 85 = .ok (.iload 5, 2) := by decide +kernel
theorem d_Ex_one_87 : decode jEx_one.cc 87 = .ok (.iload 4, 2) := by decide +kernel
theorem d_Ex_one_89 : decode jEx_one.cc 89 = .ok (.invokevirtual 93, 3) := by decide +kernel
theorem d_Ex_one_92 : decode jEx_one.cc 92 = .ok (.aload_n 0, 1) := by decide +kernel
theorem d_Ex_one_93 : decode jEx_one.cc 93 = .ok (.iload 5, 2) := by decide +kernel
theorem d_Ex_one_95 : decode jEx_one.cc 95 = .ok (.bipush 6, 2) := by decide +kernel
theorem d_Ex_one_97 : decode jEx_one.cc 97 = .ok (.invokevirtual 59, 3) := by decide +kernel
theorem d_Ex_one_100 : decode jEx_one.cc 100 = .ok (.aload_n 0, 1) := by decide +kernel
theorem d_Ex_one_101 : decode jEx_one.cc 101 = .ok (.getfield 44, 3) := by decide +kernel
theorem d_Ex_one_104 : decode jEx_one.cc 104 = .ok (.iload_n 2, 1) := by decide +kernel
theorem d_Ex_one_105 : decode jEx_one.cc 105 = .ok (.bipush 16, 2) := by decide +kernel
theorem d_Ex_one_107 : decode jEx_one.cc 107 = .ok (.if_icmp .ne 8, 3) := by decide +kernel
theorem d_Ex_one_110 : decode jEx_one.cc 110 = .ok (.bipush 12, 2) := by decide +kernel
theorem d_Ex_one_112 : decode jEx_one.cc 112 = .ok (.goto 5, 3) := by decide +kernel
theorem d_Ex_one_115 : decode jEx_one.cc 115 = .ok (.bipush 13, 2) := by decide +kernel
theorem d_Ex_one_117 : decode jEx_one.cc 117 = .ok (.iconst 0, 1) := by decide +kernel
theorem d_Ex_one_118 : decode jEx_one.cc 118 = .ok (.iconst 0, 1) := by decide +kernel
theorem d_Ex_one_119 : decode jEx_one.cc 119 = .ok (.invokevirtual 78, 3) := by decide +kernel
theorem d_Ex_one_122 : decode jEx_one.cc 122 = .ok (.pop, 1) := by decide +kernel
theorem d_Ex_one_123 : decode jEx_one.cc 123 = .ok (.aload_n 0, 1) := by decide +kernel
theorem d_Ex_one_124 : decode jEx_one.cc 124 = .ok (.iload_n 3, 1) := by decide +kernel
theorem d_Ex_one_125 : decode jEx_one.cc 125 = .ok (.iload 4, 2) := by decide +kernel
theorem d_Ex_one_127 : decode jEx_one.cc 127 = .ok (.bipush 6, 2) := by decide +kernel
theorem d_Ex_one_129 : decode jEx_one.cc 129 = .ok (.invokevirtual 98, 3) := by decide +kernel
theorem d_Ex_one_132 : decode jEx_one.cc 132 = .ok (.iload_n 3, 1) := by decide +kernel
theorem d_Ex_one_133 : decode jEx_one.cc 133 = .ok (.ireturn, 1) := by decide +kernel
set_option maxHeartbeats 4000000 in
theorem s_Ex_one {g : Mg} {d : Nat} {K : Ou → Wd → Prop} {w : Wd} {p1 : Int} (h : (p1 ≤ 12 → (V g LC jEx_one (d + 1) K 27 [(0, vA 26), (1, vI p1)] [] w)) ∧ (¬ p1 ≤ 12 → (Cal g LC jCu_kind d [vA 25] w (fun o w1 => rI o (fun x2 => Cal g LC jEx_beginsOne d [vI x2] w1 (fun o w3 => rI o (fun x4 => (x4 = 0 → (V g LC jEx_one (d + 1) K 27 [(0, vA 26), (1, vI p1)] [] w3)) ∧ (¬ x4 = 0 → (Cal g LC jCu_stop d [vA 25, vI 2] w3 (fun o w5 => rV o (V g LC jEx_one (d + 1) K 27 [(0, vA 26), (1, vI p1)] [] w5))))))))))) : V g LC jEx_one (d + 1) K 0 [(0, vA 26), (1, vI p1)] [] w := by
  refine v_iload_n (pc := 0) d_Ex_one_0 rfl (.tail _ (.head _)) ?_
  refine v_bipush (pc := 1) d_Ex_one_1 (by decide) rfl ?_
  refine v_icmple (pc := 3) (tgt := 27) d_Ex_one_3 (by decide) (fun c => ?_) (fun c => ?_)
  · replace h := h.1 c
    exact v_sub (List.forall_mem_cons.mpr ⟨(.head _), (List.forall_mem_cons.mpr ⟨(.tail _ (.head _)), (fun _ z => absurd z List.not_mem_nil)⟩)⟩) h
  · replace h := h.2 c
    refine v_aload_n (pc := 6) d_Ex_one_6 rfl (.head _) ?_
    refine v_getr (C := "") (pc := 7) (r := 25) d_Ex_one_7 fl_Ex_29 cC_26.1 cC_26.2 (Or.inl ⟨_, rfl⟩) rC_26_1 ?_
    refine v_callV (pc := 10) (J' := jCu_kind) (d' := d) (o := 25) (ci := 1) (N := 6) (T := cT1) (As := []) d_Ex_one_10 ml_Ex_66 cC_25.1 cC_25.2 (by decide) rfl rfl (Nat.le_of_ble_eq_true rfl) (Nat.le_refl _) rfl (Cal.weak h (fun o w1 h => ?_))
    rcases rI_of h with ⟨x2, rfl, h⟩
    refine v_callS (pc := 13) (J' := jEx_beginsOne) (d' := d) (As := [vI x2]) d_Ex_one_13 ml_Ex_102 rfl (Nat.le_of_ble_eq_true rfl) (Nat.le_refl _) rfl (Cal.weak h (fun o w3 h => ?_))
    rcases rI_of h with ⟨x4, rfl, h⟩
    refine v_ifeq (pc := 16) (tgt := 27) d_Ex_one_16 (by decide) (fun c => ?_) (fun c => ?_)
    · replace h := h.1 c
      exact v_sub (List.forall_mem_cons.mpr ⟨(.head _), (List.forall_mem_cons.mpr ⟨(.tail _ (.head _)), (fun _ z => absurd z List.not_mem_nil)⟩)⟩) h
    · replace h := h.2 c
      refine v_aload_n (pc := 19) d_Ex_one_19 rfl (.head _) ?_
      refine v_getr (C := "") (pc := 20) (r := 25) d_Ex_one_20 fl_Ex_29 cC_26.1 cC_26.2 (Or.inl ⟨_, rfl⟩) rC_26_1 ?_
      refine v_iconst (pc := 23) d_Ex_one_23 (by decide) ?_
      refine v_callV (pc := 24) (J' := jCu_stop) (d' := d) (o := 25) (ci := 1) (N := 6) (T := cT1) (As := [vI 2]) d_Ex_one_24 ml_Ex_106 cC_25.1 cC_25.2 (by decide) rfl rfl (Nat.le_of_ble_eq_true rfl) (Nat.le_refl _) rfl (Cal.weak h (fun o w5 h => ?_))
      rcases rV_of h with ⟨rfl, h⟩
      exact v_sub (List.forall_mem_cons.mpr ⟨(.head _), (List.forall_mem_cons.mpr ⟨(.tail _ (.head _)), (fun _ z => absurd z List.not_mem_nil)⟩)⟩) h
set_option maxHeartbeats 4000000 in
theorem s_Ex_one_27 {g : Mg} {d : Nat} {K : Ou → Wd → Prop} {w : Wd} {x1_ : Int} (h : Cal g LC jCu_kind d [vA 25] w (fun o w1 => rI o (fun x2 => (x2 = 16 → (V g LC jEx_one (d + 1) K 53 [(0, vA 26), (1, vI x1_), (2, vI x2)] [] w1)) ∧ (¬ x2 = 16 → ((x2 = 20 → (V g LC jEx_one (d + 1) K 53 [(0, vA 26), (1, vI x1_), (2, vI x2)] [] w1)) ∧ (¬ x2 = 20 → (Cal g LC jEx_base d [vA 26, vI x1_] w1 (fun o w3 => rI o (fun x4 => K (.inl (some (vI x4))) w3))))))))) : V g LC jEx_one (d + 1) K 27 [(0, vA 26), (1, vI x1_)] [] w := by
  refine v_aload_n (pc := 27) d_Ex_one_27 rfl (.head _) ?_
  refine v_getr (C := "") (pc := 28) (r := 25) d_Ex_one_28 fl_Ex_29 cC_26.1 cC_26.2 (Or.inl ⟨_, rfl⟩) rC_26_1 ?_
  refine v_callV (pc := 31) (J' := jCu_kind) (d' := d) (o := 25) (ci := 1) (N := 6) (T := cT1) (As := []) d_Ex_one_31 ml_Ex_66 cC_25.1 cC_25.2 (by decide) rfl rfl (Nat.le_of_ble_eq_true rfl) (Nat.le_refl _) rfl (Cal.weak h (fun o w1 h => ?_))
  rcases rI_of h with ⟨x2, rfl, h⟩
  refine v_istore_n (pc := 34) (ls' := [(2, vI x2), (0, vA 26), (1, vI x1_)]) d_Ex_one_34 rfl (by decide) rfl ?_
  refine v_iload_n (pc := 35) d_Ex_one_35 rfl (.head _) ?_
  refine v_bipush (pc := 36) d_Ex_one_36 (by decide) rfl ?_
  refine v_icmpeq (pc := 38) (tgt := 53) d_Ex_one_38 (by decide) (fun c => ?_) (fun c => ?_)
  · replace h := h.1 c
    exact v_sub (List.forall_mem_cons.mpr ⟨(.tail _ (.head _)), (List.forall_mem_cons.mpr ⟨(.tail _ (.tail _ (.head _))), (List.forall_mem_cons.mpr ⟨(.head _), (fun _ z => absurd z List.not_mem_nil)⟩)⟩)⟩) h
  · replace h := h.2 c
    refine v_iload_n (pc := 41) d_Ex_one_41 rfl (.head _) ?_
    refine v_bipush (pc := 42) d_Ex_one_42 (by decide) rfl ?_
    refine v_icmpeq (pc := 44) (tgt := 53) d_Ex_one_44 (by decide) (fun c => ?_) (fun c => ?_)
    · replace h := h.1 c
      exact v_sub (List.forall_mem_cons.mpr ⟨(.tail _ (.head _)), (List.forall_mem_cons.mpr ⟨(.tail _ (.tail _ (.head _))), (List.forall_mem_cons.mpr ⟨(.head _), (fun _ z => absurd z List.not_mem_nil)⟩)⟩)⟩) h
    · replace h := h.2 c
      refine v_aload_n (pc := 47) d_Ex_one_47 rfl (.tail _ (.head _)) ?_
      refine v_iload_n (pc := 48) d_Ex_one_48 rfl (.tail _ (.tail _ (.head _))) ?_
      refine v_callV (pc := 49) (J' := jEx_base) (d' := d) (o := 26) (ci := 2) (N := 9) (T := cT2) (As := [vI x1_]) d_Ex_one_49 ml_Ex_109 cC_26.1 cC_26.2 (by decide) rfl rfl (Nat.le_of_ble_eq_true rfl) (Nat.le_refl _) rfl (Cal.weak h (fun o w3 h => ?_))
      rcases rI_of h with ⟨x4, rfl, h⟩
      exact v_iret (pc := 52) d_Ex_one_52 rfl h
set_option maxHeartbeats 4000000 in
theorem s_Ex_one_53 {g : Mg} {d : Nat} {K : Ou → Wd → Prop} {w : Wd} {x1_ : Int} {x2_ : Int} (h : Cal g LC jCu_take d [vA 25, vI x2_] w (fun o w1 => rI o (fun x2 => (¬ x2_ = 16 → (V g LC jEx_one (d + 1) K 73 [(0, vA 26), (1, vI x1_), (2, vI x2_), (3, vI x2)] [vI 2] w1)) ∧ (x2_ = 16 → (V g LC jEx_one (d + 1) K 73 [(0, vA 26), (1, vI x1_), (2, vI x2_), (3, vI x2)] [vI 1] w1))))) : V g LC jEx_one (d + 1) K 53 [(0, vA 26), (1, vI x1_), (2, vI x2_)] [] w := by
  refine v_aload_n (pc := 53) d_Ex_one_53 rfl (.head _) ?_
  refine v_getr (C := "") (pc := 54) (r := 25) d_Ex_one_54 fl_Ex_29 cC_26.1 cC_26.2 (Or.inl ⟨_, rfl⟩) rC_26_1 ?_
  refine v_iload_n (pc := 57) d_Ex_one_57 rfl (.tail _ (.tail _ (.head _))) ?_
  refine v_callV (pc := 58) (J' := jCu_take) (d' := d) (o := 25) (ci := 1) (N := 6) (T := cT1) (As := [vI x2_]) d_Ex_one_58 ml_Ex_73 cC_25.1 cC_25.2 (by decide) rfl rfl (Nat.le_of_ble_eq_true rfl) (Nat.le_refl _) rfl (Cal.weak h (fun o w1 h => ?_))
  rcases rI_of h with ⟨x2, rfl, h⟩
  refine v_istore_n (pc := 61) (ls' := [(3, vI x2), (0, vA 26), (1, vI x1_), (2, vI x2_)]) d_Ex_one_61 rfl (by decide) rfl ?_
  refine v_iload_n (pc := 62) d_Ex_one_62 rfl (.tail _ (.tail _ (.tail _ (.head _)))) ?_
  refine v_bipush (pc := 63) d_Ex_one_63 (by decide) rfl ?_
  refine v_icmpne (pc := 65) (tgt := 72) d_Ex_one_65 (by decide) (fun c => ?_) (fun c => ?_)
  · replace h := h.1 c
    refine v_iconst (pc := 72) d_Ex_one_72 (by decide) ?_
    exact v_sub (List.forall_mem_cons.mpr ⟨(.tail _ (.head _)), (List.forall_mem_cons.mpr ⟨(.tail _ (.tail _ (.head _))), (List.forall_mem_cons.mpr ⟨(.tail _ (.tail _ (.tail _ (.head _)))), (List.forall_mem_cons.mpr ⟨(.head _), (fun _ z => absurd z List.not_mem_nil)⟩)⟩)⟩)⟩) h
  · replace h := h.2 c
    refine v_iconst (pc := 68) d_Ex_one_68 (by decide) ?_
    refine v_goto (pc := 69) (tgt := 73) d_Ex_one_69 (by decide) ?_
    exact v_sub (List.forall_mem_cons.mpr ⟨(.tail _ (.head _)), (List.forall_mem_cons.mpr ⟨(.tail _ (.tail _ (.head _))), (List.forall_mem_cons.mpr ⟨(.tail _ (.tail _ (.tail _ (.head _)))), (List.forall_mem_cons.mpr ⟨(.head _), (fun _ z => absurd z List.not_mem_nil)⟩)⟩)⟩)⟩) h
set_option maxHeartbeats 4000000 in
theorem s_Ex_one_73 {g : Mg} {d : Nat} {K : Ou → Wd → Prop} {w : Wd} {x1_ : Int} {x2_ : Int} {x3_ : Int} {s0_ : Int} (h : Cal g LC jEx_one d [vA 26, vI (wr (x1_ + 1))] w (fun o w1 => rI o (fun x2 => Cal g LC jEx_demand d [vA 26, vI x2, vI s0_] w1 (fun o w3 => rV o (Cal g LC jEx_settle d [vA 26, vI x2, vI 6] w3 (fun o w4 => rV o ((¬ x2_ = 16 → (V g LC jEx_one (d + 1) K 117 [(0, vA 26), (3, vI x3_), (4, vI s0_)] [vI 13, vA 19] w4)) ∧ (x2_ = 16 → (V g LC jEx_one (d + 1) K 117 [(0, vA 26), (3, vI x3_), (4, vI s0_)] [vI 12, vA 19] w4))))))))) : V g LC jEx_one (d + 1) K 73 [(0, vA 26), (1, vI x1_), (2, vI x2_), (3, vI x3_)] [vI s0_] w := by
  refine v_istore (pc := 73) (ls' := [(4, vI s0_), (0, vA 26), (1, vI x1_), (2, vI x2_), (3, vI x3_)]) d_Ex_one_73 (by decide) rfl ?_
  refine v_aload_n (pc := 75) d_Ex_one_75 rfl (.tail _ (.head _)) ?_
  refine v_iload_n (pc := 76) d_Ex_one_76 rfl (.tail _ (.tail _ (.head _))) ?_
  refine v_iconst (pc := 77) d_Ex_one_77 (by decide) ?_
  refine v_iadd (pc := 78) d_Ex_one_78 ?_
  refine v_callV (pc := 79) (J' := jEx_one) (d' := d) (o := 26) (ci := 2) (N := 9) (T := cT2) (As := [vI (wr (x1_ + 1))]) d_Ex_one_79 ml_Ex_62 cC_26.1 cC_26.2 (by decide) rfl rfl (Nat.le_of_ble_eq_true rfl) (Nat.le_refl _) rfl (Cal.weak h (fun o w1 h => ?_))
  rcases rI_of h with ⟨x2, rfl, h⟩
  refine v_istore (pc := 82) (ls' := [(5, vI x2), (4, vI s0_), (0, vA 26), (1, vI x1_), (2, vI x2_), (3, vI x3_)]) d_Ex_one_82 (by decide) rfl ?_
  refine v_aload_n (pc := 84) d_Ex_one_84 rfl (.tail _ (.tail _ (.head _))) ?_
  refine v_iload (pc := 85) d_Ex_one_85 (.head _) ?_
  refine v_iload (pc := 87) d_Ex_one_87 (.tail _ (.head _)) ?_
  refine v_callV (pc := 89) (J' := jEx_demand) (d' := d) (o := 26) (ci := 2) (N := 9) (T := cT2) (As := [vI x2, vI s0_]) d_Ex_one_89 ml_Ex_93 cC_26.1 cC_26.2 (by decide) rfl rfl (Nat.le_of_ble_eq_true rfl) (Nat.le_refl _) rfl (Cal.weak h (fun o w3 h => ?_))
  rcases rV_of h with ⟨rfl, h⟩
  refine v_aload_n (pc := 92) d_Ex_one_92 rfl (.tail _ (.tail _ (.head _))) ?_
  refine v_iload (pc := 93) d_Ex_one_93 (.head _) ?_
  refine v_bipush (pc := 95) d_Ex_one_95 (by decide) rfl ?_
  refine v_callV (pc := 97) (J' := jEx_settle) (d' := d) (o := 26) (ci := 2) (N := 9) (T := cT2) (As := [vI x2, vI 6]) d_Ex_one_97 ml_Ex_59 cC_26.1 cC_26.2 (by decide) rfl rfl (Nat.le_of_ble_eq_true rfl) (Nat.le_refl _) rfl (Cal.weak h (fun o w4 h => ?_))
  rcases rV_of h with ⟨rfl, h⟩
  refine v_aload_n (pc := 100) d_Ex_one_100 rfl (.tail _ (.tail _ (.head _))) ?_
  refine v_getr (C := "") (pc := 101) (r := 19) d_Ex_one_101 fl_Ex_44 cC_26.1 cC_26.2 (Or.inl ⟨_, rfl⟩) rC_26_3 ?_
  refine v_iload_n (pc := 104) d_Ex_one_104 rfl (.tail _ (.tail _ (.tail _ (.tail _ (.head _))))) ?_
  refine v_bipush (pc := 105) d_Ex_one_105 (by decide) rfl ?_
  refine v_icmpne (pc := 107) (tgt := 115) d_Ex_one_107 (by decide) (fun c => ?_) (fun c => ?_)
  · replace h := h.1 c
    refine v_bipush (pc := 115) d_Ex_one_115 (by decide) rfl ?_
    exact v_sub (List.forall_mem_cons.mpr ⟨(.tail _ (.tail _ (.head _))), (List.forall_mem_cons.mpr ⟨(.tail _ (.tail _ (.tail _ (.tail _ (.tail _ (.head _)))))), (List.forall_mem_cons.mpr ⟨(.tail _ (.head _)), (fun _ z => absurd z List.not_mem_nil)⟩)⟩)⟩) h
  · replace h := h.2 c
    refine v_bipush (pc := 110) d_Ex_one_110 (by decide) rfl ?_
    refine v_goto (pc := 112) (tgt := 117) d_Ex_one_112 (by decide) ?_
    exact v_sub (List.forall_mem_cons.mpr ⟨(.tail _ (.tail _ (.head _))), (List.forall_mem_cons.mpr ⟨(.tail _ (.tail _ (.tail _ (.tail _ (.tail _ (.head _)))))), (List.forall_mem_cons.mpr ⟨(.tail _ (.head _)), (fun _ z => absurd z List.not_mem_nil)⟩)⟩)⟩) h
set_option maxHeartbeats 4000000 in
theorem s_Ex_one_117 {g : Mg} {d : Nat} {K : Ou → Wd → Prop} {w : Wd} {x3_ : Int} {x4_ : Int} {s1_ : Int} (h : Cal g LC jCo_add d [vA 19, vI s1_, vI 0, vI 0] w (fun o w1 => rI o (fun x2 => Cal g LC jEx_know d [vA 26, vI x3_, vI x4_, vI 6] w1 (fun o w3 => rV o (K (.inl (some (vI x3_))) w3))))) : V g LC jEx_one (d + 1) K 117 [(0, vA 26), (3, vI x3_), (4, vI x4_)] [vI s1_, vA 19] w := by
  refine v_iconst (pc := 117) d_Ex_one_117 (by decide) ?_
  refine v_iconst (pc := 118) d_Ex_one_118 (by decide) ?_
  refine v_callV (pc := 119) (J' := jCo_add) (d' := d) (o := 19) (ci := 0) (N := 6) (T := cT0) (As := [vI s1_, vI 0, vI 0]) d_Ex_one_119 ml_Ex_78 cC_19.1 cC_19.2 (by decide) rfl rfl (Nat.le_of_ble_eq_true rfl) (Nat.le_refl _) rfl (Cal.weak h (fun o w1 h => ?_))
  rcases rI_of h with ⟨x2, rfl, h⟩
  refine v_pop (pc := 122) d_Ex_one_122 rfl ?_
  refine v_aload_n (pc := 123) d_Ex_one_123 rfl (.head _) ?_
  refine v_iload_n (pc := 124) d_Ex_one_124 rfl (.tail _ (.head _)) ?_
  refine v_iload (pc := 125) d_Ex_one_125 (.tail _ (.tail _ (.head _))) ?_
  refine v_bipush (pc := 127) d_Ex_one_127 (by decide) rfl ?_
  refine v_callV (pc := 129) (J' := jEx_know) (d' := d) (o := 26) (ci := 2) (N := 9) (T := cT2) (As := [vI x3_, vI x4_, vI 6]) d_Ex_one_129 ml_Ex_98 cC_26.1 cC_26.2 (by decide) rfl rfl (Nat.le_of_ble_eq_true rfl) (Nat.le_refl _) rfl (Cal.weak h (fun o w3 h => ?_))
  rcases rV_of h with ⟨rfl, h⟩
  refine v_iload_n (pc := 132) d_Ex_one_132 rfl (.tail _ (.head _)) ?_
  exact v_iret (pc := 133) d_Ex_one_133 rfl h
theorem d_Ex_base_0 : decode jEx_base.cc 0 = .ok (.aload_n 0, 1) := by decide +kernel
theorem d_Ex_base_1 : decode jEx_base.cc 1 = .ok (.getfield 29, 3) := by decide +kernel
theorem d_Ex_base_4 : decode jEx_base.cc 4 = .ok (.invokevirtual 66, 3) := by decide +kernel
theorem d_Ex_base_7 : decode jEx_base.cc 7 = .ok (.lookupswitch 119 #[(2, 86), (3, 81), (7, 113), (31, 81), (32, 81), (48, 107), (52, 91), (53, 96), (59, 101)], 81) := by decide +kernel
theorem d_Ex_base_88 : decode jEx_base.cc 88 = .ok (.aload_n 0, 1) := by decide +kernel
theorem d_Ex_base_89 : decode jEx_base.cc 89 = .ok (.invokevirtual 112, 3) := by decide +kernel
theorem d_Ex_base_92 : decode jEx_base.cc 92 = .ok (.ireturn, 1) := by decide +kernel
theorem d_Ex_base_93 : decode jEx_base.cc 93 = .ok (.aload_n 0, 1) := by decide +kernel
theorem d_Ex_base_94 : decode jEx_base.cc 94 = .ok (.invokevirtual 115, 3) := by decide +kernel
theorem d_Ex_base_97 : decode jEx_base.cc 97 = .ok (.ireturn, 1) := by decide +kernel
theorem d_Ex_base_98 : decode jEx_base.cc 98 = .ok (.aload_n 0, 1) := by decide +kernel
theorem d_Ex_base_99 : decode jEx_base.cc 99 = .ok (.invokevirtual 118, 3) := by decide +kernel
theorem d_Ex_base_102 : decode jEx_base.cc 102 = .ok (.ireturn, 1) := by decide +kernel
theorem d_Ex_base_103 : decode jEx_base.cc 103 = .ok (.aload_n 0, 1) := by decide +kernel
theorem d_Ex_base_104 : decode jEx_base.cc 104 = .ok (.invokevirtual 121, 3) := by decide +kernel
theorem d_Ex_base_107 : decode jEx_base.cc 107 = .ok (.ireturn, 1) := by decide +kernel
theorem d_Ex_base_108 : decode jEx_base.cc 108 = .ok (.aload_n 0, 1) := by decide +kernel
theorem d_Ex_base_109 : decode jEx_base.cc 109 = .ok (.iload_n 1, 1) := by decide +kernel
theorem d_Ex_base_110 : decode jEx_base.cc 110 = .ok (.invokevirtual 124, 3) := by decide +kernel
theorem d_Ex_base_113 : decode jEx_base.cc 113 = .ok (.ireturn, 1) := by decide +kernel
theorem d_Ex_base_114 : decode jEx_base.cc 114 = .ok (.aload_n 0, 1) := by decide +kernel
theorem d_Ex_base_115 : decode jEx_base.cc 115 = .ok (.iload_n 1, 1) := by decide +kernel
theorem d_Ex_base_116 : decode jEx_base.cc 116 = .ok (.invokevirtual 127, 3) := by decide +kernel
theorem d_Ex_base_119 : decode jEx_base.cc 119 = .ok (.ireturn, 1) := by decide +kernel
theorem d_Ex_base_120 : decode jEx_base.cc 120 = .ok (.aload_n 0, 1) := by decide +kernel
theorem d_Ex_base_121 : decode jEx_base.cc 121 = .ok (.iload_n 1, 1) := by decide +kernel
theorem d_Ex_base_122 : decode jEx_base.cc 122 = .ok (.invokevirtual 130, 3) := by decide +kernel
theorem d_Ex_base_125 : decode jEx_base.cc 125 = .ok (.ireturn, 1) := by decide +kernel
theorem d_Ex_base_126 : decode jEx_base.cc 126 = .ok (.aload_n 0, 1) := by decide +kernel
theorem d_Ex_base_127 : decode jEx_base.cc 127 = .ok (.invokevirtual 133, 3) := by decide +kernel
theorem d_Ex_base_130 : decode jEx_base.cc 130 = .ok (.ireturn, 1) := by decide +kernel
set_option maxHeartbeats 4000000 in
theorem s_Ex_base {g : Mg} {d : Nat} {K : Ou → Wd → Prop} {w : Wd} {p1 : Int} (h : Cal g LC jCu_kind d [vA 25] w (fun o w1 => rI o (fun x2 => (x2 = 2 → (Cal g LC jEx_named d [vA 26] w1 (fun o w3 => rI o (fun x4 => K (.inl (some (vI x4))) w3)))) ∧ (¬ x2 = 2 → ((x2 = 3 → (Cal g LC jEx_constant d [vA 26] w1 (fun o w5 => rI o (fun x6 => K (.inl (some (vI x6))) w5)))) ∧ (¬ x2 = 3 → ((x2 = 7 → (Cal g LC jEx_group d [vA 26, vI p1] w1 (fun o w7 => rI o (fun x8 => K (.inl (some (vI x8))) w7)))) ∧ (¬ x2 = 7 → ((x2 = 31 → (Cal g LC jEx_constant d [vA 26] w1 (fun o w9 => rI o (fun x10 => K (.inl (some (vI x10))) w9)))) ∧ (¬ x2 = 31 → ((x2 = 32 → (Cal g LC jEx_constant d [vA 26] w1 (fun o w11 => rI o (fun x12 => K (.inl (some (vI x12))) w11)))) ∧ (¬ x2 = 32 → ((x2 = 48 → (Cal g LC jEx_choice d [vA 26, vI p1] w1 (fun o w13 => rI o (fun x14 => K (.inl (some (vI x14))) w13)))) ∧ (¬ x2 = 48 → ((x2 = 52 → (Cal g LC jEx_column d [vA 26] w1 (fun o w15 => rI o (fun x16 => K (.inl (some (vI x16))) w15)))) ∧ (¬ x2 = 52 → ((x2 = 53 → (Cal g LC jEx_has d [vA 26] w1 (fun o w17 => rI o (fun x18 => K (.inl (some (vI x18))) w17)))) ∧ (¬ x2 = 53 → ((x2 = 59 → (Cal g LC jEx_draw d [vA 26, vI p1] w1 (fun o w19 => rI o (fun x20 => K (.inl (some (vI x20))) w19)))) ∧ (¬ x2 = 59 → (Cal g LC jEx_fact d [vA 26] w1 (fun o w21 => rI o (fun x22 => K (.inl (some (vI x22))) w21))))))))))))))))))))))) : V g LC jEx_base (d + 1) K 0 [(0, vA 26), (1, vI p1)] [] w := by
  refine v_aload_n (pc := 0) d_Ex_base_0 rfl (.head _) ?_
  refine v_getr (C := "") (pc := 1) (r := 25) d_Ex_base_1 fl_Ex_29 cC_26.1 cC_26.2 (Or.inl ⟨_, rfl⟩) rC_26_1 ?_
  refine v_callV (pc := 4) (J' := jCu_kind) (d' := d) (o := 25) (ci := 1) (N := 6) (T := cT1) (As := []) d_Ex_base_4 ml_Ex_66 cC_25.1 cC_25.2 (by decide) rfl rfl (Nat.le_of_ble_eq_true rfl) (Nat.le_refl _) rfl (Cal.weak h (fun o w1 h => ?_))
  rcases rI_of h with ⟨x2, rfl, h⟩
  refine v_lookup (pc := 7) (tgd := 126) (prs := [(2, 93), (3, 88), (7, 120), (31, 88), (32, 88), (48, 114), (52, 98), (53, 103), (59, 108)]) d_Ex_base_7 (by decide) (by decide) (by decide) ⟨fun c => ?_, fun c0 => ⟨fun c => ?_, fun c1 => ⟨fun c => ?_, fun c2 => ⟨fun c => ?_, fun c3 => ⟨fun c => ?_, fun c4 => ⟨fun c => ?_, fun c5 => ⟨fun c => ?_, fun c6 => ⟨fun c => ?_, fun c7 => ⟨fun c => ?_, fun c8 => ?_⟩⟩⟩⟩⟩⟩⟩⟩⟩
  · replace h := h.1 c
    refine v_aload_n (pc := 93) d_Ex_base_93 rfl (.head _) ?_
    refine v_callV (pc := 94) (J' := jEx_named) (d' := d) (o := 26) (ci := 2) (N := 9) (T := cT2) (As := []) d_Ex_base_94 ml_Ex_115 cC_26.1 cC_26.2 (by decide) rfl rfl (Nat.le_of_ble_eq_true rfl) (Nat.le_refl _) rfl (Cal.weak h (fun o w3 h => ?_))
    rcases rI_of h with ⟨x4, rfl, h⟩
    exact v_iret (pc := 97) d_Ex_base_97 rfl h
  · replace h := (h.2 c0).1 c
    refine v_aload_n (pc := 88) d_Ex_base_88 rfl (.head _) ?_
    refine v_callV (pc := 89) (J' := jEx_constant) (d' := d) (o := 26) (ci := 2) (N := 9) (T := cT2) (As := []) d_Ex_base_89 ml_Ex_112 cC_26.1 cC_26.2 (by decide) rfl rfl (Nat.le_of_ble_eq_true rfl) (Nat.le_refl _) rfl (Cal.weak h (fun o w5 h => ?_))
    rcases rI_of h with ⟨x6, rfl, h⟩
    exact v_iret (pc := 92) d_Ex_base_92 rfl h
  · replace h := ((h.2 c0).2 c1).1 c
    refine v_aload_n (pc := 120) d_Ex_base_120 rfl (.head _) ?_
    refine v_iload_n (pc := 121) d_Ex_base_121 rfl (.tail _ (.head _)) ?_
    refine v_callV (pc := 122) (J' := jEx_group) (d' := d) (o := 26) (ci := 2) (N := 9) (T := cT2) (As := [vI p1]) d_Ex_base_122 ml_Ex_130 cC_26.1 cC_26.2 (by decide) rfl rfl (Nat.le_of_ble_eq_true rfl) (Nat.le_refl _) rfl (Cal.weak h (fun o w7 h => ?_))
    rcases rI_of h with ⟨x8, rfl, h⟩
    exact v_iret (pc := 125) d_Ex_base_125 rfl h
  · replace h := (((h.2 c0).2 c1).2 c2).1 c
    refine v_aload_n (pc := 88) d_Ex_base_88 rfl (.head _) ?_
    refine v_callV (pc := 89) (J' := jEx_constant) (d' := d) (o := 26) (ci := 2) (N := 9) (T := cT2) (As := []) d_Ex_base_89 ml_Ex_112 cC_26.1 cC_26.2 (by decide) rfl rfl (Nat.le_of_ble_eq_true rfl) (Nat.le_refl _) rfl (Cal.weak h (fun o w9 h => ?_))
    rcases rI_of h with ⟨x10, rfl, h⟩
    exact v_iret (pc := 92) d_Ex_base_92 rfl h
  · replace h := ((((h.2 c0).2 c1).2 c2).2 c3).1 c
    refine v_aload_n (pc := 88) d_Ex_base_88 rfl (.head _) ?_
    refine v_callV (pc := 89) (J' := jEx_constant) (d' := d) (o := 26) (ci := 2) (N := 9) (T := cT2) (As := []) d_Ex_base_89 ml_Ex_112 cC_26.1 cC_26.2 (by decide) rfl rfl (Nat.le_of_ble_eq_true rfl) (Nat.le_refl _) rfl (Cal.weak h (fun o w11 h => ?_))
    rcases rI_of h with ⟨x12, rfl, h⟩
    exact v_iret (pc := 92) d_Ex_base_92 rfl h
  · replace h := (((((h.2 c0).2 c1).2 c2).2 c3).2 c4).1 c
    refine v_aload_n (pc := 114) d_Ex_base_114 rfl (.head _) ?_
    refine v_iload_n (pc := 115) d_Ex_base_115 rfl (.tail _ (.head _)) ?_
    refine v_callV (pc := 116) (J' := jEx_choice) (d' := d) (o := 26) (ci := 2) (N := 9) (T := cT2) (As := [vI p1]) d_Ex_base_116 ml_Ex_127 cC_26.1 cC_26.2 (by decide) rfl rfl (Nat.le_of_ble_eq_true rfl) (Nat.le_refl _) rfl (Cal.weak h (fun o w13 h => ?_))
    rcases rI_of h with ⟨x14, rfl, h⟩
    exact v_iret (pc := 119) d_Ex_base_119 rfl h
  · replace h := ((((((h.2 c0).2 c1).2 c2).2 c3).2 c4).2 c5).1 c
    refine v_aload_n (pc := 98) d_Ex_base_98 rfl (.head _) ?_
    refine v_callV (pc := 99) (J' := jEx_column) (d' := d) (o := 26) (ci := 2) (N := 9) (T := cT2) (As := []) d_Ex_base_99 ml_Ex_118 cC_26.1 cC_26.2 (by decide) rfl rfl (Nat.le_of_ble_eq_true rfl) (Nat.le_refl _) rfl (Cal.weak h (fun o w15 h => ?_))
    rcases rI_of h with ⟨x16, rfl, h⟩
    exact v_iret (pc := 102) d_Ex_base_102 rfl h
  · replace h := (((((((h.2 c0).2 c1).2 c2).2 c3).2 c4).2 c5).2 c6).1 c
    refine v_aload_n (pc := 103) d_Ex_base_103 rfl (.head _) ?_
    refine v_callV (pc := 104) (J' := jEx_has) (d' := d) (o := 26) (ci := 2) (N := 9) (T := cT2) (As := []) d_Ex_base_104 ml_Ex_121 cC_26.1 cC_26.2 (by decide) rfl rfl (Nat.le_of_ble_eq_true rfl) (Nat.le_refl _) rfl (Cal.weak h (fun o w17 h => ?_))
    rcases rI_of h with ⟨x18, rfl, h⟩
    exact v_iret (pc := 107) d_Ex_base_107 rfl h
  · replace h := ((((((((h.2 c0).2 c1).2 c2).2 c3).2 c4).2 c5).2 c6).2 c7).1 c
    refine v_aload_n (pc := 108) d_Ex_base_108 rfl (.head _) ?_
    refine v_iload_n (pc := 109) d_Ex_base_109 rfl (.tail _ (.head _)) ?_
    refine v_callV (pc := 110) (J' := jEx_draw) (d' := d) (o := 26) (ci := 2) (N := 9) (T := cT2) (As := [vI p1]) d_Ex_base_110 ml_Ex_124 cC_26.1 cC_26.2 (by decide) rfl rfl (Nat.le_of_ble_eq_true rfl) (Nat.le_refl _) rfl (Cal.weak h (fun o w19 h => ?_))
    rcases rI_of h with ⟨x20, rfl, h⟩
    exact v_iret (pc := 113) d_Ex_base_113 rfl h
  · replace h := (((((((((h.2 c0).2 c1).2 c2).2 c3).2 c4).2 c5).2 c6).2 c7).2 c8)
    refine v_aload_n (pc := 126) d_Ex_base_126 rfl (.head _) ?_
    refine v_callV (pc := 127) (J' := jEx_fact) (d' := d) (o := 26) (ci := 2) (N := 9) (T := cT2) (As := []) d_Ex_base_127 ml_Ex_133 cC_26.1 cC_26.2 (by decide) rfl rfl (Nat.le_of_ble_eq_true rfl) (Nat.le_refl _) rfl (Cal.weak h (fun o w21 h => ?_))
    rcases rI_of h with ⟨x22, rfl, h⟩
    exact v_iret (pc := 130) d_Ex_base_130 rfl h
theorem d_Ex_constant_0 : decode jEx_constant.cc 0 = .ok (.aload_n 0, 1) := by decide +kernel
theorem d_Ex_constant_1 : decode jEx_constant.cc 1 = .ok (.getfield 29, 3) := by decide +kernel
theorem d_Ex_constant_4 : decode jEx_constant.cc 4 = .ok (.invokevirtual 66, 3) := by decide +kernel
theorem d_Ex_constant_7 : decode jEx_constant.cc 7 = .ok (.istore_n 1, 1) := by decide +kernel
theorem d_Ex_constant_8 : decode jEx_constant.cc 8 = .ok (.aload_n 0, 1) := by decide +kernel
theorem d_Ex_constant_9 : decode jEx_constant.cc 9 = .ok (.getfield 29, 3) := by decide +kernel
theorem d_Ex_constant_12 : decode jEx_constant.cc 12 = .ok (.iload_n 1, 1) := by decide +kernel
theorem d_Ex_constant_13 : decode jEx_constant.cc 13 = .ok (.invokevirtual 73, 3) := by decide +kernel
theorem d_Ex_constant_16 : decode jEx_constant.cc 16 = .ok (.istore_n 2, 1) := by decide +kernel
theorem d_Ex_constant_17 : decode jEx_constant.cc 17 = .ok (.iload_n 1, 1) := by decide +kernel
theorem d_Ex_constant_18 : decode jEx_constant.cc 18 = .ok (.bipush 31, 2) := by decide +kernel
theorem d_Ex_constant_20 : decode jEx_constant.cc 20 = .ok (.if_icmp .ne 7, 3) := by decide +kernel
theorem d_Ex_constant_23 : decode jEx_constant.cc 23 = .ok (.iconst 1, 1) := by decide +kernel
theorem d_Ex_constant_24 : decode jEx_constant.cc 24 = .ok (.goto 12, 3) := by decide +kernel
theorem d_Ex_constant_27 : decode jEx_constant.cc 27 = .ok (.aload_n 0, 1) := by decide +kernel
theorem d_Ex_constant_28 : decode jEx_constant.cc 28 = .ok (.getfield 25, 3) := by decide +kernel
theorem d_Ex_constant_31 : decode jEx_constant.cc 31 = .ok (.getfield 136, 3) := by decide +kernel
theorem d_Ex_constant_34 : decode jEx_constant.cc 34 = .ok (.iload_n 2, 1) := by decide +kernel
theorem d_Ex_constant_35 : decode jEx_constant.cc 35 = .ok (.iaload, 1) := by decide +kernel
theorem d_Ex_constant_36 : decode jEx_constant.cc 36 = .ok (.istore_n 3, 1) := by decide +kernel
theorem d_Ex_constant_37 : decode jEx_constant.cc 37 = .ok (.aload_n 0, 1) := by decide +kernel
theorem d_Ex_constant_38 : decode jEx_constant.cc 38 = .ok (.getfield 44, 3) := by decide +kernel
theorem d_Ex_constant_41 : decode jEx_constant.cc 41 = .ok (.iconst 0, 1) := by decide +kernel
theorem d_Ex_constant_42 : decode jEx_constant.cc 42 = .ok (.iload_n 3, 1) := by decide +kernel
theorem d_Ex_constant_43 : decode jEx_constant.cc 43 = .ok (.iconst 0, 1) := by decide +kernel
theorem d_Ex_constant_44 : decode jEx_constant.cc 44 = .ok (.invokevirtual 78, 3) := by decide +kernel
theorem d_Ex_constant_47 : decode jEx_constant.cc 47 = .ok (.pop, 1) := by decide +kernel
theorem d_Ex_constant_48 : decode jEx_constant.cc 48 = .ok (.aload_n 0, 1) := by decide +kernel
theorem d_Ex_constant_49 : decode jEx_constant.cc 49 = .ok (.iload_n 2, 1) := by decide +kernel
theorem d_Ex_constant_50 : decode jEx_constant.cc 50 = .ok (.iload_n 1, 1) := by decide +kernel
theorem d_Ex_constant_51 : decode jEx_constant.cc 51 = .ok (.iconst 3, 1) := by decide +kernel
theorem d_Ex_constant_52 : decode jEx_constant.cc 52 = .ok (.if_icmp .ne 7, 3) := by decide +kernel
theorem d_Ex_constant_55 : decode jEx_constant.cc 55 = .ok (.iconst 1, 1) := by decide +kernel
theorem d_Ex_constant_56 : decode jEx_constant.cc 56 = .ok (.goto 4, 3) := by decide +kernel
theorem d_Ex_constant_59 : decode jEx_constant.cc 59 = .ok (.iconst 2, 1) := by decide +kernel
theorem d_Ex_constant_60 : decode jEx_constant.cc 60 = .ok (.bipush 7, 2) := by decide +kernel
theorem d_Ex_constant_62 : decode jEx_constant.cc 62 = .ok (.invokevirtual 98, 3) := by decide +kernel
theorem d_Ex_constant_65 : decode jEx_constant.cc 65 = .ok (.iload_n 2, 1) := by decide +kernel
theorem d_Ex_constant_66 : decode jEx_constant.cc 66 = .ok (.ireturn, 1) := by decide +kernel
set_option maxHeartbeats 4000000 in
theorem s_Ex_constant {g : Mg} {d : Nat} {K : Ou → Wd → Prop} {w : Wd} (h : Cal g LC jCu_kind d [vA 25] w (fun o w1 => rI o (fun x2 => Cal g LC jCu_take d [vA 25, vI x2] w1 (fun o w3 => rI o (fun x4 => (¬ x2 = 31 → ((0 ≤ x4 ∧ x4 < 1002) ∧ (Cal g LC jCo_add d [vA 19, vI 0, vI (w3 7 x4.toNat), vI 0] w3 (fun o w5 => rI o (fun x6 => (¬ x2 = 3 → (Cal g LC jEx_know d [vA 26, vI x4, vI 2, vI 7] w5 (fun o w7 => rV o (K (.inl (some (vI x4))) w7)))) ∧ (x2 = 3 → (Cal g LC jEx_know d [vA 26, vI x4, vI 1, vI 7] w5 (fun o w8 => rV o (K (.inl (some (vI x4))) w8))))))))) ∧ (x2 = 31 → (Cal g LC jCo_add d [vA 19, vI 0, vI 1, vI 0] w3 (fun o w9 => rI o (fun x10 => (¬ x2 = 3 → (Cal g LC jEx_know d [vA 26, vI x4, vI 2, vI 7] w9 (fun o w11 => rV o (K (.inl (some (vI x4))) w11)))) ∧ (x2 = 3 → (Cal g LC jEx_know d [vA 26, vI x4, vI 1, vI 7] w9 (fun o w12 => rV o (K (.inl (some (vI x4))) w12))))))))))))) : V g LC jEx_constant (d + 1) K 0 [(0, vA 26)] [] w := by
  refine v_aload_n (pc := 0) d_Ex_constant_0 rfl (.head _) ?_
  refine v_getr (C := "") (pc := 1) (r := 25) d_Ex_constant_1 fl_Ex_29 cC_26.1 cC_26.2 (Or.inl ⟨_, rfl⟩) rC_26_1 ?_
  refine v_callV (pc := 4) (J' := jCu_kind) (d' := d) (o := 25) (ci := 1) (N := 6) (T := cT1) (As := []) d_Ex_constant_4 ml_Ex_66 cC_25.1 cC_25.2 (by decide) rfl rfl (Nat.le_of_ble_eq_true rfl) (Nat.le_refl _) rfl (Cal.weak h (fun o w1 h => ?_))
  rcases rI_of h with ⟨x2, rfl, h⟩
  refine v_istore_n (pc := 7) (ls' := [(1, vI x2), (0, vA 26)]) d_Ex_constant_7 rfl (by decide) rfl ?_
  refine v_aload_n (pc := 8) d_Ex_constant_8 rfl (.tail _ (.head _)) ?_
  refine v_getr (C := "") (pc := 9) (r := 25) d_Ex_constant_9 fl_Ex_29 cC_26.1 cC_26.2 (Or.inl ⟨_, rfl⟩) rC_26_1 ?_
  refine v_iload_n (pc := 12) d_Ex_constant_12 rfl (.head _) ?_
  refine v_callV (pc := 13) (J' := jCu_take) (d' := d) (o := 25) (ci := 1) (N := 6) (T := cT1) (As := [vI x2]) d_Ex_constant_13 ml_Ex_73 cC_25.1 cC_25.2 (by decide) rfl rfl (Nat.le_of_ble_eq_true rfl) (Nat.le_refl _) rfl (Cal.weak h (fun o w3 h => ?_))
  rcases rI_of h with ⟨x4, rfl, h⟩
  refine v_istore_n (pc := 16) (ls' := [(2, vI x4), (1, vI x2), (0, vA 26)]) d_Ex_constant_16 rfl (by decide) rfl ?_
  refine v_iload_n (pc := 17) d_Ex_constant_17 rfl (.tail _ (.head _)) ?_
  refine v_bipush (pc := 18) d_Ex_constant_18 (by decide) rfl ?_
  refine v_icmpne (pc := 20) (tgt := 27) d_Ex_constant_20 (by decide) (fun c => ?_) (fun c => ?_)
  · replace h := h.1 c
    refine v_aload_n (pc := 27) d_Ex_constant_27 rfl (.tail _ (.tail _ (.head _))) ?_
    refine v_getr (C := "") (pc := 28) (r := 2) d_Ex_constant_28 fl_Ex_25 cC_26.1 cC_26.2 (Or.inl ⟨_, rfl⟩) rC_26_0 ?_
    refine v_getr (C := "") (pc := 31) (r := 7) d_Ex_constant_31 fl_Ex_136 cC_2.1 cC_2.2 (Or.inr ⟨_, rfl⟩) rC_2_5 ?_
    refine v_iload_n (pc := 34) d_Ex_constant_34 rfl (.head _) ?_
    refine v_iald (pc := 35) (x := (w3 7 x4.toNat)) d_Ex_constant_35 cC_7.1 cC_7.2 rfl h.1 ?_
    replace h := h.2
    refine v_istore_n (pc := 36) (ls' := [(3, vI (w3 7 x4.toNat)), (2, vI x4), (1, vI x2), (0, vA 26)]) d_Ex_constant_36 rfl (by decide) rfl ?_
    refine v_aload_n (pc := 37) d_Ex_constant_37 rfl (.tail _ (.tail _ (.tail _ (.head _)))) ?_
    refine v_getr (C := "") (pc := 38) (r := 19) d_Ex_constant_38 fl_Ex_44 cC_26.1 cC_26.2 (Or.inl ⟨_, rfl⟩) rC_26_3 ?_
    refine v_iconst (pc := 41) d_Ex_constant_41 (by decide) ?_
    refine v_iload_n (pc := 42) d_Ex_constant_42 rfl (.head _) ?_
    refine v_iconst (pc := 43) d_Ex_constant_43 (by decide) ?_
    refine v_callV (pc := 44) (J' := jCo_add) (d' := d) (o := 19) (ci := 0) (N := 6) (T := cT0) (As := [vI 0, vI (w3 7 x4.toNat), vI 0]) d_Ex_constant_44 ml_Ex_78 cC_19.1 cC_19.2 (by decide) rfl rfl (Nat.le_of_ble_eq_true rfl) (Nat.le_refl _) rfl (Cal.weak h (fun o w5 h => ?_))
    rcases rI_of h with ⟨x6, rfl, h⟩
    refine v_pop (pc := 47) d_Ex_constant_47 rfl ?_
    refine v_aload_n (pc := 48) d_Ex_constant_48 rfl (.tail _ (.tail _ (.tail _ (.head _)))) ?_
    refine v_iload_n (pc := 49) d_Ex_constant_49 rfl (.tail _ (.head _)) ?_
    refine v_iload_n (pc := 50) d_Ex_constant_50 rfl (.tail _ (.tail _ (.head _))) ?_
    refine v_iconst (pc := 51) d_Ex_constant_51 (by decide) ?_
    refine v_icmpne (pc := 52) (tgt := 59) d_Ex_constant_52 (by decide) (fun c => ?_) (fun c => ?_)
    · replace h := h.1 c
      refine v_iconst (pc := 59) d_Ex_constant_59 (by decide) ?_
      refine v_bipush (pc := 60) d_Ex_constant_60 (by decide) rfl ?_
      refine v_callV (pc := 62) (J' := jEx_know) (d' := d) (o := 26) (ci := 2) (N := 9) (T := cT2) (As := [vI x4, vI 2, vI 7]) d_Ex_constant_62 ml_Ex_98 cC_26.1 cC_26.2 (by decide) rfl rfl (Nat.le_of_ble_eq_true rfl) (Nat.le_refl _) rfl (Cal.weak h (fun o w7 h => ?_))
      rcases rV_of h with ⟨rfl, h⟩
      refine v_iload_n (pc := 65) d_Ex_constant_65 rfl (.tail _ (.head _)) ?_
      exact v_iret (pc := 66) d_Ex_constant_66 rfl h
    · replace h := h.2 c
      refine v_iconst (pc := 55) d_Ex_constant_55 (by decide) ?_
      refine v_goto (pc := 56) (tgt := 60) d_Ex_constant_56 (by decide) ?_
      refine v_bipush (pc := 60) d_Ex_constant_60 (by decide) rfl ?_
      refine v_callV (pc := 62) (J' := jEx_know) (d' := d) (o := 26) (ci := 2) (N := 9) (T := cT2) (As := [vI x4, vI 1, vI 7]) d_Ex_constant_62 ml_Ex_98 cC_26.1 cC_26.2 (by decide) rfl rfl (Nat.le_of_ble_eq_true rfl) (Nat.le_refl _) rfl (Cal.weak h (fun o w8 h => ?_))
      rcases rV_of h with ⟨rfl, h⟩
      refine v_iload_n (pc := 65) d_Ex_constant_65 rfl (.tail _ (.head _)) ?_
      exact v_iret (pc := 66) d_Ex_constant_66 rfl h
  · replace h := h.2 c
    refine v_iconst (pc := 23) d_Ex_constant_23 (by decide) ?_
    refine v_goto (pc := 24) (tgt := 36) d_Ex_constant_24 (by decide) ?_
    refine v_istore_n (pc := 36) (ls' := [(3, vI 1), (2, vI x4), (1, vI x2), (0, vA 26)]) d_Ex_constant_36 rfl (by decide) rfl ?_
    refine v_aload_n (pc := 37) d_Ex_constant_37 rfl (.tail _ (.tail _ (.tail _ (.head _)))) ?_
    refine v_getr (C := "") (pc := 38) (r := 19) d_Ex_constant_38 fl_Ex_44 cC_26.1 cC_26.2 (Or.inl ⟨_, rfl⟩) rC_26_3 ?_
    refine v_iconst (pc := 41) d_Ex_constant_41 (by decide) ?_
    refine v_iload_n (pc := 42) d_Ex_constant_42 rfl (.head _) ?_
    refine v_iconst (pc := 43) d_Ex_constant_43 (by decide) ?_
    refine v_callV (pc := 44) (J' := jCo_add) (d' := d) (o := 19) (ci := 0) (N := 6) (T := cT0) (As := [vI 0, vI 1, vI 0]) d_Ex_constant_44 ml_Ex_78 cC_19.1 cC_19.2 (by decide) rfl rfl (Nat.le_of_ble_eq_true rfl) (Nat.le_refl _) rfl (Cal.weak h (fun o w9 h => ?_))
    rcases rI_of h with ⟨x10, rfl, h⟩
    refine v_pop (pc := 47) d_Ex_constant_47 rfl ?_
    refine v_aload_n (pc := 48) d_Ex_constant_48 rfl (.tail _ (.tail _ (.tail _ (.head _)))) ?_
    refine v_iload_n (pc := 49) d_Ex_constant_49 rfl (.tail _ (.head _)) ?_
    refine v_iload_n (pc := 50) d_Ex_constant_50 rfl (.tail _ (.tail _ (.head _))) ?_
    refine v_iconst (pc := 51) d_Ex_constant_51 (by decide) ?_
    refine v_icmpne (pc := 52) (tgt := 59) d_Ex_constant_52 (by decide) (fun c => ?_) (fun c => ?_)
    · replace h := h.1 c
      refine v_iconst (pc := 59) d_Ex_constant_59 (by decide) ?_
      refine v_bipush (pc := 60) d_Ex_constant_60 (by decide) rfl ?_
      refine v_callV (pc := 62) (J' := jEx_know) (d' := d) (o := 26) (ci := 2) (N := 9) (T := cT2) (As := [vI x4, vI 2, vI 7]) d_Ex_constant_62 ml_Ex_98 cC_26.1 cC_26.2 (by decide) rfl rfl (Nat.le_of_ble_eq_true rfl) (Nat.le_refl _) rfl (Cal.weak h (fun o w11 h => ?_))
      rcases rV_of h with ⟨rfl, h⟩
      refine v_iload_n (pc := 65) d_Ex_constant_65 rfl (.tail _ (.head _)) ?_
      exact v_iret (pc := 66) d_Ex_constant_66 rfl h
    · replace h := h.2 c
      refine v_iconst (pc := 55) d_Ex_constant_55 (by decide) ?_
      refine v_goto (pc := 56) (tgt := 60) d_Ex_constant_56 (by decide) ?_
      refine v_bipush (pc := 60) d_Ex_constant_60 (by decide) rfl ?_
      refine v_callV (pc := 62) (J' := jEx_know) (d' := d) (o := 26) (ci := 2) (N := 9) (T := cT2) (As := [vI x4, vI 1, vI 7]) d_Ex_constant_62 ml_Ex_98 cC_26.1 cC_26.2 (by decide) rfl rfl (Nat.le_of_ble_eq_true rfl) (Nat.le_refl _) rfl (Cal.weak h (fun o w12 h => ?_))
      rcases rV_of h with ⟨rfl, h⟩
      refine v_iload_n (pc := 65) d_Ex_constant_65 rfl (.tail _ (.head _)) ?_
      exact v_iret (pc := 66) d_Ex_constant_66 rfl h
theorem d_Ex_fact_0 : decode jEx_fact.cc 0 = .ok (.aload_n 0, 1) := by decide +kernel
theorem d_Ex_fact_1 : decode jEx_fact.cc 1 = .ok (.getfield 29, 3) := by decide +kernel
theorem d_Ex_fact_4 : decode jEx_fact.cc 4 = .ok (.invokevirtual 66, 3) := by decide +kernel
theorem d_Ex_fact_7 : decode jEx_fact.cc 7 = .ok (.istore_n 1, 1) := by decide +kernel
theorem d_Ex_fact_8 : decode jEx_fact.cc 8 = .ok (.iload_n 1, 1) := by decide +kernel
theorem d_Ex_fact_9 : decode jEx_fact.cc 9 = .ok (.invokestatic 139, 3) := by decide +kernel
theorem d_Ex_fact_12 : decode jEx_fact.cc 12 = .ok (.istore_n 2, 1) := by decide +kernel
theorem d_Ex_fact_13 : decode jEx_fact.cc 13 = .ok (.iload_n 2, 1) := by decide +kernel
theorem d_Ex_fact_14 : decode jEx_fact.cc 14 = .ok (.ifCond .ge 11, 3) := by decide +kernel
theorem d_Ex_fact_17 : decode jEx_fact.cc 17 = .ok (.aload_n 0, 1) := by decide +kernel
theorem d_Ex_fact_18 : decode jEx_fact.cc 18 = .ok (.getfield 29, 3) := by decide +kernel
theorem d_Ex_fact_21 : decode jEx_fact.cc 21 = .ok (.iconst 1, 1) := by decide +kernel
theorem d_Ex_fact_22 : decode jEx_fact.cc 22 = .ok (.invokevirtual 106, 3) := by decide +kernel
theorem d_Ex_fact_25 : decode jEx_fact.cc 25 = .ok (.aload_n 0, 1) := by decide +kernel
theorem d_Ex_fact_26 : decode jEx_fact.cc 26 = .ok (.getfield 29, 3) := by decide +kernel
theorem d_Ex_fact_29 : decode jEx_fact.cc 29 = .ok (.iload_n 1, 1) := by decide +kernel
theorem d_Ex_fact_30 : decode jEx_fact.cc 30 = .ok (.invokevirtual 73, 3) := by decide +kernel
theorem d_Ex_fact_33 : decode jEx_fact.cc 33 = .ok (.istore_n 3, 1) := by decide +kernel
theorem d_Ex_fact_34 : decode jEx_fact.cc 34 = .ok (.aload_n 0, 1) := by decide +kernel
theorem d_Ex_fact_35 : decode jEx_fact.cc 35 = .ok (.getfield 44, 3) := by decide +kernel
theorem d_Ex_fact_38 : decode jEx_fact.cc 38 = .ok (.iload_n 2, 1) := by decide +kernel
theorem d_Ex_fact_39 : decode jEx_fact.cc 39 = .ok (.iconst 0, 1) := by decide +kernel
theorem d_Ex_fact_40 : decode jEx_fact.cc 40 = .ok (.invokestatic 142, 3) := by decide +kernel
theorem d_Ex_fact_43 : decode jEx_fact.cc 43 = .ok (.iconst 0, 1) := by decide +kernel
theorem d_Ex_fact_44 : decode jEx_fact.cc 44 = .ok (.iconst 0, 1) := by decide +kernel
theorem d_Ex_fact_45 : decode jEx_fact.cc 45 = .ok (.invokevirtual 78, 3) := by decide +kernel
theorem d_Ex_fact_48 : decode jEx_fact.cc 48 = .ok (.pop, 1) := by decide +kernel
theorem d_Ex_fact_49 : decode jEx_fact.cc 49 = .ok (.aload_n 0, 1) := by decide +kernel
theorem d_Ex_fact_50 : decode jEx_fact.cc 50 = .ok (.iload_n 3, 1) := by decide +kernel
theorem d_Ex_fact_51 : decode jEx_fact.cc 51 = .ok (.iconst 1, 1) := by decide +kernel
theorem d_Ex_fact_52 : decode jEx_fact.cc 52 = .ok (.bipush 7, 2) := by decide +kernel
theorem d_Ex_fact_54 : decode jEx_fact.cc 54 = .ok (.invokevirtual 98, 3) := by decide +kernel
theorem d_Ex_fact_57 : decode jEx_fact.cc 57 = .ok (.iload_n 3, 1) := by decide +kernel
theorem d_Ex_fact_58 : decode jEx_fact.cc 58 = .ok (.ireturn, 1) := by decide +kernel
set_option maxHeartbeats 4000000 in
theorem s_Ex_fact {g : Mg} {d : Nat} {K : Ou → Wd → Prop} {w : Wd} (h : Cal g LC jCu_kind d [vA 25] w (fun o w1 => rI o (fun x2 => Cal g LC jEx_factDeed d [vI x2] w1 (fun o w3 => rI o (fun x4 => (0 ≤ x4 → (Cal g LC jCu_take d [vA 25, vI x2] w3 (fun o w5 => rI o (fun x6 => Cal g LC jMt_max d [vI x4, vI 0] w5 (fun o w7 => rI o (fun x8 => Cal g LC jCo_add d [vA 19, vI x8, vI 0, vI 0] w7 (fun o w9 => rI o (fun x10 => Cal g LC jEx_know d [vA 26, vI x6, vI 1, vI 7] w9 (fun o w11 => rV o (K (.inl (some (vI x6))) w11)))))))))) ∧ (¬ 0 ≤ x4 → (Cal g LC jCu_stop d [vA 25, vI 1] w3 (fun o w12 => rV o (Cal g LC jCu_take d [vA 25, vI x2] w12 (fun o w13 => rI o (fun x14 => Cal g LC jMt_max d [vI x4, vI 0] w13 (fun o w15 => rI o (fun x16 => Cal g LC jCo_add d [vA 19, vI x16, vI 0, vI 0] w15 (fun o w17 => rI o (fun x18 => Cal g LC jEx_know d [vA 26, vI x14, vI 1, vI 7] w17 (fun o w19 => rV o (K (.inl (some (vI x14))) w19))))))))))))))))) : V g LC jEx_fact (d + 1) K 0 [(0, vA 26)] [] w := by
  refine v_aload_n (pc := 0) d_Ex_fact_0 rfl (.head _) ?_
  refine v_getr (C := "") (pc := 1) (r := 25) d_Ex_fact_1 fl_Ex_29 cC_26.1 cC_26.2 (Or.inl ⟨_, rfl⟩) rC_26_1 ?_
  refine v_callV (pc := 4) (J' := jCu_kind) (d' := d) (o := 25) (ci := 1) (N := 6) (T := cT1) (As := []) d_Ex_fact_4 ml_Ex_66 cC_25.1 cC_25.2 (by decide) rfl rfl (Nat.le_of_ble_eq_true rfl) (Nat.le_refl _) rfl (Cal.weak h (fun o w1 h => ?_))
  rcases rI_of h with ⟨x2, rfl, h⟩
  refine v_istore_n (pc := 7) (ls' := [(1, vI x2), (0, vA 26)]) d_Ex_fact_7 rfl (by decide) rfl ?_
  refine v_iload_n (pc := 8) d_Ex_fact_8 rfl (.head _) ?_
  refine v_callS (pc := 9) (J' := jEx_factDeed) (d' := d) (As := [vI x2]) d_Ex_fact_9 ml_Ex_139 rfl (Nat.le_of_ble_eq_true rfl) (Nat.le_refl _) rfl (Cal.weak h (fun o w3 h => ?_))
  rcases rI_of h with ⟨x4, rfl, h⟩
  refine v_istore_n (pc := 12) (ls' := [(2, vI x4), (1, vI x2), (0, vA 26)]) d_Ex_fact_12 rfl (by decide) rfl ?_
  refine v_iload_n (pc := 13) d_Ex_fact_13 rfl (.head _) ?_
  refine v_ifge (pc := 14) (tgt := 25) d_Ex_fact_14 (by decide) (fun c => ?_) (fun c => ?_)
  · replace h := h.1 c
    refine v_aload_n (pc := 25) d_Ex_fact_25 rfl (.tail _ (.tail _ (.head _))) ?_
    refine v_getr (C := "") (pc := 26) (r := 25) d_Ex_fact_26 fl_Ex_29 cC_26.1 cC_26.2 (Or.inl ⟨_, rfl⟩) rC_26_1 ?_
    refine v_iload_n (pc := 29) d_Ex_fact_29 rfl (.tail _ (.head _)) ?_
    refine v_callV (pc := 30) (J' := jCu_take) (d' := d) (o := 25) (ci := 1) (N := 6) (T := cT1) (As := [vI x2]) d_Ex_fact_30 ml_Ex_73 cC_25.1 cC_25.2 (by decide) rfl rfl (Nat.le_of_ble_eq_true rfl) (Nat.le_refl _) rfl (Cal.weak h (fun o w5 h => ?_))
    rcases rI_of h with ⟨x6, rfl, h⟩
    refine v_istore_n (pc := 33) (ls' := [(3, vI x6), (2, vI x4), (1, vI x2), (0, vA 26)]) d_Ex_fact_33 rfl (by decide) rfl ?_
    refine v_aload_n (pc := 34) d_Ex_fact_34 rfl (.tail _ (.tail _ (.tail _ (.head _)))) ?_
    refine v_getr (C := "") (pc := 35) (r := 19) d_Ex_fact_35 fl_Ex_44 cC_26.1 cC_26.2 (Or.inl ⟨_, rfl⟩) rC_26_3 ?_
    refine v_iload_n (pc := 38) d_Ex_fact_38 rfl (.tail _ (.head _)) ?_
    refine v_iconst (pc := 39) d_Ex_fact_39 (by decide) ?_
    refine v_callS (pc := 40) (J' := jMt_max) (d' := d) (As := [vI x4, vI 0]) d_Ex_fact_40 ml_Ex_142 rfl (Nat.le_of_ble_eq_true rfl) (Nat.le_refl _) rfl (Cal.weak h (fun o w7 h => ?_))
    rcases rI_of h with ⟨x8, rfl, h⟩
    refine v_iconst (pc := 43) d_Ex_fact_43 (by decide) ?_
    refine v_iconst (pc := 44) d_Ex_fact_44 (by decide) ?_
    refine v_callV (pc := 45) (J' := jCo_add) (d' := d) (o := 19) (ci := 0) (N := 6) (T := cT0) (As := [vI x8, vI 0, vI 0]) d_Ex_fact_45 ml_Ex_78 cC_19.1 cC_19.2 (by decide) rfl rfl (Nat.le_of_ble_eq_true rfl) (Nat.le_refl _) rfl (Cal.weak h (fun o w9 h => ?_))
    rcases rI_of h with ⟨x10, rfl, h⟩
    refine v_pop (pc := 48) d_Ex_fact_48 rfl ?_
    refine v_aload_n (pc := 49) d_Ex_fact_49 rfl (.tail _ (.tail _ (.tail _ (.head _)))) ?_
    refine v_iload_n (pc := 50) d_Ex_fact_50 rfl (.head _) ?_
    refine v_iconst (pc := 51) d_Ex_fact_51 (by decide) ?_
    refine v_bipush (pc := 52) d_Ex_fact_52 (by decide) rfl ?_
    refine v_callV (pc := 54) (J' := jEx_know) (d' := d) (o := 26) (ci := 2) (N := 9) (T := cT2) (As := [vI x6, vI 1, vI 7]) d_Ex_fact_54 ml_Ex_98 cC_26.1 cC_26.2 (by decide) rfl rfl (Nat.le_of_ble_eq_true rfl) (Nat.le_refl _) rfl (Cal.weak h (fun o w11 h => ?_))
    rcases rV_of h with ⟨rfl, h⟩
    refine v_iload_n (pc := 57) d_Ex_fact_57 rfl (.head _) ?_
    exact v_iret (pc := 58) d_Ex_fact_58 rfl h
  · replace h := h.2 c
    refine v_aload_n (pc := 17) d_Ex_fact_17 rfl (.tail _ (.tail _ (.head _))) ?_
    refine v_getr (C := "") (pc := 18) (r := 25) d_Ex_fact_18 fl_Ex_29 cC_26.1 cC_26.2 (Or.inl ⟨_, rfl⟩) rC_26_1 ?_
    refine v_iconst (pc := 21) d_Ex_fact_21 (by decide) ?_
    refine v_callV (pc := 22) (J' := jCu_stop) (d' := d) (o := 25) (ci := 1) (N := 6) (T := cT1) (As := [vI 1]) d_Ex_fact_22 ml_Ex_106 cC_25.1 cC_25.2 (by decide) rfl rfl (Nat.le_of_ble_eq_true rfl) (Nat.le_refl _) rfl (Cal.weak h (fun o w12 h => ?_))
    rcases rV_of h with ⟨rfl, h⟩
    refine v_aload_n (pc := 25) d_Ex_fact_25 rfl (.tail _ (.tail _ (.head _))) ?_
    refine v_getr (C := "") (pc := 26) (r := 25) d_Ex_fact_26 fl_Ex_29 cC_26.1 cC_26.2 (Or.inl ⟨_, rfl⟩) rC_26_1 ?_
    refine v_iload_n (pc := 29) d_Ex_fact_29 rfl (.tail _ (.head _)) ?_
    refine v_callV (pc := 30) (J' := jCu_take) (d' := d) (o := 25) (ci := 1) (N := 6) (T := cT1) (As := [vI x2]) d_Ex_fact_30 ml_Ex_73 cC_25.1 cC_25.2 (by decide) rfl rfl (Nat.le_of_ble_eq_true rfl) (Nat.le_refl _) rfl (Cal.weak h (fun o w13 h => ?_))
    rcases rI_of h with ⟨x14, rfl, h⟩
    refine v_istore_n (pc := 33) (ls' := [(3, vI x14), (2, vI x4), (1, vI x2), (0, vA 26)]) d_Ex_fact_33 rfl (by decide) rfl ?_
    refine v_aload_n (pc := 34) d_Ex_fact_34 rfl (.tail _ (.tail _ (.tail _ (.head _)))) ?_
    refine v_getr (C := "") (pc := 35) (r := 19) d_Ex_fact_35 fl_Ex_44 cC_26.1 cC_26.2 (Or.inl ⟨_, rfl⟩) rC_26_3 ?_
    refine v_iload_n (pc := 38) d_Ex_fact_38 rfl (.tail _ (.head _)) ?_
    refine v_iconst (pc := 39) d_Ex_fact_39 (by decide) ?_
    refine v_callS (pc := 40) (J' := jMt_max) (d' := d) (As := [vI x4, vI 0]) d_Ex_fact_40 ml_Ex_142 rfl (Nat.le_of_ble_eq_true rfl) (Nat.le_refl _) rfl (Cal.weak h (fun o w15 h => ?_))
    rcases rI_of h with ⟨x16, rfl, h⟩
    refine v_iconst (pc := 43) d_Ex_fact_43 (by decide) ?_
    refine v_iconst (pc := 44) d_Ex_fact_44 (by decide) ?_
    refine v_callV (pc := 45) (J' := jCo_add) (d' := d) (o := 19) (ci := 0) (N := 6) (T := cT0) (As := [vI x16, vI 0, vI 0]) d_Ex_fact_45 ml_Ex_78 cC_19.1 cC_19.2 (by decide) rfl rfl (Nat.le_of_ble_eq_true rfl) (Nat.le_refl _) rfl (Cal.weak h (fun o w17 h => ?_))
    rcases rI_of h with ⟨x18, rfl, h⟩
    refine v_pop (pc := 48) d_Ex_fact_48 rfl ?_
    refine v_aload_n (pc := 49) d_Ex_fact_49 rfl (.tail _ (.tail _ (.tail _ (.head _)))) ?_
    refine v_iload_n (pc := 50) d_Ex_fact_50 rfl (.head _) ?_
    refine v_iconst (pc := 51) d_Ex_fact_51 (by decide) ?_
    refine v_bipush (pc := 52) d_Ex_fact_52 (by decide) rfl ?_
    refine v_callV (pc := 54) (J' := jEx_know) (d' := d) (o := 26) (ci := 2) (N := 9) (T := cT2) (As := [vI x14, vI 1, vI 7]) d_Ex_fact_54 ml_Ex_98 cC_26.1 cC_26.2 (by decide) rfl rfl (Nat.le_of_ble_eq_true rfl) (Nat.le_refl _) rfl (Cal.weak h (fun o w19 h => ?_))
    rcases rV_of h with ⟨rfl, h⟩
    refine v_iload_n (pc := 57) d_Ex_fact_57 rfl (.head _) ?_
    exact v_iret (pc := 58) d_Ex_fact_58 rfl h
theorem d_Ex_named_0 : decode jEx_named.cc 0 = .ok (.aload_n 0, 1) := by decide +kernel
theorem d_Ex_named_1 : decode jEx_named.cc 1 = .ok (.getfield 29, 3) := by decide +kernel
theorem d_Ex_named_4 : decode jEx_named.cc 4 = .ok (.iconst 2, 1) := by decide +kernel
theorem d_Ex_named_5 : decode jEx_named.cc 5 = .ok (.invokevirtual 73, 3) := by decide +kernel
theorem d_Ex_named_8 : decode jEx_named.cc 8 = .ok (.istore_n 1, 1) := by decide +kernel
theorem d_Ex_named_9 : decode jEx_named.cc 9 = .ok (.aload_n 0, 1) := by decide +kernel
theorem d_Ex_named_10 : decode jEx_named.cc 10 = .ok (.getfield 39, 3) := by decide +kernel
theorem d_Ex_named_13 : decode jEx_named.cc 13 = .ok (.iload_n 1, 1) := by decide +kernel
theorem d_Ex_named_14 : decode jEx_named.cc 14 = .ok (.invokevirtual 147, 3) := by decide +kernel
theorem d_Ex_named_17 : decode jEx_named.cc 17 = .ok (.istore_n 2, 1) := by decide +kernel
theorem d_Ex_named_18 : decode jEx_named.cc 18 = .ok (.aload_n 0, 1) := by decide +kernel
theorem d_Ex_named_19 : decode jEx_named.cc 19 = .ok (.getfield 39, 3) := by decide +kernel
theorem d_Ex_named_22 : decode jEx_named.cc 22 = .ok (.iload_n 2, 1) := by decide +kernel
theorem d_Ex_named_23 : decode jEx_named.cc 23 = .ok (.invokevirtual 150, 3) := by decide +kernel
theorem d_Ex_named_26 : decode jEx_named.cc 26 = .ok (.invokestatic 153, 3) := by decide +kernel
theorem d_Ex_named_29 : decode jEx_named.cc 29 = .ok (.istore_n 3, 1) := by decide +kernel
theorem d_Ex_named_30 : decode jEx_named.cc 30 = .ok (.iload_n 3, 1) := by decide +kernel
theorem d_Ex_named_31 : decode jEx_named.cc 31 = .ok (.ifCond .ge 12, 3) := by decide +kernel
theorem d_Ex_named_34 : decode jEx_named.cc 34 = .ok (.aload_n 0, 1) := by decide +kernel
theorem d_Ex_named_35 : decode jEx_named.cc 35 = .ok (.getfield 29, 3) := by decide +kernel
theorem d_Ex_named_38 : decode jEx_named.cc 38 = .ok (.iconst 4, 1) := by decide +kernel
theorem d_Ex_named_39 : decode jEx_named.cc 39 = .ok (.iload_n 1, 1) := by decide +kernel
theorem d_Ex_named_40 : decode jEx_named.cc 40 = .ok (.invokevirtual 49, 3) := by decide +kernel
theorem d_Ex_named_43 : decode jEx_named.cc 43 = .ok (.aload_n 0, 1) := by decide +kernel
theorem d_Ex_named_44 : decode jEx_named.cc 44 = .ok (.getfield 44, 3) := by decide +kernel
theorem d_Ex_named_47 : decode jEx_named.cc 47 = .ok (.iload_n 3, 1) := by decide +kernel
theorem d_Ex_named_48 : decode jEx_named.cc 48 = .ok (.iconst 0, 1) := by decide +kernel
theorem d_Ex_named_49 : decode jEx_named.cc 49 = .ok (.invokestatic 142, 3) := by decide +kernel
theorem d_Ex_named_52 : decode jEx_named.cc 52 = .ok (.aload_n 0, 1) := by decide +kernel
theorem d_Ex_named_53 : decode jEx_named.cc 53 = .ok (.getfield 39, 3) := by decide +kernel
theorem d_Ex_named_56 : decode jEx_named.cc 56 = .ok (.iload_n 2, 1) := by decide +kernel
theorem d_Ex_named_57 : decode jEx_named.cc 57 = .ok (.invokevirtual 156, 3) := by decide +kernel
theorem d_Ex_named_60 : decode jEx_named.cc 60 = .ok (.iconst 0, 1) := by decide +kernel
theorem d_Ex_named_61 : decode jEx_named.cc 61 = .ok (.invokevirtual 78, 3) := by decide +kernel
theorem d_Ex_named_64 : decode jEx_named.cc 64 = .ok (.pop, 1) := by decide +kernel
theorem d_Ex_named_65 : decode jEx_named.cc 65 = .ok (.aload_n 0, 1) := by decide +kernel
theorem d_Ex_named_66 : decode jEx_named.cc 66 = .ok (.iload_n 1, 1) := by decide +kernel
theorem d_Ex_named_67 : decode jEx_named.cc 67 = .ok (.iload_n 3, 1) := by decide +kernel
theorem d_Ex_named_68 : decode jEx_named.cc 68 = .ok (.ifCond .ge 7, 3) := by decide +kernel
theorem d_Ex_named_71 : decode jEx_named.cc 71 = .ok (.iconst 0, 1) := by decide +kernel
theorem d_Ex_named_72 : decode jEx_named.cc 72 = .ok (.goto 11, 3) := by decide +kernel
theorem d_Ex_named_75 : decode jEx_named.cc 75 = .ok (.aload_n 0, 1) := by decide +kernel
theorem d_Ex_named_76 : decode jEx_named.cc 76 = .ok (.getfield 39, 3) := by decide +kernel
theorem d_Ex_named_79 : decode jEx_named.cc 79 = .ok (.iload_n 2, 1) := by decide +kernel
theorem d_Ex_named_80 : decode jEx_named.cc 80 = .ok (.invokevirtual 159, 3) := by decide +kernel
theorem d_Ex_named_83 : decode jEx_named.cc 83 = .ok (.bipush 7, 2) := by decide +kernel
theorem d_Ex_named_85 : decode jEx_named.cc 85 = .ok (.invokevirtual 98, 3) := by decide +kernel
theorem d_Ex_named_88 : decode jEx_named.cc 88 = .ok (.iload_n 1, 1) := by decide +kernel
theorem d_Ex_named_89 : decode jEx_named.cc 89 = .ok (.ireturn, 1) := by decide +kernel
set_option maxHeartbeats 4000000 in
theorem s_Ex_named {g : Mg} {d : Nat} {K : Ou → Wd → Prop} {w : Wd} (h : Cal g LC jCu_take d [vA 25, vI 2] w (fun o w1 => rI o (fun x2 => Cal g LC jLo_find d [vA 13, vI x2] w1 (fun o w3 => rI o (fun x4 => Cal g LC jLo_sortOf d [vA 13, vI x4] w3 (fun o w5 => rI o (fun x6 => Cal g LC jEx_readingDeed d [vI x6] w5 (fun o w7 => rI o (fun x8 => (0 ≤ x8 → (Cal g LC jMt_max d [vI x8, vI 0] w7 (fun o w9 => rI o (fun x10 => Cal g LC jLo_numberOf d [vA 13, vI x4] w9 (fun o w11 => rI o (fun x12 => Cal g LC jCo_add d [vA 19, vI x10, vI x12, vI 0] w11 (fun o w13 => rI o (fun x14 => (0 ≤ x8 → (Cal g LC jLo_kindOf d [vA 13, vI x4] w13 (fun o w15 => rI o (fun x16 => Cal g LC jEx_know d [vA 26, vI x2, vI x16, vI 7] w15 (fun o w17 => rV o (K (.inl (some (vI x2))) w17)))))) ∧ (¬ 0 ≤ x8 → (Cal g LC jEx_know d [vA 26, vI x2, vI 0, vI 7] w13 (fun o w18 => rV o (K (.inl (some (vI x2))) w18)))))))))))) ∧ (¬ 0 ≤ x8 → (Cal g LC jCu_blame d [vA 25, vI 4, vI x2] w7 (fun o w19 => rV o (Cal g LC jMt_max d [vI x8, vI 0] w19 (fun o w20 => rI o (fun x21 => Cal g LC jLo_numberOf d [vA 13, vI x4] w20 (fun o w22 => rI o (fun x23 => Cal g LC jCo_add d [vA 19, vI x21, vI x23, vI 0] w22 (fun o w24 => rI o (fun x25 => (0 ≤ x8 → (Cal g LC jLo_kindOf d [vA 13, vI x4] w24 (fun o w26 => rI o (fun x27 => Cal g LC jEx_know d [vA 26, vI x2, vI x27, vI 7] w26 (fun o w28 => rV o (K (.inl (some (vI x2))) w28)))))) ∧ (¬ 0 ≤ x8 → (Cal g LC jEx_know d [vA 26, vI x2, vI 0, vI 7] w24 (fun o w29 => rV o (K (.inl (some (vI x2))) w29))))))))))))))))))))))) : V g LC jEx_named (d + 1) K 0 [(0, vA 26)] [] w := by
  refine v_aload_n (pc := 0) d_Ex_named_0 rfl (.head _) ?_
  refine v_getr (C := "") (pc := 1) (r := 25) d_Ex_named_1 fl_Ex_29 cC_26.1 cC_26.2 (Or.inl ⟨_, rfl⟩) rC_26_1 ?_
  refine v_iconst (pc := 4) d_Ex_named_4 (by decide) ?_
  refine v_callV (pc := 5) (J' := jCu_take) (d' := d) (o := 25) (ci := 1) (N := 6) (T := cT1) (As := [vI 2]) d_Ex_named_5 ml_Ex_73 cC_25.1 cC_25.2 (by decide) rfl rfl (Nat.le_of_ble_eq_true rfl) (Nat.le_refl _) rfl (Cal.weak h (fun o w1 h => ?_))
  rcases rI_of h with ⟨x2, rfl, h⟩
  refine v_istore_n (pc := 8) (ls' := [(1, vI x2), (0, vA 26)]) d_Ex_named_8 rfl (by decide) rfl ?_
  refine v_aload_n (pc := 9) d_Ex_named_9 rfl (.tail _ (.head _)) ?_
  refine v_getr (C := "") (pc := 10) (r := 13) d_Ex_named_10 fl_Ex_39 cC_26.1 cC_26.2 (Or.inl ⟨_, rfl⟩) rC_26_2 ?_
  refine v_iload_n (pc := 13) d_Ex_named_13 rfl (.head _) ?_
  refine v_callV (pc := 14) (J' := jLo_find) (d' := d) (o := 13) (ci := 4) (N := 7) (T := cT4) (As := [vI x2]) d_Ex_named_14 ml_Ex_147 cC_13.1 cC_13.2 (by decide) rfl rfl (Nat.le_of_ble_eq_true rfl) (Nat.le_refl _) rfl (Cal.weak h (fun o w3 h => ?_))
  rcases rI_of h with ⟨x4, rfl, h⟩
  refine v_istore_n (pc := 17) (ls' := [(2, vI x4), (1, vI x2), (0, vA 26)]) d_Ex_named_17 rfl (by decide) rfl ?_
  refine v_aload_n (pc := 18) d_Ex_named_18 rfl (.tail _ (.tail _ (.head _))) ?_
  refine v_getr (C := "") (pc := 19) (r := 13) d_Ex_named_19 fl_Ex_39 cC_26.1 cC_26.2 (Or.inl ⟨_, rfl⟩) rC_26_2 ?_
  refine v_iload_n (pc := 22) d_Ex_named_22 rfl (.head _) ?_
  refine v_callV (pc := 23) (J' := jLo_sortOf) (d' := d) (o := 13) (ci := 4) (N := 7) (T := cT4) (As := [vI x4]) d_Ex_named_23 ml_Ex_150 cC_13.1 cC_13.2 (by decide) rfl rfl (Nat.le_of_ble_eq_true rfl) (Nat.le_refl _) rfl (Cal.weak h (fun o w5 h => ?_))
  rcases rI_of h with ⟨x6, rfl, h⟩
  refine v_callS (pc := 26) (J' := jEx_readingDeed) (d' := d) (As := [vI x6]) d_Ex_named_26 ml_Ex_153 rfl (Nat.le_of_ble_eq_true rfl) (Nat.le_refl _) rfl (Cal.weak h (fun o w7 h => ?_))
  rcases rI_of h with ⟨x8, rfl, h⟩
  refine v_istore_n (pc := 29) (ls' := [(3, vI x8), (2, vI x4), (1, vI x2), (0, vA 26)]) d_Ex_named_29 rfl (by decide) rfl ?_
  refine v_iload_n (pc := 30) d_Ex_named_30 rfl (.head _) ?_
  refine v_ifge (pc := 31) (tgt := 43) d_Ex_named_31 (by decide) (fun c => ?_) (fun c => ?_)
  · replace h := h.1 c
    refine v_aload_n (pc := 43) d_Ex_named_43 rfl (.tail _ (.tail _ (.tail _ (.head _)))) ?_
    refine v_getr (C := "") (pc := 44) (r := 19) d_Ex_named_44 fl_Ex_44 cC_26.1 cC_26.2 (Or.inl ⟨_, rfl⟩) rC_26_3 ?_
    refine v_iload_n (pc := 47) d_Ex_named_47 rfl (.head _) ?_
    refine v_iconst (pc := 48) d_Ex_named_48 (by decide) ?_
    refine v_callS (pc := 49) (J' := jMt_max) (d' := d) (As := [vI x8, vI 0]) d_Ex_named_49 ml_Ex_142 rfl (Nat.le_of_ble_eq_true rfl) (Nat.le_refl _) rfl (Cal.weak h (fun o w9 h => ?_))
    rcases rI_of h with ⟨x10, rfl, h⟩
    refine v_aload_n (pc := 52) d_Ex_named_52 rfl (.tail _ (.tail _ (.tail _ (.head _)))) ?_
    refine v_getr (C := "") (pc := 53) (r := 13) d_Ex_named_53 fl_Ex_39 cC_26.1 cC_26.2 (Or.inl ⟨_, rfl⟩) rC_26_2 ?_
    refine v_iload_n (pc := 56) d_Ex_named_56 rfl (.tail _ (.head _)) ?_
    refine v_callV (pc := 57) (J' := jLo_numberOf) (d' := d) (o := 13) (ci := 4) (N := 7) (T := cT4) (As := [vI x4]) d_Ex_named_57 ml_Ex_156 cC_13.1 cC_13.2 (by decide) rfl rfl (Nat.le_of_ble_eq_true rfl) (Nat.le_refl _) rfl (Cal.weak h (fun o w11 h => ?_))
    rcases rI_of h with ⟨x12, rfl, h⟩
    refine v_iconst (pc := 60) d_Ex_named_60 (by decide) ?_
    refine v_callV (pc := 61) (J' := jCo_add) (d' := d) (o := 19) (ci := 0) (N := 6) (T := cT0) (As := [vI x10, vI x12, vI 0]) d_Ex_named_61 ml_Ex_78 cC_19.1 cC_19.2 (by decide) rfl rfl (Nat.le_of_ble_eq_true rfl) (Nat.le_refl _) rfl (Cal.weak h (fun o w13 h => ?_))
    rcases rI_of h with ⟨x14, rfl, h⟩
    refine v_pop (pc := 64) d_Ex_named_64 rfl ?_
    refine v_aload_n (pc := 65) d_Ex_named_65 rfl (.tail _ (.tail _ (.tail _ (.head _)))) ?_
    refine v_iload_n (pc := 66) d_Ex_named_66 rfl (.tail _ (.tail _ (.head _))) ?_
    refine v_iload_n (pc := 67) d_Ex_named_67 rfl (.head _) ?_
    refine v_ifge (pc := 68) (tgt := 75) d_Ex_named_68 (by decide) (fun c => ?_) (fun c => ?_)
    · replace h := h.1 c
      refine v_aload_n (pc := 75) d_Ex_named_75 rfl (.tail _ (.tail _ (.tail _ (.head _)))) ?_
      refine v_getr (C := "") (pc := 76) (r := 13) d_Ex_named_76 fl_Ex_39 cC_26.1 cC_26.2 (Or.inl ⟨_, rfl⟩) rC_26_2 ?_
      refine v_iload_n (pc := 79) d_Ex_named_79 rfl (.tail _ (.head _)) ?_
      refine v_callV (pc := 80) (J' := jLo_kindOf) (d' := d) (o := 13) (ci := 4) (N := 7) (T := cT4) (As := [vI x4]) d_Ex_named_80 ml_Ex_159 cC_13.1 cC_13.2 (by decide) rfl rfl (Nat.le_of_ble_eq_true rfl) (Nat.le_refl _) rfl (Cal.weak h (fun o w15 h => ?_))
      rcases rI_of h with ⟨x16, rfl, h⟩
      refine v_bipush (pc := 83) d_Ex_named_83 (by decide) rfl ?_
      refine v_callV (pc := 85) (J' := jEx_know) (d' := d) (o := 26) (ci := 2) (N := 9) (T := cT2) (As := [vI x2, vI x16, vI 7]) d_Ex_named_85 ml_Ex_98 cC_26.1 cC_26.2 (by decide) rfl rfl (Nat.le_of_ble_eq_true rfl) (Nat.le_refl _) rfl (Cal.weak h (fun o w17 h => ?_))
      rcases rV_of h with ⟨rfl, h⟩
      refine v_iload_n (pc := 88) d_Ex_named_88 rfl (.tail _ (.tail _ (.head _))) ?_
      exact v_iret (pc := 89) d_Ex_named_89 rfl h
    · replace h := h.2 c
      refine v_iconst (pc := 71) d_Ex_named_71 (by decide) ?_
      refine v_goto (pc := 72) (tgt := 83) d_Ex_named_72 (by decide) ?_
      refine v_bipush (pc := 83) d_Ex_named_83 (by decide) rfl ?_
      refine v_callV (pc := 85) (J' := jEx_know) (d' := d) (o := 26) (ci := 2) (N := 9) (T := cT2) (As := [vI x2, vI 0, vI 7]) d_Ex_named_85 ml_Ex_98 cC_26.1 cC_26.2 (by decide) rfl rfl (Nat.le_of_ble_eq_true rfl) (Nat.le_refl _) rfl (Cal.weak h (fun o w18 h => ?_))
      rcases rV_of h with ⟨rfl, h⟩
      refine v_iload_n (pc := 88) d_Ex_named_88 rfl (.tail _ (.tail _ (.head _))) ?_
      exact v_iret (pc := 89) d_Ex_named_89 rfl h
  · replace h := h.2 c
    refine v_aload_n (pc := 34) d_Ex_named_34 rfl (.tail _ (.tail _ (.tail _ (.head _)))) ?_
    refine v_getr (C := "") (pc := 35) (r := 25) d_Ex_named_35 fl_Ex_29 cC_26.1 cC_26.2 (Or.inl ⟨_, rfl⟩) rC_26_1 ?_
    refine v_iconst (pc := 38) d_Ex_named_38 (by decide) ?_
    refine v_iload_n (pc := 39) d_Ex_named_39 rfl (.tail _ (.tail _ (.head _))) ?_
    refine v_callV (pc := 40) (J' := jCu_blame) (d' := d) (o := 25) (ci := 1) (N := 6) (T := cT1) (As := [vI 4, vI x2]) d_Ex_named_40 ml_Ex_49 cC_25.1 cC_25.2 (by decide) rfl rfl (Nat.le_of_ble_eq_true rfl) (Nat.le_refl _) rfl (Cal.weak h (fun o w19 h => ?_))
    rcases rV_of h with ⟨rfl, h⟩
    refine v_aload_n (pc := 43) d_Ex_named_43 rfl (.tail _ (.tail _ (.tail _ (.head _)))) ?_
    refine v_getr (C := "") (pc := 44) (r := 19) d_Ex_named_44 fl_Ex_44 cC_26.1 cC_26.2 (Or.inl ⟨_, rfl⟩) rC_26_3 ?_
    refine v_iload_n (pc := 47) d_Ex_named_47 rfl (.head _) ?_
    refine v_iconst (pc := 48) d_Ex_named_48 (by decide) ?_
    refine v_callS (pc := 49) (J' := jMt_max) (d' := d) (As := [vI x8, vI 0]) d_Ex_named_49 ml_Ex_142 rfl (Nat.le_of_ble_eq_true rfl) (Nat.le_refl _) rfl (Cal.weak h (fun o w20 h => ?_))
    rcases rI_of h with ⟨x21, rfl, h⟩
    refine v_aload_n (pc := 52) d_Ex_named_52 rfl (.tail _ (.tail _ (.tail _ (.head _)))) ?_
    refine v_getr (C := "") (pc := 53) (r := 13) d_Ex_named_53 fl_Ex_39 cC_26.1 cC_26.2 (Or.inl ⟨_, rfl⟩) rC_26_2 ?_
    refine v_iload_n (pc := 56) d_Ex_named_56 rfl (.tail _ (.head _)) ?_
    refine v_callV (pc := 57) (J' := jLo_numberOf) (d' := d) (o := 13) (ci := 4) (N := 7) (T := cT4) (As := [vI x4]) d_Ex_named_57 ml_Ex_156 cC_13.1 cC_13.2 (by decide) rfl rfl (Nat.le_of_ble_eq_true rfl) (Nat.le_refl _) rfl (Cal.weak h (fun o w22 h => ?_))
    rcases rI_of h with ⟨x23, rfl, h⟩
    refine v_iconst (pc := 60) d_Ex_named_60 (by decide) ?_
    refine v_callV (pc := 61) (J' := jCo_add) (d' := d) (o := 19) (ci := 0) (N := 6) (T := cT0) (As := [vI x21, vI x23, vI 0]) d_Ex_named_61 ml_Ex_78 cC_19.1 cC_19.2 (by decide) rfl rfl (Nat.le_of_ble_eq_true rfl) (Nat.le_refl _) rfl (Cal.weak h (fun o w24 h => ?_))
    rcases rI_of h with ⟨x25, rfl, h⟩
    refine v_pop (pc := 64) d_Ex_named_64 rfl ?_
    refine v_aload_n (pc := 65) d_Ex_named_65 rfl (.tail _ (.tail _ (.tail _ (.head _)))) ?_
    refine v_iload_n (pc := 66) d_Ex_named_66 rfl (.tail _ (.tail _ (.head _))) ?_
    refine v_iload_n (pc := 67) d_Ex_named_67 rfl (.head _) ?_
    refine v_ifge (pc := 68) (tgt := 75) d_Ex_named_68 (by decide) (fun c => ?_) (fun c => ?_)
    · replace h := h.1 c
      refine v_aload_n (pc := 75) d_Ex_named_75 rfl (.tail _ (.tail _ (.tail _ (.head _)))) ?_
      refine v_getr (C := "") (pc := 76) (r := 13) d_Ex_named_76 fl_Ex_39 cC_26.1 cC_26.2 (Or.inl ⟨_, rfl⟩) rC_26_2 ?_
      refine v_iload_n (pc := 79) d_Ex_named_79 rfl (.tail _ (.head _)) ?_
      refine v_callV (pc := 80) (J' := jLo_kindOf) (d' := d) (o := 13) (ci := 4) (N := 7) (T := cT4) (As := [vI x4]) d_Ex_named_80 ml_Ex_159 cC_13.1 cC_13.2 (by decide) rfl rfl (Nat.le_of_ble_eq_true rfl) (Nat.le_refl _) rfl (Cal.weak h (fun o w26 h => ?_))
      rcases rI_of h with ⟨x27, rfl, h⟩
      refine v_bipush (pc := 83) d_Ex_named_83 (by decide) rfl ?_
      refine v_callV (pc := 85) (J' := jEx_know) (d' := d) (o := 26) (ci := 2) (N := 9) (T := cT2) (As := [vI x2, vI x27, vI 7]) d_Ex_named_85 ml_Ex_98 cC_26.1 cC_26.2 (by decide) rfl rfl (Nat.le_of_ble_eq_true rfl) (Nat.le_refl _) rfl (Cal.weak h (fun o w28 h => ?_))
      rcases rV_of h with ⟨rfl, h⟩
      refine v_iload_n (pc := 88) d_Ex_named_88 rfl (.tail _ (.tail _ (.head _))) ?_
      exact v_iret (pc := 89) d_Ex_named_89 rfl h
    · replace h := h.2 c
      refine v_iconst (pc := 71) d_Ex_named_71 (by decide) ?_
      refine v_goto (pc := 72) (tgt := 83) d_Ex_named_72 (by decide) ?_
      refine v_bipush (pc := 83) d_Ex_named_83 (by decide) rfl ?_
      refine v_callV (pc := 85) (J' := jEx_know) (d' := d) (o := 26) (ci := 2) (N := 9) (T := cT2) (As := [vI x2, vI 0, vI 7]) d_Ex_named_85 ml_Ex_98 cC_26.1 cC_26.2 (by decide) rfl rfl (Nat.le_of_ble_eq_true rfl) (Nat.le_refl _) rfl (Cal.weak h (fun o w29 h => ?_))
      rcases rV_of h with ⟨rfl, h⟩
      refine v_iload_n (pc := 88) d_Ex_named_88 rfl (.tail _ (.tail _ (.head _))) ?_
      exact v_iret (pc := 89) d_Ex_named_89 rfl h
theorem d_Ex_column_0 : decode jEx_column.cc 0 = .ok (.aload_n 0, 1) := by decide +kernel
theorem d_Ex_column_1 : decode jEx_column.cc 1 = .ok (.getfield 29, 3) := by decide +kernel
theorem d_Ex_column_4 : decode jEx_column.cc 4 = .ok (.bipush 52, 2) := by decide +kernel
theorem d_Ex_column_6 : decode jEx_column.cc 6 = .ok (.invokevirtual 73, 3) := by decide +kernel
theorem d_Ex_column_9 : decode jEx_column.cc 9 = .ok (.istore_n 1, 1) := by decide +kernel
theorem d_Ex_column_10 : decode jEx_column.cc 10 = .ok (.aload_n 0, 1) := by decide +kernel
theorem d_Ex_column_11 : decode jEx_column.cc 11 = .ok (.getfield 29, 3) := by decide +kernel
theorem d_Ex_column_14 : decode jEx_column.cc 14 = .ok (.bipush 10, 2) := by decide +kernel
theorem d_Ex_column_16 : decode jEx_column.cc 16 = .ok (.invokevirtual 73, 3) := by decide +kernel
theorem d_Ex_column_19 : decode jEx_column.cc 19 = .ok (.pop, 1) := by decide +kernel
theorem d_Ex_column_20 : decode jEx_column.cc 20 = .ok (.aload_n 0, 1) := by decide +kernel
theorem d_Ex_column_21 : decode jEx_column.cc 21 = .ok (.getfield 29, 3) := by decide +kernel
theorem d_Ex_column_24 : decode jEx_column.cc 24 = .ok (.iconst 2, 1) := by decide +kernel
theorem d_Ex_column_25 : decode jEx_column.cc 25 = .ok (.invokevirtual 73, 3) := by decide +kernel
theorem d_Ex_column_28 : decode jEx_column.cc 28 = .ok (.istore_n 2, 1) := by decide +kernel
theorem d_Ex_column_29 : decode jEx_column.cc 29 = .ok (.aload_n 0, 1) := by decide +kernel
theorem d_Ex_column_30 : decode jEx_column.cc 30 = .ok (.getfield 39, 3) := by decide +kernel
theorem d_Ex_column_33 : decode jEx_column.cc 33 = .ok (.iload_n 2, 1) := by decide +kernel
theorem d_Ex_column_34 : decode jEx_column.cc 34 = .ok (.invokevirtual 147, 3) := by decide +kernel
theorem d_Ex_column_37 : decode jEx_column.cc 37 = .ok (.istore_n 3, 1) := by decide +kernel
theorem d_Ex_column_38 : decode jEx_column.cc 38 = .ok (.aload_n 0, 1) := by decide +kernel
theorem d_Ex_column_39 : decode jEx_column.cc 39 = .ok (.getfield 45, 3) := by decide +kernel
theorem d_Ex_column_42 : decode jEx_column.cc 42 = .ok (.ifCond .eq 18, 3) := by decide +kernel
theorem d_Ex_column_45 : decode jEx_column.cc 45 = .ok (.aload_n 0, 1) := by decide +kernel
theorem d_Ex_column_46 : decode jEx_column.cc 46 = .ok (.getfield 39, 3) := by decide +kernel
theorem d_Ex_column_49 : decode jEx_column.cc 49 = .ok (.iload_n 3, 1) := by decide +kernel
theorem d_Ex_column_50 : decode jEx_column.cc 50 = .ok (.invokevirtual 150, 3) := by decide +kernel
theorem d_Ex_column_53 : decode jEx_column.cc 53 = .ok (.ifCond .ne 7, 3) := by decide +kernel
theorem d_Ex_column_56 : decode jEx_column.cc 56 = .ok (.iconst 1, 1) := by decide +kernel
theorem d_Ex_column_57 : decode jEx_column.cc 57 = .ok (.goto 4, 3) := by decide +kernel
theorem d_Ex_column_60 : decode jEx_column.cc 60 = .ok (.iconst 0, 1) := by decide +kernel
theorem d_Ex_column_61 : decode jEx_column.cc 61 = .ok (.istore 4, 2) := by decide +kernel
theorem d_Ex_column_63 : decode jEx_column.cc 63 = .ok (.iload 4, 2) := by decide +kernel
theorem d_Ex_column_65 : decode jEx_column.cc 65 = .ok (.ifCond .ne 12, 3) := by decide +kernel
theorem d_Ex_column_68 : decode jEx_column.cc 68 = .ok (.aload_n 0, 1) := by decide +kernel
theorem d_Ex_column_69 : decode jEx_column.cc 69 = .ok (.getfield 29, 3) := by decide +kernel
theorem d_Ex_column_72 : decode jEx_column.cc 72 = .ok (.iconst 4, 1) := by decide +kernel
theorem d_Ex_column_73 : decode jEx_column.cc 73 = .ok (.iload_n 2, 1) := by decide +kernel
theorem d_Ex_column_74 : decode jEx_column.cc 74 = .ok (.invokevirtual 49, 3) := by decide +kernel
theorem d_Ex_column_77 : decode jEx_column.cc 77 = .ok (.aload_n 0, 1) := by decide +kernel
theorem d_Ex_column_78 : decode jEx_column.cc 78 = .ok (.getfield 44, 3) := by decide +kernel
theorem d_Ex_column_81 : decode jEx_column.cc 81 = .ok (.iconst 5, 1) := by decide +kernel
theorem d_Ex_column_82 : decode jEx_column.cc 82 = .ok (.aload_n 0, 1) := by decide +kernel
theorem d_Ex_column_83 : decode jEx_column.cc 83 = .ok (.getfield 39, 3) := by decide +kernel
theorem d_Ex_column_86 : decode jEx_column.cc 86 = .ok (.iload_n 3, 1) := by decide +kernel
theorem d_Ex_column_87 : decode jEx_column.cc 87 = .ok (.invokevirtual 156, 3) := by decide +kernel
theorem d_Ex_column_90 : decode jEx_column.cc 90 = .ok (.iconst 0, 1) := by decide +kernel
theorem d_Ex_column_91 : decode jEx_column.cc 91 = .ok (.invokevirtual 78, 3) := by decide +kernel
theorem d_Ex_column_94 : decode jEx_column.cc 94 = .ok (.pop, 1) := by decide +kernel
theorem d_Ex_column_95 : decode jEx_column.cc 95 = .ok (.aload_n 0, 1) := by decide +kernel
theorem d_Ex_column_96 : decode jEx_column.cc 96 = .ok (.iload_n 1, 1) := by decide +kernel
theorem d_Ex_column_97 : decode jEx_column.cc 97 = .ok (.iload 4, 2) := by decide +kernel
theorem d_Ex_column_99 : decode jEx_column.cc 99 = .ok (.ifCond .eq 7, 3) := by decide +kernel
theorem d_Ex_column_102 : decode jEx_column.cc 102 = .ok (.iconst 1, 1) := by decide +kernel
theorem d_Ex_column_103 : decode jEx_column.cc 103 = .ok (.goto 4, 3) := by decide +kernel
theorem d_Ex_column_106 : decode jEx_column.cc 106 = .ok (.iconst 0, 1) := by decide +kernel
theorem d_Ex_column_107 : decode jEx_column.cc 107 = .ok (.bipush 7, 2) := by decide +kernel
theorem d_Ex_column_109 : decode jEx_column.cc 109 = .ok (.invokevirtual 98, 3) := by decide +kernel
theorem d_Ex_column_112 : decode jEx_column.cc 112 = .ok (.iload_n 1, 1) := by decide +kernel
theorem d_Ex_column_113 : decode jEx_column.cc 113 = .ok (.ireturn, 1) := by decide +kernel
set_option maxHeartbeats 4000000 in
theorem s_Ex_column {g : Mg} {d : Nat} {K : Ou → Wd → Prop} {w : Wd} (h : Cal g LC jCu_take d [vA 25, vI 52] w (fun o w1 => rI o (fun x2 => Cal g LC jCu_take d [vA 25, vI 10] w1 (fun o w3 => rI o (fun x4 => Cal g LC jCu_take d [vA 25, vI 2] w3 (fun o w5 => rI o (fun x6 => Cal g LC jLo_find d [vA 13, vI x6] w5 (fun o w7 => rI o (fun x8 => ((w7 26 4) = 0 → (Cal g LC jCu_blame d [vA 25, vI 4, vI x6] w7 (fun o w9 => rV o (Cal g LC jLo_numberOf d [vA 13, vI x8] w9 (fun o w10 => rI o (fun x11 => Cal g LC jCo_add d [vA 19, vI 5, vI x11, vI 0] w10 (fun o w12 => rI o (fun x13 => Cal g LC jEx_know d [vA 26, vI x2, vI 0, vI 7] w12 (fun o w14 => rV o (K (.inl (some (vI x2))) w14)))))))))) ∧ (¬ (w7 26 4) = 0 → (Cal g LC jLo_sortOf d [vA 13, vI x8] w7 (fun o w15 => rI o (fun x16 => (¬ x16 = 0 → (Cal g LC jCu_blame d [vA 25, vI 4, vI x6] w15 (fun o w17 => rV o (Cal g LC jLo_numberOf d [vA 13, vI x8] w17 (fun o w18 => rI o (fun x19 => Cal g LC jCo_add d [vA 19, vI 5, vI x19, vI 0] w18 (fun o w20 => rI o (fun x21 => Cal g LC jEx_know d [vA 26, vI x2, vI 0, vI 7] w20 (fun o w22 => rV o (K (.inl (some (vI x2))) w22)))))))))) ∧ (x16 = 0 → (Cal g LC jLo_numberOf d [vA 13, vI x8] w15 (fun o w23 => rI o (fun x24 => Cal g LC jCo_add d [vA 19, vI 5, vI x24, vI 0] w23 (fun o w25 => rI o (fun x26 => Cal g LC jEx_know d [vA 26, vI x2, vI 1, vI 7] w25 (fun o w27 => rV o (K (.inl (some (vI x2))) w27))))))))))))))))))))) : V g LC jEx_column (d + 1) K 0 [(0, vA 26)] [] w := by
  refine v_aload_n (pc := 0) d_Ex_column_0 rfl (.head _) ?_
  refine v_getr (C := "") (pc := 1) (r := 25) d_Ex_column_1 fl_Ex_29 cC_26.1 cC_26.2 (Or.inl ⟨_, rfl⟩) rC_26_1 ?_
  refine v_bipush (pc := 4) d_Ex_column_4 (by decide) rfl ?_
  refine v_callV (pc := 6) (J' := jCu_take) (d' := d) (o := 25) (ci := 1) (N := 6) (T := cT1) (As := [vI 52]) d_Ex_column_6 ml_Ex_73 cC_25.1 cC_25.2 (by decide) rfl rfl (Nat.le_of_ble_eq_true rfl) (Nat.le_refl _) rfl (Cal.weak h (fun o w1 h => ?_))
  rcases rI_of h with ⟨x2, rfl, h⟩
  refine v_istore_n (pc := 9) (ls' := [(1, vI x2), (0, vA 26)]) d_Ex_column_9 rfl (by decide) rfl ?_
  refine v_aload_n (pc := 10) d_Ex_column_10 rfl (.tail _ (.head _)) ?_
  refine v_getr (C := "") (pc := 11) (r := 25) d_Ex_column_11 fl_Ex_29 cC_26.1 cC_26.2 (Or.inl ⟨_, rfl⟩) rC_26_1 ?_
  refine v_bipush (pc := 14) d_Ex_column_14 (by decide) rfl ?_
  refine v_callV (pc := 16) (J' := jCu_take) (d' := d) (o := 25) (ci := 1) (N := 6) (T := cT1) (As := [vI 10]) d_Ex_column_16 ml_Ex_73 cC_25.1 cC_25.2 (by decide) rfl rfl (Nat.le_of_ble_eq_true rfl) (Nat.le_refl _) rfl (Cal.weak h (fun o w3 h => ?_))
  rcases rI_of h with ⟨x4, rfl, h⟩
  refine v_pop (pc := 19) d_Ex_column_19 rfl ?_
  refine v_aload_n (pc := 20) d_Ex_column_20 rfl (.tail _ (.head _)) ?_
  refine v_getr (C := "") (pc := 21) (r := 25) d_Ex_column_21 fl_Ex_29 cC_26.1 cC_26.2 (Or.inl ⟨_, rfl⟩) rC_26_1 ?_
  refine v_iconst (pc := 24) d_Ex_column_24 (by decide) ?_
  refine v_callV (pc := 25) (J' := jCu_take) (d' := d) (o := 25) (ci := 1) (N := 6) (T := cT1) (As := [vI 2]) d_Ex_column_25 ml_Ex_73 cC_25.1 cC_25.2 (by decide) rfl rfl (Nat.le_of_ble_eq_true rfl) (Nat.le_refl _) rfl (Cal.weak h (fun o w5 h => ?_))
  rcases rI_of h with ⟨x6, rfl, h⟩
  refine v_istore_n (pc := 28) (ls' := [(2, vI x6), (1, vI x2), (0, vA 26)]) d_Ex_column_28 rfl (by decide) rfl ?_
  refine v_aload_n (pc := 29) d_Ex_column_29 rfl (.tail _ (.tail _ (.head _))) ?_
  refine v_getr (C := "") (pc := 30) (r := 13) d_Ex_column_30 fl_Ex_39 cC_26.1 cC_26.2 (Or.inl ⟨_, rfl⟩) rC_26_2 ?_
  refine v_iload_n (pc := 33) d_Ex_column_33 rfl (.head _) ?_
  refine v_callV (pc := 34) (J' := jLo_find) (d' := d) (o := 13) (ci := 4) (N := 7) (T := cT4) (As := [vI x6]) d_Ex_column_34 ml_Ex_147 cC_13.1 cC_13.2 (by decide) rfl rfl (Nat.le_of_ble_eq_true rfl) (Nat.le_refl _) rfl (Cal.weak h (fun o w7 h => ?_))
  rcases rI_of h with ⟨x8, rfl, h⟩
  refine v_istore_n (pc := 37) (ls' := [(3, vI x8), (2, vI x6), (1, vI x2), (0, vA 26)]) d_Ex_column_37 rfl (by decide) rfl ?_
  refine v_aload_n (pc := 38) d_Ex_column_38 rfl (.tail _ (.tail _ (.tail _ (.head _)))) ?_
  refine v_geti (pc := 39) (x := (w7 26 4)) d_Ex_column_39 fl_Ex_45 cC_26.1 cC_26.2 (Or.inr rfl) rfl ?_
  refine v_ifeq (pc := 42) (tgt := 60) d_Ex_column_42 (by decide) (fun c => ?_) (fun c => ?_)
  · replace h := h.1 c
    refine v_iconst (pc := 60) d_Ex_column_60 (by decide) ?_
    refine v_istore (pc := 61) (ls' := [(4, vI 0), (3, vI x8), (2, vI x6), (1, vI x2), (0, vA 26)]) d_Ex_column_61 (by decide) rfl ?_
    refine v_iload (pc := 63) d_Ex_column_63 (.head _) ?_
    refine v_ifne (pc := 65) (tgt := 77) d_Ex_column_65 (by decide) (fun z => absurd z (by decide)) (fun _ => ?_)
    refine v_aload_n (pc := 68) d_Ex_column_68 rfl (.tail _ (.tail _ (.tail _ (.tail _ (.head _))))) ?_
    refine v_getr (C := "") (pc := 69) (r := 25) d_Ex_column_69 fl_Ex_29 cC_26.1 cC_26.2 (Or.inl ⟨_, rfl⟩) rC_26_1 ?_
    refine v_iconst (pc := 72) d_Ex_column_72 (by decide) ?_
    refine v_iload_n (pc := 73) d_Ex_column_73 rfl (.tail _ (.tail _ (.head _))) ?_
    refine v_callV (pc := 74) (J' := jCu_blame) (d' := d) (o := 25) (ci := 1) (N := 6) (T := cT1) (As := [vI 4, vI x6]) d_Ex_column_74 ml_Ex_49 cC_25.1 cC_25.2 (by decide) rfl rfl (Nat.le_of_ble_eq_true rfl) (Nat.le_refl _) rfl (Cal.weak h (fun o w9 h => ?_))
    rcases rV_of h with ⟨rfl, h⟩
    refine v_aload_n (pc := 77) d_Ex_column_77 rfl (.tail _ (.tail _ (.tail _ (.tail _ (.head _))))) ?_
    refine v_getr (C := "") (pc := 78) (r := 19) d_Ex_column_78 fl_Ex_44 cC_26.1 cC_26.2 (Or.inl ⟨_, rfl⟩) rC_26_3 ?_
    refine v_iconst (pc := 81) d_Ex_column_81 (by decide) ?_
    refine v_aload_n (pc := 82) d_Ex_column_82 rfl (.tail _ (.tail _ (.tail _ (.tail _ (.head _))))) ?_
    refine v_getr (C := "") (pc := 83) (r := 13) d_Ex_column_83 fl_Ex_39 cC_26.1 cC_26.2 (Or.inl ⟨_, rfl⟩) rC_26_2 ?_
    refine v_iload_n (pc := 86) d_Ex_column_86 rfl (.tail _ (.head _)) ?_
    refine v_callV (pc := 87) (J' := jLo_numberOf) (d' := d) (o := 13) (ci := 4) (N := 7) (T := cT4) (As := [vI x8]) d_Ex_column_87 ml_Ex_156 cC_13.1 cC_13.2 (by decide) rfl rfl (Nat.le_of_ble_eq_true rfl) (Nat.le_refl _) rfl (Cal.weak h (fun o w10 h => ?_))
    rcases rI_of h with ⟨x11, rfl, h⟩
    refine v_iconst (pc := 90) d_Ex_column_90 (by decide) ?_
    refine v_callV (pc := 91) (J' := jCo_add) (d' := d) (o := 19) (ci := 0) (N := 6) (T := cT0) (As := [vI 5, vI x11, vI 0]) d_Ex_column_91 ml_Ex_78 cC_19.1 cC_19.2 (by decide) rfl rfl (Nat.le_of_ble_eq_true rfl) (Nat.le_refl _) rfl (Cal.weak h (fun o w12 h => ?_))
    rcases rI_of h with ⟨x13, rfl, h⟩
    refine v_pop (pc := 94) d_Ex_column_94 rfl ?_
    refine v_aload_n (pc := 95) d_Ex_column_95 rfl (.tail _ (.tail _ (.tail _ (.tail _ (.head _))))) ?_
    refine v_iload_n (pc := 96) d_Ex_column_96 rfl (.tail _ (.tail _ (.tail _ (.head _)))) ?_
    refine v_iload (pc := 97) d_Ex_column_97 (.head _) ?_
    refine v_ifeq (pc := 99) (tgt := 106) d_Ex_column_99 (by decide) (fun _ => ?_) (fun z => absurd z (by decide))
    refine v_iconst (pc := 106) d_Ex_column_106 (by decide) ?_
    refine v_bipush (pc := 107) d_Ex_column_107 (by decide) rfl ?_
    refine v_callV (pc := 109) (J' := jEx_know) (d' := d) (o := 26) (ci := 2) (N := 9) (T := cT2) (As := [vI x2, vI 0, vI 7]) d_Ex_column_109 ml_Ex_98 cC_26.1 cC_26.2 (by decide) rfl rfl (Nat.le_of_ble_eq_true rfl) (Nat.le_refl _) rfl (Cal.weak h (fun o w14 h => ?_))
    rcases rV_of h with ⟨rfl, h⟩
    refine v_iload_n (pc := 112) d_Ex_column_112 rfl (.tail _ (.tail _ (.tail _ (.head _)))) ?_
    exact v_iret (pc := 113) d_Ex_column_113 rfl h
  · replace h := h.2 c
    refine v_aload_n (pc := 45) d_Ex_column_45 rfl (.tail _ (.tail _ (.tail _ (.head _)))) ?_
    refine v_getr (C := "") (pc := 46) (r := 13) d_Ex_column_46 fl_Ex_39 cC_26.1 cC_26.2 (Or.inl ⟨_, rfl⟩) rC_26_2 ?_
    refine v_iload_n (pc := 49) d_Ex_column_49 rfl (.head _) ?_
    refine v_callV (pc := 50) (J' := jLo_sortOf) (d' := d) (o := 13) (ci := 4) (N := 7) (T := cT4) (As := [vI x8]) d_Ex_column_50 ml_Ex_150 cC_13.1 cC_13.2 (by decide) rfl rfl (Nat.le_of_ble_eq_true rfl) (Nat.le_refl _) rfl (Cal.weak h (fun o w15 h => ?_))
    rcases rI_of h with ⟨x16, rfl, h⟩
    refine v_ifne (pc := 53) (tgt := 60) d_Ex_column_53 (by decide) (fun c => ?_) (fun c => ?_)
    · replace h := h.1 c
      refine v_iconst (pc := 60) d_Ex_column_60 (by decide) ?_
      refine v_istore (pc := 61) (ls' := [(4, vI 0), (3, vI x8), (2, vI x6), (1, vI x2), (0, vA 26)]) d_Ex_column_61 (by decide) rfl ?_
      refine v_iload (pc := 63) d_Ex_column_63 (.head _) ?_
      refine v_ifne (pc := 65) (tgt := 77) d_Ex_column_65 (by decide) (fun z => absurd z (by decide)) (fun _ => ?_)
      refine v_aload_n (pc := 68) d_Ex_column_68 rfl (.tail _ (.tail _ (.tail _ (.tail _ (.head _))))) ?_
      refine v_getr (C := "") (pc := 69) (r := 25) d_Ex_column_69 fl_Ex_29 cC_26.1 cC_26.2 (Or.inl ⟨_, rfl⟩) rC_26_1 ?_
      refine v_iconst (pc := 72) d_Ex_column_72 (by decide) ?_
      refine v_iload_n (pc := 73) d_Ex_column_73 rfl (.tail _ (.tail _ (.head _))) ?_
      refine v_callV (pc := 74) (J' := jCu_blame) (d' := d) (o := 25) (ci := 1) (N := 6) (T := cT1) (As := [vI 4, vI x6]) d_Ex_column_74 ml_Ex_49 cC_25.1 cC_25.2 (by decide) rfl rfl (Nat.le_of_ble_eq_true rfl) (Nat.le_refl _) rfl (Cal.weak h (fun o w17 h => ?_))
      rcases rV_of h with ⟨rfl, h⟩
      refine v_aload_n (pc := 77) d_Ex_column_77 rfl (.tail _ (.tail _ (.tail _ (.tail _ (.head _))))) ?_
      refine v_getr (C := "") (pc := 78) (r := 19) d_Ex_column_78 fl_Ex_44 cC_26.1 cC_26.2 (Or.inl ⟨_, rfl⟩) rC_26_3 ?_
      refine v_iconst (pc := 81) d_Ex_column_81 (by decide) ?_
      refine v_aload_n (pc := 82) d_Ex_column_82 rfl (.tail _ (.tail _ (.tail _ (.tail _ (.head _))))) ?_
      refine v_getr (C := "") (pc := 83) (r := 13) d_Ex_column_83 fl_Ex_39 cC_26.1 cC_26.2 (Or.inl ⟨_, rfl⟩) rC_26_2 ?_
      refine v_iload_n (pc := 86) d_Ex_column_86 rfl (.tail _ (.head _)) ?_
      refine v_callV (pc := 87) (J' := jLo_numberOf) (d' := d) (o := 13) (ci := 4) (N := 7) (T := cT4) (As := [vI x8]) d_Ex_column_87 ml_Ex_156 cC_13.1 cC_13.2 (by decide) rfl rfl (Nat.le_of_ble_eq_true rfl) (Nat.le_refl _) rfl (Cal.weak h (fun o w18 h => ?_))
      rcases rI_of h with ⟨x19, rfl, h⟩
      refine v_iconst (pc := 90) d_Ex_column_90 (by decide) ?_
      refine v_callV (pc := 91) (J' := jCo_add) (d' := d) (o := 19) (ci := 0) (N := 6) (T := cT0) (As := [vI 5, vI x19, vI 0]) d_Ex_column_91 ml_Ex_78 cC_19.1 cC_19.2 (by decide) rfl rfl (Nat.le_of_ble_eq_true rfl) (Nat.le_refl _) rfl (Cal.weak h (fun o w20 h => ?_))
      rcases rI_of h with ⟨x21, rfl, h⟩
      refine v_pop (pc := 94) d_Ex_column_94 rfl ?_
      refine v_aload_n (pc := 95) d_Ex_column_95 rfl (.tail _ (.tail _ (.tail _ (.tail _ (.head _))))) ?_
      refine v_iload_n (pc := 96) d_Ex_column_96 rfl (.tail _ (.tail _ (.tail _ (.head _)))) ?_
      refine v_iload (pc := 97) d_Ex_column_97 (.head _) ?_
      refine v_ifeq (pc := 99) (tgt := 106) d_Ex_column_99 (by decide) (fun _ => ?_) (fun z => absurd z (by decide))
      refine v_iconst (pc := 106) d_Ex_column_106 (by decide) ?_
      refine v_bipush (pc := 107) d_Ex_column_107 (by decide) rfl ?_
      refine v_callV (pc := 109) (J' := jEx_know) (d' := d) (o := 26) (ci := 2) (N := 9) (T := cT2) (As := [vI x2, vI 0, vI 7]) d_Ex_column_109 ml_Ex_98 cC_26.1 cC_26.2 (by decide) rfl rfl (Nat.le_of_ble_eq_true rfl) (Nat.le_refl _) rfl (Cal.weak h (fun o w22 h => ?_))
      rcases rV_of h with ⟨rfl, h⟩
      refine v_iload_n (pc := 112) d_Ex_column_112 rfl (.tail _ (.tail _ (.tail _ (.head _)))) ?_
      exact v_iret (pc := 113) d_Ex_column_113 rfl h
    · replace h := h.2 c
      refine v_iconst (pc := 56) d_Ex_column_56 (by decide) ?_
      refine v_goto (pc := 57) (tgt := 61) d_Ex_column_57 (by decide) ?_
      refine v_istore (pc := 61) (ls' := [(4, vI 1), (3, vI x8), (2, vI x6), (1, vI x2), (0, vA 26)]) d_Ex_column_61 (by decide) rfl ?_
      refine v_iload (pc := 63) d_Ex_column_63 (.head _) ?_
      refine v_ifne (pc := 65) (tgt := 77) d_Ex_column_65 (by decide) (fun _ => ?_) (fun z => absurd z (by decide))
      refine v_aload_n (pc := 77) d_Ex_column_77 rfl (.tail _ (.tail _ (.tail _ (.tail _ (.head _))))) ?_
      refine v_getr (C := "") (pc := 78) (r := 19) d_Ex_column_78 fl_Ex_44 cC_26.1 cC_26.2 (Or.inl ⟨_, rfl⟩) rC_26_3 ?_
      refine v_iconst (pc := 81) d_Ex_column_81 (by decide) ?_
      refine v_aload_n (pc := 82) d_Ex_column_82 rfl (.tail _ (.tail _ (.tail _ (.tail _ (.head _))))) ?_
      refine v_getr (C := "") (pc := 83) (r := 13) d_Ex_column_83 fl_Ex_39 cC_26.1 cC_26.2 (Or.inl ⟨_, rfl⟩) rC_26_2 ?_
      refine v_iload_n (pc := 86) d_Ex_column_86 rfl (.tail _ (.head _)) ?_
      refine v_callV (pc := 87) (J' := jLo_numberOf) (d' := d) (o := 13) (ci := 4) (N := 7) (T := cT4) (As := [vI x8]) d_Ex_column_87 ml_Ex_156 cC_13.1 cC_13.2 (by decide) rfl rfl (Nat.le_of_ble_eq_true rfl) (Nat.le_refl _) rfl (Cal.weak h (fun o w23 h => ?_))
      rcases rI_of h with ⟨x24, rfl, h⟩
      refine v_iconst (pc := 90) d_Ex_column_90 (by decide) ?_
      refine v_callV (pc := 91) (J' := jCo_add) (d' := d) (o := 19) (ci := 0) (N := 6) (T := cT0) (As := [vI 5, vI x24, vI 0]) d_Ex_column_91 ml_Ex_78 cC_19.1 cC_19.2 (by decide) rfl rfl (Nat.le_of_ble_eq_true rfl) (Nat.le_refl _) rfl (Cal.weak h (fun o w25 h => ?_))
      rcases rI_of h with ⟨x26, rfl, h⟩
      refine v_pop (pc := 94) d_Ex_column_94 rfl ?_
      refine v_aload_n (pc := 95) d_Ex_column_95 rfl (.tail _ (.tail _ (.tail _ (.tail _ (.head _))))) ?_
      refine v_iload_n (pc := 96) d_Ex_column_96 rfl (.tail _ (.tail _ (.tail _ (.head _)))) ?_
      refine v_iload (pc := 97) d_Ex_column_97 (.head _) ?_
      refine v_ifeq (pc := 99) (tgt := 106) d_Ex_column_99 (by decide) (fun z => absurd z (by decide)) (fun _ => ?_)
      refine v_iconst (pc := 102) d_Ex_column_102 (by decide) ?_
      refine v_goto (pc := 103) (tgt := 107) d_Ex_column_103 (by decide) ?_
      refine v_bipush (pc := 107) d_Ex_column_107 (by decide) rfl ?_
      refine v_callV (pc := 109) (J' := jEx_know) (d' := d) (o := 26) (ci := 2) (N := 9) (T := cT2) (As := [vI x2, vI 1, vI 7]) d_Ex_column_109 ml_Ex_98 cC_26.1 cC_26.2 (by decide) rfl rfl (Nat.le_of_ble_eq_true rfl) (Nat.le_refl _) rfl (Cal.weak h (fun o w27 h => ?_))
      rcases rV_of h with ⟨rfl, h⟩
      refine v_iload_n (pc := 112) d_Ex_column_112 rfl (.tail _ (.tail _ (.tail _ (.head _)))) ?_
      exact v_iret (pc := 113) d_Ex_column_113 rfl h
theorem d_Ex_has_0 : decode jEx_has.cc 0 = .ok (.aload_n 0, 1) := by decide +kernel
theorem d_Ex_has_1 : decode jEx_has.cc 1 = .ok (.getfield 29, 3) := by decide +kernel
theorem d_Ex_has_4 : decode jEx_has.cc 4 = .ok (.bipush 53, 2) := by decide +kernel
theorem d_Ex_has_6 : decode jEx_has.cc 6 = .ok (.invokevirtual 73, 3) := by decide +kernel
theorem d_Ex_has_9 : decode jEx_has.cc 9 = .ok (.istore_n 1, 1) := by decide +kernel
theorem d_Ex_has_10 : decode jEx_has.cc 10 = .ok (.aload_n 0, 1) := by decide +kernel
theorem d_Ex_has_11 : decode jEx_has.cc 11 = .ok (.getfield 29, 3) := by decide +kernel
theorem d_Ex_has_14 : decode jEx_has.cc 14 = .ok (.iconst 2, 1) := by decide +kernel
theorem d_Ex_has_15 : decode jEx_has.cc 15 = .ok (.invokevirtual 73, 3) := by decide +kernel
theorem d_Ex_has_18 : decode jEx_has.cc 18 = .ok (.istore_n 2, 1) := by decide +kernel
theorem d_Ex_has_19 : decode jEx_has.cc 19 = .ok (.aload_n 0, 1) := by decide +kernel
theorem d_Ex_has_20 : decode jEx_has.cc 20 = .ok (.getfield 39, 3) := by decide +kernel
theorem d_Ex_has_23 : decode jEx_has.cc 23 = .ok (.iload_n 2, 1) := by decide +kernel
theorem d_Ex_has_24 : decode jEx_has.cc 24 = .ok (.invokevirtual 147, 3) := by decide +kernel
theorem d_Ex_has_27 : decode jEx_has.cc 27 = .ok (.istore_n 3, 1) := by decide +kernel
theorem d_Ex_has_28 : decode jEx_has.cc 28 = .ok (.aload_n 0, 1) := by decide +kernel
theorem d_Ex_has_29 : decode jEx_has.cc 29 = .ok (.getfield 39, 3) := by decide +kernel
theorem d_Ex_has_32 : decode jEx_has.cc 32 = .ok (.iload_n 3, 1) := by decide +kernel
theorem d_Ex_has_33 : decode jEx_has.cc 33 = .ok (.invokevirtual 150, 3) := by decide +kernel
theorem d_Ex_has_36 : decode jEx_has.cc 36 = .ok (.iconst 2, 1) := by decide +kernel
theorem d_Ex_has_37 : decode jEx_has.cc 37 = .ok (.if_icmp .ne 7, 3) := by decide +kernel
theorem d_Ex_has_40 : decode jEx_has.cc 40 = .ok (.iconst 1, 1) := by decide +kernel
theorem d_Ex_has_41 : decode jEx_has.cc 41 = .ok (.goto 4, 3) := by decide +kernel
theorem d_Ex_has_44 : decode jEx_has.cc 44 = .ok (.iconst 0, 1) := by decide +kernel
theorem d_Ex_has_45 : decode jEx_has.cc 45 = .ok (.istore 4, 2) := by decide +kernel
theorem d_Ex_has_47 : decode jEx_has.cc 47 = .ok (.iload 4, 2) := by decide +kernel
theorem d_Ex_has_49 : decode jEx_has.cc 49 = .ok (.ifCond .ne 12, 3) := by decide +kernel
theorem d_Ex_has_52 : decode jEx_has.cc 52 = .ok (.aload_n 0, 1) := by decide +kernel
theorem d_Ex_has_53 : decode jEx_has.cc 53 = .ok (.getfield 29, 3) := by decide +kernel
theorem d_Ex_has_56 : decode jEx_has.cc 56 = .ok (.iconst 4, 1) := by decide +kernel
theorem d_Ex_has_57 : decode jEx_has.cc 57 = .ok (.iload_n 2, 1) := by decide +kernel
theorem d_Ex_has_58 : decode jEx_has.cc 58 = .ok (.invokevirtual 49, 3) := by decide +kernel
theorem d_Ex_has_61 : decode jEx_has.cc 61 = .ok (.aload_n 0, 1) := by decide +kernel
theorem d_Ex_has_62 : decode jEx_has.cc 62 = .ok (.getfield 44, 3) := by decide +kernel
theorem d_Ex_has_65 : decode jEx_has.cc 65 = .ok (.bipush 6, 2) := by decide +kernel
theorem d_Ex_has_67 : decode jEx_has.cc 67 = .ok (.aload_n 0, 1) := by decide +kernel
theorem d_Ex_has_68 : decode jEx_has.cc 68 = .ok (.getfield 39, 3) := by decide +kernel
theorem d_Ex_has_71 : decode jEx_has.cc 71 = .ok (.iload_n 3, 1) := by decide +kernel
theorem d_Ex_has_72 : decode jEx_has.cc 72 = .ok (.invokevirtual 156, 3) := by decide +kernel
theorem d_Ex_has_75 : decode jEx_has.cc 75 = .ok (.iconst 0, 1) := by decide +kernel
theorem d_Ex_has_76 : decode jEx_has.cc 76 = .ok (.invokevirtual 78, 3) := by decide +kernel
theorem d_Ex_has_79 : decode jEx_has.cc 79 = .ok (.pop, 1) := by decide +kernel
theorem d_Ex_has_80 : decode jEx_has.cc 80 = .ok (.aload_n 0, 1) := by decide +kernel
theorem d_Ex_has_81 : decode jEx_has.cc 81 = .ok (.iload_n 1, 1) := by decide +kernel
theorem d_Ex_has_82 : decode jEx_has.cc 82 = .ok (.iload 4, 2) := by decide +kernel
theorem d_Ex_has_84 : decode jEx_has.cc 84 = .ok (.ifCond .eq 7, 3) := by decide +kernel
theorem d_Ex_has_87 : decode jEx_has.cc 87 = .ok (.iconst 2, 1) := by decide +kernel
theorem d_Ex_has_88 : decode jEx_has.cc 88 = .ok (.goto 4, 3) := by decide +kernel
theorem d_Ex_has_91 : decode jEx_has.cc 91 = .ok (.iconst 0, 1) := by decide +kernel
theorem d_Ex_has_92 : decode jEx_has.cc 92 = .ok (.bipush 7, 2) := by decide +kernel
theorem d_Ex_has_94 : decode jEx_has.cc 94 = .ok (.invokevirtual 98, 3) := by decide +kernel
theorem d_Ex_has_97 : decode jEx_has.cc 97 = .ok (.iload_n 1, 1) := by decide +kernel
theorem d_Ex_has_98 : decode jEx_has.cc 98 = .ok (.ireturn, 1) := by decide +kernel
set_option maxHeartbeats 4000000 in
theorem s_Ex_has {g : Mg} {d : Nat} {K : Ou → Wd → Prop} {w : Wd} (h : Cal g LC jCu_take d [vA 25, vI 53] w (fun o w1 => rI o (fun x2 => Cal g LC jCu_take d [vA 25, vI 2] w1 (fun o w3 => rI o (fun x4 => Cal g LC jLo_find d [vA 13, vI x4] w3 (fun o w5 => rI o (fun x6 => Cal g LC jLo_sortOf d [vA 13, vI x6] w5 (fun o w7 => rI o (fun x8 => (¬ x8 = 2 → (Cal g LC jCu_blame d [vA 25, vI 4, vI x4] w7 (fun o w9 => rV o (Cal g LC jLo_numberOf d [vA 13, vI x6] w9 (fun o w10 => rI o (fun x11 => Cal g LC jCo_add d [vA 19, vI 6, vI x11, vI 0] w10 (fun o w12 => rI o (fun x13 => Cal g LC jEx_know d [vA 26, vI x2, vI 0, vI 7] w12 (fun o w14 => rV o (K (.inl (some (vI x2))) w14)))))))))) ∧ (x8 = 2 → (Cal g LC jLo_numberOf d [vA 13, vI x6] w7 (fun o w15 => rI o (fun x16 => Cal g LC jCo_add d [vA 19, vI 6, vI x16, vI 0] w15 (fun o w17 => rI o (fun x18 => Cal g LC jEx_know d [vA 26, vI x2, vI 2, vI 7] w17 (fun o w19 => rV o (K (.inl (some (vI x2))) w19))))))))))))))))) : V g LC jEx_has (d + 1) K 0 [(0, vA 26)] [] w := by
  refine v_aload_n (pc := 0) d_Ex_has_0 rfl (.head _) ?_
  refine v_getr (C := "") (pc := 1) (r := 25) d_Ex_has_1 fl_Ex_29 cC_26.1 cC_26.2 (Or.inl ⟨_, rfl⟩) rC_26_1 ?_
  refine v_bipush (pc := 4) d_Ex_has_4 (by decide) rfl ?_
  refine v_callV (pc := 6) (J' := jCu_take) (d' := d) (o := 25) (ci := 1) (N := 6) (T := cT1) (As := [vI 53]) d_Ex_has_6 ml_Ex_73 cC_25.1 cC_25.2 (by decide) rfl rfl (Nat.le_of_ble_eq_true rfl) (Nat.le_refl _) rfl (Cal.weak h (fun o w1 h => ?_))
  rcases rI_of h with ⟨x2, rfl, h⟩
  refine v_istore_n (pc := 9) (ls' := [(1, vI x2), (0, vA 26)]) d_Ex_has_9 rfl (by decide) rfl ?_
  refine v_aload_n (pc := 10) d_Ex_has_10 rfl (.tail _ (.head _)) ?_
  refine v_getr (C := "") (pc := 11) (r := 25) d_Ex_has_11 fl_Ex_29 cC_26.1 cC_26.2 (Or.inl ⟨_, rfl⟩) rC_26_1 ?_
  refine v_iconst (pc := 14) d_Ex_has_14 (by decide) ?_
  refine v_callV (pc := 15) (J' := jCu_take) (d' := d) (o := 25) (ci := 1) (N := 6) (T := cT1) (As := [vI 2]) d_Ex_has_15 ml_Ex_73 cC_25.1 cC_25.2 (by decide) rfl rfl (Nat.le_of_ble_eq_true rfl) (Nat.le_refl _) rfl (Cal.weak h (fun o w3 h => ?_))
  rcases rI_of h with ⟨x4, rfl, h⟩
  refine v_istore_n (pc := 18) (ls' := [(2, vI x4), (1, vI x2), (0, vA 26)]) d_Ex_has_18 rfl (by decide) rfl ?_
  refine v_aload_n (pc := 19) d_Ex_has_19 rfl (.tail _ (.tail _ (.head _))) ?_
  refine v_getr (C := "") (pc := 20) (r := 13) d_Ex_has_20 fl_Ex_39 cC_26.1 cC_26.2 (Or.inl ⟨_, rfl⟩) rC_26_2 ?_
  refine v_iload_n (pc := 23) d_Ex_has_23 rfl (.head _) ?_
  refine v_callV (pc := 24) (J' := jLo_find) (d' := d) (o := 13) (ci := 4) (N := 7) (T := cT4) (As := [vI x4]) d_Ex_has_24 ml_Ex_147 cC_13.1 cC_13.2 (by decide) rfl rfl (Nat.le_of_ble_eq_true rfl) (Nat.le_refl _) rfl (Cal.weak h (fun o w5 h => ?_))
  rcases rI_of h with ⟨x6, rfl, h⟩
  refine v_istore_n (pc := 27) (ls' := [(3, vI x6), (2, vI x4), (1, vI x2), (0, vA 26)]) d_Ex_has_27 rfl (by decide) rfl ?_
  refine v_aload_n (pc := 28) d_Ex_has_28 rfl (.tail _ (.tail _ (.tail _ (.head _)))) ?_
  refine v_getr (C := "") (pc := 29) (r := 13) d_Ex_has_29 fl_Ex_39 cC_26.1 cC_26.2 (Or.inl ⟨_, rfl⟩) rC_26_2 ?_
  refine v_iload_n (pc := 32) d_Ex_has_32 rfl (.head _) ?_
  refine v_callV (pc := 33) (J' := jLo_sortOf) (d' := d) (o := 13) (ci := 4) (N := 7) (T := cT4) (As := [vI x6]) d_Ex_has_33 ml_Ex_150 cC_13.1 cC_13.2 (by decide) rfl rfl (Nat.le_of_ble_eq_true rfl) (Nat.le_refl _) rfl (Cal.weak h (fun o w7 h => ?_))
  rcases rI_of h with ⟨x8, rfl, h⟩
  refine v_iconst (pc := 36) d_Ex_has_36 (by decide) ?_
  refine v_icmpne (pc := 37) (tgt := 44) d_Ex_has_37 (by decide) (fun c => ?_) (fun c => ?_)
  · replace h := h.1 c
    refine v_iconst (pc := 44) d_Ex_has_44 (by decide) ?_
    refine v_istore (pc := 45) (ls' := [(4, vI 0), (3, vI x6), (2, vI x4), (1, vI x2), (0, vA 26)]) d_Ex_has_45 (by decide) rfl ?_
    refine v_iload (pc := 47) d_Ex_has_47 (.head _) ?_
    refine v_ifne (pc := 49) (tgt := 61) d_Ex_has_49 (by decide) (fun z => absurd z (by decide)) (fun _ => ?_)
    refine v_aload_n (pc := 52) d_Ex_has_52 rfl (.tail _ (.tail _ (.tail _ (.tail _ (.head _))))) ?_
    refine v_getr (C := "") (pc := 53) (r := 25) d_Ex_has_53 fl_Ex_29 cC_26.1 cC_26.2 (Or.inl ⟨_, rfl⟩) rC_26_1 ?_
    refine v_iconst (pc := 56) d_Ex_has_56 (by decide) ?_
    refine v_iload_n (pc := 57) d_Ex_has_57 rfl (.tail _ (.tail _ (.head _))) ?_
    refine v_callV (pc := 58) (J' := jCu_blame) (d' := d) (o := 25) (ci := 1) (N := 6) (T := cT1) (As := [vI 4, vI x4]) d_Ex_has_58 ml_Ex_49 cC_25.1 cC_25.2 (by decide) rfl rfl (Nat.le_of_ble_eq_true rfl) (Nat.le_refl _) rfl (Cal.weak h (fun o w9 h => ?_))
    rcases rV_of h with ⟨rfl, h⟩
    refine v_aload_n (pc := 61) d_Ex_has_61 rfl (.tail _ (.tail _ (.tail _ (.tail _ (.head _))))) ?_
    refine v_getr (C := "") (pc := 62) (r := 19) d_Ex_has_62 fl_Ex_44 cC_26.1 cC_26.2 (Or.inl ⟨_, rfl⟩) rC_26_3 ?_
    refine v_bipush (pc := 65) d_Ex_has_65 (by decide) rfl ?_
    refine v_aload_n (pc := 67) d_Ex_has_67 rfl (.tail _ (.tail _ (.tail _ (.tail _ (.head _))))) ?_
    refine v_getr (C := "") (pc := 68) (r := 13) d_Ex_has_68 fl_Ex_39 cC_26.1 cC_26.2 (Or.inl ⟨_, rfl⟩) rC_26_2 ?_
    refine v_iload_n (pc := 71) d_Ex_has_71 rfl (.tail _ (.head _)) ?_
    refine v_callV (pc := 72) (J' := jLo_numberOf) (d' := d) (o := 13) (ci := 4) (N := 7) (T := cT4) (As := [vI x6]) d_Ex_has_72 ml_Ex_156 cC_13.1 cC_13.2 (by decide) rfl rfl (Nat.le_of_ble_eq_true rfl) (Nat.le_refl _) rfl (Cal.weak h (fun o w10 h => ?_))
    rcases rI_of h with ⟨x11, rfl, h⟩
    refine v_iconst (pc := 75) d_Ex_has_75 (by decide) ?_
    refine v_callV (pc := 76) (J' := jCo_add) (d' := d) (o := 19) (ci := 0) (N := 6) (T := cT0) (As := [vI 6, vI x11, vI 0]) d_Ex_has_76 ml_Ex_78 cC_19.1 cC_19.2 (by decide) rfl rfl (Nat.le_of_ble_eq_true rfl) (Nat.le_refl _) rfl (Cal.weak h (fun o w12 h => ?_))
    rcases rI_of h with ⟨x13, rfl, h⟩
    refine v_pop (pc := 79) d_Ex_has_79 rfl ?_
    refine v_aload_n (pc := 80) d_Ex_has_80 rfl (.tail _ (.tail _ (.tail _ (.tail _ (.head _))))) ?_
    refine v_iload_n (pc := 81) d_Ex_has_81 rfl (.tail _ (.tail _ (.tail _ (.head _)))) ?_
    refine v_iload (pc := 82) d_Ex_has_82 (.head _) ?_
    refine v_ifeq (pc := 84) (tgt := 91) d_Ex_has_84 (by decide) (fun _ => ?_) (fun z => absurd z (by decide))
    refine v_iconst (pc := 91) d_Ex_has_91 (by decide) ?_
    refine v_bipush (pc := 92) d_Ex_has_92 (by decide) rfl ?_
    refine v_callV (pc := 94) (J' := jEx_know) (d' := d) (o := 26) (ci := 2) (N := 9) (T := cT2) (As := [vI x2, vI 0, vI 7]) d_Ex_has_94 ml_Ex_98 cC_26.1 cC_26.2 (by decide) rfl rfl (Nat.le_of_ble_eq_true rfl) (Nat.le_refl _) rfl (Cal.weak h (fun o w14 h => ?_))
    rcases rV_of h with ⟨rfl, h⟩
    refine v_iload_n (pc := 97) d_Ex_has_97 rfl (.tail _ (.tail _ (.tail _ (.head _)))) ?_
    exact v_iret (pc := 98) d_Ex_has_98 rfl h
  · replace h := h.2 c
    refine v_iconst (pc := 40) d_Ex_has_40 (by decide) ?_
    refine v_goto (pc := 41) (tgt := 45) d_Ex_has_41 (by decide) ?_
    refine v_istore (pc := 45) (ls' := [(4, vI 1), (3, vI x6), (2, vI x4), (1, vI x2), (0, vA 26)]) d_Ex_has_45 (by decide) rfl ?_
    refine v_iload (pc := 47) d_Ex_has_47 (.head _) ?_
    refine v_ifne (pc := 49) (tgt := 61) d_Ex_has_49 (by decide) (fun _ => ?_) (fun z => absurd z (by decide))
    refine v_aload_n (pc := 61) d_Ex_has_61 rfl (.tail _ (.tail _ (.tail _ (.tail _ (.head _))))) ?_
    refine v_getr (C := "") (pc := 62) (r := 19) d_Ex_has_62 fl_Ex_44 cC_26.1 cC_26.2 (Or.inl ⟨_, rfl⟩) rC_26_3 ?_
    refine v_bipush (pc := 65) d_Ex_has_65 (by decide) rfl ?_
    refine v_aload_n (pc := 67) d_Ex_has_67 rfl (.tail _ (.tail _ (.tail _ (.tail _ (.head _))))) ?_
    refine v_getr (C := "") (pc := 68) (r := 13) d_Ex_has_68 fl_Ex_39 cC_26.1 cC_26.2 (Or.inl ⟨_, rfl⟩) rC_26_2 ?_
    refine v_iload_n (pc := 71) d_Ex_has_71 rfl (.tail _ (.head _)) ?_
    refine v_callV (pc := 72) (J' := jLo_numberOf) (d' := d) (o := 13) (ci := 4) (N := 7) (T := cT4) (As := [vI x6]) d_Ex_has_72 ml_Ex_156 cC_13.1 cC_13.2 (by decide) rfl rfl (Nat.le_of_ble_eq_true rfl) (Nat.le_refl _) rfl (Cal.weak h (fun o w15 h => ?_))
    rcases rI_of h with ⟨x16, rfl, h⟩
    refine v_iconst (pc := 75) d_Ex_has_75 (by decide) ?_
    refine v_callV (pc := 76) (J' := jCo_add) (d' := d) (o := 19) (ci := 0) (N := 6) (T := cT0) (As := [vI 6, vI x16, vI 0]) d_Ex_has_76 ml_Ex_78 cC_19.1 cC_19.2 (by decide) rfl rfl (Nat.le_of_ble_eq_true rfl) (Nat.le_refl _) rfl (Cal.weak h (fun o w17 h => ?_))
    rcases rI_of h with ⟨x18, rfl, h⟩
    refine v_pop (pc := 79) d_Ex_has_79 rfl ?_
    refine v_aload_n (pc := 80) d_Ex_has_80 rfl (.tail _ (.tail _ (.tail _ (.tail _ (.head _))))) ?_
    refine v_iload_n (pc := 81) d_Ex_has_81 rfl (.tail _ (.tail _ (.tail _ (.head _)))) ?_
    refine v_iload (pc := 82) d_Ex_has_82 (.head _) ?_
    refine v_ifeq (pc := 84) (tgt := 91) d_Ex_has_84 (by decide) (fun z => absurd z (by decide)) (fun _ => ?_)
    refine v_iconst (pc := 87) d_Ex_has_87 (by decide) ?_
    refine v_goto (pc := 88) (tgt := 92) d_Ex_has_88 (by decide) ?_
    refine v_bipush (pc := 92) d_Ex_has_92 (by decide) rfl ?_
    refine v_callV (pc := 94) (J' := jEx_know) (d' := d) (o := 26) (ci := 2) (N := 9) (T := cT2) (As := [vI x2, vI 2, vI 7]) d_Ex_has_94 ml_Ex_98 cC_26.1 cC_26.2 (by decide) rfl rfl (Nat.le_of_ble_eq_true rfl) (Nat.le_refl _) rfl (Cal.weak h (fun o w19 h => ?_))
    rcases rV_of h with ⟨rfl, h⟩
    refine v_iload_n (pc := 97) d_Ex_has_97 rfl (.tail _ (.tail _ (.tail _ (.head _)))) ?_
    exact v_iret (pc := 98) d_Ex_has_98 rfl h
theorem d_Ex_draw_0 : decode jEx_draw.cc 0 = .ok (.aload_n 0, 1) := by decide +kernel
theorem d_Ex_draw_1 : decode jEx_draw.cc 1 = .ok (.getfield 29, 3) := by decide +kernel
theorem d_Ex_draw_4 : decode jEx_draw.cc 4 = .ok (.bipush 59, 2) := by decide +kernel
theorem d_Ex_draw_6 : decode jEx_draw.cc 6 = .ok (.invokevirtual 73, 3) := by decide +kernel
theorem d_Ex_draw_9 : decode jEx_draw.cc 9 = .ok (.istore_n 2, 1) := by decide +kernel
theorem d_Ex_draw_10 : decode jEx_draw.cc 10 = .ok (.aload_n 0, 1) := by decide +kernel
theorem d_Ex_draw_11 : decode jEx_draw.cc 11 = .ok (.getfield 29, 3) := by decide +kernel
theorem d_Ex_draw_14 : decode jEx_draw.cc 14 = .ok (.bipush 7, 2) := by decide +kernel
theorem d_Ex_draw_16 : decode jEx_draw.cc 16 = .ok (.invokevirtual 73, 3) := by decide +kernel
theorem d_Ex_draw_19 : decode jEx_draw.cc 19 = .ok (.pop, 1) := by decide +kernel
theorem d_Ex_draw_20 : decode jEx_draw.cc 20 = .ok (.aload_n 0, 1) := by decide +kernel
theorem d_Ex_draw_21 : decode jEx_draw.cc 21 = .ok (.iload_n 1, 1) := by decide +kernel
theorem d_Ex_draw_22 : decode jEx_draw.cc 22 = .ok (.iconst 1, 1) := by decide +kernel
theorem d_Ex_draw_23 : decode jEx_draw.cc 23 = .ok (.iadd, 1) := by decide +kernel
theorem d_Ex_draw_24 : decode jEx_draw.cc 24 = .ok (.invokevirtual 162, 3) := by decide +kernel
theorem d_Ex_draw_27 : decode jEx_draw.cc 27 = .ok (.istore_n 3, 1) := by decide +kernel
theorem d_Ex_draw_28 : decode jEx_draw.cc 28 = .ok (.aload_n 0, 1) := by decide +kernel
theorem d_Ex_draw_29 : decode jEx_draw.cc 29 = .ok (.getfield 29, 3) := by decide +kernel
theorem d_Ex_draw_32 : decode jEx_draw.cc 32 = .ok (.bipush 8, 2) := by decide +kernel
theorem d_Ex_draw_34 : decode jEx_draw.cc 34 = .ok (.invokevirtual 73, 3) := by decide +kernel
theorem d_Ex_draw_37 : decode jEx_draw.cc 37 = .ok (.pop, 1) := by decide +kernel
theorem d_Ex_draw_38 : decode jEx_draw.cc 38 = .ok (.aload_n 0, 1) := by decide +kernel
theorem d_Ex_draw_39 : decode jEx_draw.cc 39 = .ok (.iload_n 3, 1) := by decide +kernel
theorem d_Ex_draw_40 : decode jEx_draw.cc 40 = .ok (.iconst 1, 1) := by decide +kernel
theorem d_Ex_draw_41 : decode jEx_draw.cc 41 = .ok (.invokevirtual 93, 3) := by decide +kernel
theorem d_Ex_draw_44 : decode jEx_draw.cc 44 = .ok (.aload_n 0, 1) := by decide +kernel
theorem d_Ex_draw_45 : decode jEx_draw.cc 45 = .ok (.getfield 44, 3) := by decide +kernel
theorem d_Ex_draw_48 : decode jEx_draw.cc 48 = .ok (.bipush 14, 2) := by decide +kernel
theorem d_Ex_draw_50 : decode jEx_draw.cc 50 = .ok (.iconst 0, 1) := by decide +kernel
theorem d_Ex_draw_51 : decode jEx_draw.cc 51 = .ok (.aload_n 0, 1) := by decide +kernel
theorem d_Ex_draw_52 : decode jEx_draw.cc 52 = .ok (.getfield 25, 3) := by decide +kernel
theorem d_Ex_draw_55 : decode jEx_draw.cc 55 = .ok (.getfield 86, 3) := by decide +kernel
theorem d_Ex_draw_58 : decode jEx_draw.cc 58 = .ok (.iload_n 2, 1) := by decide +kernel
theorem d_Ex_draw_59 : decode jEx_draw.cc 59 = .ok (.iaload, 1) := by decide +kernel
theorem d_Ex_draw_60 : decode jEx_draw.cc 60 = .ok (.invokevirtual 78, 3) := by decide +kernel
theorem d_Ex_draw_63 : decode jEx_draw.cc 63 = .ok (.pop, 1) := by decide +kernel
theorem d_Ex_draw_64 : decode jEx_draw.cc 64 = .ok (.aload_n 0, 1) := by decide +kernel
theorem d_Ex_draw_65 : decode jEx_draw.cc 65 = .ok (.iload_n 2, 1) := by decide +kernel
theorem d_Ex_draw_66 : decode jEx_draw.cc 66 = .ok (.iconst 1, 1) := by decide +kernel
theorem d_Ex_draw_67 : decode jEx_draw.cc 67 = .ok (.bipush 7, 2) := by decide +kernel
theorem d_Ex_draw_69 : decode jEx_draw.cc 69 = .ok (.invokevirtual 98, 3) := by decide +kernel
theorem d_Ex_draw_72 : decode jEx_draw.cc 72 = .ok (.iload_n 2, 1) := by decide +kernel
theorem d_Ex_draw_73 : decode jEx_draw.cc 73 = .ok (.ireturn, 1) := by decide +kernel
set_option maxHeartbeats 4000000 in
theorem s_Ex_draw {g : Mg} {d : Nat} {K : Ou → Wd → Prop} {w : Wd} {p1 : Int} (h : Cal g LC jCu_take d [vA 25, vI 59] w (fun o w1 => rI o (fun x2 => Cal g LC jCu_take d [vA 25, vI 7] w1 (fun o w3 => rI o (fun x4 => Cal g LC jEx_exp d [vA 26, vI (wr (p1 + 1))] w3 (fun o w5 => rI o (fun x6 => Cal g LC jCu_take d [vA 25, vI 8] w5 (fun o w7 => rI o (fun x8 => Cal g LC jEx_demand d [vA 26, vI x6, vI 1] w7 (fun o w9 => rV o ((0 ≤ x2 ∧ x2 < 1002) ∧ (Cal g LC jCo_add d [vA 19, vI 14, vI 0, vI (w9 5 x2.toNat)] w9 (fun o w10 => rI o (fun x11 => Cal g LC jEx_know d [vA 26, vI x2, vI 1, vI 7] w10 (fun o w12 => rV o (K (.inl (some (vI x2))) w12)))))))))))))))) : V g LC jEx_draw (d + 1) K 0 [(0, vA 26), (1, vI p1)] [] w := by
  refine v_aload_n (pc := 0) d_Ex_draw_0 rfl (.head _) ?_
  refine v_getr (C := "") (pc := 1) (r := 25) d_Ex_draw_1 fl_Ex_29 cC_26.1 cC_26.2 (Or.inl ⟨_, rfl⟩) rC_26_1 ?_
  refine v_bipush (pc := 4) d_Ex_draw_4 (by decide) rfl ?_
  refine v_callV (pc := 6) (J' := jCu_take) (d' := d) (o := 25) (ci := 1) (N := 6) (T := cT1) (As := [vI 59]) d_Ex_draw_6 ml_Ex_73 cC_25.1 cC_25.2 (by decide) rfl rfl (Nat.le_of_ble_eq_true rfl) (Nat.le_refl _) rfl (Cal.weak h (fun o w1 h => ?_))
  rcases rI_of h with ⟨x2, rfl, h⟩
  refine v_istore_n (pc := 9) (ls' := [(2, vI x2), (0, vA 26), (1, vI p1)]) d_Ex_draw_9 rfl (by decide) rfl ?_
  refine v_aload_n (pc := 10) d_Ex_draw_10 rfl (.tail _ (.head _)) ?_
  refine v_getr (C := "") (pc := 11) (r := 25) d_Ex_draw_11 fl_Ex_29 cC_26.1 cC_26.2 (Or.inl ⟨_, rfl⟩) rC_26_1 ?_
  refine v_bipush (pc := 14) d_Ex_draw_14 (by decide) rfl ?_
  refine v_callV (pc := 16) (J' := jCu_take) (d' := d) (o := 25) (ci := 1) (N := 6) (T := cT1) (As := [vI 7]) d_Ex_draw_16 ml_Ex_73 cC_25.1 cC_25.2 (by decide) rfl rfl (Nat.le_of_ble_eq_true rfl) (Nat.le_refl _) rfl (Cal.weak h (fun o w3 h => ?_))
  rcases rI_of h with ⟨x4, rfl, h⟩
  refine v_pop (pc := 19) d_Ex_draw_19 rfl ?_
  refine v_aload_n (pc := 20) d_Ex_draw_20 rfl (.tail _ (.head _)) ?_
  refine v_iload_n (pc := 21) d_Ex_draw_21 rfl (.tail _ (.tail _ (.head _))) ?_
  refine v_iconst (pc := 22) d_Ex_draw_22 (by decide) ?_
  refine v_iadd (pc := 23) d_Ex_draw_23 ?_
  refine v_callV (pc := 24) (J' := jEx_exp) (d' := d) (o := 26) (ci := 2) (N := 9) (T := cT2) (As := [vI (wr (p1 + 1))]) d_Ex_draw_24 ml_Ex_162 cC_26.1 cC_26.2 (by decide) rfl rfl (Nat.le_of_ble_eq_true rfl) (Nat.le_refl _) rfl (Cal.weak h (fun o w5 h => ?_))
  rcases rI_of h with ⟨x6, rfl, h⟩
  refine v_istore_n (pc := 27) (ls' := [(3, vI x6), (2, vI x2), (0, vA 26), (1, vI p1)]) d_Ex_draw_27 rfl (by decide) rfl ?_
  refine v_aload_n (pc := 28) d_Ex_draw_28 rfl (.tail _ (.tail _ (.head _))) ?_
  refine v_getr (C := "") (pc := 29) (r := 25) d_Ex_draw_29 fl_Ex_29 cC_26.1 cC_26.2 (Or.inl ⟨_, rfl⟩) rC_26_1 ?_
  refine v_bipush (pc := 32) d_Ex_draw_32 (by decide) rfl ?_
  refine v_callV (pc := 34) (J' := jCu_take) (d' := d) (o := 25) (ci := 1) (N := 6) (T := cT1) (As := [vI 8]) d_Ex_draw_34 ml_Ex_73 cC_25.1 cC_25.2 (by decide) rfl rfl (Nat.le_of_ble_eq_true rfl) (Nat.le_refl _) rfl (Cal.weak h (fun o w7 h => ?_))
  rcases rI_of h with ⟨x8, rfl, h⟩
  refine v_pop (pc := 37) d_Ex_draw_37 rfl ?_
  refine v_aload_n (pc := 38) d_Ex_draw_38 rfl (.tail _ (.tail _ (.head _))) ?_
  refine v_iload_n (pc := 39) d_Ex_draw_39 rfl (.head _) ?_
  refine v_iconst (pc := 40) d_Ex_draw_40 (by decide) ?_
  refine v_callV (pc := 41) (J' := jEx_demand) (d' := d) (o := 26) (ci := 2) (N := 9) (T := cT2) (As := [vI x6, vI 1]) d_Ex_draw_41 ml_Ex_93 cC_26.1 cC_26.2 (by decide) rfl rfl (Nat.le_of_ble_eq_true rfl) (Nat.le_refl _) rfl (Cal.weak h (fun o w9 h => ?_))
  rcases rV_of h with ⟨rfl, h⟩
  refine v_aload_n (pc := 44) d_Ex_draw_44 rfl (.tail _ (.tail _ (.head _))) ?_
  refine v_getr (C := "") (pc := 45) (r := 19) d_Ex_draw_45 fl_Ex_44 cC_26.1 cC_26.2 (Or.inl ⟨_, rfl⟩) rC_26_3 ?_
  refine v_bipush (pc := 48) d_Ex_draw_48 (by decide) rfl ?_
  refine v_iconst (pc := 50) d_Ex_draw_50 (by decide) ?_
  refine v_aload_n (pc := 51) d_Ex_draw_51 rfl (.tail _ (.tail _ (.head _))) ?_
  refine v_getr (C := "") (pc := 52) (r := 2) d_Ex_draw_52 fl_Ex_25 cC_26.1 cC_26.2 (Or.inl ⟨_, rfl⟩) rC_26_0 ?_
  refine v_getr (C := "") (pc := 55) (r := 5) d_Ex_draw_55 fl_Ex_86 cC_2.1 cC_2.2 (Or.inr ⟨_, rfl⟩) rC_2_3 ?_
  refine v_iload_n (pc := 58) d_Ex_draw_58 rfl (.tail _ (.head _)) ?_
  refine v_iald (pc := 59) (x := (w9 5 x2.toNat)) d_Ex_draw_59 cC_5.1 cC_5.2 rfl h.1 ?_
  replace h := h.2
  refine v_callV (pc := 60) (J' := jCo_add) (d' := d) (o := 19) (ci := 0) (N := 6) (T := cT0) (As := [vI 14, vI 0, vI (w9 5 x2.toNat)]) d_Ex_draw_60 ml_Ex_78 cC_19.1 cC_19.2 (by decide) rfl rfl (Nat.le_of_ble_eq_true rfl) (Nat.le_refl _) rfl (Cal.weak h (fun o w10 h => ?_))
  rcases rI_of h with ⟨x11, rfl, h⟩
  refine v_pop (pc := 63) d_Ex_draw_63 rfl ?_
  refine v_aload_n (pc := 64) d_Ex_draw_64 rfl (.tail _ (.tail _ (.head _))) ?_
  refine v_iload_n (pc := 65) d_Ex_draw_65 rfl (.tail _ (.head _)) ?_
  refine v_iconst (pc := 66) d_Ex_draw_66 (by decide) ?_
  refine v_bipush (pc := 67) d_Ex_draw_67 (by decide) rfl ?_
  refine v_callV (pc := 69) (J' := jEx_know) (d' := d) (o := 26) (ci := 2) (N := 9) (T := cT2) (As := [vI x2, vI 1, vI 7]) d_Ex_draw_69 ml_Ex_98 cC_26.1 cC_26.2 (by decide) rfl rfl (Nat.le_of_ble_eq_true rfl) (Nat.le_refl _) rfl (Cal.weak h (fun o w12 h => ?_))
  rcases rV_of h with ⟨rfl, h⟩
  refine v_iload_n (pc := 72) d_Ex_draw_72 rfl (.tail _ (.head _)) ?_
  exact v_iret (pc := 73) d_Ex_draw_73 rfl h
theorem d_Ex_choice_0 : decode jEx_choice.cc 0 = .ok (.aload_n 0, 1) := by decide +kernel
theorem d_Ex_choice_1 : decode jEx_choice.cc 1 = .ok (.getfield 29, 3) := by decide +kernel
theorem d_Ex_choice_4 : decode jEx_choice.cc 4 = .ok (.bipush 48, 2) := by decide +kernel
theorem d_Ex_choice_6 : decode jEx_choice.cc 6 = .ok (.invokevirtual 73, 3) := by decide +kernel
theorem d_Ex_choice_9 : decode jEx_choice.cc 9 = .ok (.istore_n 2, 1) := by decide +kernel
theorem d_Ex_choice_10 : decode jEx_choice.cc 10 = .ok (.aload_n 0, 1) := by decide +kernel
theorem d_Ex_choice_11 : decode jEx_choice.cc 11 = .ok (.getfield 29, 3) := by decide +kernel
theorem d_Ex_choice_14 : decode jEx_choice.cc 14 = .ok (.bipush 7, 2) := by decide +kernel
theorem d_Ex_choice_16 : decode jEx_choice.cc 16 = .ok (.invokevirtual 73, 3) := by decide +kernel
theorem d_Ex_choice_19 : decode jEx_choice.cc 19 = .ok (.pop, 1) := by decide +kernel
theorem d_Ex_choice_20 : decode jEx_choice.cc 20 = .ok (.aload_n 0, 1) := by decide +kernel
theorem d_Ex_choice_21 : decode jEx_choice.cc 21 = .ok (.iload_n 1, 1) := by decide +kernel
theorem d_Ex_choice_22 : decode jEx_choice.cc 22 = .ok (.iconst 1, 1) := by decide +kernel
theorem d_Ex_choice_23 : decode jEx_choice.cc 23 = .ok (.iadd, 1) := by decide +kernel
theorem d_Ex_choice_24 : decode jEx_choice.cc 24 = .ok (.invokevirtual 162, 3) := by decide +kernel
theorem d_Ex_choice_27 : decode jEx_choice.cc 27 = .ok (.istore_n 3, 1) := by decide +kernel
theorem d_Ex_choice_28 : decode jEx_choice.cc 28 = .ok (.aload_n 0, 1) := by decide +kernel
theorem d_Ex_choice_29 : decode jEx_choice.cc 29 = .ok (.iload_n 3, 1) := by decide +kernel
theorem d_Ex_choice_30 : decode jEx_choice.cc 30 = .ok (.iconst 2, 1) := by decide +kernel
theorem d_Ex_choice_31 : decode jEx_choice.cc 31 = .ok (.invokevirtual 93, 3) := by decide +kernel
theorem d_Ex_choice_34 : decode jEx_choice.cc 34 = .ok (.aload_n 0, 1) := by decide +kernel
theorem d_Ex_choice_35 : decode jEx_choice.cc 35 = .ok (.getfield 44, 3) := by decide +kernel
theorem d_Ex_choice_38 : decode jEx_choice.cc 38 = .ok (.bipush 18, 2) := by decide +kernel
theorem d_Ex_choice_40 : decode jEx_choice.cc 40 = .ok (.iconst 0, 1) := by decide +kernel
theorem d_Ex_choice_41 : decode jEx_choice.cc 41 = .ok (.iconst 0, 1) := by decide +kernel
theorem d_Ex_choice_42 : decode jEx_choice.cc 42 = .ok (.invokevirtual 78, 3) := by decide +kernel
theorem d_Ex_choice_45 : decode jEx_choice.cc 45 = .ok (.istore 4, 2) := by decide +kernel
theorem d_Ex_choice_47 : decode jEx_choice.cc 47 = .ok (.aload_n 0, 1) := by decide +kernel
theorem d_Ex_choice_48 : decode jEx_choice.cc 48 = .ok (.getfield 29, 3) := by decide +kernel
theorem d_Ex_choice_51 : decode jEx_choice.cc 51 = .ok (.bipush 9, 2) := by decide +kernel
theorem d_Ex_choice_53 : decode jEx_choice.cc 53 = .ok (.invokevirtual 73, 3) := by decide +kernel
theorem d_Ex_choice_56 : decode jEx_choice.cc 56 = .ok (.pop, 1) := by decide +kernel
theorem d_Ex_choice_57 : decode jEx_choice.cc 57 = .ok (.aload_n 0, 1) := by decide +kernel
theorem d_Ex_choice_58 : decode jEx_choice.cc 58 = .ok (.iload_n 1, 1) := by decide +kernel
theorem d_Ex_choice_59 : decode jEx_choice.cc 59 = .ok (.iconst 1, 1) := by decide +kernel
theorem d_Ex_choice_60 : decode jEx_choice.cc 60 = .ok (.iadd, 1) := by decide +kernel
theorem d_Ex_choice_61 : decode jEx_choice.cc 61 = .ok (.invokevirtual 162, 3) := by decide +kernel
theorem d_Ex_choice_64 : decode jEx_choice.cc 64 = .ok (.istore 5, 2) := by decide +kernel
theorem d_Ex_choice_66 : decode jEx_choice.cc 66 = .ok (.aload_n 0, 1) := by decide +kernel
theorem d_Ex_choice_67 : decode jEx_choice.cc 67 = .ok (.getfield 44, 3) := by decide +kernel
theorem d_Ex_choice_70 : decode jEx_choice.cc 70 = .ok (.bipush 21, 2) := by decide +kernel
theorem d_Ex_choice_72 : decode jEx_choice.cc 72 = .ok (.iconst 0, 1) := by decide +kernel
theorem d_Ex_choice_73 : decode jEx_choice.cc 73 = .ok (.iconst 0, 1) := by decide +kernel
theorem d_Ex_choice_74 : decode jEx_choice.cc 74 = .ok (.invokevirtual 78, 3) := by decide +kernel
theorem d_Ex_choice_77 : decode jEx_choice.cc 77 = .ok (.istore 6, 2) := by decide +kernel
theorem d_Ex_choice_79 : decode jEx_choice.cc 79 = .ok (.aload_n 0, 1) := by decide +kernel
theorem d_Ex_choice_80 : decode jEx_choice.cc 80 = .ok (.getfield 29, 3) := by decide +kernel
theorem d_Ex_choice_83 : decode jEx_choice.cc 83 = .ok (.bipush 9, 2) := by decide +kernel
theorem d_Ex_choice_85 : decode jEx_choice.cc 85 = .ok (.invokevirtual 73, 3) := by decide +kernel
theorem d_Ex_choice_88 : decode jEx_choice.cc 88 = .ok (.pop, 1) := by decide +kernel
theorem d_Ex_choice_89 : decode jEx_choice.cc 89 = .ok (.aload_n 0, 1) := by decide +kernel
theorem d_Ex_choice_90 : decode jEx_choice.cc 90 = .ok (.getfield 44, 3) := by decide +kernel
theorem d_Ex_choice_93 : decode jEx_choice.cc 93 = .ok (.iload 4, 2) := by decide +kernel
theorem d_Ex_choice_95 : decode jEx_choice.cc 95 = .ok (.invokevirtual 82, 3) := by decide +kernel
theorem d_Ex_choice_98 : decode jEx_choice.cc 98 = .ok (.aload_n 0, 1) := by decide +kernel
theorem d_Ex_choice_99 : decode jEx_choice.cc 99 = .ok (.iload_n 1, 1) := by decide +kernel
theorem d_Ex_choice_100 : decode jEx_choice.cc 100 = .ok (.iconst 1, 1) := by decide +kernel
theorem d_Ex_choice_101 : decode jEx_choice.cc 101 = .ok (.iadd, 1) := by decide +kernel
theorem d_Ex_choice_102 : decode jEx_choice.cc 102 = .ok (.invokevirtual 162, 3) := by decide +kernel
theorem d_Ex_choice_105 : decode jEx_choice.cc 105 = .ok (.istore 7, 2) := by decide +kernel
theorem d_Ex_choice_107 : decode jEx_choice.cc 107 = .ok (.aload_n 0, 1) := by decide +kernel
theorem d_Ex_choice_108 : decode jEx_choice.cc 108 = .ok (.getfield 29, 3) := by decide +kernel
theorem d_Ex_choice_111 : decode jEx_choice.cc 111 = .ok (.bipush 8, 2) := by decide +kernel
theorem d_Ex_choice_113 : decode jEx_choice.cc 113 = .ok (.invokevirtual 73, 3) := by decide +kernel
theorem d_Ex_choice_116 : decode jEx_choice.cc 116 = .ok (.pop, 1) := by decide +kernel
theorem d_Ex_choice_117 : decode jEx_choice.cc 117 = .ok (.aload_n 0, 1) := by decide +kernel
theorem d_Ex_choice_118 : decode jEx_choice.cc 118 = .ok (.getfield 44, 3) := by decide +kernel
theorem d_Ex_choice_121 : decode jEx_choice.cc 121 = .ok (.iload 6, 2) := by decide +kernel
theorem d_Ex_choice_123 : decode jEx_choice.cc 123 = .ok (.invokevirtual 82, 3) := by decide +kernel
theorem d_Ex_choice_126 : decode jEx_choice.cc 126 = .ok (.aload_n 0, 1) := by decide +kernel
theorem d_Ex_choice_127 : decode jEx_choice.cc 127 = .ok (.iload 7, 2) := by decide +kernel
theorem d_Ex_choice_129 : decode jEx_choice.cc 129 = .ok (.aload_n 0, 1) := by decide +kernel
theorem d_Ex_choice_130 : decode jEx_choice.cc 130 = .ok (.getfield 9, 3) := by decide +kernel
theorem d_Ex_choice_133 : decode jEx_choice.cc 133 = .ok (.iload 5, 2) := by decide +kernel
theorem d_Ex_choice_135 : decode jEx_choice.cc 135 = .ok (.iaload, 1) := by decide +kernel
theorem d_Ex_choice_136 : decode jEx_choice.cc 136 = .ok (.invokevirtual 93, 3) := by decide +kernel
theorem d_Ex_choice_139 : decode jEx_choice.cc 139 = .ok (.aload_n 0, 1) := by decide +kernel
theorem d_Ex_choice_140 : decode jEx_choice.cc 140 = .ok (.iload_n 2, 1) := by decide +kernel
theorem d_Ex_choice_141 : decode jEx_choice.cc 141 = .ok (.aload_n 0, 1) := by decide +kernel
theorem d_Ex_choice_142 : decode jEx_choice.cc 142 = .ok (.getfield 9, 3) := by decide +kernel
theorem d_Ex_choice_145 : decode jEx_choice.cc 145 = .ok (.iload 5, 2) := by decide +kernel
theorem d_Ex_choice_147 : decode jEx_choice.cc 147 = .ok (.iaload, 1) := by decide +kernel
theorem d_Ex_choice_148 : decode jEx_choice.cc 148 = .ok (.ifCond .ne 13, 3) := by decide +kernel
theorem d_Ex_choice_151 : decode jEx_choice.cc 151 = .ok (.aload_n 0, 1) := by decide +kernel
theorem d_Ex_choice_152 : decode jEx_choice.cc 152 = .ok (.getfield 9, 3) := by decide +kernel
theorem d_Ex_choice_155 : decode jEx_choice.cc 155 = .ok (.iload 7, 2) := by decide +kernel
theorem d_Ex_choice_157 : decode jEx_choice.cc 157 = .ok (.iaload, 1) := by decide +kernel
theorem d_Ex_choice_158 : decode jEx_choice.cc 158 = .ok (.goto 10, 3) := by decide +kernel
theorem d_Ex_choice_161 : decode jEx_choice.cc 161 = .ok (.aload_n 0, 1) := by decide +kernel
theorem d_Ex_choice_162 : decode jEx_choice.cc 162 = .ok (.getfield 9, 3) := by decide +kernel
theorem d_Ex_choice_165 : decode jEx_choice.cc 165 = .ok (.iload 5, 2) := by decide +kernel
theorem d_Ex_choice_167 : decode jEx_choice.cc 167 = .ok (.iaload, 1) := by decide +kernel
theorem d_Ex_choice_168 : decode jEx_choice.cc 168 = .ok (.bipush 7, 2) := by decide +kernel
theorem d_Ex_choice_170 : decode jEx_choice.cc 170 = .ok (.invokevirtual 98, 3) := by decide +kernel
theorem d_Ex_choice_173 : decode jEx_choice.cc 173 = .ok (.iload_n 2, 1) := by decide +kernel
theorem d_Ex_choice_174 : decode jEx_choice.cc 174 = .ok (.ireturn, 1) := by decide +kernel
set_option maxHeartbeats 4000000 in
theorem s_Ex_choice {g : Mg} {d : Nat} {K : Ou → Wd → Prop} {w : Wd} {p1 : Int} (h : Cal g LC jCu_take d [vA 25, vI 48] w (fun o w1 => rI o (fun x2 => Cal g LC jCu_take d [vA 25, vI 7] w1 (fun o w3 => rI o (fun x4 => Cal g LC jEx_exp d [vA 26, vI (wr (p1 + 1))] w3 (fun o w5 => rI o (fun x6 => Cal g LC jEx_demand d [vA 26, vI x6, vI 2] w5 (fun o w7 => rV o (Cal g LC jCo_add d [vA 19, vI 18, vI 0, vI 0] w7 (fun o w8 => rI o (fun x9 => Cal g LC jCu_take d [vA 25, vI 9] w8 (fun o w10 => rI o (fun x11 => Cal g LC jEx_exp d [vA 26, vI (wr (p1 + 1))] w10 (fun o w12 => rI o (fun x13 => Cal g LC jCo_add d [vA 19, vI 21, vI 0, vI 0] w12 (fun o w14 => rI o (fun x15 => Cal g LC jCu_take d [vA 25, vI 9] w14 (fun o w16 => rI o (fun x17 => Cal g LC jCo_aimHere d [vA 19, vI x9] w16 (fun o w18 => rV o (Cal g LC jEx_exp d [vA 26, vI (wr (p1 + 1))] w18 (fun o w19 => rI o (fun x20 => Cal g LC jCu_take d [vA 25, vI 8] w19 (fun o w21 => rI o (fun x22 => Cal g LC jCo_aimHere d [vA 19, vI x15] w21 (fun o w23 => rV o ((0 ≤ x13 ∧ x13 < 1002) ∧ (Cal g LC jEx_demand d [vA 26, vI x20, vI (w23 27 x13.toNat)] w23 (fun o w24 => rV o ((0 ≤ x13 ∧ x13 < 1002) ∧ ((¬ (w24 27 x13.toNat) = 0 → ((0 ≤ x13 ∧ x13 < 1002) ∧ (Cal g LC jEx_know d [vA 26, vI x2, vI (w24 27 x13.toNat), vI 7] w24 (fun o w25 => rV o (K (.inl (some (vI x2))) w25))))) ∧ ((w24 27 x13.toNat) = 0 → ((0 ≤ x20 ∧ x20 < 1002) ∧ (Cal g LC jEx_know d [vA 26, vI x2, vI (w24 27 x20.toNat), vI 7] w24 (fun o w26 => rV o (K (.inl (some (vI x2))) w26)))))))))))))))))))))))))))))))))))) : V g LC jEx_choice (d + 1) K 0 [(0, vA 26), (1, vI p1)] [] w := by
  refine v_aload_n (pc := 0) d_Ex_choice_0 rfl (.head _) ?_
  refine v_getr (C := "") (pc := 1) (r := 25) d_Ex_choice_1 fl_Ex_29 cC_26.1 cC_26.2 (Or.inl ⟨_, rfl⟩) rC_26_1 ?_
  refine v_bipush (pc := 4) d_Ex_choice_4 (by decide) rfl ?_
  refine v_callV (pc := 6) (J' := jCu_take) (d' := d) (o := 25) (ci := 1) (N := 6) (T := cT1) (As := [vI 48]) d_Ex_choice_6 ml_Ex_73 cC_25.1 cC_25.2 (by decide) rfl rfl (Nat.le_of_ble_eq_true rfl) (Nat.le_refl _) rfl (Cal.weak h (fun o w1 h => ?_))
  rcases rI_of h with ⟨x2, rfl, h⟩
  refine v_istore_n (pc := 9) (ls' := [(2, vI x2), (0, vA 26), (1, vI p1)]) d_Ex_choice_9 rfl (by decide) rfl ?_
  refine v_aload_n (pc := 10) d_Ex_choice_10 rfl (.tail _ (.head _)) ?_
  refine v_getr (C := "") (pc := 11) (r := 25) d_Ex_choice_11 fl_Ex_29 cC_26.1 cC_26.2 (Or.inl ⟨_, rfl⟩) rC_26_1 ?_
  refine v_bipush (pc := 14) d_Ex_choice_14 (by decide) rfl ?_
  refine v_callV (pc := 16) (J' := jCu_take) (d' := d) (o := 25) (ci := 1) (N := 6) (T := cT1) (As := [vI 7]) d_Ex_choice_16 ml_Ex_73 cC_25.1 cC_25.2 (by decide) rfl rfl (Nat.le_of_ble_eq_true rfl) (Nat.le_refl _) rfl (Cal.weak h (fun o w3 h => ?_))
  rcases rI_of h with ⟨x4, rfl, h⟩
  refine v_pop (pc := 19) d_Ex_choice_19 rfl ?_
  refine v_aload_n (pc := 20) d_Ex_choice_20 rfl (.tail _ (.head _)) ?_
  refine v_iload_n (pc := 21) d_Ex_choice_21 rfl (.tail _ (.tail _ (.head _))) ?_
  refine v_iconst (pc := 22) d_Ex_choice_22 (by decide) ?_
  refine v_iadd (pc := 23) d_Ex_choice_23 ?_
  refine v_callV (pc := 24) (J' := jEx_exp) (d' := d) (o := 26) (ci := 2) (N := 9) (T := cT2) (As := [vI (wr (p1 + 1))]) d_Ex_choice_24 ml_Ex_162 cC_26.1 cC_26.2 (by decide) rfl rfl (Nat.le_of_ble_eq_true rfl) (Nat.le_refl _) rfl (Cal.weak h (fun o w5 h => ?_))
  rcases rI_of h with ⟨x6, rfl, h⟩
  refine v_istore_n (pc := 27) (ls' := [(3, vI x6), (2, vI x2), (0, vA 26), (1, vI p1)]) d_Ex_choice_27 rfl (by decide) rfl ?_
  refine v_aload_n (pc := 28) d_Ex_choice_28 rfl (.tail _ (.tail _ (.head _))) ?_
  refine v_iload_n (pc := 29) d_Ex_choice_29 rfl (.head _) ?_
  refine v_iconst (pc := 30) d_Ex_choice_30 (by decide) ?_
  refine v_callV (pc := 31) (J' := jEx_demand) (d' := d) (o := 26) (ci := 2) (N := 9) (T := cT2) (As := [vI x6, vI 2]) d_Ex_choice_31 ml_Ex_93 cC_26.1 cC_26.2 (by decide) rfl rfl (Nat.le_of_ble_eq_true rfl) (Nat.le_refl _) rfl (Cal.weak h (fun o w7 h => ?_))
  rcases rV_of h with ⟨rfl, h⟩
  refine v_aload_n (pc := 34) d_Ex_choice_34 rfl (.tail _ (.tail _ (.head _))) ?_
  refine v_getr (C := "") (pc := 35) (r := 19) d_Ex_choice_35 fl_Ex_44 cC_26.1 cC_26.2 (Or.inl ⟨_, rfl⟩) rC_26_3 ?_
  refine v_bipush (pc := 38) d_Ex_choice_38 (by decide) rfl ?_
  refine v_iconst (pc := 40) d_Ex_choice_40 (by decide) ?_
  refine v_iconst (pc := 41) d_Ex_choice_41 (by decide) ?_
  refine v_callV (pc := 42) (J' := jCo_add) (d' := d) (o := 19) (ci := 0) (N := 6) (T := cT0) (As := [vI 18, vI 0, vI 0]) d_Ex_choice_42 ml_Ex_78 cC_19.1 cC_19.2 (by decide) rfl rfl (Nat.le_of_ble_eq_true rfl) (Nat.le_refl _) rfl (Cal.weak h (fun o w8 h => ?_))
  rcases rI_of h with ⟨x9, rfl, h⟩
  refine v_istore (pc := 45) (ls' := [(4, vI x9), (3, vI x6), (2, vI x2), (0, vA 26), (1, vI p1)]) d_Ex_choice_45 (by decide) rfl ?_
  refine v_aload_n (pc := 47) d_Ex_choice_47 rfl (.tail _ (.tail _ (.tail _ (.head _)))) ?_
  refine v_getr (C := "") (pc := 48) (r := 25) d_Ex_choice_48 fl_Ex_29 cC_26.1 cC_26.2 (Or.inl ⟨_, rfl⟩) rC_26_1 ?_
  refine v_bipush (pc := 51) d_Ex_choice_51 (by decide) rfl ?_
  refine v_callV (pc := 53) (J' := jCu_take) (d' := d) (o := 25) (ci := 1) (N := 6) (T := cT1) (As := [vI 9]) d_Ex_choice_53 ml_Ex_73 cC_25.1 cC_25.2 (by decide) rfl rfl (Nat.le_of_ble_eq_true rfl) (Nat.le_refl _) rfl (Cal.weak h (fun o w10 h => ?_))
  rcases rI_of h with ⟨x11, rfl, h⟩
  refine v_pop (pc := 56) d_Ex_choice_56 rfl ?_
  refine v_aload_n (pc := 57) d_Ex_choice_57 rfl (.tail _ (.tail _ (.tail _ (.head _)))) ?_
  refine v_iload_n (pc := 58) d_Ex_choice_58 rfl (.tail _ (.tail _ (.tail _ (.tail _ (.head _))))) ?_
  refine v_iconst (pc := 59) d_Ex_choice_59 (by decide) ?_
  refine v_iadd (pc := 60) d_Ex_choice_60 ?_
  refine v_callV (pc := 61) (J' := jEx_exp) (d' := d) (o := 26) (ci := 2) (N := 9) (T := cT2) (As := [vI (wr (p1 + 1))]) d_Ex_choice_61 ml_Ex_162 cC_26.1 cC_26.2 (by decide) rfl rfl (Nat.le_of_ble_eq_true rfl) (Nat.le_refl _) rfl (Cal.weak h (fun o w12 h => ?_))
  rcases rI_of h with ⟨x13, rfl, h⟩
  refine v_istore (pc := 64) (ls' := [(5, vI x13), (4, vI x9), (3, vI x6), (2, vI x2), (0, vA 26), (1, vI p1)]) d_Ex_choice_64 (by decide) rfl ?_
  refine v_aload_n (pc := 66) d_Ex_choice_66 rfl (.tail _ (.tail _ (.tail _ (.tail _ (.head _))))) ?_
  refine v_getr (C := "") (pc := 67) (r := 19) d_Ex_choice_67 fl_Ex_44 cC_26.1 cC_26.2 (Or.inl ⟨_, rfl⟩) rC_26_3 ?_
  refine v_bipush (pc := 70) d_Ex_choice_70 (by decide) rfl ?_
  refine v_iconst (pc := 72) d_Ex_choice_72 (by decide) ?_
  refine v_iconst (pc := 73) d_Ex_choice_73 (by decide) ?_
  refine v_callV (pc := 74) (J' := jCo_add) (d' := d) (o := 19) (ci := 0) (N := 6) (T := cT0) (As := [vI 21, vI 0, vI 0]) d_Ex_choice_74 ml_Ex_78 cC_19.1 cC_19.2 (by decide) rfl rfl (Nat.le_of_ble_eq_true rfl) (Nat.le_refl _) rfl (Cal.weak h (fun o w14 h => ?_))
  rcases rI_of h with ⟨x15, rfl, h⟩
  refine v_istore (pc := 77) (ls' := [(6, vI x15), (5, vI x13), (4, vI x9), (3, vI x6), (2, vI x2), (0, vA 26), (1, vI p1)]) d_Ex_choice_77 (by decide) rfl ?_
  refine v_aload_n (pc := 79) d_Ex_choice_79 rfl (.tail _ (.tail _ (.tail _ (.tail _ (.tail _ (.head _)))))) ?_
  refine v_getr (C := "") (pc := 80) (r := 25) d_Ex_choice_80 fl_Ex_29 cC_26.1 cC_26.2 (Or.inl ⟨_, rfl⟩) rC_26_1 ?_
  refine v_bipush (pc := 83) d_Ex_choice_83 (by decide) rfl ?_
  refine v_callV (pc := 85) (J' := jCu_take) (d' := d) (o := 25) (ci := 1) (N := 6) (T := cT1) (As := [vI 9]) d_Ex_choice_85 ml_Ex_73 cC_25.1 cC_25.2 (by decide) rfl rfl (Nat.le_of_ble_eq_true rfl) (Nat.le_refl _) rfl (Cal.weak h (fun o w16 h => ?_))
  rcases rI_of h with ⟨x17, rfl, h⟩
  refine v_pop (pc := 88) d_Ex_choice_88 rfl ?_
  refine v_aload_n (pc := 89) d_Ex_choice_89 rfl (.tail _ (.tail _ (.tail _ (.tail _ (.tail _ (.head _)))))) ?_
  refine v_getr (C := "") (pc := 90) (r := 19) d_Ex_choice_90 fl_Ex_44 cC_26.1 cC_26.2 (Or.inl ⟨_, rfl⟩) rC_26_3 ?_
  refine v_iload (pc := 93) d_Ex_choice_93 (.tail _ (.tail _ (.head _))) ?_
  refine v_callV (pc := 95) (J' := jCo_aimHere) (d' := d) (o := 19) (ci := 0) (N := 6) (T := cT0) (As := [vI x9]) d_Ex_choice_95 ml_Ex_82 cC_19.1 cC_19.2 (by decide) rfl rfl (Nat.le_of_ble_eq_true rfl) (Nat.le_refl _) rfl (Cal.weak h (fun o w18 h => ?_))
  rcases rV_of h with ⟨rfl, h⟩
  refine v_aload_n (pc := 98) d_Ex_choice_98 rfl (.tail _ (.tail _ (.tail _ (.tail _ (.tail _ (.head _)))))) ?_
  refine v_iload_n (pc := 99) d_Ex_choice_99 rfl (.tail _ (.tail _ (.tail _ (.tail _ (.tail _ (.tail _ (.head _))))))) ?_
  refine v_iconst (pc := 100) d_Ex_choice_100 (by decide) ?_
  refine v_iadd (pc := 101) d_Ex_choice_101 ?_
  refine v_callV (pc := 102) (J' := jEx_exp) (d' := d) (o := 26) (ci := 2) (N := 9) (T := cT2) (As := [vI (wr (p1 + 1))]) d_Ex_choice_102 ml_Ex_162 cC_26.1 cC_26.2 (by decide) rfl rfl (Nat.le_of_ble_eq_true rfl) (Nat.le_refl _) rfl (Cal.weak h (fun o w19 h => ?_))
  rcases rI_of h with ⟨x20, rfl, h⟩
  refine v_istore (pc := 105) (ls' := [(7, vI x20), (6, vI x15), (5, vI x13), (4, vI x9), (3, vI x6), (2, vI x2), (0, vA 26), (1, vI p1)]) d_Ex_choice_105 (by decide) rfl ?_
  refine v_aload_n (pc := 107) d_Ex_choice_107 rfl (.tail _ (.tail _ (.tail _ (.tail _ (.tail _ (.tail _ (.head _))))))) ?_
  refine v_getr (C := "") (pc := 108) (r := 25) d_Ex_choice_108 fl_Ex_29 cC_26.1 cC_26.2 (Or.inl ⟨_, rfl⟩) rC_26_1 ?_
  refine v_bipush (pc := 111) d_Ex_choice_111 (by decide) rfl ?_
  refine v_callV (pc := 113) (J' := jCu_take) (d' := d) (o := 25) (ci := 1) (N := 6) (T := cT1) (As := [vI 8]) d_Ex_choice_113 ml_Ex_73 cC_25.1 cC_25.2 (by decide) rfl rfl (Nat.le_of_ble_eq_true rfl) (Nat.le_refl _) rfl (Cal.weak h (fun o w21 h => ?_))
  rcases rI_of h with ⟨x22, rfl, h⟩
  refine v_pop (pc := 116) d_Ex_choice_116 rfl ?_
  refine v_aload_n (pc := 117) d_Ex_choice_117 rfl (.tail _ (.tail _ (.tail _ (.tail _ (.tail _ (.tail _ (.head _))))))) ?_
  refine v_getr (C := "") (pc := 118) (r := 19) d_Ex_choice_118 fl_Ex_44 cC_26.1 cC_26.2 (Or.inl ⟨_, rfl⟩) rC_26_3 ?_
  refine v_iload (pc := 121) d_Ex_choice_121 (.tail _ (.head _)) ?_
  refine v_callV (pc := 123) (J' := jCo_aimHere) (d' := d) (o := 19) (ci := 0) (N := 6) (T := cT0) (As := [vI x15]) d_Ex_choice_123 ml_Ex_82 cC_19.1 cC_19.2 (by decide) rfl rfl (Nat.le_of_ble_eq_true rfl) (Nat.le_refl _) rfl (Cal.weak h (fun o w23 h => ?_))
  rcases rV_of h with ⟨rfl, h⟩
  refine v_aload_n (pc := 126) d_Ex_choice_126 rfl (.tail _ (.tail _ (.tail _ (.tail _ (.tail _ (.tail _ (.head _))))))) ?_
  refine v_iload (pc := 127) d_Ex_choice_127 (.head _) ?_
  refine v_aload_n (pc := 129) d_Ex_choice_129 rfl (.tail _ (.tail _ (.tail _ (.tail _ (.tail _ (.tail _ (.head _))))))) ?_
  refine v_getr (C := "") (pc := 130) (r := 27) d_Ex_choice_130 fl_Ex_9 cC_26.1 cC_26.2 (Or.inr ⟨_, rfl⟩) rC_26_5 ?_
  refine v_iload (pc := 133) d_Ex_choice_133 (.tail _ (.tail _ (.head _))) ?_
  refine v_iald (pc := 135) (x := (w23 27 x13.toNat)) d_Ex_choice_135 cC_27.1 cC_27.2 rfl h.1 ?_
  replace h := h.2
  refine v_callV (pc := 136) (J' := jEx_demand) (d' := d) (o := 26) (ci := 2) (N := 9) (T := cT2) (As := [vI x20, vI (w23 27 x13.toNat)]) d_Ex_choice_136 ml_Ex_93 cC_26.1 cC_26.2 (by decide) rfl rfl (Nat.le_of_ble_eq_true rfl) (Nat.le_refl _) rfl (Cal.weak h (fun o w24 h => ?_))
  rcases rV_of h with ⟨rfl, h⟩
  refine v_aload_n (pc := 139) d_Ex_choice_139 rfl (.tail _ (.tail _ (.tail _ (.tail _ (.tail _ (.tail _ (.head _))))))) ?_
  refine v_iload_n (pc := 140) d_Ex_choice_140 rfl (.tail _ (.tail _ (.tail _ (.tail _ (.tail _ (.head _)))))) ?_
  refine v_aload_n (pc := 141) d_Ex_choice_141 rfl (.tail _ (.tail _ (.tail _ (.tail _ (.tail _ (.tail _ (.head _))))))) ?_
  refine v_getr (C := "") (pc := 142) (r := 27) d_Ex_choice_142 fl_Ex_9 cC_26.1 cC_26.2 (Or.inr ⟨_, rfl⟩) rC_26_5 ?_
  refine v_iload (pc := 145) d_Ex_choice_145 (.tail _ (.tail _ (.head _))) ?_
  refine v_iald (pc := 147) (x := (w24 27 x13.toNat)) d_Ex_choice_147 cC_27.1 cC_27.2 rfl h.1 ?_
  replace h := h.2
  refine v_ifne (pc := 148) (tgt := 161) d_Ex_choice_148 (by decide) (fun c => ?_) (fun c => ?_)
  · replace h := h.1 c
    refine v_aload_n (pc := 161) d_Ex_choice_161 rfl (.tail _ (.tail _ (.tail _ (.tail _ (.tail _ (.tail _ (.head _))))))) ?_
    refine v_getr (C := "") (pc := 162) (r := 27) d_Ex_choice_162 fl_Ex_9 cC_26.1 cC_26.2 (Or.inr ⟨_, rfl⟩) rC_26_5 ?_
    refine v_iload (pc := 165) d_Ex_choice_165 (.tail _ (.tail _ (.head _))) ?_
    refine v_iald (pc := 167) (x := (w24 27 x13.toNat)) d_Ex_choice_167 cC_27.1 cC_27.2 rfl h.1 ?_
    replace h := h.2
    refine v_bipush (pc := 168) d_Ex_choice_168 (by decide) rfl ?_
    refine v_callV (pc := 170) (J' := jEx_know) (d' := d) (o := 26) (ci := 2) (N := 9) (T := cT2) (As := [vI x2, vI (w24 27 x13.toNat), vI 7]) d_Ex_choice_170 ml_Ex_98 cC_26.1 cC_26.2 (by decide) rfl rfl (Nat.le_of_ble_eq_true rfl) (Nat.le_refl _) rfl (Cal.weak h (fun o w25 h => ?_))
    rcases rV_of h with ⟨rfl, h⟩
    refine v_iload_n (pc := 173) d_Ex_choice_173 rfl (.tail _ (.tail _ (.tail _ (.tail _ (.tail _ (.head _)))))) ?_
    exact v_iret (pc := 174) d_Ex_choice_174 rfl h
  · replace h := h.2 c
    refine v_aload_n (pc := 151) d_Ex_choice_151 rfl (.tail _ (.tail _ (.tail _ (.tail _ (.tail _ (.tail _ (.head _))))))) ?_
    refine v_getr (C := "") (pc := 152) (r := 27) d_Ex_choice_152 fl_Ex_9 cC_26.1 cC_26.2 (Or.inr ⟨_, rfl⟩) rC_26_5 ?_
    refine v_iload (pc := 155) d_Ex_choice_155 (.head _) ?_
    refine v_iald (pc := 157) (x := (w24 27 x20.toNat)) d_Ex_choice_157 cC_27.1 cC_27.2 rfl h.1 ?_
    replace h := h.2
    refine v_goto (pc := 158) (tgt := 168) d_Ex_choice_158 (by decide) ?_
    refine v_bipush (pc := 168) d_Ex_choice_168 (by decide) rfl ?_
    refine v_callV (pc := 170) (J' := jEx_know) (d' := d) (o := 26) (ci := 2) (N := 9) (T := cT2) (As := [vI x2, vI (w24 27 x20.toNat), vI 7]) d_Ex_choice_170 ml_Ex_98 cC_26.1 cC_26.2 (by decide) rfl rfl (Nat.le_of_ble_eq_true rfl) (Nat.le_refl _) rfl (Cal.weak h (fun o w26 h => ?_))
    rcases rV_of h with ⟨rfl, h⟩
    refine v_iload_n (pc := 173) d_Ex_choice_173 rfl (.tail _ (.tail _ (.tail _ (.tail _ (.tail _ (.head _)))))) ?_
    exact v_iret (pc := 174) d_Ex_choice_174 rfl h
theorem d_Ex_group_0 : decode jEx_group.cc 0 = .ok (.aload_n 0, 1) := by decide +kernel
theorem d_Ex_group_1 : decode jEx_group.cc 1 = .ok (.getfield 29, 3) := by decide +kernel
theorem d_Ex_group_4 : decode jEx_group.cc 4 = .ok (.bipush 7, 2) := by decide +kernel
theorem d_Ex_group_6 : decode jEx_group.cc 6 = .ok (.invokevirtual 73, 3) := by decide +kernel
theorem d_Ex_group_9 : decode jEx_group.cc 9 = .ok (.istore_n 2, 1) := by decide +kernel
theorem d_Ex_group_10 : decode jEx_group.cc 10 = .ok (.aload_n 0, 1) := by decide +kernel
theorem d_Ex_group_11 : decode jEx_group.cc 11 = .ok (.iload_n 1, 1) := by decide +kernel
theorem d_Ex_group_12 : decode jEx_group.cc 12 = .ok (.iconst 1, 1) := by decide +kernel
theorem d_Ex_group_13 : decode jEx_group.cc 13 = .ok (.iadd, 1) := by decide +kernel
theorem d_Ex_group_14 : decode jEx_group.cc 14 = .ok (.invokevirtual 162, 3) := by decide +kernel
theorem d_Ex_group_17 : decode jEx_group.cc 17 = .ok (.istore_n 3, 1) := by decide +kernel
theorem d_Ex_group_18 : decode jEx_group.cc 18 = .ok (.aload_n 0, 1) := by decide +kernel
theorem d_Ex_group_19 : decode jEx_group.cc 19 = .ok (.getfield 29, 3) := by decide +kernel
theorem d_Ex_group_22 : decode jEx_group.cc 22 = .ok (.bipush 8, 2) := by decide +kernel
theorem d_Ex_group_24 : decode jEx_group.cc 24 = .ok (.invokevirtual 73, 3) := by decide +kernel
theorem d_Ex_group_27 : decode jEx_group.cc 27 = .ok (.istore 4, 2) := by decide +kernel
theorem d_Ex_group_29 : decode jEx_group.cc 29 = .ok (.aload_n 0, 1) := by decide +kernel
theorem d_Ex_group_30 : decode jEx_group.cc 30 = .ok (.iload_n 2, 1) := by decide +kernel
theorem d_Ex_group_31 : decode jEx_group.cc 31 = .ok (.aload_n 0, 1) := by decide +kernel
theorem d_Ex_group_32 : decode jEx_group.cc 32 = .ok (.getfield 9, 3) := by decide +kernel
theorem d_Ex_group_35 : decode jEx_group.cc 35 = .ok (.iload_n 3, 1) := by decide +kernel
theorem d_Ex_group_36 : decode jEx_group.cc 36 = .ok (.iaload, 1) := by decide +kernel
theorem d_Ex_group_37 : decode jEx_group.cc 37 = .ok (.aload_n 0, 1) := by decide +kernel
theorem d_Ex_group_38 : decode jEx_group.cc 38 = .ok (.getfield 15, 3) := by decide +kernel
theorem d_Ex_group_41 : decode jEx_group.cc 41 = .ok (.iload_n 3, 1) := by decide +kernel
theorem d_Ex_group_42 : decode jEx_group.cc 42 = .ok (.iaload, 1) := by decide +kernel
theorem d_Ex_group_43 : decode jEx_group.cc 43 = .ok (.invokevirtual 98, 3) := by decide +kernel
theorem d_Ex_group_46 : decode jEx_group.cc 46 = .ok (.aload_n 0, 1) := by decide +kernel
theorem d_Ex_group_47 : decode jEx_group.cc 47 = .ok (.getfield 18, 3) := by decide +kernel
theorem d_Ex_group_50 : decode jEx_group.cc 50 = .ok (.iload_n 2, 1) := by decide +kernel
theorem d_Ex_group_51 : decode jEx_group.cc 51 = .ok (.iload 4, 2) := by decide +kernel
theorem d_Ex_group_53 : decode jEx_group.cc 53 = .ok (.iastore, 1) := by decide +kernel
theorem d_Ex_group_54 : decode jEx_group.cc 54 = .ok (.iload_n 2, 1) := by decide +kernel
theorem d_Ex_group_55 : decode jEx_group.cc 55 = .ok (.ireturn, 1) := by decide +kernel
set_option maxHeartbeats 4000000 in
theorem s_Ex_group {g : Mg} {d : Nat} {K : Ou → Wd → Prop} {w : Wd} {p1 : Int} (h : Cal g LC jCu_take d [vA 25, vI 7] w (fun o w1 => rI o (fun x2 => Cal g LC jEx_exp d [vA 26, vI (wr (p1 + 1))] w1 (fun o w3 => rI o (fun x4 => Cal g LC jCu_take d [vA 25, vI 8] w3 (fun o w5 => rI o (fun x6 => (0 ≤ x4 ∧ x4 < 1002) ∧ ((0 ≤ x4 ∧ x4 < 1002) ∧ (Cal g LC jEx_know d [vA 26, vI x2, vI (w5 27 x4.toNat), vI (w5 28 x4.toNat)] w5 (fun o w7 => rV o ((0 ≤ x2 ∧ x2 < 1002) ∧ (K (.inl (some (vI x2))) (up w7 29 (x2.toNat) x6))))))))))))) : V g LC jEx_group (d + 1) K 0 [(0, vA 26), (1, vI p1)] [] w := by
  refine v_aload_n (pc := 0) d_Ex_group_0 rfl (.head _) ?_
  refine v_getr (C := "") (pc := 1) (r := 25) d_Ex_group_1 fl_Ex_29 cC_26.1 cC_26.2 (Or.inl ⟨_, rfl⟩) rC_26_1 ?_
  refine v_bipush (pc := 4) d_Ex_group_4 (by decide) rfl ?_
  refine v_callV (pc := 6) (J' := jCu_take) (d' := d) (o := 25) (ci := 1) (N := 6) (T := cT1) (As := [vI 7]) d_Ex_group_6 ml_Ex_73 cC_25.1 cC_25.2 (by decide) rfl rfl (Nat.le_of_ble_eq_true rfl) (Nat.le_refl _) rfl (Cal.weak h (fun o w1 h => ?_))
  rcases rI_of h with ⟨x2, rfl, h⟩
  refine v_istore_n (pc := 9) (ls' := [(2, vI x2), (0, vA 26), (1, vI p1)]) d_Ex_group_9 rfl (by decide) rfl ?_
  refine v_aload_n (pc := 10) d_Ex_group_10 rfl (.tail _ (.head _)) ?_
  refine v_iload_n (pc := 11) d_Ex_group_11 rfl (.tail _ (.tail _ (.head _))) ?_
  refine v_iconst (pc := 12) d_Ex_group_12 (by decide) ?_
  refine v_iadd (pc := 13) d_Ex_group_13 ?_
  refine v_callV (pc := 14) (J' := jEx_exp) (d' := d) (o := 26) (ci := 2) (N := 9) (T := cT2) (As := [vI (wr (p1 + 1))]) d_Ex_group_14 ml_Ex_162 cC_26.1 cC_26.2 (by decide) rfl rfl (Nat.le_of_ble_eq_true rfl) (Nat.le_refl _) rfl (Cal.weak h (fun o w3 h => ?_))
  rcases rI_of h with ⟨x4, rfl, h⟩
  refine v_istore_n (pc := 17) (ls' := [(3, vI x4), (2, vI x2), (0, vA 26), (1, vI p1)]) d_Ex_group_17 rfl (by decide) rfl ?_
  refine v_aload_n (pc := 18) d_Ex_group_18 rfl (.tail _ (.tail _ (.head _))) ?_
  refine v_getr (C := "") (pc := 19) (r := 25) d_Ex_group_19 fl_Ex_29 cC_26.1 cC_26.2 (Or.inl ⟨_, rfl⟩) rC_26_1 ?_
  refine v_bipush (pc := 22) d_Ex_group_22 (by decide) rfl ?_
  refine v_callV (pc := 24) (J' := jCu_take) (d' := d) (o := 25) (ci := 1) (N := 6) (T := cT1) (As := [vI 8]) d_Ex_group_24 ml_Ex_73 cC_25.1 cC_25.2 (by decide) rfl rfl (Nat.le_of_ble_eq_true rfl) (Nat.le_refl _) rfl (Cal.weak h (fun o w5 h => ?_))
  rcases rI_of h with ⟨x6, rfl, h⟩
  refine v_istore (pc := 27) (ls' := [(4, vI x6), (3, vI x4), (2, vI x2), (0, vA 26), (1, vI p1)]) d_Ex_group_27 (by decide) rfl ?_
  refine v_aload_n (pc := 29) d_Ex_group_29 rfl (.tail _ (.tail _ (.tail _ (.head _)))) ?_
  refine v_iload_n (pc := 30) d_Ex_group_30 rfl (.tail _ (.tail _ (.head _))) ?_
  refine v_aload_n (pc := 31) d_Ex_group_31 rfl (.tail _ (.tail _ (.tail _ (.head _)))) ?_
  refine v_getr (C := "") (pc := 32) (r := 27) d_Ex_group_32 fl_Ex_9 cC_26.1 cC_26.2 (Or.inr ⟨_, rfl⟩) rC_26_5 ?_
  refine v_iload_n (pc := 35) d_Ex_group_35 rfl (.tail _ (.head _)) ?_
  refine v_iald (pc := 36) (x := (w5 27 x4.toNat)) d_Ex_group_36 cC_27.1 cC_27.2 rfl h.1 ?_
  replace h := h.2
  refine v_aload_n (pc := 37) d_Ex_group_37 rfl (.tail _ (.tail _ (.tail _ (.head _)))) ?_
  refine v_getr (C := "") (pc := 38) (r := 28) d_Ex_group_38 fl_Ex_15 cC_26.1 cC_26.2 (Or.inr ⟨_, rfl⟩) rC_26_6 ?_
  refine v_iload_n (pc := 41) d_Ex_group_41 rfl (.tail _ (.head _)) ?_
  refine v_iald (pc := 42) (x := (w5 28 x4.toNat)) d_Ex_group_42 cC_28.1 cC_28.2 rfl h.1 ?_
  replace h := h.2
  refine v_callV (pc := 43) (J' := jEx_know) (d' := d) (o := 26) (ci := 2) (N := 9) (T := cT2) (As := [vI x2, vI (w5 27 x4.toNat), vI (w5 28 x4.toNat)]) d_Ex_group_43 ml_Ex_98 cC_26.1 cC_26.2 (by decide) rfl rfl (Nat.le_of_ble_eq_true rfl) (Nat.le_refl _) rfl (Cal.weak h (fun o w7 h => ?_))
  rcases rV_of h with ⟨rfl, h⟩
  refine v_aload_n (pc := 46) d_Ex_group_46 rfl (.tail _ (.tail _ (.tail _ (.head _)))) ?_
  refine v_getr (C := "") (pc := 47) (r := 29) d_Ex_group_47 fl_Ex_18 cC_26.1 cC_26.2 (Or.inr ⟨_, rfl⟩) rC_26_7 ?_
  refine v_iload_n (pc := 50) d_Ex_group_50 rfl (.tail _ (.tail _ (.head _))) ?_
  refine v_iload (pc := 51) d_Ex_group_51 (.head _) ?_
  refine v_iast (pc := 53) d_Ex_group_53 cC_29.1 cC_29.2 (aC_29 _) h.1 ?_
  replace h := h.2
  refine v_iload_n (pc := 54) d_Ex_group_54 rfl (.tail _ (.tail _ (.head _))) ?_
  exact v_iret (pc := 55) d_Ex_group_55 rfl h
theorem d_Ex_know_0 : decode jEx_know.cc 0 = .ok (.aload_n 0, 1) := by decide +kernel
theorem d_Ex_know_1 : decode jEx_know.cc 1 = .ok (.getfield 9, 3) := by decide +kernel
theorem d_Ex_know_4 : decode jEx_know.cc 4 = .ok (.iload_n 1, 1) := by decide +kernel
theorem d_Ex_know_5 : decode jEx_know.cc 5 = .ok (.iload_n 2, 1) := by decide +kernel
theorem d_Ex_know_6 : decode jEx_know.cc 6 = .ok (.iastore, 1) := by decide +kernel
theorem d_Ex_know_7 : decode jEx_know.cc 7 = .ok (.aload_n 0, 1) := by decide +kernel
theorem d_Ex_know_8 : decode jEx_know.cc 8 = .ok (.getfield 15, 3) := by decide +kernel
theorem d_Ex_know_11 : decode jEx_know.cc 11 = .ok (.iload_n 1, 1) := by decide +kernel
theorem d_Ex_know_12 : decode jEx_know.cc 12 = .ok (.iload_n 3, 1) := by decide +kernel
theorem d_Ex_know_13 : decode jEx_know.cc 13 = .ok (.iastore, 1) := by decide +kernel
theorem d_Ex_know_14 : decode jEx_know.cc 14 = .ok (.aload_n 0, 1) := by decide +kernel
theorem d_Ex_know_15 : decode jEx_know.cc 15 = .ok (.getfield 18, 3) := by decide +kernel
theorem d_Ex_know_18 : decode jEx_know.cc 18 = .ok (.iload_n 1, 1) := by decide +kernel
theorem d_Ex_know_19 : decode jEx_know.cc 19 = .ok (.iconst 0, 1) := by decide +kernel
theorem d_Ex_know_20 : decode jEx_know.cc 20 = .ok (.iastore, 1) := by decide +kernel
theorem d_Ex_know_21 : decode jEx_know.cc 21 = .ok (.return_, 1) := by decide +kernel
set_option maxHeartbeats 4000000 in
theorem s_Ex_know {g : Mg} {d : Nat} {K : Ou → Wd → Prop} {w : Wd} {p1 : Int} {p2 : Int} {p3 : Int} (h : (0 ≤ p1 ∧ p1 < 1002) ∧ ((0 ≤ p1 ∧ p1 < 1002) ∧ ((0 ≤ p1 ∧ p1 < 1002) ∧ (K (.inl none) (up (up (up w 27 (p1.toNat) p2) 28 (p1.toNat) p3) 29 (p1.toNat) 0))))) : V g LC jEx_know d K 0 [(0, vA 26), (1, vI p1), (2, vI p2), (3, vI p3)] [] w := by
  refine v_aload_n (pc := 0) d_Ex_know_0 rfl (.head _) ?_
  refine v_getr (C := "") (pc := 1) (r := 27) d_Ex_know_1 fl_Ex_9 cC_26.1 cC_26.2 (Or.inr ⟨_, rfl⟩) rC_26_5 ?_
  refine v_iload_n (pc := 4) d_Ex_know_4 rfl (.tail _ (.head _)) ?_
  refine v_iload_n (pc := 5) d_Ex_know_5 rfl (.tail _ (.tail _ (.head _))) ?_
  refine v_iast (pc := 6) d_Ex_know_6 cC_27.1 cC_27.2 (aC_27 _) h.1 ?_
  replace h := h.2
  refine v_aload_n (pc := 7) d_Ex_know_7 rfl (.head _) ?_
  refine v_getr (C := "") (pc := 8) (r := 28) d_Ex_know_8 fl_Ex_15 cC_26.1 cC_26.2 (Or.inr ⟨_, rfl⟩) rC_26_6 ?_
  refine v_iload_n (pc := 11) d_Ex_know_11 rfl (.tail _ (.head _)) ?_
  refine v_iload_n (pc := 12) d_Ex_know_12 rfl (.tail _ (.tail _ (.tail _ (.head _)))) ?_
  refine v_iast (pc := 13) d_Ex_know_13 cC_28.1 cC_28.2 (aC_28 _) h.1 ?_
  replace h := h.2
  refine v_aload_n (pc := 14) d_Ex_know_14 rfl (.head _) ?_
  refine v_getr (C := "") (pc := 15) (r := 29) d_Ex_know_15 fl_Ex_18 cC_26.1 cC_26.2 (Or.inr ⟨_, rfl⟩) rC_26_7 ?_
  refine v_iload_n (pc := 18) d_Ex_know_18 rfl (.tail _ (.head _)) ?_
  refine v_iconst (pc := 19) d_Ex_know_19 (by decide) ?_
  refine v_iast (pc := 20) d_Ex_know_20 cC_29.1 cC_29.2 (aC_29 _) h.1 ?_
  replace h := h.2
  exact v_vret (pc := 21) d_Ex_know_21 rfl h
theorem d_Ex_settle_0 : decode jEx_settle.cc 0 = .ok (.aload_n 0, 1) := by decide +kernel
theorem d_Ex_settle_1 : decode jEx_settle.cc 1 = .ok (.getfield 18, 3) := by decide +kernel
theorem d_Ex_settle_4 : decode jEx_settle.cc 4 = .ok (.iload_n 1, 1) := by decide +kernel
theorem d_Ex_settle_5 : decode jEx_settle.cc 5 = .ok (.iaload, 1) := by decide +kernel
theorem d_Ex_settle_6 : decode jEx_settle.cc 6 = .ok (.istore_n 3, 1) := by decide +kernel
theorem d_Ex_settle_7 : decode jEx_settle.cc 7 = .ok (.iload_n 3, 1) := by decide +kernel
theorem d_Ex_settle_8 : decode jEx_settle.cc 8 = .ok (.ifCond .le 27, 3) := by decide +kernel
theorem d_Ex_settle_11 : decode jEx_settle.cc 11 = .ok (.aload_n 0, 1) := by decide +kernel
theorem d_Ex_settle_12 : decode jEx_settle.cc 12 = .ok (.getfield 15, 3) := by decide +kernel
theorem d_Ex_settle_15 : decode jEx_settle.cc 15 = .ok (.iload_n 1, 1) := by decide +kernel
theorem d_Ex_settle_16 : decode jEx_settle.cc 16 = .ok (.iaload, 1) := by decide +kernel
theorem d_Ex_settle_17 : decode jEx_settle.cc 17 = .ok (.iload_n 2, 1) := by decide +kernel
theorem d_Ex_settle_18 : decode jEx_settle.cc 18 = .ok (.if_icmp .lt 17, 3) := by decide +kernel
theorem d_Ex_settle_21 : decode jEx_settle.cc 21 = .ok (.aload_n 0, 1) := by decide +kernel
theorem d_Ex_settle_22 : decode jEx_settle.cc 22 = .ok (.getfield 21, 3) := by decide +kernel
theorem d_Ex_settle_25 : decode jEx_settle.cc 25 = .ok (.iload_n 1, 1) := by decide +kernel
theorem d_Ex_settle_26 : decode jEx_settle.cc 26 = .ok (.iconst 1, 1) := by decide +kernel
theorem d_Ex_settle_27 : decode jEx_settle.cc 27 = .ok (.bastore, 1) := by decide +kernel
theorem d_Ex_settle_28 : decode jEx_settle.cc 28 = .ok (.aload_n 0, 1) := by decide +kernel
theorem d_Ex_settle_29 : decode jEx_settle.cc 29 = .ok (.getfield 21, 3) := by decide +kernel
theorem d_Ex_settle_32 : decode jEx_settle.cc 32 = .ok (.iload_n 3, 1) := by decide +kernel
theorem d_Ex_settle_33 : decode jEx_settle.cc 33 = .ok (.iconst 1, 1) := by decide +kernel
theorem d_Ex_settle_34 : decode jEx_settle.cc 34 = .ok (.bastore, 1) := by decide +kernel
theorem d_Ex_settle_35 : decode jEx_settle.cc 35 = .ok (.aload_n 0, 1) := by decide +kernel
theorem d_Ex_settle_36 : decode jEx_settle.cc 36 = .ok (.getfield 18, 3) := by decide +kernel
theorem d_Ex_settle_39 : decode jEx_settle.cc 39 = .ok (.iload_n 1, 1) := by decide +kernel
theorem d_Ex_settle_40 : decode jEx_settle.cc 40 = .ok (.iconst 0, 1) := by decide +kernel
theorem d_Ex_settle_41 : decode jEx_settle.cc 41 = .ok (.iastore, 1) := by decide +kernel
theorem d_Ex_settle_42 : decode jEx_settle.cc 42 = .ok (.return_, 1) := by decide +kernel
set_option maxHeartbeats 4000000 in
theorem s_Ex_settle {g : Mg} {d : Nat} {K : Ou → Wd → Prop} {w : Wd} {p1 : Int} {p2 : Int} (h : (0 ≤ p1 ∧ p1 < 1002) ∧ (((w 29 p1.toNat) ≤ 0 → ((0 ≤ p1 ∧ p1 < 1002) ∧ (K (.inl none) (up w 29 (p1.toNat) 0)))) ∧ (¬ (w 29 p1.toNat) ≤ 0 → ((0 ≤ p1 ∧ p1 < 1002) ∧ (((w 28 p1.toNat) < p2 → ((0 ≤ p1 ∧ p1 < 1002) ∧ (K (.inl none) (up w 29 (p1.toNat) 0)))) ∧ (¬ (w 28 p1.toNat) < p2 → ((0 ≤ p1 ∧ p1 < 1002) ∧ ((0 ≤ (w 29 p1.toNat) ∧ (w 29 p1.toNat) < 1002) ∧ ((0 ≤ p1 ∧ p1 < 1002) ∧ (K (.inl none) (up (up (up w 30 (p1.toNat) 1) 30 ((w 29 p1.toNat).toNat) 1) 29 (p1.toNat) 0))))))))))) : V g LC jEx_settle d K 0 [(0, vA 26), (1, vI p1), (2, vI p2)] [] w := by
  refine v_aload_n (pc := 0) d_Ex_settle_0 rfl (.head _) ?_
  refine v_getr (C := "") (pc := 1) (r := 29) d_Ex_settle_1 fl_Ex_18 cC_26.1 cC_26.2 (Or.inr ⟨_, rfl⟩) rC_26_7 ?_
  refine v_iload_n (pc := 4) d_Ex_settle_4 rfl (.tail _ (.head _)) ?_
  refine v_iald (pc := 5) (x := (w 29 p1.toNat)) d_Ex_settle_5 cC_29.1 cC_29.2 rfl h.1 ?_
  replace h := h.2
  refine v_istore_n (pc := 6) (ls' := [(3, vI (w 29 p1.toNat)), (0, vA 26), (1, vI p1), (2, vI p2)]) d_Ex_settle_6 rfl (by decide) rfl ?_
  refine v_iload_n (pc := 7) d_Ex_settle_7 rfl (.head _) ?_
  refine v_ifle (pc := 8) (tgt := 35) d_Ex_settle_8 (by decide) (fun c => ?_) (fun c => ?_)
  · replace h := h.1 c
    refine v_aload_n (pc := 35) d_Ex_settle_35 rfl (.tail _ (.head _)) ?_
    refine v_getr (C := "") (pc := 36) (r := 29) d_Ex_settle_36 fl_Ex_18 cC_26.1 cC_26.2 (Or.inr ⟨_, rfl⟩) rC_26_7 ?_
    refine v_iload_n (pc := 39) d_Ex_settle_39 rfl (.tail _ (.tail _ (.head _))) ?_
    refine v_iconst (pc := 40) d_Ex_settle_40 (by decide) ?_
    refine v_iast (pc := 41) d_Ex_settle_41 cC_29.1 cC_29.2 (aC_29 _) h.1 ?_
    replace h := h.2
    exact v_vret (pc := 42) d_Ex_settle_42 rfl h
  · replace h := h.2 c
    refine v_aload_n (pc := 11) d_Ex_settle_11 rfl (.tail _ (.head _)) ?_
    refine v_getr (C := "") (pc := 12) (r := 28) d_Ex_settle_12 fl_Ex_15 cC_26.1 cC_26.2 (Or.inr ⟨_, rfl⟩) rC_26_6 ?_
    refine v_iload_n (pc := 15) d_Ex_settle_15 rfl (.tail _ (.tail _ (.head _))) ?_
    refine v_iald (pc := 16) (x := (w 28 p1.toNat)) d_Ex_settle_16 cC_28.1 cC_28.2 rfl h.1 ?_
    replace h := h.2
    refine v_iload_n (pc := 17) d_Ex_settle_17 rfl (.tail _ (.tail _ (.tail _ (.head _)))) ?_
    refine v_icmplt (pc := 18) (tgt := 35) d_Ex_settle_18 (by decide) (fun c => ?_) (fun c => ?_)
    · replace h := h.1 c
      refine v_aload_n (pc := 35) d_Ex_settle_35 rfl (.tail _ (.head _)) ?_
      refine v_getr (C := "") (pc := 36) (r := 29) d_Ex_settle_36 fl_Ex_18 cC_26.1 cC_26.2 (Or.inr ⟨_, rfl⟩) rC_26_7 ?_
      refine v_iload_n (pc := 39) d_Ex_settle_39 rfl (.tail _ (.tail _ (.head _))) ?_
      refine v_iconst (pc := 40) d_Ex_settle_40 (by decide) ?_
      refine v_iast (pc := 41) d_Ex_settle_41 cC_29.1 cC_29.2 (aC_29 _) h.1 ?_
      replace h := h.2
      exact v_vret (pc := 42) d_Ex_settle_42 rfl h
    · replace h := h.2 c
      refine v_aload_n (pc := 21) d_Ex_settle_21 rfl (.tail _ (.head _)) ?_
      refine v_getr (C := "") (pc := 22) (r := 30) d_Ex_settle_22 fl_Ex_21 cC_26.1 cC_26.2 (Or.inr ⟨_, rfl⟩) rC_26_8 ?_
      refine v_iload_n (pc := 25) d_Ex_settle_25 rfl (.tail _ (.tail _ (.head _))) ?_
      refine v_iconst (pc := 26) d_Ex_settle_26 (by decide) ?_
      refine v_zast (pc := 27) d_Ex_settle_27 cC_30.1 cC_30.2 (aC_30 _) (by decide) h.1 ?_
      replace h := h.2
      refine v_aload_n (pc := 28) d_Ex_settle_28 rfl (.tail _ (.head _)) ?_
      refine v_getr (C := "") (pc := 29) (r := 30) d_Ex_settle_29 fl_Ex_21 cC_26.1 cC_26.2 (Or.inr ⟨_, rfl⟩) rC_26_8 ?_
      refine v_iload_n (pc := 32) d_Ex_settle_32 rfl (.head _) ?_
      refine v_iconst (pc := 33) d_Ex_settle_33 (by decide) ?_
      refine v_zast (pc := 34) d_Ex_settle_34 cC_30.1 cC_30.2 (aC_30 _) (by decide) h.1 ?_
      replace h := h.2
      refine v_aload_n (pc := 35) d_Ex_settle_35 rfl (.tail _ (.head _)) ?_
      refine v_getr (C := "") (pc := 36) (r := 29) d_Ex_settle_36 fl_Ex_18 cC_26.1 cC_26.2 (Or.inr ⟨_, rfl⟩) rC_26_7 ?_
      refine v_iload_n (pc := 39) d_Ex_settle_39 rfl (.tail _ (.tail _ (.head _))) ?_
      refine v_iconst (pc := 40) d_Ex_settle_40 (by decide) ?_
      refine v_iast (pc := 41) d_Ex_settle_41 cC_29.1 cC_29.2 (aC_29 _) h.1 ?_
      replace h := h.2
      exact v_vret (pc := 42) d_Ex_settle_42 rfl h
theorem d_Ex_lineOf_0 : decode jEx_lineOf.cc 0 = .ok (.iload_n 0, 1) := by decide +kernel
theorem d_Ex_lineOf_1 : decode jEx_lineOf.cc 1 = .ok (.tableswitch 81 13 26 #[75, 75, 77, 77, 79, 79, 79, 81, 75, 75, 75, 75, 73, 71], 71) := by decide +kernel
theorem d_Ex_lineOf_72 : decode jEx_lineOf.cc 72 = .ok (.iconst 1, 1) := by decide +kernel
theorem d_Ex_lineOf_73 : decode jEx_lineOf.cc 73 = .ok (.ireturn, 1) := by decide +kernel
theorem d_Ex_lineOf_74 : decode jEx_lineOf.cc 74 = .ok (.iconst 2, 1) := by decide +kernel
theorem d_Ex_lineOf_75 : decode jEx_lineOf.cc 75 = .ok (.ireturn, 1) := by decide +kernel
theorem d_Ex_lineOf_76 : decode jEx_lineOf.cc 76 = .ok (.iconst 3, 1) := by decide +kernel
theorem d_Ex_lineOf_77 : decode jEx_lineOf.cc 77 = .ok (.ireturn, 1) := by decide +kernel
theorem d_Ex_lineOf_78 : decode jEx_lineOf.cc 78 = .ok (.iconst 4, 1) := by decide +kernel
theorem d_Ex_lineOf_79 : decode jEx_lineOf.cc 79 = .ok (.ireturn, 1) := by decide +kernel
theorem d_Ex_lineOf_80 : decode jEx_lineOf.cc 80 = .ok (.iconst 5, 1) := by decide +kernel
theorem d_Ex_lineOf_81 : decode jEx_lineOf.cc 81 = .ok (.ireturn, 1) := by decide +kernel
theorem d_Ex_lineOf_82 : decode jEx_lineOf.cc 82 = .ok (.iconst 0, 1) := by decide +kernel
theorem d_Ex_lineOf_83 : decode jEx_lineOf.cc 83 = .ok (.ireturn, 1) := by decide +kernel
set_option maxHeartbeats 4000000 in
theorem s_Ex_lineOf {g : Mg} {d : Nat} {K : Ou → Wd → Prop} {w : Wd} {p0 : Int} (h : ((p0 < 13 ∨ 26 < p0) → (K (.inl (some (vI 0))) w)) ∧ (p0 = 13 → (K (.inl (some (vI 3))) w)) ∧ (p0 = 14 → (K (.inl (some (vI 3))) w)) ∧ (p0 = 15 → (K (.inl (some (vI 4))) w)) ∧ (p0 = 16 → (K (.inl (some (vI 4))) w)) ∧ (p0 = 17 → (K (.inl (some (vI 5))) w)) ∧ (p0 = 18 → (K (.inl (some (vI 5))) w)) ∧ (p0 = 19 → (K (.inl (some (vI 5))) w)) ∧ (p0 = 20 → (K (.inl (some (vI 0))) w)) ∧ (p0 = 21 → (K (.inl (some (vI 3))) w)) ∧ (p0 = 22 → (K (.inl (some (vI 3))) w)) ∧ (p0 = 23 → (K (.inl (some (vI 3))) w)) ∧ (p0 = 24 → (K (.inl (some (vI 3))) w)) ∧ (p0 = 25 → (K (.inl (some (vI 2))) w)) ∧ (p0 = 26 → (K (.inl (some (vI 1))) w))) : V g LC jEx_lineOf d K 0 [(0, vI p0)] [] w := by
  refine v_iload_n (pc := 0) d_Ex_lineOf_0 rfl (.head _) ?_
  refine v_table (pc := 1) (tgd := 82) (tgs := [76, 76, 78, 78, 80, 80, 80, 82, 76, 76, 76, 76, 74, 72]) d_Ex_lineOf_1 (by decide) (by decide) (by decide) (fun c => ?_) ⟨fun c => ?_, fun c => ?_, fun c => ?_, fun c => ?_, fun c => ?_, fun c => ?_, fun c => ?_, fun c => ?_, fun c => ?_, fun c => ?_, fun c => ?_, fun c => ?_, fun c => ?_, fun c => ?_, trivial⟩
  · replace h := h.1 c
    refine v_iconst (pc := 82) d_Ex_lineOf_82 (by decide) ?_
    exact v_iret (pc := 83) d_Ex_lineOf_83 rfl h
  · replace h := h.2.1 c
    refine v_iconst (pc := 76) d_Ex_lineOf_76 (by decide) ?_
    exact v_iret (pc := 77) d_Ex_lineOf_77 rfl h
  · replace h := h.2.2.1 c
    refine v_iconst (pc := 76) d_Ex_lineOf_76 (by decide) ?_
    exact v_iret (pc := 77) d_Ex_lineOf_77 rfl h
  · replace h := h.2.2.2.1 c
    refine v_iconst (pc := 78) d_Ex_lineOf_78 (by decide) ?_
    exact v_iret (pc := 79) d_Ex_lineOf_79 rfl h
  · replace h := h.2.2.2.2.1 c
    refine v_iconst (pc := 78) d_Ex_lineOf_78 (by decide) ?_
    exact v_iret (pc := 79) d_Ex_lineOf_79 rfl h
  · replace h := h.2.2.2.2.2.1 c
    refine v_iconst (pc := 80) d_Ex_lineOf_80 (by decide) ?_
    exact v_iret (pc := 81) d_Ex_lineOf_81 rfl h
  · replace h := h.2.2.2.2.2.2.1 c
    refine v_iconst (pc := 80) d_Ex_lineOf_80 (by decide) ?_
    exact v_iret (pc := 81) d_Ex_lineOf_81 rfl h
  · replace h := h.2.2.2.2.2.2.2.1 c
    refine v_iconst (pc := 80) d_Ex_lineOf_80 (by decide) ?_
    exact v_iret (pc := 81) d_Ex_lineOf_81 rfl h
  · replace h := h.2.2.2.2.2.2.2.2.1 c
    refine v_iconst (pc := 82) d_Ex_lineOf_82 (by decide) ?_
    exact v_iret (pc := 83) d_Ex_lineOf_83 rfl h
  · replace h := h.2.2.2.2.2.2.2.2.2.1 c
    refine v_iconst (pc := 76) d_Ex_lineOf_76 (by decide) ?_
    exact v_iret (pc := 77) d_Ex_lineOf_77 rfl h
  · replace h := h.2.2.2.2.2.2.2.2.2.2.1 c
    refine v_iconst (pc := 76) d_Ex_lineOf_76 (by decide) ?_
    exact v_iret (pc := 77) d_Ex_lineOf_77 rfl h
  · replace h := h.2.2.2.2.2.2.2.2.2.2.2.1 c
    refine v_iconst (pc := 76) d_Ex_lineOf_76 (by decide) ?_
    exact v_iret (pc := 77) d_Ex_lineOf_77 rfl h
  · replace h := h.2.2.2.2.2.2.2.2.2.2.2.2.1 c
    refine v_iconst (pc := 76) d_Ex_lineOf_76 (by decide) ?_
    exact v_iret (pc := 77) d_Ex_lineOf_77 rfl h
  · replace h := h.2.2.2.2.2.2.2.2.2.2.2.2.2.1 c
    refine v_iconst (pc := 74) d_Ex_lineOf_74 (by decide) ?_
    exact v_iret (pc := 75) d_Ex_lineOf_75 rfl h
  · replace h := h.2.2.2.2.2.2.2.2.2.2.2.2.2.2 c
    refine v_iconst (pc := 72) d_Ex_lineOf_72 (by decide) ?_
    exact v_iret (pc := 73) d_Ex_lineOf_73 rfl h
theorem d_Ex_beginsOne_0 : decode jEx_beginsOne.cc 0 = .ok (.iload_n 0, 1) := by decide +kernel
theorem d_Ex_beginsOne_1 : decode jEx_beginsOne.cc 1 = .ok (.lookupswitch 101 #[(2, 99), (3, 99), (7, 99), (16, 99), (20, 99), (31, 99), (32, 99), (48, 99), (52, 99), (53, 99), (59, 99)], 99) := by decide +kernel
theorem d_Ex_beginsOne_100 : decode jEx_beginsOne.cc 100 = .ok (.iconst 1, 1) := by decide +kernel
theorem d_Ex_beginsOne_101 : decode jEx_beginsOne.cc 101 = .ok (.ireturn, 1) := by decide +kernel
theorem d_Ex_beginsOne_102 : decode jEx_beginsOne.cc 102 = .ok (.iload_n 0, 1) := by decide +kernel
theorem d_Ex_beginsOne_103 : decode jEx_beginsOne.cc 103 = .ok (.invokestatic 139, 3) := by decide +kernel
theorem d_Ex_beginsOne_106 : decode jEx_beginsOne.cc 106 = .ok (.ifCond .lt 7, 3) := by decide +kernel
theorem d_Ex_beginsOne_109 : decode jEx_beginsOne.cc 109 = .ok (.iconst 1, 1) := by decide +kernel
theorem d_Ex_beginsOne_110 : decode jEx_beginsOne.cc 110 = .ok (.goto 4, 3) := by decide +kernel
theorem d_Ex_beginsOne_113 : decode jEx_beginsOne.cc 113 = .ok (.iconst 0, 1) := by decide +kernel
theorem d_Ex_beginsOne_114 : decode jEx_beginsOne.cc 114 = .ok (.ireturn, 1) := by decide +kernel
set_option maxHeartbeats 4000000 in
theorem s_Ex_beginsOne {g : Mg} {d : Nat} {K : Ou → Wd → Prop} {w : Wd} {p0 : Int} (h : (p0 = 2 → (K (.inl (some (vI 1))) w)) ∧ (¬ p0 = 2 → ((p0 = 3 → (K (.inl (some (vI 1))) w)) ∧ (¬ p0 = 3 → ((p0 = 7 → (K (.inl (some (vI 1))) w)) ∧ (¬ p0 = 7 → ((p0 = 16 → (K (.inl (some (vI 1))) w)) ∧ (¬ p0 = 16 → ((p0 = 20 → (K (.inl (some (vI 1))) w)) ∧ (¬ p0 = 20 → ((p0 = 31 → (K (.inl (some (vI 1))) w)) ∧ (¬ p0 = 31 → ((p0 = 32 → (K (.inl (some (vI 1))) w)) ∧ (¬ p0 = 32 → ((p0 = 48 → (K (.inl (some (vI 1))) w)) ∧ (¬ p0 = 48 → ((p0 = 52 → (K (.inl (some (vI 1))) w)) ∧ (¬ p0 = 52 → ((p0 = 53 → (K (.inl (some (vI 1))) w)) ∧ (¬ p0 = 53 → ((p0 = 59 → (K (.inl (some (vI 1))) w)) ∧ (¬ p0 = 59 → (Cal g LC jEx_factDeed d [vI p0] w (fun o w1 => rI o (fun x2 => (x2 < 0 → (K (.inl (some (vI 0))) w1)) ∧ (¬ x2 < 0 → (K (.inl (some (vI 1))) w1))))))))))))))))))))))))))) : V g LC jEx_beginsOne (d + 1) K 0 [(0, vI p0)] [] w := by
  refine v_iload_n (pc := 0) d_Ex_beginsOne_0 rfl (.head _) ?_
  refine v_lookup (pc := 1) (tgd := 102) (prs := [(2, 100), (3, 100), (7, 100), (16, 100), (20, 100), (31, 100), (32, 100), (48, 100), (52, 100), (53, 100), (59, 100)]) d_Ex_beginsOne_1 (by decide) (by decide) (by decide) ⟨fun c => ?_, fun c0 => ⟨fun c => ?_, fun c1 => ⟨fun c => ?_, fun c2 => ⟨fun c => ?_, fun c3 => ⟨fun c => ?_, fun c4 => ⟨fun c => ?_, fun c5 => ⟨fun c => ?_, fun c6 => ⟨fun c => ?_, fun c7 => ⟨fun c => ?_, fun c8 => ⟨fun c => ?_, fun c9 => ⟨fun c => ?_, fun c10 => ?_⟩⟩⟩⟩⟩⟩⟩⟩⟩⟩⟩
  · replace h := h.1 c
    refine v_iconst (pc := 100) d_Ex_beginsOne_100 (by decide) ?_
    exact v_zret (pc := 101) d_Ex_beginsOne_101 rfl (by decide) h
  · replace h := (h.2 c0).1 c
    refine v_iconst (pc := 100) d_Ex_beginsOne_100 (by decide) ?_
    exact v_zret (pc := 101) d_Ex_beginsOne_101 rfl (by decide) h
  · replace h := ((h.2 c0).2 c1).1 c
    refine v_iconst (pc := 100) d_Ex_beginsOne_100 (by decide) ?_
    exact v_zret (pc := 101) d_Ex_beginsOne_101 rfl (by decide) h
  · replace h := (((h.2 c0).2 c1).2 c2).1 c
    refine v_iconst (pc := 100) d_Ex_beginsOne_100 (by decide) ?_
    exact v_zret (pc := 101) d_Ex_beginsOne_101 rfl (by decide) h
  · replace h := ((((h.2 c0).2 c1).2 c2).2 c3).1 c
    refine v_iconst (pc := 100) d_Ex_beginsOne_100 (by decide) ?_
    exact v_zret (pc := 101) d_Ex_beginsOne_101 rfl (by decide) h
  · replace h := (((((h.2 c0).2 c1).2 c2).2 c3).2 c4).1 c
    refine v_iconst (pc := 100) d_Ex_beginsOne_100 (by decide) ?_
    exact v_zret (pc := 101) d_Ex_beginsOne_101 rfl (by decide) h
  · replace h := ((((((h.2 c0).2 c1).2 c2).2 c3).2 c4).2 c5).1 c
    refine v_iconst (pc := 100) d_Ex_beginsOne_100 (by decide) ?_
    exact v_zret (pc := 101) d_Ex_beginsOne_101 rfl (by decide) h
  · replace h := (((((((h.2 c0).2 c1).2 c2).2 c3).2 c4).2 c5).2 c6).1 c
    refine v_iconst (pc := 100) d_Ex_beginsOne_100 (by decide) ?_
    exact v_zret (pc := 101) d_Ex_beginsOne_101 rfl (by decide) h
  · replace h := ((((((((h.2 c0).2 c1).2 c2).2 c3).2 c4).2 c5).2 c6).2 c7).1 c
    refine v_iconst (pc := 100) d_Ex_beginsOne_100 (by decide) ?_
    exact v_zret (pc := 101) d_Ex_beginsOne_101 rfl (by decide) h
  · replace h := (((((((((h.2 c0).2 c1).2 c2).2 c3).2 c4).2 c5).2 c6).2 c7).2 c8).1 c
    refine v_iconst (pc := 100) d_Ex_beginsOne_100 (by decide) ?_
    exact v_zret (pc := 101) d_Ex_beginsOne_101 rfl (by decide) h
  · replace h := ((((((((((h.2 c0).2 c1).2 c2).2 c3).2 c4).2 c5).2 c6).2 c7).2 c8).2 c9).1 c
    refine v_iconst (pc := 100) d_Ex_beginsOne_100 (by decide) ?_
    exact v_zret (pc := 101) d_Ex_beginsOne_101 rfl (by decide) h
  · replace h := (((((((((((h.2 c0).2 c1).2 c2).2 c3).2 c4).2 c5).2 c6).2 c7).2 c8).2 c9).2 c10)
    refine v_iload_n (pc := 102) d_Ex_beginsOne_102 rfl (.head _) ?_
    refine v_callS (pc := 103) (J' := jEx_factDeed) (d' := d) (As := [vI p0]) d_Ex_beginsOne_103 ml_Ex_139 rfl (Nat.le_of_ble_eq_true rfl) (Nat.le_refl _) rfl (Cal.weak h (fun o w1 h => ?_))
    rcases rI_of h with ⟨x2, rfl, h⟩
    refine v_iflt (pc := 106) (tgt := 113) d_Ex_beginsOne_106 (by decide) (fun c => ?_) (fun c => ?_)
    · replace h := h.1 c
      refine v_iconst (pc := 113) d_Ex_beginsOne_113 (by decide) ?_
      exact v_zret (pc := 114) d_Ex_beginsOne_114 rfl (by decide) h
    · replace h := h.2 c
      refine v_iconst (pc := 109) d_Ex_beginsOne_109 (by decide) ?_
      refine v_goto (pc := 110) (tgt := 114) d_Ex_beginsOne_110 (by decide) ?_
      exact v_zret (pc := 114) d_Ex_beginsOne_114 rfl (by decide) h
theorem d_Ex_factDeed_0 : decode jEx_factDeed.cc 0 = .ok (.iload_n 0, 1) := by decide +kernel
theorem d_Ex_factDeed_1 : decode jEx_factDeed.cc 1 = .ok (.tableswitch 50 54 58 #[35, 38, 41, 44, 47], 35) := by decide +kernel
theorem d_Ex_factDeed_36 : decode jEx_factDeed.cc 36 = .ok (.bipush 7, 2) := by decide +kernel
theorem d_Ex_factDeed_38 : decode jEx_factDeed.cc 38 = .ok (.ireturn, 1) := by decide +kernel
theorem d_Ex_factDeed_39 : decode jEx_factDeed.cc 39 = .ok (.bipush 8, 2) := by decide +kernel
theorem d_Ex_factDeed_41 : decode jEx_factDeed.cc 41 = .ok (.ireturn, 1) := by decide +kernel
theorem d_Ex_factDeed_42 : decode jEx_factDeed.cc 42 = .ok (.bipush 9, 2) := by decide +kernel
theorem d_Ex_factDeed_44 : decode jEx_factDeed.cc 44 = .ok (.ireturn, 1) := by decide +kernel
theorem d_Ex_factDeed_45 : decode jEx_factDeed.cc 45 = .ok (.bipush 10, 2) := by decide +kernel
theorem d_Ex_factDeed_47 : decode jEx_factDeed.cc 47 = .ok (.ireturn, 1) := by decide +kernel
theorem d_Ex_factDeed_48 : decode jEx_factDeed.cc 48 = .ok (.bipush 11, 2) := by decide +kernel
theorem d_Ex_factDeed_50 : decode jEx_factDeed.cc 50 = .ok (.ireturn, 1) := by decide +kernel
theorem d_Ex_factDeed_51 : decode jEx_factDeed.cc 51 = .ok (.iconst (-1), 1) := by decide +kernel
theorem d_Ex_factDeed_52 : decode jEx_factDeed.cc 52 = .ok (.ireturn, 1) := by decide +kernel
set_option maxHeartbeats 4000000 in
theorem s_Ex_factDeed {g : Mg} {d : Nat} {K : Ou → Wd → Prop} {w : Wd} {p0 : Int} (h : ((p0 < 54 ∨ 58 < p0) → (K (.inl (some (vI (-1)))) w)) ∧ (p0 = 54 → (K (.inl (some (vI 7))) w)) ∧ (p0 = 55 → (K (.inl (some (vI 8))) w)) ∧ (p0 = 56 → (K (.inl (some (vI 9))) w)) ∧ (p0 = 57 → (K (.inl (some (vI 10))) w)) ∧ (p0 = 58 → (K (.inl (some (vI 11))) w))) : V g LC jEx_factDeed d K 0 [(0, vI p0)] [] w := by
  refine v_iload_n (pc := 0) d_Ex_factDeed_0 rfl (.head _) ?_
  refine v_table (pc := 1) (tgd := 51) (tgs := [36, 39, 42, 45, 48]) d_Ex_factDeed_1 (by decide) (by decide) (by decide) (fun c => ?_) ⟨fun c => ?_, fun c => ?_, fun c => ?_, fun c => ?_, fun c => ?_, trivial⟩
  · replace h := h.1 c
    refine v_iconst (pc := 51) d_Ex_factDeed_51 (by decide) ?_
    exact v_iret (pc := 52) d_Ex_factDeed_52 rfl h
  · replace h := h.2.1 c
    refine v_bipush (pc := 36) d_Ex_factDeed_36 (by decide) rfl ?_
    exact v_iret (pc := 38) d_Ex_factDeed_38 rfl h
  · replace h := h.2.2.1 c
    refine v_bipush (pc := 39) d_Ex_factDeed_39 (by decide) rfl ?_
    exact v_iret (pc := 41) d_Ex_factDeed_41 rfl h
  · replace h := h.2.2.2.1 c
    refine v_bipush (pc := 42) d_Ex_factDeed_42 (by decide) rfl ?_
    exact v_iret (pc := 44) d_Ex_factDeed_44 rfl h
  · replace h := h.2.2.2.2.1 c
    refine v_bipush (pc := 45) d_Ex_factDeed_45 (by decide) rfl ?_
    exact v_iret (pc := 47) d_Ex_factDeed_47 rfl h
  · replace h := h.2.2.2.2.2 c
    refine v_bipush (pc := 48) d_Ex_factDeed_48 (by decide) rfl ?_
    exact v_iret (pc := 50) d_Ex_factDeed_50 rfl h
theorem d_Ex_readingDeed_0 : decode jEx_readingDeed.cc 0 = .ok (.iload_n 0, 1) := by decide +kernel
theorem d_Ex_readingDeed_1 : decode jEx_readingDeed.cc 1 = .ok (.tableswitch 39 1 4 #[31, 35, 37, 33], 31) := by decide +kernel
theorem d_Ex_readingDeed_32 : decode jEx_readingDeed.cc 32 = .ok (.iconst 1, 1) := by decide +kernel
theorem d_Ex_readingDeed_33 : decode jEx_readingDeed.cc 33 = .ok (.ireturn, 1) := by decide +kernel
theorem d_Ex_readingDeed_34 : decode jEx_readingDeed.cc 34 = .ok (.iconst 2, 1) := by decide +kernel
theorem d_Ex_readingDeed_35 : decode jEx_readingDeed.cc 35 = .ok (.ireturn, 1) := by decide +kernel
theorem d_Ex_readingDeed_36 : decode jEx_readingDeed.cc 36 = .ok (.iconst 3, 1) := by decide +kernel
theorem d_Ex_readingDeed_37 : decode jEx_readingDeed.cc 37 = .ok (.ireturn, 1) := by decide +kernel
theorem d_Ex_readingDeed_38 : decode jEx_readingDeed.cc 38 = .ok (.iconst 4, 1) := by decide +kernel
theorem d_Ex_readingDeed_39 : decode jEx_readingDeed.cc 39 = .ok (.ireturn, 1) := by decide +kernel
theorem d_Ex_readingDeed_40 : decode jEx_readingDeed.cc 40 = .ok (.iconst (-1), 1) := by decide +kernel
theorem d_Ex_readingDeed_41 : decode jEx_readingDeed.cc 41 = .ok (.ireturn, 1) := by decide +kernel
set_option maxHeartbeats 4000000 in
theorem s_Ex_readingDeed {g : Mg} {d : Nat} {K : Ou → Wd → Prop} {w : Wd} {p0 : Int} (h : ((p0 < 1 ∨ 4 < p0) → (K (.inl (some (vI (-1)))) w)) ∧ (p0 = 1 → (K (.inl (some (vI 1))) w)) ∧ (p0 = 2 → (K (.inl (some (vI 3))) w)) ∧ (p0 = 3 → (K (.inl (some (vI 4))) w)) ∧ (p0 = 4 → (K (.inl (some (vI 2))) w))) : V g LC jEx_readingDeed d K 0 [(0, vI p0)] [] w := by
  refine v_iload_n (pc := 0) d_Ex_readingDeed_0 rfl (.head _) ?_
  refine v_table (pc := 1) (tgd := 40) (tgs := [32, 36, 38, 34]) d_Ex_readingDeed_1 (by decide) (by decide) (by decide) (fun c => ?_) ⟨fun c => ?_, fun c => ?_, fun c => ?_, fun c => ?_, trivial⟩
  · replace h := h.1 c
    refine v_iconst (pc := 40) d_Ex_readingDeed_40 (by decide) ?_
    exact v_iret (pc := 41) d_Ex_readingDeed_41 rfl h
  · replace h := h.2.1 c
    refine v_iconst (pc := 32) d_Ex_readingDeed_32 (by decide) ?_
    exact v_iret (pc := 33) d_Ex_readingDeed_33 rfl h
  · replace h := h.2.2.1 c
    refine v_iconst (pc := 36) d_Ex_readingDeed_36 (by decide) ?_
    exact v_iret (pc := 37) d_Ex_readingDeed_37 rfl h
  · replace h := h.2.2.2.1 c
    refine v_iconst (pc := 38) d_Ex_readingDeed_38 (by decide) ?_
    exact v_iret (pc := 39) d_Ex_readingDeed_39 rfl h
  · replace h := h.2.2.2.2 c
    refine v_iconst (pc := 34) d_Ex_readingDeed_34 (by decide) ?_
    exact v_iret (pc := 35) d_Ex_readingDeed_35 rfl h
