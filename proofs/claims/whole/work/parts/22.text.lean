theorem d_Te_load_0 : decode jTe_load.cc 0 = .ok (.aload_n 0, 1) := by decide +kernel
theorem d_Te_load_1 : decode jTe_load.cc 1 = .ok (.iconst 0, 1) := by decide +kernel
theorem d_Te_load_2 : decode jTe_load.cc 2 = .ok (.iload_n 2, 1) := by decide +kernel
theorem d_Te_load_3 : decode jTe_load.cc 3 = .ok (.aload_n 1, 1) := by decide +kernel
theorem d_Te_load_4 : decode jTe_load.cc 4 = .ok (.arraylength, 1) := by decide +kernel
theorem d_Te_load_5 : decode jTe_load.cc 5 = .ok (.aload_n 0, 1) := by decide +kernel
theorem d_Te_load_6 : decode jTe_load.cc 6 = .ok (.getfield 9, 3) := by decide +kernel
theorem d_Te_load_9 : decode jTe_load.cc 9 = .ok (.arraylength, 1) := by decide +kernel
theorem d_Te_load_10 : decode jTe_load.cc 10 = .ok (.invokestatic 26, 3) := by decide +kernel
theorem d_Te_load_13 : decode jTe_load.cc 13 = .ok (.invokestatic 26, 3) := by decide +kernel
theorem d_Te_load_16 : decode jTe_load.cc 16 = .ok (.invokestatic 32, 3) := by decide +kernel
theorem d_Te_load_19 : decode jTe_load.cc 19 = .ok (.putfield 35, 3) := by decide +kernel
theorem d_Te_load_22 : decode jTe_load.cc 22 = .ok (.aload_n 1, 1) := by decide +kernel
theorem d_Te_load_23 : decode jTe_load.cc 23 = .ok (.iconst 0, 1) := by decide +kernel
theorem d_Te_load_24 : decode jTe_load.cc 24 = .ok (.aload_n 0, 1) := by decide +kernel
theorem d_Te_load_25 : decode jTe_load.cc 25 = .ok (.getfield 9, 3) := by decide +kernel
theorem d_Te_load_28 : decode jTe_load.cc 28 = .ok (.iconst 0, 1) := by decide +kernel
theorem d_Te_load_29 : decode jTe_load.cc 29 = .ok (.aload_n 0, 1) := by decide +kernel
theorem d_Te_load_30 : decode jTe_load.cc 30 = .ok (.getfield 35, 3) := by decide +kernel
theorem d_Te_load_33 : decode jTe_load.cc 33 = .ok (.invokestatic 39, 3) := by decide +kernel
theorem d_Te_load_36 : decode jTe_load.cc 36 = .ok (.aload_n 0, 1) := by decide +kernel
theorem d_Te_load_37 : decode jTe_load.cc 37 = .ok (.invokevirtual 45, 3) := by decide +kernel
theorem d_Te_load_40 : decode jTe_load.cc 40 = .ok (.return_, 1) := by decide +kernel
set_option maxHeartbeats 4000000 in
theorem s_Te_load {g : Mg} {d : Nat} {K : Ou → Wd → Prop} {w : Wd} {p2 : Int} (hd2 : 2 ≤ (d + 1)) (h : Cal g LC jMt_min d [vI 4000, vI 4000] w (fun o w1 => rI o (fun x2 => Cal g LC jMt_min d [vI p2, vI x2] w1 (fun o w3 => rI o (fun x4 => Cal g LC jMt_max d [vI 0, vI x4] w3 (fun o w5 => rI o (fun x6 => ((0 : Int) ≤ 0 ∧ (0 : Int) ≤ 0 ∧ (0 : Int) ≤ x6 ∧ (0 : Int) + x6 ≤ 4000 ∧ (0 : Int) + x6 ≤ 4000) ∧ (Cal g LC jTe_cut d [vA 2] (cpw (up w5 2 1 x6) 1 (Int.toNat 0) 3 (Int.toNat 0) (Int.toNat x6)) (fun o w7 => rV o (K (.inl none) w7)))))))))) : V g LC jTe_load (d + 1) K 0 [(0, vA 2), (1, vA 1), (2, vI p2)] [] w := by
  refine v_aload_n (pc := 0) d_Te_load_0 rfl (.head _) ?_
  refine v_iconst (pc := 1) d_Te_load_1 (by decide) ?_
  refine v_iload_n (pc := 2) d_Te_load_2 rfl (.tail _ (.tail _ (.head _))) ?_
  refine v_aload_n (pc := 3) d_Te_load_3 rfl (.tail _ (.head _)) ?_
  refine v_alen (pc := 4) (n := 4000) d_Te_load_4 cC_1.1 cC_1.2 (by decide) (by decide) ?_
  refine v_aload_n (pc := 5) d_Te_load_5 rfl (.head _) ?_
  refine v_getr (C := "") (pc := 6) (r := 3) d_Te_load_6 fl_Te_9 cC_2.1 cC_2.2 (Or.inr ⟨_, rfl⟩) rC_2_0 ?_
  refine v_alen (pc := 9) (n := 4000) d_Te_load_9 cC_3.1 cC_3.2 (by decide) (by decide) ?_
  refine v_callS (pc := 10) (J' := jMt_min) (d' := d) (As := [vI 4000, vI 4000]) d_Te_load_10 ml_Te_26 rfl (Nat.le_of_ble_eq_true rfl) (Nat.le_refl _) rfl (Cal.weak h (fun o w1 h => ?_))
  rcases rI_of h with ⟨x2, rfl, h⟩
  refine v_callS (pc := 13) (J' := jMt_min) (d' := d) (As := [vI p2, vI x2]) d_Te_load_13 ml_Te_26 rfl (Nat.le_of_ble_eq_true rfl) (Nat.le_refl _) rfl (Cal.weak h (fun o w3 h => ?_))
  rcases rI_of h with ⟨x4, rfl, h⟩
  refine v_callS (pc := 16) (J' := jMt_max) (d' := d) (As := [vI 0, vI x4]) d_Te_load_16 ml_Te_32 rfl (Nat.le_of_ble_eq_true rfl) (Nat.le_refl _) rfl (Cal.weak h (fun o w5 h => ?_))
  rcases rI_of h with ⟨x6, rfl, h⟩
  refine v_puti (pc := 19) d_Te_load_19 fp_Te_35 cC_2.1 cC_2.2 (by decide) rfl ?_
  refine v_aload_n (pc := 22) d_Te_load_22 rfl (.tail _ (.head _)) ?_
  refine v_iconst (pc := 23) d_Te_load_23 (by decide) ?_
  refine v_aload_n (pc := 24) d_Te_load_24 rfl (.head _) ?_
  refine v_getr (C := "") (pc := 25) (r := 3) d_Te_load_25 fl_Te_9 cC_2.1 cC_2.2 (Or.inr ⟨_, rfl⟩) rC_2_0 ?_
  refine v_iconst (pc := 28) d_Te_load_28 (by decide) ?_
  refine v_aload_n (pc := 29) d_Te_load_29 rfl (.head _) ?_
  refine v_geti (pc := 30) (x := x6) d_Te_load_30 fl_Te_35 cC_2.1 cC_2.2 (Or.inl rfl) rfl ?_
  refine v_copy (pc := 33) d_Te_load_33 cp_Te_39 cC_1.1 cC_1.2 cC_3.1 cC_3.2 (by decide) (Nat.le_of_ble_eq_true rfl) (fun k => (aC_3 k)) hd2 h.1 ?_
  replace h := h.2
  refine v_aload_n (pc := 36) d_Te_load_36 rfl (.head _) ?_
  refine v_callV (pc := 37) (J' := jTe_cut) (d' := d) (o := 2) (ci := 9) (N := 7) (T := cT9) (As := []) d_Te_load_37 ml_Te_45 cC_2.1 cC_2.2 (by decide) rfl rfl (Nat.le_of_ble_eq_true rfl) (Nat.le_refl _) rfl (Cal.weak h (fun o w7 h => ?_))
  rcases rV_of h with ⟨rfl, h⟩
  exact v_vret (pc := 40) d_Te_load_40 rfl h
theorem d_Te_lineOf_0 : decode jTe_lineOf.cc 0 = .ok (.iconst 1, 1) := by decide +kernel
theorem d_Te_lineOf_1 : decode jTe_lineOf.cc 1 = .ok (.istore_n 2, 1) := by decide +kernel
theorem d_Te_lineOf_2 : decode jTe_lineOf.cc 2 = .ok (.iconst 0, 1) := by decide +kernel
theorem d_Te_lineOf_3 : decode jTe_lineOf.cc 3 = .ok (.istore_n 3, 1) := by decide +kernel
theorem d_Te_lineOf_4 : decode jTe_lineOf.cc 4 = .ok (.iload_n 3, 1) := by decide +kernel
theorem d_Te_lineOf_5 : decode jTe_lineOf.cc 5 = .ok (.iload_n 1, 1) := by decide +kernel
theorem d_Te_lineOf_6 : decode jTe_lineOf.cc 6 = .ok (.if_icmp .ge 31, 3) := by decide +kernel
theorem d_Te_lineOf_9 : decode jTe_lineOf.cc 9 = .ok (.iload_n 3, 1) := by decide +kernel
theorem d_Te_lineOf_10 : decode jTe_lineOf.cc 10 = .ok (.aload_n 0, 1) := by decide +kernel
theorem d_Te_lineOf_11 : decode jTe_lineOf.cc 11 = .ok (.getfield 35, 3) := by decide +kernel
theorem d_Te_lineOf_14 : decode jTe_lineOf.cc 14 = .ok (.if_icmp .ge 23, 3) := by decide +kernel
theorem d_Te_lineOf_17 : decode jTe_lineOf.cc 17 = .ok (.aload_n 0, 1) := by decide +kernel
theorem d_Te_lineOf_18 : decode jTe_lineOf.cc 18 = .ok (.getfield 9, 3) := by decide +kernel
theorem d_Te_lineOf_21 : decode jTe_lineOf.cc 21 = .ok (.iload_n 3, 1) := by decide +kernel
theorem d_Te_lineOf_22 : decode jTe_lineOf.cc 22 = .ok (.baload, 1) := by decide +kernel
theorem d_Te_lineOf_23 : decode jTe_lineOf.cc 23 = .ok (.bipush 10, 2) := by decide +kernel
theorem d_Te_lineOf_25 : decode jTe_lineOf.cc 25 = .ok (.if_icmp .ne 6, 3) := by decide +kernel
theorem d_Te_lineOf_28 : decode jTe_lineOf.cc 28 = .ok (.iinc 2 1, 3) := by decide +kernel
theorem d_Te_lineOf_31 : decode jTe_lineOf.cc 31 = .ok (.iinc 3 1, 3) := by decide +kernel
theorem d_Te_lineOf_34 : decode jTe_lineOf.cc 34 = .ok (.goto (-30), 3) := by decide +kernel
theorem d_Te_lineOf_37 : decode jTe_lineOf.cc 37 = .ok (.iload_n 2, 1) := by decide +kernel
theorem d_Te_lineOf_38 : decode jTe_lineOf.cc 38 = .ok (.ireturn, 1) := by decide +kernel
set_option maxHeartbeats 4000000 in
theorem s_Te_lineOf {g : Mg} {d : Nat} {K : Ou → Wd → Prop} {w : Wd} {p1 : Int} (h : V g LC jTe_lineOf d K 4 [(0, vA 2), (1, vI p1), (2, vI 1), (3, vI 0)] [] w) : V g LC jTe_lineOf d K 0 [(0, vA 2), (1, vI p1)] [] w := by
  refine v_iconst (pc := 0) d_Te_lineOf_0 (by decide) ?_
  refine v_istore_n (pc := 1) (ls' := [(2, vI 1), (0, vA 2), (1, vI p1)]) d_Te_lineOf_1 rfl (by decide) rfl ?_
  refine v_iconst (pc := 2) d_Te_lineOf_2 (by decide) ?_
  refine v_istore_n (pc := 3) (ls' := [(3, vI 0), (2, vI 1), (0, vA 2), (1, vI p1)]) d_Te_lineOf_3 rfl (by decide) rfl ?_
  exact v_sub (List.forall_mem_cons.mpr ⟨(.tail _ (.tail _ (.head _))), (List.forall_mem_cons.mpr ⟨(.tail _ (.tail _ (.tail _ (.head _)))), (List.forall_mem_cons.mpr ⟨(.tail _ (.head _)), (List.forall_mem_cons.mpr ⟨(.head _), (fun _ z => absurd z List.not_mem_nil)⟩)⟩)⟩)⟩) h
set_option maxHeartbeats 4000000 in
theorem s_Te_lineOf_4 {g : Mg} {d : Nat} {K : Ou → Wd → Prop} {w : Wd} {x1_ : Int} {x2_ : Int} {x3_ : Int} (h : (x1_ ≤ x3_ → (K (.inl (some (vI x2_))) w)) ∧ (¬ x1_ ≤ x3_ → (((w 2 1) ≤ x3_ → (K (.inl (some (vI x2_))) w)) ∧ (¬ (w 2 1) ≤ x3_ → ((0 ≤ x3_ ∧ x3_ < 4000) ∧ ((¬ (w 3 x3_.toNat) = 10 → (V g LC jTe_lineOf d K 4 [(0, vA 2), (1, vI x1_), (2, vI x2_), (3, vI (wr (x3_ + 1)))] [] w)) ∧ ((w 3 x3_.toNat) = 10 → (V g LC jTe_lineOf d K 4 [(0, vA 2), (1, vI x1_), (2, vI (wr (x2_ + 1))), (3, vI (wr (x3_ + 1)))] [] w)))))))) : V g LC jTe_lineOf d K 4 [(0, vA 2), (1, vI x1_), (2, vI x2_), (3, vI x3_)] [] w := by
  refine v_iload_n (pc := 4) d_Te_lineOf_4 rfl (.tail _ (.tail _ (.tail _ (.head _)))) ?_
  refine v_iload_n (pc := 5) d_Te_lineOf_5 rfl (.tail _ (.head _)) ?_
  refine v_icmpge (pc := 6) (tgt := 37) d_Te_lineOf_6 (by decide) (fun c => ?_) (fun c => ?_)
  · replace h := h.1 c
    refine v_iload_n (pc := 37) d_Te_lineOf_37 rfl (.tail _ (.tail _ (.head _))) ?_
    exact v_iret (pc := 38) d_Te_lineOf_38 rfl h
  · replace h := h.2 c
    refine v_iload_n (pc := 9) d_Te_lineOf_9 rfl (.tail _ (.tail _ (.tail _ (.head _)))) ?_
    refine v_aload_n (pc := 10) d_Te_lineOf_10 rfl (.head _) ?_
    refine v_geti (pc := 11) (x := (w 2 1)) d_Te_lineOf_11 fl_Te_35 cC_2.1 cC_2.2 (Or.inl rfl) rfl ?_
    refine v_icmpge (pc := 14) (tgt := 37) d_Te_lineOf_14 (by decide) (fun c => ?_) (fun c => ?_)
    · replace h := h.1 c
      refine v_iload_n (pc := 37) d_Te_lineOf_37 rfl (.tail _ (.tail _ (.head _))) ?_
      exact v_iret (pc := 38) d_Te_lineOf_38 rfl h
    · replace h := h.2 c
      refine v_aload_n (pc := 17) d_Te_lineOf_17 rfl (.head _) ?_
      refine v_getr (C := "") (pc := 18) (r := 3) d_Te_lineOf_18 fl_Te_9 cC_2.1 cC_2.2 (Or.inr ⟨_, rfl⟩) rC_2_0 ?_
      refine v_iload_n (pc := 21) d_Te_lineOf_21 rfl (.tail _ (.tail _ (.tail _ (.head _)))) ?_
      refine v_bald (pc := 22) (x := (w 3 x3_.toNat)) d_Te_lineOf_22 cC_3.1 cC_3.2 rfl h.1 ?_
      replace h := h.2
      refine v_bipush (pc := 23) d_Te_lineOf_23 (by decide) rfl ?_
      refine v_icmpne (pc := 25) (tgt := 31) d_Te_lineOf_25 (by decide) (fun c => ?_) (fun c => ?_)
      · replace h := h.1 c
        refine v_iinc (pc := 31) (ls' := [(3, vI (wr (x3_ + 1))), (0, vA 2), (1, vI x1_), (2, vI x2_)]) d_Te_lineOf_31 (.tail _ (.tail _ (.tail _ (.head _)))) (by decide) rfl ?_
        refine v_goto (pc := 34) (tgt := 4) d_Te_lineOf_34 (by decide) ?_
        exact v_sub (List.forall_mem_cons.mpr ⟨(.tail _ (.head _)), (List.forall_mem_cons.mpr ⟨(.tail _ (.tail _ (.head _))), (List.forall_mem_cons.mpr ⟨(.tail _ (.tail _ (.tail _ (.head _)))), (List.forall_mem_cons.mpr ⟨(.head _), (fun _ z => absurd z List.not_mem_nil)⟩)⟩)⟩)⟩) h
      · replace h := h.2 c
        refine v_iinc (pc := 28) (ls' := [(2, vI (wr (x2_ + 1))), (0, vA 2), (1, vI x1_), (3, vI x3_)]) d_Te_lineOf_28 (.tail _ (.tail _ (.head _))) (by decide) rfl ?_
        refine v_iinc (pc := 31) (ls' := [(3, vI (wr (x3_ + 1))), (2, vI (wr (x2_ + 1))), (0, vA 2), (1, vI x1_)]) d_Te_lineOf_31 (.tail _ (.tail _ (.tail _ (.head _)))) (by decide) rfl ?_
        refine v_goto (pc := 34) (tgt := 4) d_Te_lineOf_34 (by decide) ?_
        exact v_sub (List.forall_mem_cons.mpr ⟨(.tail _ (.tail _ (.head _))), (List.forall_mem_cons.mpr ⟨(.tail _ (.tail _ (.tail _ (.head _)))), (List.forall_mem_cons.mpr ⟨(.tail _ (.head _)), (List.forall_mem_cons.mpr ⟨(.head _), (fun _ z => absurd z List.not_mem_nil)⟩)⟩)⟩)⟩) h
theorem d_Te_reads_0 : decode jTe_reads.cc 0 = .ok (.aload_n 0, 1) := by decide +kernel
theorem d_Te_reads_1 : decode jTe_reads.cc 1 = .ok (.getfield 17, 3) := by decide +kernel
theorem d_Te_reads_4 : decode jTe_reads.cc 4 = .ok (.iload_n 1, 1) := by decide +kernel
theorem d_Te_reads_5 : decode jTe_reads.cc 5 = .ok (.iaload, 1) := by decide +kernel
theorem d_Te_reads_6 : decode jTe_reads.cc 6 = .ok (.istore 5, 2) := by decide +kernel
theorem d_Te_reads_8 : decode jTe_reads.cc 8 = .ok (.aload_n 0, 1) := by decide +kernel
theorem d_Te_reads_9 : decode jTe_reads.cc 9 = .ok (.getfield 20, 3) := by decide +kernel
theorem d_Te_reads_12 : decode jTe_reads.cc 12 = .ok (.iload_n 1, 1) := by decide +kernel
theorem d_Te_reads_13 : decode jTe_reads.cc 13 = .ok (.iaload, 1) := by decide +kernel
theorem d_Te_reads_14 : decode jTe_reads.cc 14 = .ok (.iload 5, 2) := by decide +kernel
theorem d_Te_reads_16 : decode jTe_reads.cc 16 = .ok (.isub, 1) := by decide +kernel
theorem d_Te_reads_17 : decode jTe_reads.cc 17 = .ok (.iload 4, 2) := by decide +kernel
theorem d_Te_reads_19 : decode jTe_reads.cc 19 = .ok (.iload_n 3, 1) := by decide +kernel
theorem d_Te_reads_20 : decode jTe_reads.cc 20 = .ok (.isub, 1) := by decide +kernel
theorem d_Te_reads_21 : decode jTe_reads.cc 21 = .ok (.if_icmp .eq 5, 3) := by decide +kernel
theorem d_Te_reads_24 : decode jTe_reads.cc 24 = .ok (.iconst 0, 1) := by decide +kernel
theorem d_Te_reads_25 : decode jTe_reads.cc 25 = .ok (.ireturn, 1) := by decide +kernel
theorem d_Te_reads_26 : decode jTe_reads.cc 26 = .ok (.iload_n 3, 1) := by decide +kernel
theorem d_Te_reads_27 : decode jTe_reads.cc 27 = .ok (.istore 6, 2) := by decide +kernel
theorem d_Te_reads_29 : decode jTe_reads.cc 29 = .ok (.iload 6, 2) := by decide +kernel
theorem d_Te_reads_31 : decode jTe_reads.cc 31 = .ok (.iload 4, 2) := by decide +kernel
theorem d_Te_reads_33 : decode jTe_reads.cc 33 = .ok (.if_icmp .ge 30, 3) := by decide +kernel
theorem d_Te_reads_36 : decode jTe_reads.cc 36 = .ok (.aload_n 0, 1) := by decide +kernel
theorem d_Te_reads_37 : decode jTe_reads.cc 37 = .ok (.getfield 9, 3) := by decide +kernel
theorem d_Te_reads_40 : decode jTe_reads.cc 40 = .ok (.iload 5, 2) := by decide +kernel
theorem d_Te_reads_42 : decode jTe_reads.cc 42 = .ok (.iload 6, 2) := by decide +kernel
theorem d_Te_reads_44 : decode jTe_reads.cc 44 = .ok (.iadd, 1) := by decide +kernel
theorem d_Te_reads_45 : decode jTe_reads.cc 45 = .ok (.iload_n 3, 1) := by decide +kernel
theorem d_Te_reads_46 : decode jTe_reads.cc 46 = .ok (.isub, 1) := by decide +kernel
theorem d_Te_reads_47 : decode jTe_reads.cc 47 = .ok (.baload, 1) := by decide +kernel
theorem d_Te_reads_48 : decode jTe_reads.cc 48 = .ok (.aload_n 2, 1) := by decide +kernel
theorem d_Te_reads_49 : decode jTe_reads.cc 49 = .ok (.iload 6, 2) := by decide +kernel
theorem d_Te_reads_51 : decode jTe_reads.cc 51 = .ok (.baload, 1) := by decide +kernel
theorem d_Te_reads_52 : decode jTe_reads.cc 52 = .ok (.if_icmp .eq 5, 3) := by decide +kernel
theorem d_Te_reads_55 : decode jTe_reads.cc 55 = .ok (.iconst 0, 1) := by decide +kernel
theorem d_Te_reads_56 : decode jTe_reads.cc 56 = .ok (.ireturn, 1) := by decide +kernel
theorem d_Te_reads_57 : decode jTe_reads.cc 57 = .ok (.iinc 6 1, 3) := by decide +kernel
theorem d_Te_reads_60 : decode jTe_reads.cc 60 = .ok (.goto (-31), 3) := by decide +kernel
theorem d_Te_reads_63 : decode jTe_reads.cc 63 = .ok (.iconst 1, 1) := by decide +kernel
theorem d_Te_reads_64 : decode jTe_reads.cc 64 = .ok (.ireturn, 1) := by decide +kernel
set_option maxHeartbeats 4000000 in
theorem s_Te_reads {g : Mg} {d : Nat} {K : Ou → Wd → Prop} {w : Wd} {p1 : Int} {p3 : Int} {p4 : Int} (h : (0 ≤ p1 ∧ p1 < 1002) ∧ ((0 ≤ p1 ∧ p1 < 1002) ∧ (((wr ((w 6 p1.toNat) - (w 5 p1.toNat))) = (wr (p4 - p3)) → (V g LC jTe_reads d K 29 [(0, vA 2), (2, vA 3), (3, vI p3), (4, vI p4), (5, vI (w 5 p1.toNat)), (6, vI p3)] [] w)) ∧ (¬ (wr ((w 6 p1.toNat) - (w 5 p1.toNat))) = (wr (p4 - p3)) → (K (.inl (some (vI 0))) w))))) : V g LC jTe_reads d K 0 [(0, vA 2), (1, vI p1), (2, vA 3), (3, vI p3), (4, vI p4)] [] w := by
  refine v_aload_n (pc := 0) d_Te_reads_0 rfl (.head _) ?_
  refine v_getr (C := "") (pc := 1) (r := 5) d_Te_reads_1 fl_Te_17 cC_2.1 cC_2.2 (Or.inr ⟨_, rfl⟩) rC_2_3 ?_
  refine v_iload_n (pc := 4) d_Te_reads_4 rfl (.tail _ (.head _)) ?_
  refine v_iald (pc := 5) (x := (w 5 p1.toNat)) d_Te_reads_5 cC_5.1 cC_5.2 rfl h.1 ?_
  replace h := h.2
  refine v_istore (pc := 6) (ls' := [(5, vI (w 5 p1.toNat)), (0, vA 2), (1, vI p1), (2, vA 3), (3, vI p3), (4, vI p4)]) d_Te_reads_6 (by decide) rfl ?_
  refine v_aload_n (pc := 8) d_Te_reads_8 rfl (.tail _ (.head _)) ?_
  refine v_getr (C := "") (pc := 9) (r := 6) d_Te_reads_9 fl_Te_20 cC_2.1 cC_2.2 (Or.inr ⟨_, rfl⟩) rC_2_4 ?_
  refine v_iload_n (pc := 12) d_Te_reads_12 rfl (.tail _ (.tail _ (.head _))) ?_
  refine v_iald (pc := 13) (x := (w 6 p1.toNat)) d_Te_reads_13 cC_6.1 cC_6.2 rfl h.1 ?_
  replace h := h.2
  refine v_iload (pc := 14) d_Te_reads_14 (.head _) ?_
  refine v_isub (pc := 16) d_Te_reads_16 ?_
  refine v_iload (pc := 17) d_Te_reads_17 (.tail _ (.tail _ (.tail _ (.tail _ (.tail _ (.head _)))))) ?_
  refine v_iload_n (pc := 19) d_Te_reads_19 rfl (.tail _ (.tail _ (.tail _ (.tail _ (.head _))))) ?_
  refine v_isub (pc := 20) d_Te_reads_20 ?_
  refine v_icmpeq (pc := 21) (tgt := 26) d_Te_reads_21 (by decide) (fun c => ?_) (fun c => ?_)
  · replace h := h.1 c
    refine v_iload_n (pc := 26) d_Te_reads_26 rfl (.tail _ (.tail _ (.tail _ (.tail _ (.head _))))) ?_
    refine v_istore (pc := 27) (ls' := [(6, vI p3), (5, vI (w 5 p1.toNat)), (0, vA 2), (1, vI p1), (2, vA 3), (3, vI p3), (4, vI p4)]) d_Te_reads_27 (by decide) rfl ?_
    exact v_sub (List.forall_mem_cons.mpr ⟨(.tail _ (.tail _ (.head _))), (List.forall_mem_cons.mpr ⟨(.tail _ (.tail _ (.tail _ (.tail _ (.head _))))), (List.forall_mem_cons.mpr ⟨(.tail _ (.tail _ (.tail _ (.tail _ (.tail _ (.head _)))))), (List.forall_mem_cons.mpr ⟨(.tail _ (.tail _ (.tail _ (.tail _ (.tail _ (.tail _ (.head _))))))), (List.forall_mem_cons.mpr ⟨(.tail _ (.head _)), (List.forall_mem_cons.mpr ⟨(.head _), (fun _ z => absurd z List.not_mem_nil)⟩)⟩)⟩)⟩)⟩)⟩) h
  · replace h := h.2 c
    refine v_iconst (pc := 24) d_Te_reads_24 (by decide) ?_
    exact v_zret (pc := 25) d_Te_reads_25 rfl (by decide) h
set_option maxHeartbeats 4000000 in
theorem s_Te_reads_29 {g : Mg} {d : Nat} {K : Ou → Wd → Prop} {w : Wd} {x3_ : Int} {x4_ : Int} {x5_ : Int} {x6_ : Int} (h : (x4_ ≤ x6_ → (K (.inl (some (vI 1))) w)) ∧ (¬ x4_ ≤ x6_ → ((0 ≤ (wr ((wr (x5_ + x6_)) - x3_)) ∧ (wr ((wr (x5_ + x6_)) - x3_)) < 4000) ∧ ((0 ≤ x6_ ∧ x6_ < 4000) ∧ (((w 3 ((wr ((wr (x5_ + x6_)) - x3_)).toNat)) = (w 3 x6_.toNat) → (V g LC jTe_reads d K 29 [(0, vA 2), (2, vA 3), (3, vI x3_), (4, vI x4_), (5, vI x5_), (6, vI (wr (x6_ + 1)))] [] w)) ∧ (¬ (w 3 ((wr ((wr (x5_ + x6_)) - x3_)).toNat)) = (w 3 x6_.toNat) → (K (.inl (some (vI 0))) w))))))) : V g LC jTe_reads d K 29 [(0, vA 2), (2, vA 3), (3, vI x3_), (4, vI x4_), (5, vI x5_), (6, vI x6_)] [] w := by
  refine v_iload (pc := 29) d_Te_reads_29 (.tail _ (.tail _ (.tail _ (.tail _ (.tail _ (.head _)))))) ?_
  refine v_iload (pc := 31) d_Te_reads_31 (.tail _ (.tail _ (.tail _ (.head _)))) ?_
  refine v_icmpge (pc := 33) (tgt := 63) d_Te_reads_33 (by decide) (fun c => ?_) (fun c => ?_)
  · replace h := h.1 c
    refine v_iconst (pc := 63) d_Te_reads_63 (by decide) ?_
    exact v_zret (pc := 64) d_Te_reads_64 rfl (by decide) h
  · replace h := h.2 c
    refine v_aload_n (pc := 36) d_Te_reads_36 rfl (.head _) ?_
    refine v_getr (C := "") (pc := 37) (r := 3) d_Te_reads_37 fl_Te_9 cC_2.1 cC_2.2 (Or.inr ⟨_, rfl⟩) rC_2_0 ?_
    refine v_iload (pc := 40) d_Te_reads_40 (.tail _ (.tail _ (.tail _ (.tail _ (.head _))))) ?_
    refine v_iload (pc := 42) d_Te_reads_42 (.tail _ (.tail _ (.tail _ (.tail _ (.tail _ (.head _)))))) ?_
    refine v_iadd (pc := 44) d_Te_reads_44 ?_
    refine v_iload_n (pc := 45) d_Te_reads_45 rfl (.tail _ (.tail _ (.head _))) ?_
    refine v_isub (pc := 46) d_Te_reads_46 ?_
    refine v_bald (pc := 47) (x := (w 3 ((wr ((wr (x5_ + x6_)) - x3_)).toNat))) d_Te_reads_47 cC_3.1 cC_3.2 rfl h.1 ?_
    replace h := h.2
    refine v_aload_n (pc := 48) d_Te_reads_48 rfl (.tail _ (.head _)) ?_
    refine v_iload (pc := 49) d_Te_reads_49 (.tail _ (.tail _ (.tail _ (.tail _ (.tail _ (.head _)))))) ?_
    refine v_bald (pc := 51) (x := (w 3 x6_.toNat)) d_Te_reads_51 cC_3.1 cC_3.2 rfl h.1 ?_
    replace h := h.2
    refine v_icmpeq (pc := 52) (tgt := 57) d_Te_reads_52 (by decide) (fun c => ?_) (fun c => ?_)
    · replace h := h.1 c
      refine v_iinc (pc := 57) (ls' := [(6, vI (wr (x6_ + 1))), (0, vA 2), (2, vA 3), (3, vI x3_), (4, vI x4_), (5, vI x5_)]) d_Te_reads_57 (.tail _ (.tail _ (.tail _ (.tail _ (.tail _ (.head _)))))) (by decide) rfl ?_
      refine v_goto (pc := 60) (tgt := 29) d_Te_reads_60 (by decide) ?_
      exact v_sub (List.forall_mem_cons.mpr ⟨(.tail _ (.head _)), (List.forall_mem_cons.mpr ⟨(.tail _ (.tail _ (.head _))), (List.forall_mem_cons.mpr ⟨(.tail _ (.tail _ (.tail _ (.head _)))), (List.forall_mem_cons.mpr ⟨(.tail _ (.tail _ (.tail _ (.tail _ (.head _))))), (List.forall_mem_cons.mpr ⟨(.tail _ (.tail _ (.tail _ (.tail _ (.tail _ (.head _)))))), (List.forall_mem_cons.mpr ⟨(.head _), (fun _ z => absurd z List.not_mem_nil)⟩)⟩)⟩)⟩)⟩)⟩) h
    · replace h := h.2 c
      refine v_iconst (pc := 55) d_Te_reads_55 (by decide) ?_
      exact v_zret (pc := 56) d_Te_reads_56 rfl (by decide) h
set_option maxHeartbeats 4000000 in
theorem s_Te_reads_t {g : Mg} {d : Nat} {K : Ou → Wd → Prop} {w : Wd} {p1 : Int} {p3 : Int} {p4 : Int} (h : (0 ≤ p1 ∧ p1 < 1002) ∧ ((0 ≤ p1 ∧ p1 < 1002) ∧ (((wr ((w 6 p1.toNat) - (w 5 p1.toNat))) = (wr (p4 - p3)) → (V g LC jTe_reads d K 29 [(0, vA 2), (2, vA 1), (3, vI p3), (4, vI p4), (5, vI (w 5 p1.toNat)), (6, vI p3)] [] w)) ∧ (¬ (wr ((w 6 p1.toNat) - (w 5 p1.toNat))) = (wr (p4 - p3)) → (K (.inl (some (vI 0))) w))))) : V g LC jTe_reads d K 0 [(0, vA 2), (1, vI p1), (2, vA 1), (3, vI p3), (4, vI p4)] [] w := by
  refine v_aload_n (pc := 0) d_Te_reads_0 rfl (.head _) ?_
  refine v_getr (C := "") (pc := 1) (r := 5) d_Te_reads_1 fl_Te_17 cC_2.1 cC_2.2 (Or.inr ⟨_, rfl⟩) rC_2_3 ?_
  refine v_iload_n (pc := 4) d_Te_reads_4 rfl (.tail _ (.head _)) ?_
  refine v_iald (pc := 5) (x := (w 5 p1.toNat)) d_Te_reads_5 cC_5.1 cC_5.2 rfl h.1 ?_
  replace h := h.2
  refine v_istore (pc := 6) (ls' := [(5, vI (w 5 p1.toNat)), (0, vA 2), (1, vI p1), (2, vA 1), (3, vI p3), (4, vI p4)]) d_Te_reads_6 (by decide) rfl ?_
  refine v_aload_n (pc := 8) d_Te_reads_8 rfl (.tail _ (.head _)) ?_
  refine v_getr (C := "") (pc := 9) (r := 6) d_Te_reads_9 fl_Te_20 cC_2.1 cC_2.2 (Or.inr ⟨_, rfl⟩) rC_2_4 ?_
  refine v_iload_n (pc := 12) d_Te_reads_12 rfl (.tail _ (.tail _ (.head _))) ?_
  refine v_iald (pc := 13) (x := (w 6 p1.toNat)) d_Te_reads_13 cC_6.1 cC_6.2 rfl h.1 ?_
  replace h := h.2
  refine v_iload (pc := 14) d_Te_reads_14 (.head _) ?_
  refine v_isub (pc := 16) d_Te_reads_16 ?_
  refine v_iload (pc := 17) d_Te_reads_17 (.tail _ (.tail _ (.tail _ (.tail _ (.tail _ (.head _)))))) ?_
  refine v_iload_n (pc := 19) d_Te_reads_19 rfl (.tail _ (.tail _ (.tail _ (.tail _ (.head _))))) ?_
  refine v_isub (pc := 20) d_Te_reads_20 ?_
  refine v_icmpeq (pc := 21) (tgt := 26) d_Te_reads_21 (by decide) (fun c => ?_) (fun c => ?_)
  · replace h := h.1 c
    refine v_iload_n (pc := 26) d_Te_reads_26 rfl (.tail _ (.tail _ (.tail _ (.tail _ (.head _))))) ?_
    refine v_istore (pc := 27) (ls' := [(6, vI p3), (5, vI (w 5 p1.toNat)), (0, vA 2), (1, vI p1), (2, vA 1), (3, vI p3), (4, vI p4)]) d_Te_reads_27 (by decide) rfl ?_
    exact v_sub (List.forall_mem_cons.mpr ⟨(.tail _ (.tail _ (.head _))), (List.forall_mem_cons.mpr ⟨(.tail _ (.tail _ (.tail _ (.tail _ (.head _))))), (List.forall_mem_cons.mpr ⟨(.tail _ (.tail _ (.tail _ (.tail _ (.tail _ (.head _)))))), (List.forall_mem_cons.mpr ⟨(.tail _ (.tail _ (.tail _ (.tail _ (.tail _ (.tail _ (.head _))))))), (List.forall_mem_cons.mpr ⟨(.tail _ (.head _)), (List.forall_mem_cons.mpr ⟨(.head _), (fun _ z => absurd z List.not_mem_nil)⟩)⟩)⟩)⟩)⟩)⟩) h
  · replace h := h.2 c
    refine v_iconst (pc := 24) d_Te_reads_24 (by decide) ?_
    exact v_zret (pc := 25) d_Te_reads_25 rfl (by decide) h
set_option maxHeartbeats 4000000 in
theorem s_Te_reads_t_29 {g : Mg} {d : Nat} {K : Ou → Wd → Prop} {w : Wd} {x3_ : Int} {x4_ : Int} {x5_ : Int} {x6_ : Int} (h : (x4_ ≤ x6_ → (K (.inl (some (vI 1))) w)) ∧ (¬ x4_ ≤ x6_ → ((0 ≤ (wr ((wr (x5_ + x6_)) - x3_)) ∧ (wr ((wr (x5_ + x6_)) - x3_)) < 4000) ∧ ((0 ≤ x6_ ∧ x6_ < 4000) ∧ (((w 3 ((wr ((wr (x5_ + x6_)) - x3_)).toNat)) = (w 1 x6_.toNat) → (V g LC jTe_reads d K 29 [(0, vA 2), (2, vA 1), (3, vI x3_), (4, vI x4_), (5, vI x5_), (6, vI (wr (x6_ + 1)))] [] w)) ∧ (¬ (w 3 ((wr ((wr (x5_ + x6_)) - x3_)).toNat)) = (w 1 x6_.toNat) → (K (.inl (some (vI 0))) w))))))) : V g LC jTe_reads d K 29 [(0, vA 2), (2, vA 1), (3, vI x3_), (4, vI x4_), (5, vI x5_), (6, vI x6_)] [] w := by
  refine v_iload (pc := 29) d_Te_reads_29 (.tail _ (.tail _ (.tail _ (.tail _ (.tail _ (.head _)))))) ?_
  refine v_iload (pc := 31) d_Te_reads_31 (.tail _ (.tail _ (.tail _ (.head _)))) ?_
  refine v_icmpge (pc := 33) (tgt := 63) d_Te_reads_33 (by decide) (fun c => ?_) (fun c => ?_)
  · replace h := h.1 c
    refine v_iconst (pc := 63) d_Te_reads_63 (by decide) ?_
    exact v_zret (pc := 64) d_Te_reads_64 rfl (by decide) h
  · replace h := h.2 c
    refine v_aload_n (pc := 36) d_Te_reads_36 rfl (.head _) ?_
    refine v_getr (C := "") (pc := 37) (r := 3) d_Te_reads_37 fl_Te_9 cC_2.1 cC_2.2 (Or.inr ⟨_, rfl⟩) rC_2_0 ?_
    refine v_iload (pc := 40) d_Te_reads_40 (.tail _ (.tail _ (.tail _ (.tail _ (.head _))))) ?_
    refine v_iload (pc := 42) d_Te_reads_42 (.tail _ (.tail _ (.tail _ (.tail _ (.tail _ (.head _)))))) ?_
    refine v_iadd (pc := 44) d_Te_reads_44 ?_
    refine v_iload_n (pc := 45) d_Te_reads_45 rfl (.tail _ (.tail _ (.head _))) ?_
    refine v_isub (pc := 46) d_Te_reads_46 ?_
    refine v_bald (pc := 47) (x := (w 3 ((wr ((wr (x5_ + x6_)) - x3_)).toNat))) d_Te_reads_47 cC_3.1 cC_3.2 rfl h.1 ?_
    replace h := h.2
    refine v_aload_n (pc := 48) d_Te_reads_48 rfl (.tail _ (.head _)) ?_
    refine v_iload (pc := 49) d_Te_reads_49 (.tail _ (.tail _ (.tail _ (.tail _ (.tail _ (.head _)))))) ?_
    refine v_bald (pc := 51) (x := (w 1 x6_.toNat)) d_Te_reads_51 cC_1.1 cC_1.2 rfl h.1 ?_
    replace h := h.2
    refine v_icmpeq (pc := 52) (tgt := 57) d_Te_reads_52 (by decide) (fun c => ?_) (fun c => ?_)
    · replace h := h.1 c
      refine v_iinc (pc := 57) (ls' := [(6, vI (wr (x6_ + 1))), (0, vA 2), (2, vA 1), (3, vI x3_), (4, vI x4_), (5, vI x5_)]) d_Te_reads_57 (.tail _ (.tail _ (.tail _ (.tail _ (.tail _ (.head _)))))) (by decide) rfl ?_
      refine v_goto (pc := 60) (tgt := 29) d_Te_reads_60 (by decide) ?_
      exact v_sub (List.forall_mem_cons.mpr ⟨(.tail _ (.head _)), (List.forall_mem_cons.mpr ⟨(.tail _ (.tail _ (.head _))), (List.forall_mem_cons.mpr ⟨(.tail _ (.tail _ (.tail _ (.head _)))), (List.forall_mem_cons.mpr ⟨(.tail _ (.tail _ (.tail _ (.tail _ (.head _))))), (List.forall_mem_cons.mpr ⟨(.tail _ (.tail _ (.tail _ (.tail _ (.tail _ (.head _)))))), (List.forall_mem_cons.mpr ⟨(.head _), (fun _ z => absurd z List.not_mem_nil)⟩)⟩)⟩)⟩)⟩)⟩) h
    · replace h := h.2 c
      refine v_iconst (pc := 55) d_Te_reads_55 (by decide) ?_
      exact v_zret (pc := 56) d_Te_reads_56 rfl (by decide) h
theorem d_Te_cut_0 : decode jTe_cut.cc 0 = .ok (.aload_n 0, 1) := by decide +kernel
theorem d_Te_cut_1 : decode jTe_cut.cc 1 = .ok (.iconst 0, 1) := by decide +kernel
theorem d_Te_cut_2 : decode jTe_cut.cc 2 = .ok (.putfield 48, 3) := by decide +kernel
theorem d_Te_cut_5 : decode jTe_cut.cc 5 = .ok (.aload_n 0, 1) := by decide +kernel
theorem d_Te_cut_6 : decode jTe_cut.cc 6 = .ok (.iconst 0, 1) := by decide +kernel
theorem d_Te_cut_7 : decode jTe_cut.cc 7 = .ok (.invokevirtual 51, 3) := by decide +kernel
theorem d_Te_cut_10 : decode jTe_cut.cc 10 = .ok (.istore_n 1, 1) := by decide +kernel
theorem d_Te_cut_11 : decode jTe_cut.cc 11 = .ok (.iconst 0, 1) := by decide +kernel
theorem d_Te_cut_12 : decode jTe_cut.cc 12 = .ok (.istore_n 2, 1) := by decide +kernel
theorem d_Te_cut_13 : decode jTe_cut.cc 13 = .ok (.iload_n 2, 1) := by decide +kernel
theorem d_Te_cut_14 : decode jTe_cut.cc 14 = .ok (.sipush 1000, 3) := by decide +kernel
theorem d_Te_cut_17 : decode jTe_cut.cc 17 = .ok (.if_icmp .gt 27, 3) := by decide +kernel
theorem d_Te_cut_20 : decode jTe_cut.cc 20 = .ok (.iload_n 1, 1) := by decide +kernel
theorem d_Te_cut_21 : decode jTe_cut.cc 21 = .ok (.aload_n 0, 1) := by decide +kernel
theorem d_Te_cut_22 : decode jTe_cut.cc 22 = .ok (.getfield 35, 3) := by decide +kernel
theorem d_Te_cut_25 : decode jTe_cut.cc 25 = .ok (.if_icmp .ge 19, 3) := by decide +kernel
theorem d_Te_cut_28 : decode jTe_cut.cc 28 = .ok (.aload_n 0, 1) := by decide +kernel
theorem d_Te_cut_29 : decode jTe_cut.cc 29 = .ok (.aload_n 0, 1) := by decide +kernel
theorem d_Te_cut_30 : decode jTe_cut.cc 30 = .ok (.iload_n 1, 1) := by decide +kernel
theorem d_Te_cut_31 : decode jTe_cut.cc 31 = .ok (.invokevirtual 55, 3) := by decide +kernel
theorem d_Te_cut_34 : decode jTe_cut.cc 34 = .ok (.invokevirtual 51, 3) := by decide +kernel
theorem d_Te_cut_37 : decode jTe_cut.cc 37 = .ok (.istore_n 1, 1) := by decide +kernel
theorem d_Te_cut_38 : decode jTe_cut.cc 38 = .ok (.iinc 2 1, 3) := by decide +kernel
theorem d_Te_cut_41 : decode jTe_cut.cc 41 = .ok (.goto (-28), 3) := by decide +kernel
theorem d_Te_cut_44 : decode jTe_cut.cc 44 = .ok (.aload_n 0, 1) := by decide +kernel
theorem d_Te_cut_45 : decode jTe_cut.cc 45 = .ok (.iconst 0, 1) := by decide +kernel
theorem d_Te_cut_46 : decode jTe_cut.cc 46 = .ok (.aload_n 0, 1) := by decide +kernel
theorem d_Te_cut_47 : decode jTe_cut.cc 47 = .ok (.getfield 35, 3) := by decide +kernel
theorem d_Te_cut_50 : decode jTe_cut.cc 50 = .ok (.aload_n 0, 1) := by decide +kernel
theorem d_Te_cut_51 : decode jTe_cut.cc 51 = .ok (.getfield 35, 3) := by decide +kernel
theorem d_Te_cut_54 : decode jTe_cut.cc 54 = .ok (.iconst 0, 1) := by decide +kernel
theorem d_Te_cut_55 : decode jTe_cut.cc 55 = .ok (.invokevirtual 58, 3) := by decide +kernel
theorem d_Te_cut_58 : decode jTe_cut.cc 58 = .ok (.aload_n 0, 1) := by decide +kernel
theorem d_Te_cut_59 : decode jTe_cut.cc 59 = .ok (.dup, 1) := by decide +kernel
theorem d_Te_cut_60 : decode jTe_cut.cc 60 = .ok (.getfield 48, 3) := by decide +kernel
theorem d_Te_cut_63 : decode jTe_cut.cc 63 = .ok (.iconst 1, 1) := by decide +kernel
theorem d_Te_cut_64 : decode jTe_cut.cc 64 = .ok (.isub, 1) := by decide +kernel
theorem d_Te_cut_65 : decode jTe_cut.cc 65 = .ok (.putfield 48, 3) := by decide +kernel
theorem d_Te_cut_68 : decode jTe_cut.cc 68 = .ok (.return_, 1) := by decide +kernel
set_option maxHeartbeats 4000000 in
theorem s_Te_cut {g : Mg} {d : Nat} {K : Ou → Wd → Prop} {w : Wd} (h : Cal g LC jTe_passBlanks d [vA 2, vI 0] (up w 2 6 0) (fun o w1 => rI o (fun x2 => V g LC jTe_cut (d + 1) K 13 [(0, vA 2), (1, vI x2), (2, vI 0)] [] w1))) : V g LC jTe_cut (d + 1) K 0 [(0, vA 2)] [] w := by
  refine v_aload_n (pc := 0) d_Te_cut_0 rfl (.head _) ?_
  refine v_iconst (pc := 1) d_Te_cut_1 (by decide) ?_
  refine v_puti (pc := 2) d_Te_cut_2 fp_Te_48 cC_2.1 cC_2.2 (by decide) rfl ?_
  refine v_aload_n (pc := 5) d_Te_cut_5 rfl (.head _) ?_
  refine v_iconst (pc := 6) d_Te_cut_6 (by decide) ?_
  refine v_callV (pc := 7) (J' := jTe_passBlanks) (d' := d) (o := 2) (ci := 9) (N := 7) (T := cT9) (As := [vI 0]) d_Te_cut_7 ml_Te_51 cC_2.1 cC_2.2 (by decide) rfl rfl (Nat.le_of_ble_eq_true rfl) (Nat.le_refl _) rfl (Cal.weak h (fun o w1 h => ?_))
  rcases rI_of h with ⟨x2, rfl, h⟩
  refine v_istore_n (pc := 10) (ls' := [(1, vI x2), (0, vA 2)]) d_Te_cut_10 rfl (by decide) rfl ?_
  refine v_iconst (pc := 11) d_Te_cut_11 (by decide) ?_
  refine v_istore_n (pc := 12) (ls' := [(2, vI 0), (1, vI x2), (0, vA 2)]) d_Te_cut_12 rfl (by decide) rfl ?_
  exact v_sub (List.forall_mem_cons.mpr ⟨(.tail _ (.tail _ (.head _))), (List.forall_mem_cons.mpr ⟨(.tail _ (.head _)), (List.forall_mem_cons.mpr ⟨(.head _), (fun _ z => absurd z List.not_mem_nil)⟩)⟩)⟩) h
set_option maxHeartbeats 4000000 in
theorem s_Te_cut_13 {g : Mg} {d : Nat} {K : Ou → Wd → Prop} {w : Wd} {x1_ : Int} {x2_ : Int} (h : (1000 < x2_ → (Cal g LC jTe_put d [vA 2, vI 0, vI (w 2 1), vI (w 2 1), vI 0] w (fun o w1 => rV o (K (.inl none) (up w1 2 6 (wr ((w1 2 6) - 1))))))) ∧ (¬ 1000 < x2_ → (((w 2 1) ≤ x1_ → (Cal g LC jTe_put d [vA 2, vI 0, vI (w 2 1), vI (w 2 1), vI 0] w (fun o w2 => rV o (K (.inl none) (up w2 2 6 (wr ((w2 2 6) - 1))))))) ∧ (¬ (w 2 1) ≤ x1_ → (Cal g LC jTe_cutToken d [vA 2, vI x1_] w (fun o w3 => rI o (fun x4 => Cal g LC jTe_passBlanks d [vA 2, vI x4] w3 (fun o w5 => rI o (fun x6 => V g LC jTe_cut (d + 1) K 13 [(0, vA 2), (1, vI x6), (2, vI (wr (x2_ + 1)))] [] w5))))))))) : V g LC jTe_cut (d + 1) K 13 [(0, vA 2), (1, vI x1_), (2, vI x2_)] [] w := by
  refine v_iload_n (pc := 13) d_Te_cut_13 rfl (.tail _ (.tail _ (.head _))) ?_
  refine v_sipush (pc := 14) d_Te_cut_14 (by decide) rfl ?_
  refine v_icmpgt (pc := 17) (tgt := 44) d_Te_cut_17 (by decide) (fun c => ?_) (fun c => ?_)
  · replace h := h.1 c
    refine v_aload_n (pc := 44) d_Te_cut_44 rfl (.head _) ?_
    refine v_iconst (pc := 45) d_Te_cut_45 (by decide) ?_
    refine v_aload_n (pc := 46) d_Te_cut_46 rfl (.head _) ?_
    refine v_geti (pc := 47) (x := (w 2 1)) d_Te_cut_47 fl_Te_35 cC_2.1 cC_2.2 (Or.inl rfl) rfl ?_
    refine v_aload_n (pc := 50) d_Te_cut_50 rfl (.head _) ?_
    refine v_geti (pc := 51) (x := (w 2 1)) d_Te_cut_51 fl_Te_35 cC_2.1 cC_2.2 (Or.inl rfl) rfl ?_
    refine v_iconst (pc := 54) d_Te_cut_54 (by decide) ?_
    refine v_callV (pc := 55) (J' := jTe_put) (d' := d) (o := 2) (ci := 9) (N := 7) (T := cT9) (As := [vI 0, vI (w 2 1), vI (w 2 1), vI 0]) d_Te_cut_55 ml_Te_58 cC_2.1 cC_2.2 (by decide) rfl rfl (Nat.le_of_ble_eq_true rfl) (Nat.le_refl _) rfl (Cal.weak h (fun o w1 h => ?_))
    rcases rV_of h with ⟨rfl, h⟩
    refine v_aload_n (pc := 58) d_Te_cut_58 rfl (.head _) ?_
    refine v_dup (pc := 59) d_Te_cut_59 rfl ?_
    refine v_geti (pc := 60) (x := (w1 2 6)) d_Te_cut_60 fl_Te_48 cC_2.1 cC_2.2 (Or.inl rfl) rfl ?_
    refine v_iconst (pc := 63) d_Te_cut_63 (by decide) ?_
    refine v_isub (pc := 64) d_Te_cut_64 ?_
    refine v_puti (pc := 65) d_Te_cut_65 fp_Te_48 cC_2.1 cC_2.2 (by decide) rfl ?_
    exact v_vret (pc := 68) d_Te_cut_68 rfl h
  · replace h := h.2 c
    refine v_iload_n (pc := 20) d_Te_cut_20 rfl (.tail _ (.head _)) ?_
    refine v_aload_n (pc := 21) d_Te_cut_21 rfl (.head _) ?_
    refine v_geti (pc := 22) (x := (w 2 1)) d_Te_cut_22 fl_Te_35 cC_2.1 cC_2.2 (Or.inl rfl) rfl ?_
    refine v_icmpge (pc := 25) (tgt := 44) d_Te_cut_25 (by decide) (fun c => ?_) (fun c => ?_)
    · replace h := h.1 c
      refine v_aload_n (pc := 44) d_Te_cut_44 rfl (.head _) ?_
      refine v_iconst (pc := 45) d_Te_cut_45 (by decide) ?_
      refine v_aload_n (pc := 46) d_Te_cut_46 rfl (.head _) ?_
      refine v_geti (pc := 47) (x := (w 2 1)) d_Te_cut_47 fl_Te_35 cC_2.1 cC_2.2 (Or.inl rfl) rfl ?_
      refine v_aload_n (pc := 50) d_Te_cut_50 rfl (.head _) ?_
      refine v_geti (pc := 51) (x := (w 2 1)) d_Te_cut_51 fl_Te_35 cC_2.1 cC_2.2 (Or.inl rfl) rfl ?_
      refine v_iconst (pc := 54) d_Te_cut_54 (by decide) ?_
      refine v_callV (pc := 55) (J' := jTe_put) (d' := d) (o := 2) (ci := 9) (N := 7) (T := cT9) (As := [vI 0, vI (w 2 1), vI (w 2 1), vI 0]) d_Te_cut_55 ml_Te_58 cC_2.1 cC_2.2 (by decide) rfl rfl (Nat.le_of_ble_eq_true rfl) (Nat.le_refl _) rfl (Cal.weak h (fun o w2 h => ?_))
      rcases rV_of h with ⟨rfl, h⟩
      refine v_aload_n (pc := 58) d_Te_cut_58 rfl (.head _) ?_
      refine v_dup (pc := 59) d_Te_cut_59 rfl ?_
      refine v_geti (pc := 60) (x := (w2 2 6)) d_Te_cut_60 fl_Te_48 cC_2.1 cC_2.2 (Or.inl rfl) rfl ?_
      refine v_iconst (pc := 63) d_Te_cut_63 (by decide) ?_
      refine v_isub (pc := 64) d_Te_cut_64 ?_
      refine v_puti (pc := 65) d_Te_cut_65 fp_Te_48 cC_2.1 cC_2.2 (by decide) rfl ?_
      exact v_vret (pc := 68) d_Te_cut_68 rfl h
    · replace h := h.2 c
      refine v_aload_n (pc := 28) d_Te_cut_28 rfl (.head _) ?_
      refine v_aload_n (pc := 29) d_Te_cut_29 rfl (.head _) ?_
      refine v_iload_n (pc := 30) d_Te_cut_30 rfl (.tail _ (.head _)) ?_
      refine v_callV (pc := 31) (J' := jTe_cutToken) (d' := d) (o := 2) (ci := 9) (N := 7) (T := cT9) (As := [vI x1_]) d_Te_cut_31 ml_Te_55 cC_2.1 cC_2.2 (by decide) rfl rfl (Nat.le_of_ble_eq_true rfl) (Nat.le_refl _) rfl (Cal.weak h (fun o w3 h => ?_))
      rcases rI_of h with ⟨x4, rfl, h⟩
      refine v_callV (pc := 34) (J' := jTe_passBlanks) (d' := d) (o := 2) (ci := 9) (N := 7) (T := cT9) (As := [vI x4]) d_Te_cut_34 ml_Te_51 cC_2.1 cC_2.2 (by decide) rfl rfl (Nat.le_of_ble_eq_true rfl) (Nat.le_refl _) rfl (Cal.weak h (fun o w5 h => ?_))
      rcases rI_of h with ⟨x6, rfl, h⟩
      refine v_istore_n (pc := 37) (ls' := [(1, vI x6), (0, vA 2), (2, vI x2_)]) d_Te_cut_37 rfl (by decide) rfl ?_
      refine v_iinc (pc := 38) (ls' := [(2, vI (wr (x2_ + 1))), (1, vI x6), (0, vA 2)]) d_Te_cut_38 (.tail _ (.tail _ (.head _))) (by decide) rfl ?_
      refine v_goto (pc := 41) (tgt := 13) d_Te_cut_41 (by decide) ?_
      exact v_sub (List.forall_mem_cons.mpr ⟨(.tail _ (.tail _ (.head _))), (List.forall_mem_cons.mpr ⟨(.tail _ (.head _)), (List.forall_mem_cons.mpr ⟨(.head _), (fun _ z => absurd z List.not_mem_nil)⟩)⟩)⟩) h
theorem d_Te_passBlanks_0 : decode jTe_passBlanks.cc 0 = .ok (.iconst 0, 1) := by decide +kernel
theorem d_Te_passBlanks_1 : decode jTe_passBlanks.cc 1 = .ok (.istore_n 2, 1) := by decide +kernel
theorem d_Te_passBlanks_2 : decode jTe_passBlanks.cc 2 = .ok (.iload_n 1, 1) := by decide +kernel
theorem d_Te_passBlanks_3 : decode jTe_passBlanks.cc 3 = .ok (.istore_n 3, 1) := by decide +kernel
theorem d_Te_passBlanks_4 : decode jTe_passBlanks.cc 4 = .ok (.iload_n 3, 1) := by decide +kernel
theorem d_Te_passBlanks_5 : decode jTe_passBlanks.cc 5 = .ok (.aload_n 0, 1) := by decide +kernel
theorem d_Te_passBlanks_6 : decode jTe_passBlanks.cc 6 = .ok (.getfield 35, 3) := by decide +kernel
theorem d_Te_passBlanks_9 : decode jTe_passBlanks.cc 9 = .ok (.if_icmp .ge 54, 3) := by decide +kernel
theorem d_Te_passBlanks_12 : decode jTe_passBlanks.cc 12 = .ok (.aload_n 0, 1) := by decide +kernel
theorem d_Te_passBlanks_13 : decode jTe_passBlanks.cc 13 = .ok (.getfield 9, 3) := by decide +kernel
theorem d_Te_passBlanks_16 : decode jTe_passBlanks.cc 16 = .ok (.iload_n 3, 1) := by decide +kernel
theorem d_Te_passBlanks_17 : decode jTe_passBlanks.cc 17 = .ok (.baload, 1) := by decide +kernel
theorem d_Te_passBlanks_18 : decode jTe_passBlanks.cc 18 = .ok (.istore 4, 2) := by decide +kernel
theorem d_Te_passBlanks_20 : decode jTe_passBlanks.cc 20 = .ok (.iload 4, 2) := by decide +kernel
theorem d_Te_passBlanks_22 : decode jTe_passBlanks.cc 22 = .ok (.bipush 10, 2) := by decide +kernel
theorem d_Te_passBlanks_24 : decode jTe_passBlanks.cc 24 = .ok (.if_icmp .ne 8, 3) := by decide +kernel
theorem d_Te_passBlanks_27 : decode jTe_passBlanks.cc 27 = .ok (.iconst 0, 1) := by decide +kernel
theorem d_Te_passBlanks_28 : decode jTe_passBlanks.cc 28 = .ok (.istore_n 2, 1) := by decide +kernel
theorem d_Te_passBlanks_29 : decode jTe_passBlanks.cc 29 = .ok (.goto 28, 3) := by decide +kernel
theorem d_Te_passBlanks_32 : decode jTe_passBlanks.cc 32 = .ok (.iload 4, 2) := by decide +kernel
theorem d_Te_passBlanks_34 : decode jTe_passBlanks.cc 34 = .ok (.bipush 35, 2) := by decide +kernel
theorem d_Te_passBlanks_36 : decode jTe_passBlanks.cc 36 = .ok (.if_icmp .ne 8, 3) := by decide +kernel
theorem d_Te_passBlanks_39 : decode jTe_passBlanks.cc 39 = .ok (.iconst 1, 1) := by decide +kernel
theorem d_Te_passBlanks_40 : decode jTe_passBlanks.cc 40 = .ok (.istore_n 2, 1) := by decide +kernel
theorem d_Te_passBlanks_41 : decode jTe_passBlanks.cc 41 = .ok (.goto 16, 3) := by decide +kernel
theorem d_Te_passBlanks_44 : decode jTe_passBlanks.cc 44 = .ok (.iload_n 2, 1) := by decide +kernel
theorem d_Te_passBlanks_45 : decode jTe_passBlanks.cc 45 = .ok (.ifCond .ne 12, 3) := by decide +kernel
theorem d_Te_passBlanks_48 : decode jTe_passBlanks.cc 48 = .ok (.iload 4, 2) := by decide +kernel
theorem d_Te_passBlanks_50 : decode jTe_passBlanks.cc 50 = .ok (.bipush 32, 2) := by decide +kernel
theorem d_Te_passBlanks_52 : decode jTe_passBlanks.cc 52 = .ok (.if_icmp .eq 5, 3) := by decide +kernel
theorem d_Te_passBlanks_55 : decode jTe_passBlanks.cc 55 = .ok (.iload_n 3, 1) := by decide +kernel
theorem d_Te_passBlanks_56 : decode jTe_passBlanks.cc 56 = .ok (.ireturn, 1) := by decide +kernel
theorem d_Te_passBlanks_57 : decode jTe_passBlanks.cc 57 = .ok (.iinc 3 1, 3) := by decide +kernel
theorem d_Te_passBlanks_60 : decode jTe_passBlanks.cc 60 = .ok (.goto (-56), 3) := by decide +kernel
theorem d_Te_passBlanks_63 : decode jTe_passBlanks.cc 63 = .ok (.aload_n 0, 1) := by decide +kernel
theorem d_Te_passBlanks_64 : decode jTe_passBlanks.cc 64 = .ok (.getfield 35, 3) := by decide +kernel
theorem d_Te_passBlanks_67 : decode jTe_passBlanks.cc 67 = .ok (.ireturn, 1) := by decide +kernel
set_option maxHeartbeats 4000000 in
theorem s_Te_passBlanks {g : Mg} {d : Nat} {K : Ou → Wd → Prop} {w : Wd} {p1 : Int} (h : V g LC jTe_passBlanks d K 4 [(0, vA 2), (2, vI 0), (3, vI p1)] [] w) : V g LC jTe_passBlanks d K 0 [(0, vA 2), (1, vI p1)] [] w := by
  refine v_iconst (pc := 0) d_Te_passBlanks_0 (by decide) ?_
  refine v_istore_n (pc := 1) (ls' := [(2, vI 0), (0, vA 2), (1, vI p1)]) d_Te_passBlanks_1 rfl (by decide) rfl ?_
  refine v_iload_n (pc := 2) d_Te_passBlanks_2 rfl (.tail _ (.tail _ (.head _))) ?_
  refine v_istore_n (pc := 3) (ls' := [(3, vI p1), (2, vI 0), (0, vA 2), (1, vI p1)]) d_Te_passBlanks_3 rfl (by decide) rfl ?_
  exact v_sub (List.forall_mem_cons.mpr ⟨(.tail _ (.tail _ (.head _))), (List.forall_mem_cons.mpr ⟨(.tail _ (.head _)), (List.forall_mem_cons.mpr ⟨(.head _), (fun _ z => absurd z List.not_mem_nil)⟩)⟩)⟩) h
set_option maxHeartbeats 4000000 in
theorem s_Te_passBlanks_4 {g : Mg} {d : Nat} {K : Ou → Wd → Prop} {w : Wd} {x2_ : Int} {x3_ : Int} (h : ((w 2 1) ≤ x3_ → (K (.inl (some (vI (w 2 1)))) w)) ∧ (¬ (w 2 1) ≤ x3_ → ((0 ≤ x3_ ∧ x3_ < 4000) ∧ ((¬ (w 3 x3_.toNat) = 10 → ((¬ (w 3 x3_.toNat) = 35 → ((¬ x2_ = 0 → (V g LC jTe_passBlanks d K 4 [(0, vA 2), (2, vI x2_), (3, vI (wr (x3_ + 1)))] [] w)) ∧ (x2_ = 0 → (((w 3 x3_.toNat) = 32 → (V g LC jTe_passBlanks d K 4 [(0, vA 2), (2, vI x2_), (3, vI (wr (x3_ + 1)))] [] w)) ∧ (¬ (w 3 x3_.toNat) = 32 → (K (.inl (some (vI x3_))) w)))))) ∧ ((w 3 x3_.toNat) = 35 → (V g LC jTe_passBlanks d K 4 [(0, vA 2), (2, vI 1), (3, vI (wr (x3_ + 1)))] [] w)))) ∧ ((w 3 x3_.toNat) = 10 → (V g LC jTe_passBlanks d K 4 [(0, vA 2), (2, vI 0), (3, vI (wr (x3_ + 1)))] [] w)))))) : V g LC jTe_passBlanks d K 4 [(0, vA 2), (2, vI x2_), (3, vI x3_)] [] w := by
  refine v_iload_n (pc := 4) d_Te_passBlanks_4 rfl (.tail _ (.tail _ (.head _))) ?_
  refine v_aload_n (pc := 5) d_Te_passBlanks_5 rfl (.head _) ?_
  refine v_geti (pc := 6) (x := (w 2 1)) d_Te_passBlanks_6 fl_Te_35 cC_2.1 cC_2.2 (Or.inl rfl) rfl ?_
  refine v_icmpge (pc := 9) (tgt := 63) d_Te_passBlanks_9 (by decide) (fun c => ?_) (fun c => ?_)
  · replace h := h.1 c
    refine v_aload_n (pc := 63) d_Te_passBlanks_63 rfl (.head _) ?_
    refine v_geti (pc := 64) (x := (w 2 1)) d_Te_passBlanks_64 fl_Te_35 cC_2.1 cC_2.2 (Or.inl rfl) rfl ?_
    exact v_iret (pc := 67) d_Te_passBlanks_67 rfl h
  · replace h := h.2 c
    refine v_aload_n (pc := 12) d_Te_passBlanks_12 rfl (.head _) ?_
    refine v_getr (C := "") (pc := 13) (r := 3) d_Te_passBlanks_13 fl_Te_9 cC_2.1 cC_2.2 (Or.inr ⟨_, rfl⟩) rC_2_0 ?_
    refine v_iload_n (pc := 16) d_Te_passBlanks_16 rfl (.tail _ (.tail _ (.head _))) ?_
    refine v_bald (pc := 17) (x := (w 3 x3_.toNat)) d_Te_passBlanks_17 cC_3.1 cC_3.2 rfl h.1 ?_
    replace h := h.2
    refine v_istore (pc := 18) (ls' := [(4, vI (w 3 x3_.toNat)), (0, vA 2), (2, vI x2_), (3, vI x3_)]) d_Te_passBlanks_18 (by decide) rfl ?_
    refine v_iload (pc := 20) d_Te_passBlanks_20 (.head _) ?_
    refine v_bipush (pc := 22) d_Te_passBlanks_22 (by decide) rfl ?_
    refine v_icmpne (pc := 24) (tgt := 32) d_Te_passBlanks_24 (by decide) (fun c => ?_) (fun c => ?_)
    · replace h := h.1 c
      refine v_iload (pc := 32) d_Te_passBlanks_32 (.head _) ?_
      refine v_bipush (pc := 34) d_Te_passBlanks_34 (by decide) rfl ?_
      refine v_icmpne (pc := 36) (tgt := 44) d_Te_passBlanks_36 (by decide) (fun c => ?_) (fun c => ?_)
      · replace h := h.1 c
        refine v_iload_n (pc := 44) d_Te_passBlanks_44 rfl (.tail _ (.tail _ (.head _))) ?_
        refine v_ifne (pc := 45) (tgt := 57) d_Te_passBlanks_45 (by decide) (fun c => ?_) (fun c => ?_)
        · replace h := h.1 c
          refine v_iinc (pc := 57) (ls' := [(3, vI (wr (x3_ + 1))), (4, vI (w 3 x3_.toNat)), (0, vA 2), (2, vI x2_)]) d_Te_passBlanks_57 (.tail _ (.tail _ (.tail _ (.head _)))) (by decide) rfl ?_
          refine v_goto (pc := 60) (tgt := 4) d_Te_passBlanks_60 (by decide) ?_
          exact v_sub (List.forall_mem_cons.mpr ⟨(.tail _ (.tail _ (.head _))), (List.forall_mem_cons.mpr ⟨(.tail _ (.tail _ (.tail _ (.head _)))), (List.forall_mem_cons.mpr ⟨(.head _), (fun _ z => absurd z List.not_mem_nil)⟩)⟩)⟩) h
        · replace h := h.2 c
          refine v_iload (pc := 48) d_Te_passBlanks_48 (.head _) ?_
          refine v_bipush (pc := 50) d_Te_passBlanks_50 (by decide) rfl ?_
          refine v_icmpeq (pc := 52) (tgt := 57) d_Te_passBlanks_52 (by decide) (fun c => ?_) (fun c => ?_)
          · replace h := h.1 c
            refine v_iinc (pc := 57) (ls' := [(3, vI (wr (x3_ + 1))), (4, vI (w 3 x3_.toNat)), (0, vA 2), (2, vI x2_)]) d_Te_passBlanks_57 (.tail _ (.tail _ (.tail _ (.head _)))) (by decide) rfl ?_
            refine v_goto (pc := 60) (tgt := 4) d_Te_passBlanks_60 (by decide) ?_
            exact v_sub (List.forall_mem_cons.mpr ⟨(.tail _ (.tail _ (.head _))), (List.forall_mem_cons.mpr ⟨(.tail _ (.tail _ (.tail _ (.head _)))), (List.forall_mem_cons.mpr ⟨(.head _), (fun _ z => absurd z List.not_mem_nil)⟩)⟩)⟩) h
          · replace h := h.2 c
            refine v_iload_n (pc := 55) d_Te_passBlanks_55 rfl (.tail _ (.tail _ (.tail _ (.head _)))) ?_
            exact v_iret (pc := 56) d_Te_passBlanks_56 rfl h
      · replace h := h.2 c
        refine v_iconst (pc := 39) d_Te_passBlanks_39 (by decide) ?_
        refine v_istore_n (pc := 40) (ls' := [(2, vI 1), (4, vI (w 3 x3_.toNat)), (0, vA 2), (3, vI x3_)]) d_Te_passBlanks_40 rfl (by decide) rfl ?_
        refine v_goto (pc := 41) (tgt := 57) d_Te_passBlanks_41 (by decide) ?_
        refine v_iinc (pc := 57) (ls' := [(3, vI (wr (x3_ + 1))), (2, vI 1), (4, vI (w 3 x3_.toNat)), (0, vA 2)]) d_Te_passBlanks_57 (.tail _ (.tail _ (.tail _ (.head _)))) (by decide) rfl ?_
        refine v_goto (pc := 60) (tgt := 4) d_Te_passBlanks_60 (by decide) ?_
        exact v_sub (List.forall_mem_cons.mpr ⟨(.tail _ (.tail _ (.tail _ (.head _)))), (List.forall_mem_cons.mpr ⟨(.tail _ (.head _)), (List.forall_mem_cons.mpr ⟨(.head _), (fun _ z => absurd z List.not_mem_nil)⟩)⟩)⟩) h
    · replace h := h.2 c
      refine v_iconst (pc := 27) d_Te_passBlanks_27 (by decide) ?_
      refine v_istore_n (pc := 28) (ls' := [(2, vI 0), (4, vI (w 3 x3_.toNat)), (0, vA 2), (3, vI x3_)]) d_Te_passBlanks_28 rfl (by decide) rfl ?_
      refine v_goto (pc := 29) (tgt := 57) d_Te_passBlanks_29 (by decide) ?_
      refine v_iinc (pc := 57) (ls' := [(3, vI (wr (x3_ + 1))), (2, vI 0), (4, vI (w 3 x3_.toNat)), (0, vA 2)]) d_Te_passBlanks_57 (.tail _ (.tail _ (.tail _ (.head _)))) (by decide) rfl ?_
      refine v_goto (pc := 60) (tgt := 4) d_Te_passBlanks_60 (by decide) ?_
      exact v_sub (List.forall_mem_cons.mpr ⟨(.tail _ (.tail _ (.tail _ (.head _)))), (List.forall_mem_cons.mpr ⟨(.tail _ (.head _)), (List.forall_mem_cons.mpr ⟨(.head _), (fun _ z => absurd z List.not_mem_nil)⟩)⟩)⟩) h
theorem d_Te_cutToken_0 : decode jTe_cutToken.cc 0 = .ok (.aload_n 0, 1) := by decide +kernel
theorem d_Te_cutToken_1 : decode jTe_cutToken.cc 1 = .ok (.getfield 9, 3) := by decide +kernel
theorem d_Te_cutToken_4 : decode jTe_cutToken.cc 4 = .ok (.iload_n 1, 1) := by decide +kernel
theorem d_Te_cutToken_5 : decode jTe_cutToken.cc 5 = .ok (.baload, 1) := by decide +kernel
theorem d_Te_cutToken_6 : decode jTe_cutToken.cc 6 = .ok (.istore_n 2, 1) := by decide +kernel
theorem d_Te_cutToken_7 : decode jTe_cutToken.cc 7 = .ok (.iload_n 2, 1) := by decide +kernel
theorem d_Te_cutToken_8 : decode jTe_cutToken.cc 8 = .ok (.invokestatic 62, 3) := by decide +kernel
theorem d_Te_cutToken_11 : decode jTe_cutToken.cc 11 = .ok (.ifCond .eq 9, 3) := by decide +kernel
theorem d_Te_cutToken_14 : decode jTe_cutToken.cc 14 = .ok (.aload_n 0, 1) := by decide +kernel
theorem d_Te_cutToken_15 : decode jTe_cutToken.cc 15 = .ok (.iload_n 1, 1) := by decide +kernel
theorem d_Te_cutToken_16 : decode jTe_cutToken.cc 16 = .ok (.invokevirtual 66, 3) := by decide +kernel
theorem d_Te_cutToken_19 : decode jTe_cutToken.cc 19 = .ok (.ireturn, 1) := by decide +kernel
theorem d_Te_cutToken_20 : decode jTe_cutToken.cc 20 = .ok (.iload_n 2, 1) := by decide +kernel
theorem d_Te_cutToken_21 : decode jTe_cutToken.cc 21 = .ok (.invokestatic 69, 3) := by decide +kernel
theorem d_Te_cutToken_24 : decode jTe_cutToken.cc 24 = .ok (.ifCond .eq 11, 3) := by decide +kernel
theorem d_Te_cutToken_27 : decode jTe_cutToken.cc 27 = .ok (.aload_n 0, 1) := by decide +kernel
theorem d_Te_cutToken_28 : decode jTe_cutToken.cc 28 = .ok (.iload_n 1, 1) := by decide +kernel
theorem d_Te_cutToken_29 : decode jTe_cutToken.cc 29 = .ok (.invokevirtual 72, 3) := by decide +kernel
theorem d_Te_cutToken_32 : decode jTe_cutToken.cc 32 = .ok (.goto 8, 3) := by decide +kernel
theorem d_Te_cutToken_35 : decode jTe_cutToken.cc 35 = .ok (.aload_n 0, 1) := by decide +kernel
theorem d_Te_cutToken_36 : decode jTe_cutToken.cc 36 = .ok (.iload_n 1, 1) := by decide +kernel
theorem d_Te_cutToken_37 : decode jTe_cutToken.cc 37 = .ok (.invokevirtual 75, 3) := by decide +kernel
theorem d_Te_cutToken_40 : decode jTe_cutToken.cc 40 = .ok (.ireturn, 1) := by decide +kernel
set_option maxHeartbeats 4000000 in
theorem s_Te_cutToken {g : Mg} {d : Nat} {K : Ou → Wd → Prop} {w : Wd} {p1 : Int} (h : (0 ≤ p1 ∧ p1 < 4000) ∧ (Cal g LC jTe_isLetter d [vI (w 3 p1.toNat)] w (fun o w1 => rI o (fun x2 => (x2 = 0 → (Cal g LC jTe_isDigit d [vI (w 3 p1.toNat)] w1 (fun o w3 => rI o (fun x4 => (x4 = 0 → (Cal g LC jTe_cutSign d [vA 2, vI p1] w3 (fun o w5 => rI o (fun x6 => K (.inl (some (vI x6))) w5)))) ∧ (¬ x4 = 0 → (Cal g LC jTe_cutNumber d [vA 2, vI p1] w3 (fun o w7 => rI o (fun x8 => K (.inl (some (vI x8))) w7)))))))) ∧ (¬ x2 = 0 → (Cal g LC jTe_cutWord d [vA 2, vI p1] w1 (fun o w9 => rI o (fun x10 => K (.inl (some (vI x10))) w9)))))))) : V g LC jTe_cutToken (d + 1) K 0 [(0, vA 2), (1, vI p1)] [] w := by
  refine v_aload_n (pc := 0) d_Te_cutToken_0 rfl (.head _) ?_
  refine v_getr (C := "") (pc := 1) (r := 3) d_Te_cutToken_1 fl_Te_9 cC_2.1 cC_2.2 (Or.inr ⟨_, rfl⟩) rC_2_0 ?_
  refine v_iload_n (pc := 4) d_Te_cutToken_4 rfl (.tail _ (.head _)) ?_
  refine v_bald (pc := 5) (x := (w 3 p1.toNat)) d_Te_cutToken_5 cC_3.1 cC_3.2 rfl h.1 ?_
  replace h := h.2
  refine v_istore_n (pc := 6) (ls' := [(2, vI (w 3 p1.toNat)), (0, vA 2), (1, vI p1)]) d_Te_cutToken_6 rfl (by decide) rfl ?_
  refine v_iload_n (pc := 7) d_Te_cutToken_7 rfl (.head _) ?_
  refine v_callS (pc := 8) (J' := jTe_isLetter) (d' := d) (As := [vI (w 3 p1.toNat)]) d_Te_cutToken_8 ml_Te_62 rfl (Nat.le_of_ble_eq_true rfl) (Nat.le_refl _) rfl (Cal.weak h (fun o w1 h => ?_))
  rcases rI_of h with ⟨x2, rfl, h⟩
  refine v_ifeq (pc := 11) (tgt := 20) d_Te_cutToken_11 (by decide) (fun c => ?_) (fun c => ?_)
  · replace h := h.1 c
    refine v_iload_n (pc := 20) d_Te_cutToken_20 rfl (.head _) ?_
    refine v_callS (pc := 21) (J' := jTe_isDigit) (d' := d) (As := [vI (w 3 p1.toNat)]) d_Te_cutToken_21 ml_Te_69 rfl (Nat.le_of_ble_eq_true rfl) (Nat.le_refl _) rfl (Cal.weak h (fun o w3 h => ?_))
    rcases rI_of h with ⟨x4, rfl, h⟩
    refine v_ifeq (pc := 24) (tgt := 35) d_Te_cutToken_24 (by decide) (fun c => ?_) (fun c => ?_)
    · replace h := h.1 c
      refine v_aload_n (pc := 35) d_Te_cutToken_35 rfl (.tail _ (.head _)) ?_
      refine v_iload_n (pc := 36) d_Te_cutToken_36 rfl (.tail _ (.tail _ (.head _))) ?_
      refine v_callV (pc := 37) (J' := jTe_cutSign) (d' := d) (o := 2) (ci := 9) (N := 7) (T := cT9) (As := [vI p1]) d_Te_cutToken_37 ml_Te_75 cC_2.1 cC_2.2 (by decide) rfl rfl (Nat.le_of_ble_eq_true rfl) (Nat.le_refl _) rfl (Cal.weak h (fun o w5 h => ?_))
      rcases rI_of h with ⟨x6, rfl, h⟩
      exact v_iret (pc := 40) d_Te_cutToken_40 rfl h
    · replace h := h.2 c
      refine v_aload_n (pc := 27) d_Te_cutToken_27 rfl (.tail _ (.head _)) ?_
      refine v_iload_n (pc := 28) d_Te_cutToken_28 rfl (.tail _ (.tail _ (.head _))) ?_
      refine v_callV (pc := 29) (J' := jTe_cutNumber) (d' := d) (o := 2) (ci := 9) (N := 7) (T := cT9) (As := [vI p1]) d_Te_cutToken_29 ml_Te_72 cC_2.1 cC_2.2 (by decide) rfl rfl (Nat.le_of_ble_eq_true rfl) (Nat.le_refl _) rfl (Cal.weak h (fun o w7 h => ?_))
      rcases rI_of h with ⟨x8, rfl, h⟩
      refine v_goto (pc := 32) (tgt := 40) d_Te_cutToken_32 (by decide) ?_
      exact v_iret (pc := 40) d_Te_cutToken_40 rfl h
  · replace h := h.2 c
    refine v_aload_n (pc := 14) d_Te_cutToken_14 rfl (.tail _ (.head _)) ?_
    refine v_iload_n (pc := 15) d_Te_cutToken_15 rfl (.tail _ (.tail _ (.head _))) ?_
    refine v_callV (pc := 16) (J' := jTe_cutWord) (d' := d) (o := 2) (ci := 9) (N := 7) (T := cT9) (As := [vI p1]) d_Te_cutToken_16 ml_Te_66 cC_2.1 cC_2.2 (by decide) rfl rfl (Nat.le_of_ble_eq_true rfl) (Nat.le_refl _) rfl (Cal.weak h (fun o w9 h => ?_))
    rcases rI_of h with ⟨x10, rfl, h⟩
    exact v_iret (pc := 19) d_Te_cutToken_19 rfl h
theorem d_Te_cutWord_0 : decode jTe_cutWord.cc 0 = .ok (.iload_n 1, 1) := by decide +kernel
theorem d_Te_cutWord_1 : decode jTe_cutWord.cc 1 = .ok (.istore_n 2, 1) := by decide +kernel
theorem d_Te_cutWord_2 : decode jTe_cutWord.cc 2 = .ok (.iload_n 2, 1) := by decide +kernel
theorem d_Te_cutWord_3 : decode jTe_cutWord.cc 3 = .ok (.aload_n 0, 1) := by decide +kernel
theorem d_Te_cutWord_4 : decode jTe_cutWord.cc 4 = .ok (.getfield 35, 3) := by decide +kernel
theorem d_Te_cutWord_7 : decode jTe_cutWord.cc 7 = .ok (.if_icmp .ge 33, 3) := by decide +kernel
theorem d_Te_cutWord_10 : decode jTe_cutWord.cc 10 = .ok (.aload_n 0, 1) := by decide +kernel
theorem d_Te_cutWord_11 : decode jTe_cutWord.cc 11 = .ok (.getfield 9, 3) := by decide +kernel
theorem d_Te_cutWord_14 : decode jTe_cutWord.cc 14 = .ok (.iload_n 2, 1) := by decide +kernel
theorem d_Te_cutWord_15 : decode jTe_cutWord.cc 15 = .ok (.baload, 1) := by decide +kernel
theorem d_Te_cutWord_16 : decode jTe_cutWord.cc 16 = .ok (.invokestatic 62, 3) := by decide +kernel
theorem d_Te_cutWord_19 : decode jTe_cutWord.cc 19 = .ok (.ifCond .ne 15, 3) := by decide +kernel
theorem d_Te_cutWord_22 : decode jTe_cutWord.cc 22 = .ok (.aload_n 0, 1) := by decide +kernel
theorem d_Te_cutWord_23 : decode jTe_cutWord.cc 23 = .ok (.getfield 9, 3) := by decide +kernel
theorem d_Te_cutWord_26 : decode jTe_cutWord.cc 26 = .ok (.iload_n 2, 1) := by decide +kernel
theorem d_Te_cutWord_27 : decode jTe_cutWord.cc 27 = .ok (.baload, 1) := by decide +kernel
theorem d_Te_cutWord_28 : decode jTe_cutWord.cc 28 = .ok (.invokestatic 69, 3) := by decide +kernel
theorem d_Te_cutWord_31 : decode jTe_cutWord.cc 31 = .ok (.ifCond .eq 9, 3) := by decide +kernel
theorem d_Te_cutWord_34 : decode jTe_cutWord.cc 34 = .ok (.iinc 2 1, 3) := by decide +kernel
theorem d_Te_cutWord_37 : decode jTe_cutWord.cc 37 = .ok (.goto (-35), 3) := by decide +kernel
theorem d_Te_cutWord_40 : decode jTe_cutWord.cc 40 = .ok (.aload_n 0, 1) := by decide +kernel
theorem d_Te_cutWord_41 : decode jTe_cutWord.cc 41 = .ok (.iload_n 2, 1) := by decide +kernel
theorem d_Te_cutWord_42 : decode jTe_cutWord.cc 42 = .ok (.iload_n 1, 1) := by decide +kernel
theorem d_Te_cutWord_43 : decode jTe_cutWord.cc 43 = .ok (.isub, 1) := by decide +kernel
theorem d_Te_cutWord_44 : decode jTe_cutWord.cc 44 = .ok (.bipush 12, 2) := by decide +kernel
theorem d_Te_cutWord_46 : decode jTe_cutWord.cc 46 = .ok (.if_icmp .le 7, 3) := by decide +kernel
theorem d_Te_cutWord_49 : decode jTe_cutWord.cc 49 = .ok (.iconst 1, 1) := by decide +kernel
theorem d_Te_cutWord_50 : decode jTe_cutWord.cc 50 = .ok (.goto 9, 3) := by decide +kernel
theorem d_Te_cutWord_53 : decode jTe_cutWord.cc 53 = .ok (.aload_n 0, 1) := by decide +kernel
theorem d_Te_cutWord_54 : decode jTe_cutWord.cc 54 = .ok (.iload_n 1, 1) := by decide +kernel
theorem d_Te_cutWord_55 : decode jTe_cutWord.cc 55 = .ok (.iload_n 2, 1) := by decide +kernel
theorem d_Te_cutWord_56 : decode jTe_cutWord.cc 56 = .ok (.invokevirtual 78, 3) := by decide +kernel
theorem d_Te_cutWord_59 : decode jTe_cutWord.cc 59 = .ok (.iload_n 1, 1) := by decide +kernel
theorem d_Te_cutWord_60 : decode jTe_cutWord.cc 60 = .ok (.iload_n 2, 1) := by decide +kernel
theorem d_Te_cutWord_61 : decode jTe_cutWord.cc 61 = .ok (.iconst 0, 1) := by decide +kernel
theorem d_Te_cutWord_62 : decode jTe_cutWord.cc 62 = .ok (.invokevirtual 58, 3) := by decide +kernel
theorem d_Te_cutWord_65 : decode jTe_cutWord.cc 65 = .ok (.iload_n 2, 1) := by decide +kernel
theorem d_Te_cutWord_66 : decode jTe_cutWord.cc 66 = .ok (.ireturn, 1) := by decide +kernel
set_option maxHeartbeats 4000000 in
theorem s_Te_cutWord {g : Mg} {d : Nat} {K : Ou → Wd → Prop} {w : Wd} {p1 : Int} (h : V g LC jTe_cutWord (d + 1) K 2 [(0, vA 2), (1, vI p1), (2, vI p1)] [] w) : V g LC jTe_cutWord (d + 1) K 0 [(0, vA 2), (1, vI p1)] [] w := by
  refine v_iload_n (pc := 0) d_Te_cutWord_0 rfl (.tail _ (.head _)) ?_
  refine v_istore_n (pc := 1) (ls' := [(2, vI p1), (0, vA 2), (1, vI p1)]) d_Te_cutWord_1 rfl (by decide) rfl ?_
  exact v_sub (List.forall_mem_cons.mpr ⟨(.tail _ (.head _)), (List.forall_mem_cons.mpr ⟨(.tail _ (.tail _ (.head _))), (List.forall_mem_cons.mpr ⟨(.head _), (fun _ z => absurd z List.not_mem_nil)⟩)⟩)⟩) h
set_option maxHeartbeats 4000000 in
theorem s_Te_cutWord_2 {g : Mg} {d : Nat} {K : Ou → Wd → Prop} {w : Wd} {x1_ : Int} {x2_ : Int} (h : ((w 2 1) ≤ x2_ → (((wr (x2_ - x1_)) ≤ 12 → (Cal g LC jTe_wordKind d [vA 2, vI x1_, vI x2_] w (fun o w1 => rI o (fun x2 => Cal g LC jTe_put d [vA 2, vI x2, vI x1_, vI x2_, vI 0] w1 (fun o w3 => rV o (K (.inl (some (vI x2_))) w3)))))) ∧ (¬ (wr (x2_ - x1_)) ≤ 12 → (Cal g LC jTe_put d [vA 2, vI 1, vI x1_, vI x2_, vI 0] w (fun o w4 => rV o (K (.inl (some (vI x2_))) w4)))))) ∧ (¬ (w 2 1) ≤ x2_ → ((0 ≤ x2_ ∧ x2_ < 4000) ∧ (Cal g LC jTe_isLetter d [vI (w 3 x2_.toNat)] w (fun o w5 => rI o (fun x6 => (¬ x6 = 0 → (V g LC jTe_cutWord (d + 1) K 2 [(0, vA 2), (1, vI x1_), (2, vI (wr (x2_ + 1)))] [] w5)) ∧ (x6 = 0 → ((0 ≤ x2_ ∧ x2_ < 4000) ∧ (Cal g LC jTe_isDigit d [vI (w5 3 x2_.toNat)] w5 (fun o w7 => rI o (fun x8 => (x8 = 0 → (((wr (x2_ - x1_)) ≤ 12 → (Cal g LC jTe_wordKind d [vA 2, vI x1_, vI x2_] w7 (fun o w9 => rI o (fun x10 => Cal g LC jTe_put d [vA 2, vI x10, vI x1_, vI x2_, vI 0] w9 (fun o w11 => rV o (K (.inl (some (vI x2_))) w11)))))) ∧ (¬ (wr (x2_ - x1_)) ≤ 12 → (Cal g LC jTe_put d [vA 2, vI 1, vI x1_, vI x2_, vI 0] w7 (fun o w12 => rV o (K (.inl (some (vI x2_))) w12)))))) ∧ (¬ x8 = 0 → (V g LC jTe_cutWord (d + 1) K 2 [(0, vA 2), (1, vI x1_), (2, vI (wr (x2_ + 1)))] [] w7))))))))))))) : V g LC jTe_cutWord (d + 1) K 2 [(0, vA 2), (1, vI x1_), (2, vI x2_)] [] w := by
  refine v_iload_n (pc := 2) d_Te_cutWord_2 rfl (.tail _ (.tail _ (.head _))) ?_
  refine v_aload_n (pc := 3) d_Te_cutWord_3 rfl (.head _) ?_
  refine v_geti (pc := 4) (x := (w 2 1)) d_Te_cutWord_4 fl_Te_35 cC_2.1 cC_2.2 (Or.inl rfl) rfl ?_
  refine v_icmpge (pc := 7) (tgt := 40) d_Te_cutWord_7 (by decide) (fun c => ?_) (fun c => ?_)
  · replace h := h.1 c
    refine v_aload_n (pc := 40) d_Te_cutWord_40 rfl (.head _) ?_
    refine v_iload_n (pc := 41) d_Te_cutWord_41 rfl (.tail _ (.tail _ (.head _))) ?_
    refine v_iload_n (pc := 42) d_Te_cutWord_42 rfl (.tail _ (.head _)) ?_
    refine v_isub (pc := 43) d_Te_cutWord_43 ?_
    refine v_bipush (pc := 44) d_Te_cutWord_44 (by decide) rfl ?_
    refine v_icmple (pc := 46) (tgt := 53) d_Te_cutWord_46 (by decide) (fun c => ?_) (fun c => ?_)
    · replace h := h.1 c
      refine v_aload_n (pc := 53) d_Te_cutWord_53 rfl (.head _) ?_
      refine v_iload_n (pc := 54) d_Te_cutWord_54 rfl (.tail _ (.head _)) ?_
      refine v_iload_n (pc := 55) d_Te_cutWord_55 rfl (.tail _ (.tail _ (.head _))) ?_
      refine v_callV (pc := 56) (J' := jTe_wordKind) (d' := d) (o := 2) (ci := 9) (N := 7) (T := cT9) (As := [vI x1_, vI x2_]) d_Te_cutWord_56 ml_Te_78 cC_2.1 cC_2.2 (by decide) rfl rfl (Nat.le_of_ble_eq_true rfl) (Nat.le_refl _) rfl (Cal.weak h (fun o w1 h => ?_))
      rcases rI_of h with ⟨x2, rfl, h⟩
      refine v_iload_n (pc := 59) d_Te_cutWord_59 rfl (.tail _ (.head _)) ?_
      refine v_iload_n (pc := 60) d_Te_cutWord_60 rfl (.tail _ (.tail _ (.head _))) ?_
      refine v_iconst (pc := 61) d_Te_cutWord_61 (by decide) ?_
      refine v_callV (pc := 62) (J' := jTe_put) (d' := d) (o := 2) (ci := 9) (N := 7) (T := cT9) (As := [vI x2, vI x1_, vI x2_, vI 0]) d_Te_cutWord_62 ml_Te_58 cC_2.1 cC_2.2 (by decide) rfl rfl (Nat.le_of_ble_eq_true rfl) (Nat.le_refl _) rfl (Cal.weak h (fun o w3 h => ?_))
      rcases rV_of h with ⟨rfl, h⟩
      refine v_iload_n (pc := 65) d_Te_cutWord_65 rfl (.tail _ (.tail _ (.head _))) ?_
      exact v_iret (pc := 66) d_Te_cutWord_66 rfl h
    · replace h := h.2 c
      refine v_iconst (pc := 49) d_Te_cutWord_49 (by decide) ?_
      refine v_goto (pc := 50) (tgt := 59) d_Te_cutWord_50 (by decide) ?_
      refine v_iload_n (pc := 59) d_Te_cutWord_59 rfl (.tail _ (.head _)) ?_
      refine v_iload_n (pc := 60) d_Te_cutWord_60 rfl (.tail _ (.tail _ (.head _))) ?_
      refine v_iconst (pc := 61) d_Te_cutWord_61 (by decide) ?_
      refine v_callV (pc := 62) (J' := jTe_put) (d' := d) (o := 2) (ci := 9) (N := 7) (T := cT9) (As := [vI 1, vI x1_, vI x2_, vI 0]) d_Te_cutWord_62 ml_Te_58 cC_2.1 cC_2.2 (by decide) rfl rfl (Nat.le_of_ble_eq_true rfl) (Nat.le_refl _) rfl (Cal.weak h (fun o w4 h => ?_))
      rcases rV_of h with ⟨rfl, h⟩
      refine v_iload_n (pc := 65) d_Te_cutWord_65 rfl (.tail _ (.tail _ (.head _))) ?_
      exact v_iret (pc := 66) d_Te_cutWord_66 rfl h
  · replace h := h.2 c
    refine v_aload_n (pc := 10) d_Te_cutWord_10 rfl (.head _) ?_
    refine v_getr (C := "") (pc := 11) (r := 3) d_Te_cutWord_11 fl_Te_9 cC_2.1 cC_2.2 (Or.inr ⟨_, rfl⟩) rC_2_0 ?_
    refine v_iload_n (pc := 14) d_Te_cutWord_14 rfl (.tail _ (.tail _ (.head _))) ?_
    refine v_bald (pc := 15) (x := (w 3 x2_.toNat)) d_Te_cutWord_15 cC_3.1 cC_3.2 rfl h.1 ?_
    replace h := h.2
    refine v_callS (pc := 16) (J' := jTe_isLetter) (d' := d) (As := [vI (w 3 x2_.toNat)]) d_Te_cutWord_16 ml_Te_62 rfl (Nat.le_of_ble_eq_true rfl) (Nat.le_refl _) rfl (Cal.weak h (fun o w5 h => ?_))
    rcases rI_of h with ⟨x6, rfl, h⟩
    refine v_ifne (pc := 19) (tgt := 34) d_Te_cutWord_19 (by decide) (fun c => ?_) (fun c => ?_)
    · replace h := h.1 c
      refine v_iinc (pc := 34) (ls' := [(2, vI (wr (x2_ + 1))), (0, vA 2), (1, vI x1_)]) d_Te_cutWord_34 (.tail _ (.tail _ (.head _))) (by decide) rfl ?_
      refine v_goto (pc := 37) (tgt := 2) d_Te_cutWord_37 (by decide) ?_
      exact v_sub (List.forall_mem_cons.mpr ⟨(.tail _ (.head _)), (List.forall_mem_cons.mpr ⟨(.tail _ (.tail _ (.head _))), (List.forall_mem_cons.mpr ⟨(.head _), (fun _ z => absurd z List.not_mem_nil)⟩)⟩)⟩) h
    · replace h := h.2 c
      refine v_aload_n (pc := 22) d_Te_cutWord_22 rfl (.head _) ?_
      refine v_getr (C := "") (pc := 23) (r := 3) d_Te_cutWord_23 fl_Te_9 cC_2.1 cC_2.2 (Or.inr ⟨_, rfl⟩) rC_2_0 ?_
      refine v_iload_n (pc := 26) d_Te_cutWord_26 rfl (.tail _ (.tail _ (.head _))) ?_
      refine v_bald (pc := 27) (x := (w5 3 x2_.toNat)) d_Te_cutWord_27 cC_3.1 cC_3.2 rfl h.1 ?_
      replace h := h.2
      refine v_callS (pc := 28) (J' := jTe_isDigit) (d' := d) (As := [vI (w5 3 x2_.toNat)]) d_Te_cutWord_28 ml_Te_69 rfl (Nat.le_of_ble_eq_true rfl) (Nat.le_refl _) rfl (Cal.weak h (fun o w7 h => ?_))
      rcases rI_of h with ⟨x8, rfl, h⟩
      refine v_ifeq (pc := 31) (tgt := 40) d_Te_cutWord_31 (by decide) (fun c => ?_) (fun c => ?_)
      · replace h := h.1 c
        refine v_aload_n (pc := 40) d_Te_cutWord_40 rfl (.head _) ?_
        refine v_iload_n (pc := 41) d_Te_cutWord_41 rfl (.tail _ (.tail _ (.head _))) ?_
        refine v_iload_n (pc := 42) d_Te_cutWord_42 rfl (.tail _ (.head _)) ?_
        refine v_isub (pc := 43) d_Te_cutWord_43 ?_
        refine v_bipush (pc := 44) d_Te_cutWord_44 (by decide) rfl ?_
        refine v_icmple (pc := 46) (tgt := 53) d_Te_cutWord_46 (by decide) (fun c => ?_) (fun c => ?_)
        · replace h := h.1 c
          refine v_aload_n (pc := 53) d_Te_cutWord_53 rfl (.head _) ?_
          refine v_iload_n (pc := 54) d_Te_cutWord_54 rfl (.tail _ (.head _)) ?_
          refine v_iload_n (pc := 55) d_Te_cutWord_55 rfl (.tail _ (.tail _ (.head _))) ?_
          refine v_callV (pc := 56) (J' := jTe_wordKind) (d' := d) (o := 2) (ci := 9) (N := 7) (T := cT9) (As := [vI x1_, vI x2_]) d_Te_cutWord_56 ml_Te_78 cC_2.1 cC_2.2 (by decide) rfl rfl (Nat.le_of_ble_eq_true rfl) (Nat.le_refl _) rfl (Cal.weak h (fun o w9 h => ?_))
          rcases rI_of h with ⟨x10, rfl, h⟩
          refine v_iload_n (pc := 59) d_Te_cutWord_59 rfl (.tail _ (.head _)) ?_
          refine v_iload_n (pc := 60) d_Te_cutWord_60 rfl (.tail _ (.tail _ (.head _))) ?_
          refine v_iconst (pc := 61) d_Te_cutWord_61 (by decide) ?_
          refine v_callV (pc := 62) (J' := jTe_put) (d' := d) (o := 2) (ci := 9) (N := 7) (T := cT9) (As := [vI x10, vI x1_, vI x2_, vI 0]) d_Te_cutWord_62 ml_Te_58 cC_2.1 cC_2.2 (by decide) rfl rfl (Nat.le_of_ble_eq_true rfl) (Nat.le_refl _) rfl (Cal.weak h (fun o w11 h => ?_))
          rcases rV_of h with ⟨rfl, h⟩
          refine v_iload_n (pc := 65) d_Te_cutWord_65 rfl (.tail _ (.tail _ (.head _))) ?_
          exact v_iret (pc := 66) d_Te_cutWord_66 rfl h
        · replace h := h.2 c
          refine v_iconst (pc := 49) d_Te_cutWord_49 (by decide) ?_
          refine v_goto (pc := 50) (tgt := 59) d_Te_cutWord_50 (by decide) ?_
          refine v_iload_n (pc := 59) d_Te_cutWord_59 rfl (.tail _ (.head _)) ?_
          refine v_iload_n (pc := 60) d_Te_cutWord_60 rfl (.tail _ (.tail _ (.head _))) ?_
          refine v_iconst (pc := 61) d_Te_cutWord_61 (by decide) ?_
          refine v_callV (pc := 62) (J' := jTe_put) (d' := d) (o := 2) (ci := 9) (N := 7) (T := cT9) (As := [vI 1, vI x1_, vI x2_, vI 0]) d_Te_cutWord_62 ml_Te_58 cC_2.1 cC_2.2 (by decide) rfl rfl (Nat.le_of_ble_eq_true rfl) (Nat.le_refl _) rfl (Cal.weak h (fun o w12 h => ?_))
          rcases rV_of h with ⟨rfl, h⟩
          refine v_iload_n (pc := 65) d_Te_cutWord_65 rfl (.tail _ (.tail _ (.head _))) ?_
          exact v_iret (pc := 66) d_Te_cutWord_66 rfl h
      · replace h := h.2 c
        refine v_iinc (pc := 34) (ls' := [(2, vI (wr (x2_ + 1))), (0, vA 2), (1, vI x1_)]) d_Te_cutWord_34 (.tail _ (.tail _ (.head _))) (by decide) rfl ?_
        refine v_goto (pc := 37) (tgt := 2) d_Te_cutWord_37 (by decide) ?_
        exact v_sub (List.forall_mem_cons.mpr ⟨(.tail _ (.head _)), (List.forall_mem_cons.mpr ⟨(.tail _ (.tail _ (.head _))), (List.forall_mem_cons.mpr ⟨(.head _), (fun _ z => absurd z List.not_mem_nil)⟩)⟩)⟩) h
theorem d_Te_cutNumber_0 : decode jTe_cutNumber.cc 0 = .ok (.lconst 0, 1) := by decide +kernel
theorem d_Te_cutNumber_1 : decode jTe_cutNumber.cc 1 = .ok (.lstore_n 2, 1) := by decide +kernel
theorem d_Te_cutNumber_2 : decode jTe_cutNumber.cc 2 = .ok (.iload_n 1, 1) := by decide +kernel
theorem d_Te_cutNumber_3 : decode jTe_cutNumber.cc 3 = .ok (.istore 4, 2) := by decide +kernel
theorem d_Te_cutNumber_5 : decode jTe_cutNumber.cc 5 = .ok (.iload 4, 2) := by decide +kernel
theorem d_Te_cutNumber_7 : decode jTe_cutNumber.cc 7 = .ok (.aload_n 0, 1) := by decide +kernel
theorem d_Te_cutNumber_8 : decode jTe_cutNumber.cc 8 = .ok (.getfield 35, 3) := by decide +kernel
theorem d_Te_cutNumber_11 : decode jTe_cutNumber.cc 11 = .ok (.if_icmp .ge 46, 3) := by decide +kernel
theorem d_Te_cutNumber_14 : decode jTe_cutNumber.cc 14 = .ok (.aload_n 0, 1) := by decide +kernel
theorem d_Te_cutNumber_15 : decode jTe_cutNumber.cc 15 = .ok (.getfield 9, 3) := by decide +kernel
theorem d_Te_cutNumber_18 : decode jTe_cutNumber.cc 18 = .ok (.iload 4, 2) := by decide +kernel
theorem d_Te_cutNumber_20 : decode jTe_cutNumber.cc 20 = .ok (.baload, 1) := by decide +kernel
theorem d_Te_cutNumber_21 : decode jTe_cutNumber.cc 21 = .ok (.invokestatic 69, 3) := by decide +kernel
theorem d_Te_cutNumber_24 : decode jTe_cutNumber.cc 24 = .ok (.ifCond .eq 33, 3) := by decide +kernel
theorem d_Te_cutNumber_27 : decode jTe_cutNumber.cc 27 = .ok (.lload_n 2, 1) := by decide +kernel
theorem d_Te_cutNumber_28 : decode jTe_cutNumber.cc 28 = .ok (.ldc2_w 81, 3) := by decide +kernel
theorem d_Te_cutNumber_31 : decode jTe_cutNumber.cc 31 = .ok (.lmul, 1) := by decide +kernel
theorem d_Te_cutNumber_32 : decode jTe_cutNumber.cc 32 = .ok (.aload_n 0, 1) := by decide +kernel
theorem d_Te_cutNumber_33 : decode jTe_cutNumber.cc 33 = .ok (.getfield 9, 3) := by decide +kernel
theorem d_Te_cutNumber_36 : decode jTe_cutNumber.cc 36 = .ok (.iload 4, 2) := by decide +kernel
theorem d_Te_cutNumber_38 : decode jTe_cutNumber.cc 38 = .ok (.baload, 1) := by decide +kernel
theorem d_Te_cutNumber_39 : decode jTe_cutNumber.cc 39 = .ok (.bipush 48, 2) := by decide +kernel
theorem d_Te_cutNumber_41 : decode jTe_cutNumber.cc 41 = .ok (.isub, 1) := by decide +kernel
theorem d_Te_cutNumber_42 : decode jTe_cutNumber.cc 42 = .ok (.i2l, 1) := by decide +kernel
theorem d_Te_cutNumber_43 : decode jTe_cutNumber.cc 43 = .ok (.ladd, 1) := by decide +kernel
theorem d_Te_cutNumber_44 : decode jTe_cutNumber.cc 44 = .ok (.ldc2_w 83, 3) := by decide +kernel
theorem d_Te_cutNumber_47 : decode jTe_cutNumber.cc 47 = .ok (.invokestatic 85, 3) := by decide +kernel
theorem d_Te_cutNumber_50 : decode jTe_cutNumber.cc 50 = .ok (.lstore_n 2, 1) := by decide +kernel
theorem d_Te_cutNumber_51 : decode jTe_cutNumber.cc 51 = .ok (.iinc 4 1, 3) := by decide +kernel
theorem d_Te_cutNumber_54 : decode jTe_cutNumber.cc 54 = .ok (.goto (-49), 3) := by decide +kernel
theorem d_Te_cutNumber_57 : decode jTe_cutNumber.cc 57 = .ok (.aload_n 0, 1) := by decide +kernel
theorem d_Te_cutNumber_58 : decode jTe_cutNumber.cc 58 = .ok (.lload_n 2, 1) := by decide +kernel
theorem d_Te_cutNumber_59 : decode jTe_cutNumber.cc 59 = .ok (.ldc2_w 83, 3) := by decide +kernel
theorem d_Te_cutNumber_62 : decode jTe_cutNumber.cc 62 = .ok (.lcmp, 1) := by decide +kernel
theorem d_Te_cutNumber_63 : decode jTe_cutNumber.cc 63 = .ok (.ifCond .ge 7, 3) := by decide +kernel
theorem d_Te_cutNumber_66 : decode jTe_cutNumber.cc 66 = .ok (.iconst 3, 1) := by decide +kernel
theorem d_Te_cutNumber_67 : decode jTe_cutNumber.cc 67 = .ok (.goto 4, 3) := by decide +kernel
theorem d_Te_cutNumber_70 : decode jTe_cutNumber.cc 70 = .ok (.iconst 1, 1) := by decide +kernel
theorem d_Te_cutNumber_71 : decode jTe_cutNumber.cc 71 = .ok (.iload_n 1, 1) := by decide +kernel
theorem d_Te_cutNumber_72 : decode jTe_cutNumber.cc 72 = .ok (.iload 4, 2) := by decide +kernel
theorem d_Te_cutNumber_74 : decode jTe_cutNumber.cc 74 = .ok (.lload_n 2, 1) := by decide +kernel
theorem d_Te_cutNumber_75 : decode jTe_cutNumber.cc 75 = .ok (.l2i, 1) := by decide +kernel
theorem d_Te_cutNumber_76 : decode jTe_cutNumber.cc 76 = .ok (.invokevirtual 58, 3) := by decide +kernel
theorem d_Te_cutNumber_79 : decode jTe_cutNumber.cc 79 = .ok (.iload 4, 2) := by decide +kernel
theorem d_Te_cutNumber_81 : decode jTe_cutNumber.cc 81 = .ok (.ireturn, 1) := by decide +kernel
set_option maxHeartbeats 4000000 in
theorem s_Te_cutNumber {g : Mg} {d : Nat} {K : Ou → Wd → Prop} {w : Wd} {p1 : Int} (h : V g LC jTe_cutNumber (d + 1) K 5 [(0, vA 2), (1, vI p1), (2, vL 0), (4, vI p1)] [] w) : V g LC jTe_cutNumber (d + 1) K 0 [(0, vA 2), (1, vI p1)] [] w := by
  refine v_lconst (pc := 0) (x := 0) d_Te_cutNumber_0 (by decide) rfl ?_
  refine v_lstore_n (pc := 1) (ls' := [(2, vL 0), (0, vA 2), (1, vI p1)]) d_Te_cutNumber_1 rfl (by decide) rfl ?_
  refine v_iload_n (pc := 2) d_Te_cutNumber_2 rfl (.tail _ (.tail _ (.head _))) ?_
  refine v_istore (pc := 3) (ls' := [(4, vI p1), (2, vL 0), (0, vA 2), (1, vI p1)]) d_Te_cutNumber_3 (by decide) rfl ?_
  exact v_sub (List.forall_mem_cons.mpr ⟨(.tail _ (.tail _ (.head _))), (List.forall_mem_cons.mpr ⟨(.tail _ (.tail _ (.tail _ (.head _)))), (List.forall_mem_cons.mpr ⟨(.tail _ (.head _)), (List.forall_mem_cons.mpr ⟨(.head _), (fun _ z => absurd z List.not_mem_nil)⟩)⟩)⟩)⟩) h
set_option maxHeartbeats 4000000 in
theorem s_Te_cutNumber_5 {g : Mg} {d : Nat} {K : Ou → Wd → Prop} {w : Wd} {x1_ : Int} {x2_ : Int} {x4_ : Int} (h : ((w 2 1) ≤ x4_ → ((0 ≤ (lCmp x2_ 2147483648) → (Cal g LC jTe_put d [vA 2, vI 1, vI x1_, vI x4_, vI (l2iF x2_)] w (fun o w1 => rV o (K (.inl (some (vI x4_))) w1)))) ∧ (¬ 0 ≤ (lCmp x2_ 2147483648) → (Cal g LC jTe_put d [vA 2, vI 3, vI x1_, vI x4_, vI (l2iF x2_)] w (fun o w2 => rV o (K (.inl (some (vI x4_))) w2)))))) ∧ (¬ (w 2 1) ≤ x4_ → ((0 ≤ x4_ ∧ x4_ < 4000) ∧ (Cal g LC jTe_isDigit d [vI (w 3 x4_.toNat)] w (fun o w3 => rI o (fun x4 => (x4 = 0 → ((0 ≤ (lCmp x2_ 2147483648) → (Cal g LC jTe_put d [vA 2, vI 1, vI x1_, vI x4_, vI (l2iF x2_)] w3 (fun o w5 => rV o (K (.inl (some (vI x4_))) w5)))) ∧ (¬ 0 ≤ (lCmp x2_ 2147483648) → (Cal g LC jTe_put d [vA 2, vI 3, vI x1_, vI x4_, vI (l2iF x2_)] w3 (fun o w6 => rV o (K (.inl (some (vI x4_))) w6)))))) ∧ (¬ x4 = 0 → ((0 ≤ x4_ ∧ x4_ < 4000) ∧ (Cal g LC jMt_min_2 d [vL (lAdd (lMul x2_ 10) (wr ((w3 3 x4_.toNat) - 48))), vL 2147483648] w3 (fun o w7 => rL o (fun x8 => V g LC jTe_cutNumber (d + 1) K 5 [(0, vA 2), (1, vI x1_), (2, vL x8), (4, vI (wr (x4_ + 1)))] [] w7))))))))))) : V g LC jTe_cutNumber (d + 1) K 5 [(0, vA 2), (1, vI x1_), (2, vL x2_), (4, vI x4_)] [] w := by
  refine v_iload (pc := 5) d_Te_cutNumber_5 (.tail _ (.tail _ (.tail _ (.head _)))) ?_
  refine v_aload_n (pc := 7) d_Te_cutNumber_7 rfl (.head _) ?_
  refine v_geti (pc := 8) (x := (w 2 1)) d_Te_cutNumber_8 fl_Te_35 cC_2.1 cC_2.2 (Or.inl rfl) rfl ?_
  refine v_icmpge (pc := 11) (tgt := 57) d_Te_cutNumber_11 (by decide) (fun c => ?_) (fun c => ?_)
  · replace h := h.1 c
    refine v_aload_n (pc := 57) d_Te_cutNumber_57 rfl (.head _) ?_
    refine v_lload_n (pc := 58) d_Te_cutNumber_58 rfl (.tail _ (.tail _ (.head _))) ?_
    refine v_ldc2 (pc := 59) (n := 2147483648) d_Te_cutNumber_59 (by decide) (mt_3 165 rfl rfl) ?_
    refine v_lcmp (pc := 62) d_Te_cutNumber_62 ?_
    refine v_ifge (pc := 63) (tgt := 70) d_Te_cutNumber_63 (by decide) (fun c => ?_) (fun c => ?_)
    · replace h := h.1 c
      refine v_iconst (pc := 70) d_Te_cutNumber_70 (by decide) ?_
      refine v_iload_n (pc := 71) d_Te_cutNumber_71 rfl (.tail _ (.head _)) ?_
      refine v_iload (pc := 72) d_Te_cutNumber_72 (.tail _ (.tail _ (.tail _ (.head _)))) ?_
      refine v_lload_n (pc := 74) d_Te_cutNumber_74 rfl (.tail _ (.tail _ (.head _))) ?_
      refine v_l2i (pc := 75) d_Te_cutNumber_75 ?_
      refine v_callV (pc := 76) (J' := jTe_put) (d' := d) (o := 2) (ci := 9) (N := 7) (T := cT9) (As := [vI 1, vI x1_, vI x4_, vI (l2iF x2_)]) d_Te_cutNumber_76 ml_Te_58 cC_2.1 cC_2.2 (by decide) rfl rfl (Nat.le_of_ble_eq_true rfl) (Nat.le_refl _) rfl (Cal.weak h (fun o w1 h => ?_))
      rcases rV_of h with ⟨rfl, h⟩
      refine v_iload (pc := 79) d_Te_cutNumber_79 (.tail _ (.tail _ (.tail _ (.head _)))) ?_
      exact v_iret (pc := 81) d_Te_cutNumber_81 rfl h
    · replace h := h.2 c
      refine v_iconst (pc := 66) d_Te_cutNumber_66 (by decide) ?_
      refine v_goto (pc := 67) (tgt := 71) d_Te_cutNumber_67 (by decide) ?_
      refine v_iload_n (pc := 71) d_Te_cutNumber_71 rfl (.tail _ (.head _)) ?_
      refine v_iload (pc := 72) d_Te_cutNumber_72 (.tail _ (.tail _ (.tail _ (.head _)))) ?_
      refine v_lload_n (pc := 74) d_Te_cutNumber_74 rfl (.tail _ (.tail _ (.head _))) ?_
      refine v_l2i (pc := 75) d_Te_cutNumber_75 ?_
      refine v_callV (pc := 76) (J' := jTe_put) (d' := d) (o := 2) (ci := 9) (N := 7) (T := cT9) (As := [vI 3, vI x1_, vI x4_, vI (l2iF x2_)]) d_Te_cutNumber_76 ml_Te_58 cC_2.1 cC_2.2 (by decide) rfl rfl (Nat.le_of_ble_eq_true rfl) (Nat.le_refl _) rfl (Cal.weak h (fun o w2 h => ?_))
      rcases rV_of h with ⟨rfl, h⟩
      refine v_iload (pc := 79) d_Te_cutNumber_79 (.tail _ (.tail _ (.tail _ (.head _)))) ?_
      exact v_iret (pc := 81) d_Te_cutNumber_81 rfl h
  · replace h := h.2 c
    refine v_aload_n (pc := 14) d_Te_cutNumber_14 rfl (.head _) ?_
    refine v_getr (C := "") (pc := 15) (r := 3) d_Te_cutNumber_15 fl_Te_9 cC_2.1 cC_2.2 (Or.inr ⟨_, rfl⟩) rC_2_0 ?_
    refine v_iload (pc := 18) d_Te_cutNumber_18 (.tail _ (.tail _ (.tail _ (.head _)))) ?_
    refine v_bald (pc := 20) (x := (w 3 x4_.toNat)) d_Te_cutNumber_20 cC_3.1 cC_3.2 rfl h.1 ?_
    replace h := h.2
    refine v_callS (pc := 21) (J' := jTe_isDigit) (d' := d) (As := [vI (w 3 x4_.toNat)]) d_Te_cutNumber_21 ml_Te_69 rfl (Nat.le_of_ble_eq_true rfl) (Nat.le_refl _) rfl (Cal.weak h (fun o w3 h => ?_))
    rcases rI_of h with ⟨x4, rfl, h⟩
    refine v_ifeq (pc := 24) (tgt := 57) d_Te_cutNumber_24 (by decide) (fun c => ?_) (fun c => ?_)
    · replace h := h.1 c
      refine v_aload_n (pc := 57) d_Te_cutNumber_57 rfl (.head _) ?_
      refine v_lload_n (pc := 58) d_Te_cutNumber_58 rfl (.tail _ (.tail _ (.head _))) ?_
      refine v_ldc2 (pc := 59) (n := 2147483648) d_Te_cutNumber_59 (by decide) (mt_3 165 rfl rfl) ?_
      refine v_lcmp (pc := 62) d_Te_cutNumber_62 ?_
      refine v_ifge (pc := 63) (tgt := 70) d_Te_cutNumber_63 (by decide) (fun c => ?_) (fun c => ?_)
      · replace h := h.1 c
        refine v_iconst (pc := 70) d_Te_cutNumber_70 (by decide) ?_
        refine v_iload_n (pc := 71) d_Te_cutNumber_71 rfl (.tail _ (.head _)) ?_
        refine v_iload (pc := 72) d_Te_cutNumber_72 (.tail _ (.tail _ (.tail _ (.head _)))) ?_
        refine v_lload_n (pc := 74) d_Te_cutNumber_74 rfl (.tail _ (.tail _ (.head _))) ?_
        refine v_l2i (pc := 75) d_Te_cutNumber_75 ?_
        refine v_callV (pc := 76) (J' := jTe_put) (d' := d) (o := 2) (ci := 9) (N := 7) (T := cT9) (As := [vI 1, vI x1_, vI x4_, vI (l2iF x2_)]) d_Te_cutNumber_76 ml_Te_58 cC_2.1 cC_2.2 (by decide) rfl rfl (Nat.le_of_ble_eq_true rfl) (Nat.le_refl _) rfl (Cal.weak h (fun o w5 h => ?_))
        rcases rV_of h with ⟨rfl, h⟩
        refine v_iload (pc := 79) d_Te_cutNumber_79 (.tail _ (.tail _ (.tail _ (.head _)))) ?_
        exact v_iret (pc := 81) d_Te_cutNumber_81 rfl h
      · replace h := h.2 c
        refine v_iconst (pc := 66) d_Te_cutNumber_66 (by decide) ?_
        refine v_goto (pc := 67) (tgt := 71) d_Te_cutNumber_67 (by decide) ?_
        refine v_iload_n (pc := 71) d_Te_cutNumber_71 rfl (.tail _ (.head _)) ?_
        refine v_iload (pc := 72) d_Te_cutNumber_72 (.tail _ (.tail _ (.tail _ (.head _)))) ?_
        refine v_lload_n (pc := 74) d_Te_cutNumber_74 rfl (.tail _ (.tail _ (.head _))) ?_
        refine v_l2i (pc := 75) d_Te_cutNumber_75 ?_
        refine v_callV (pc := 76) (J' := jTe_put) (d' := d) (o := 2) (ci := 9) (N := 7) (T := cT9) (As := [vI 3, vI x1_, vI x4_, vI (l2iF x2_)]) d_Te_cutNumber_76 ml_Te_58 cC_2.1 cC_2.2 (by decide) rfl rfl (Nat.le_of_ble_eq_true rfl) (Nat.le_refl _) rfl (Cal.weak h (fun o w6 h => ?_))
        rcases rV_of h with ⟨rfl, h⟩
        refine v_iload (pc := 79) d_Te_cutNumber_79 (.tail _ (.tail _ (.tail _ (.head _)))) ?_
        exact v_iret (pc := 81) d_Te_cutNumber_81 rfl h
    · replace h := h.2 c
      refine v_lload_n (pc := 27) d_Te_cutNumber_27 rfl (.tail _ (.tail _ (.head _))) ?_
      refine v_ldc2 (pc := 28) (n := 10) d_Te_cutNumber_28 (by decide) (mt_3 164 rfl rfl) ?_
      refine v_lmul (pc := 31) d_Te_cutNumber_31 ?_
      refine v_aload_n (pc := 32) d_Te_cutNumber_32 rfl (.head _) ?_
      refine v_getr (C := "") (pc := 33) (r := 3) d_Te_cutNumber_33 fl_Te_9 cC_2.1 cC_2.2 (Or.inr ⟨_, rfl⟩) rC_2_0 ?_
      refine v_iload (pc := 36) d_Te_cutNumber_36 (.tail _ (.tail _ (.tail _ (.head _)))) ?_
      refine v_bald (pc := 38) (x := (w3 3 x4_.toNat)) d_Te_cutNumber_38 cC_3.1 cC_3.2 rfl h.1 ?_
      replace h := h.2
      refine v_bipush (pc := 39) d_Te_cutNumber_39 (by decide) rfl ?_
      refine v_isub (pc := 41) d_Te_cutNumber_41 ?_
      refine v_i2l (pc := 42) d_Te_cutNumber_42 ?_
      refine v_ladd (pc := 43) d_Te_cutNumber_43 ?_
      refine v_ldc2 (pc := 44) (n := 2147483648) d_Te_cutNumber_44 (by decide) (mt_3 165 rfl rfl) ?_
      refine v_callS (pc := 47) (J' := jMt_min_2) (d' := d) (As := [vL (lAdd (lMul x2_ 10) (wr ((w3 3 x4_.toNat) - 48))), vL 2147483648]) d_Te_cutNumber_47 ml_Te_85 rfl (Nat.le_of_ble_eq_true rfl) (Nat.le_refl _) rfl (Cal.weak h (fun o w7 h => ?_))
      obtain ⟨x8, rfl, h⟩ := rL_of h
      refine v_lstore_n (pc := 50) (ls' := [(2, vL x8), (0, vA 2), (1, vI x1_), (4, vI x4_)]) d_Te_cutNumber_50 rfl (by decide) rfl ?_
      refine v_iinc (pc := 51) (ls' := [(4, vI (wr (x4_ + 1))), (2, vL x8), (0, vA 2), (1, vI x1_)]) d_Te_cutNumber_51 (.tail _ (.tail _ (.tail _ (.head _)))) (by decide) rfl ?_
      refine v_goto (pc := 54) (tgt := 5) d_Te_cutNumber_54 (by decide) ?_
      exact v_sub (List.forall_mem_cons.mpr ⟨(.tail _ (.tail _ (.head _))), (List.forall_mem_cons.mpr ⟨(.tail _ (.tail _ (.tail _ (.head _)))), (List.forall_mem_cons.mpr ⟨(.tail _ (.head _)), (List.forall_mem_cons.mpr ⟨(.head _), (fun _ z => absurd z List.not_mem_nil)⟩)⟩)⟩)⟩) h
theorem d_Te_cutSign_0 : decode jTe_cutSign.cc 0 = .ok (.aload_n 0, 1) := by decide +kernel
theorem d_Te_cutSign_1 : decode jTe_cutSign.cc 1 = .ok (.iload_n 1, 1) := by decide +kernel
theorem d_Te_cutSign_2 : decode jTe_cutSign.cc 2 = .ok (.invokevirtual 88, 3) := by decide +kernel
theorem d_Te_cutSign_5 : decode jTe_cutSign.cc 5 = .ok (.istore_n 2, 1) := by decide +kernel
theorem d_Te_cutSign_6 : decode jTe_cutSign.cc 6 = .ok (.iload_n 2, 1) := by decide +kernel
theorem d_Te_cutSign_7 : decode jTe_cutSign.cc 7 = .ok (.ifCond .lt 20, 3) := by decide +kernel
theorem d_Te_cutSign_10 : decode jTe_cutSign.cc 10 = .ok (.aload_n 0, 1) := by decide +kernel
theorem d_Te_cutSign_11 : decode jTe_cutSign.cc 11 = .ok (.bipush 21, 2) := by decide +kernel
theorem d_Te_cutSign_13 : decode jTe_cutSign.cc 13 = .ok (.iload_n 2, 1) := by decide +kernel
theorem d_Te_cutSign_14 : decode jTe_cutSign.cc 14 = .ok (.iadd, 1) := by decide +kernel
theorem d_Te_cutSign_15 : decode jTe_cutSign.cc 15 = .ok (.iload_n 1, 1) := by decide +kernel
theorem d_Te_cutSign_16 : decode jTe_cutSign.cc 16 = .ok (.iload_n 1, 1) := by decide +kernel
theorem d_Te_cutSign_17 : decode jTe_cutSign.cc 17 = .ok (.iconst 2, 1) := by decide +kernel
theorem d_Te_cutSign_18 : decode jTe_cutSign.cc 18 = .ok (.iadd, 1) := by decide +kernel
theorem d_Te_cutSign_19 : decode jTe_cutSign.cc 19 = .ok (.iconst 0, 1) := by decide +kernel
theorem d_Te_cutSign_20 : decode jTe_cutSign.cc 20 = .ok (.invokevirtual 58, 3) := by decide +kernel
theorem d_Te_cutSign_23 : decode jTe_cutSign.cc 23 = .ok (.iload_n 1, 1) := by decide +kernel
theorem d_Te_cutSign_24 : decode jTe_cutSign.cc 24 = .ok (.iconst 2, 1) := by decide +kernel
theorem d_Te_cutSign_25 : decode jTe_cutSign.cc 25 = .ok (.iadd, 1) := by decide +kernel
theorem d_Te_cutSign_26 : decode jTe_cutSign.cc 26 = .ok (.ireturn, 1) := by decide +kernel
theorem d_Te_cutSign_27 : decode jTe_cutSign.cc 27 = .ok (.ldc 91, 2) := by decide +kernel
theorem d_Te_cutSign_29 : decode jTe_cutSign.cc 29 = .ok (.aload_n 0, 1) := by decide +kernel
theorem d_Te_cutSign_30 : decode jTe_cutSign.cc 30 = .ok (.getfield 9, 3) := by decide +kernel
theorem d_Te_cutSign_33 : decode jTe_cutSign.cc 33 = .ok (.iload_n 1, 1) := by decide +kernel
theorem d_Te_cutSign_34 : decode jTe_cutSign.cc 34 = .ok (.baload, 1) := by decide +kernel
theorem d_Te_cutSign_35 : decode jTe_cutSign.cc 35 = .ok (.sipush 255, 3) := by decide +kernel
theorem d_Te_cutSign_38 : decode jTe_cutSign.cc 38 = .ok (.iand, 1) := by decide +kernel
theorem d_Te_cutSign_39 : decode jTe_cutSign.cc 39 = .ok (.i2c, 1) := by decide +kernel
theorem d_Te_cutSign_40 : decode jTe_cutSign.cc 40 = .ok (.invokevirtual 93, 3) := by decide +kernel
theorem d_Te_cutSign_43 : decode jTe_cutSign.cc 43 = .ok (.istore_n 3, 1) := by decide +kernel
theorem d_Te_cutSign_44 : decode jTe_cutSign.cc 44 = .ok (.aload_n 0, 1) := by decide +kernel
theorem d_Te_cutSign_45 : decode jTe_cutSign.cc 45 = .ok (.iload_n 3, 1) := by decide +kernel
theorem d_Te_cutSign_46 : decode jTe_cutSign.cc 46 = .ok (.ifCond .ge 7, 3) := by decide +kernel
theorem d_Te_cutSign_49 : decode jTe_cutSign.cc 49 = .ok (.iconst 1, 1) := by decide +kernel
theorem d_Te_cutSign_50 : decode jTe_cutSign.cc 50 = .ok (.goto 6, 3) := by decide +kernel
theorem d_Te_cutSign_53 : decode jTe_cutSign.cc 53 = .ok (.iconst 4, 1) := by decide +kernel
theorem d_Te_cutSign_54 : decode jTe_cutSign.cc 54 = .ok (.iload_n 3, 1) := by decide +kernel
theorem d_Te_cutSign_55 : decode jTe_cutSign.cc 55 = .ok (.iadd, 1) := by decide +kernel
theorem d_Te_cutSign_56 : decode jTe_cutSign.cc 56 = .ok (.iload_n 1, 1) := by decide +kernel
theorem d_Te_cutSign_57 : decode jTe_cutSign.cc 57 = .ok (.iload_n 1, 1) := by decide +kernel
theorem d_Te_cutSign_58 : decode jTe_cutSign.cc 58 = .ok (.iconst 1, 1) := by decide +kernel
theorem d_Te_cutSign_59 : decode jTe_cutSign.cc 59 = .ok (.iadd, 1) := by decide +kernel
theorem d_Te_cutSign_60 : decode jTe_cutSign.cc 60 = .ok (.iconst 0, 1) := by decide +kernel
theorem d_Te_cutSign_61 : decode jTe_cutSign.cc 61 = .ok (.invokevirtual 58, 3) := by decide +kernel
theorem d_Te_cutSign_64 : decode jTe_cutSign.cc 64 = .ok (.iload_n 1, 1) := by decide +kernel
theorem d_Te_cutSign_65 : decode jTe_cutSign.cc 65 = .ok (.iconst 1, 1) := by decide +kernel
theorem d_Te_cutSign_66 : decode jTe_cutSign.cc 66 = .ok (.iadd, 1) := by decide +kernel
theorem d_Te_cutSign_67 : decode jTe_cutSign.cc 67 = .ok (.ireturn, 1) := by decide +kernel
set_option maxHeartbeats 4000000 in
theorem s_Te_cutSign {g : Mg} {d : Nat} {K : Ou → Wd → Prop} {w : Wd} {p1 : Int} (h : Cal g LC jTe_pairAt d [vA 2, vI p1] w (fun o w1 => rI o (fun x2 => (x2 < 0 → ((0 ≤ p1 ∧ p1 < 4000) ∧ (Cal g LC jSg_indexOf d [vA 1001, vI (i2cF (iAnd (w1 3 p1.toNat) 255))] w1 (fun o w3 => rI o (fun x4 => (0 ≤ x4 → (Cal g LC jTe_put d [vA 2, vI (wr (4 + x4)), vI p1, vI (wr (p1 + 1)), vI 0] w3 (fun o w5 => rV o (K (.inl (some (vI (wr (p1 + 1))))) w5)))) ∧ (¬ 0 ≤ x4 → (Cal g LC jTe_put d [vA 2, vI 1, vI p1, vI (wr (p1 + 1)), vI 0] w3 (fun o w6 => rV o (K (.inl (some (vI (wr (p1 + 1))))) w6))))))))) ∧ (¬ x2 < 0 → (Cal g LC jTe_put d [vA 2, vI (wr (21 + x2)), vI p1, vI (wr (p1 + 2)), vI 0] w1 (fun o w7 => rV o (K (.inl (some (vI (wr (p1 + 2))))) w7))))))) : V g LC jTe_cutSign (d + 1) K 0 [(0, vA 2), (1, vI p1)] [] w := by
  refine v_aload_n (pc := 0) d_Te_cutSign_0 rfl (.head _) ?_
  refine v_iload_n (pc := 1) d_Te_cutSign_1 rfl (.tail _ (.head _)) ?_
  refine v_callV (pc := 2) (J' := jTe_pairAt) (d' := d) (o := 2) (ci := 9) (N := 7) (T := cT9) (As := [vI p1]) d_Te_cutSign_2 ml_Te_88 cC_2.1 cC_2.2 (by decide) rfl rfl (Nat.le_of_ble_eq_true rfl) (Nat.le_refl _) rfl (Cal.weak h (fun o w1 h => ?_))
  rcases rI_of h with ⟨x2, rfl, h⟩
  refine v_istore_n (pc := 5) (ls' := [(2, vI x2), (0, vA 2), (1, vI p1)]) d_Te_cutSign_5 rfl (by decide) rfl ?_
  refine v_iload_n (pc := 6) d_Te_cutSign_6 rfl (.head _) ?_
  refine v_iflt (pc := 7) (tgt := 27) d_Te_cutSign_7 (by decide) (fun c => ?_) (fun c => ?_)
  · replace h := h.1 c
    refine v_ldcs (pc := 27) (n := 0) (tx := ";{}(),.:=<>+-*/%!") d_Te_cutSign_27 (by decide +kernel) ?_
    refine v_aload_n (pc := 29) d_Te_cutSign_29 rfl (.tail _ (.head _)) ?_
    refine v_getr (C := "") (pc := 30) (r := 3) d_Te_cutSign_30 fl_Te_9 cC_2.1 cC_2.2 (Or.inr ⟨_, rfl⟩) rC_2_0 ?_
    refine v_iload_n (pc := 33) d_Te_cutSign_33 rfl (.tail _ (.tail _ (.head _))) ?_
    refine v_bald (pc := 34) (x := (w1 3 p1.toNat)) d_Te_cutSign_34 cC_3.1 cC_3.2 rfl h.1 ?_
    replace h := h.2
    refine v_sipush (pc := 35) d_Te_cutSign_35 (by decide) rfl ?_
    refine v_iand (pc := 38) d_Te_cutSign_38 ?_
    refine v_i2c (pc := 39) d_Te_cutSign_39 ?_
    refine v_callG (pc := 40) (J' := jSg_indexOf) (d' := d) (o := 1001) (As := [vI (i2cF (iAnd (w1 3 p1.toNat) 255))]) d_Te_cutSign_40 ml_Te_93 rfl (by decide) rfl (Nat.le_of_ble_eq_true rfl) (Nat.le_refl _) rfl (Cal.weak h (fun o w3 h => ?_))
    rcases rI_of h with ⟨x4, rfl, h⟩
    refine v_istore_n (pc := 43) (ls' := [(3, vI x4), (2, vI x2), (0, vA 2), (1, vI p1)]) d_Te_cutSign_43 rfl (by decide) rfl ?_
    refine v_aload_n (pc := 44) d_Te_cutSign_44 rfl (.tail _ (.tail _ (.head _))) ?_
    refine v_iload_n (pc := 45) d_Te_cutSign_45 rfl (.head _) ?_
    refine v_ifge (pc := 46) (tgt := 53) d_Te_cutSign_46 (by decide) (fun c => ?_) (fun c => ?_)
    · replace h := h.1 c
      refine v_iconst (pc := 53) d_Te_cutSign_53 (by decide) ?_
      refine v_iload_n (pc := 54) d_Te_cutSign_54 rfl (.head _) ?_
      refine v_iadd (pc := 55) d_Te_cutSign_55 ?_
      refine v_iload_n (pc := 56) d_Te_cutSign_56 rfl (.tail _ (.tail _ (.tail _ (.head _)))) ?_
      refine v_iload_n (pc := 57) d_Te_cutSign_57 rfl (.tail _ (.tail _ (.tail _ (.head _)))) ?_
      refine v_iconst (pc := 58) d_Te_cutSign_58 (by decide) ?_
      refine v_iadd (pc := 59) d_Te_cutSign_59 ?_
      refine v_iconst (pc := 60) d_Te_cutSign_60 (by decide) ?_
      refine v_callV (pc := 61) (J' := jTe_put) (d' := d) (o := 2) (ci := 9) (N := 7) (T := cT9) (As := [vI (wr (4 + x4)), vI p1, vI (wr (p1 + 1)), vI 0]) d_Te_cutSign_61 ml_Te_58 cC_2.1 cC_2.2 (by decide) rfl rfl (Nat.le_of_ble_eq_true rfl) (Nat.le_refl _) rfl (Cal.weak h (fun o w5 h => ?_))
      rcases rV_of h with ⟨rfl, h⟩
      refine v_iload_n (pc := 64) d_Te_cutSign_64 rfl (.tail _ (.tail _ (.tail _ (.head _)))) ?_
      refine v_iconst (pc := 65) d_Te_cutSign_65 (by decide) ?_
      refine v_iadd (pc := 66) d_Te_cutSign_66 ?_
      exact v_iret (pc := 67) d_Te_cutSign_67 rfl h
    · replace h := h.2 c
      refine v_iconst (pc := 49) d_Te_cutSign_49 (by decide) ?_
      refine v_goto (pc := 50) (tgt := 56) d_Te_cutSign_50 (by decide) ?_
      refine v_iload_n (pc := 56) d_Te_cutSign_56 rfl (.tail _ (.tail _ (.tail _ (.head _)))) ?_
      refine v_iload_n (pc := 57) d_Te_cutSign_57 rfl (.tail _ (.tail _ (.tail _ (.head _)))) ?_
      refine v_iconst (pc := 58) d_Te_cutSign_58 (by decide) ?_
      refine v_iadd (pc := 59) d_Te_cutSign_59 ?_
      refine v_iconst (pc := 60) d_Te_cutSign_60 (by decide) ?_
      refine v_callV (pc := 61) (J' := jTe_put) (d' := d) (o := 2) (ci := 9) (N := 7) (T := cT9) (As := [vI 1, vI p1, vI (wr (p1 + 1)), vI 0]) d_Te_cutSign_61 ml_Te_58 cC_2.1 cC_2.2 (by decide) rfl rfl (Nat.le_of_ble_eq_true rfl) (Nat.le_refl _) rfl (Cal.weak h (fun o w6 h => ?_))
      rcases rV_of h with ⟨rfl, h⟩
      refine v_iload_n (pc := 64) d_Te_cutSign_64 rfl (.tail _ (.tail _ (.tail _ (.head _)))) ?_
      refine v_iconst (pc := 65) d_Te_cutSign_65 (by decide) ?_
      refine v_iadd (pc := 66) d_Te_cutSign_66 ?_
      exact v_iret (pc := 67) d_Te_cutSign_67 rfl h
  · replace h := h.2 c
    refine v_aload_n (pc := 10) d_Te_cutSign_10 rfl (.tail _ (.head _)) ?_
    refine v_bipush (pc := 11) d_Te_cutSign_11 (by decide) rfl ?_
    refine v_iload_n (pc := 13) d_Te_cutSign_13 rfl (.head _) ?_
    refine v_iadd (pc := 14) d_Te_cutSign_14 ?_
    refine v_iload_n (pc := 15) d_Te_cutSign_15 rfl (.tail _ (.tail _ (.head _))) ?_
    refine v_iload_n (pc := 16) d_Te_cutSign_16 rfl (.tail _ (.tail _ (.head _))) ?_
    refine v_iconst (pc := 17) d_Te_cutSign_17 (by decide) ?_
    refine v_iadd (pc := 18) d_Te_cutSign_18 ?_
    refine v_iconst (pc := 19) d_Te_cutSign_19 (by decide) ?_
    refine v_callV (pc := 20) (J' := jTe_put) (d' := d) (o := 2) (ci := 9) (N := 7) (T := cT9) (As := [vI (wr (21 + x2)), vI p1, vI (wr (p1 + 2)), vI 0]) d_Te_cutSign_20 ml_Te_58 cC_2.1 cC_2.2 (by decide) rfl rfl (Nat.le_of_ble_eq_true rfl) (Nat.le_refl _) rfl (Cal.weak h (fun o w7 h => ?_))
    rcases rV_of h with ⟨rfl, h⟩
    refine v_iload_n (pc := 23) d_Te_cutSign_23 rfl (.tail _ (.tail _ (.head _))) ?_
    refine v_iconst (pc := 24) d_Te_cutSign_24 (by decide) ?_
    refine v_iadd (pc := 25) d_Te_cutSign_25 ?_
    exact v_iret (pc := 26) d_Te_cutSign_26 rfl h
theorem d_Te_pairAt_0 : decode jTe_pairAt.cc 0 = .ok (.iload_n 1, 1) := by decide +kernel
theorem d_Te_pairAt_1 : decode jTe_pairAt.cc 1 = .ok (.iconst 1, 1) := by decide +kernel
theorem d_Te_pairAt_2 : decode jTe_pairAt.cc 2 = .ok (.iadd, 1) := by decide +kernel
theorem d_Te_pairAt_3 : decode jTe_pairAt.cc 3 = .ok (.aload_n 0, 1) := by decide +kernel
theorem d_Te_pairAt_4 : decode jTe_pairAt.cc 4 = .ok (.getfield 35, 3) := by decide +kernel
theorem d_Te_pairAt_7 : decode jTe_pairAt.cc 7 = .ok (.if_icmp .lt 5, 3) := by decide +kernel
theorem d_Te_pairAt_10 : decode jTe_pairAt.cc 10 = .ok (.iconst (-1), 1) := by decide +kernel
theorem d_Te_pairAt_11 : decode jTe_pairAt.cc 11 = .ok (.ireturn, 1) := by decide +kernel
theorem d_Te_pairAt_12 : decode jTe_pairAt.cc 12 = .ok (.iconst 0, 1) := by decide +kernel
theorem d_Te_pairAt_13 : decode jTe_pairAt.cc 13 = .ok (.istore_n 2, 1) := by decide +kernel
theorem d_Te_pairAt_14 : decode jTe_pairAt.cc 14 = .ok (.iload_n 2, 1) := by decide +kernel
theorem d_Te_pairAt_15 : decode jTe_pairAt.cc 15 = .ok (.iconst 1, 1) := by decide +kernel
theorem d_Te_pairAt_16 : decode jTe_pairAt.cc 16 = .ok (.iadd, 1) := by decide +kernel
theorem d_Te_pairAt_17 : decode jTe_pairAt.cc 17 = .ok (.ldc 98, 2) := by decide +kernel
theorem d_Te_pairAt_19 : decode jTe_pairAt.cc 19 = .ok (.invokevirtual 100, 3) := by decide +kernel
theorem d_Te_pairAt_22 : decode jTe_pairAt.cc 22 = .ok (.if_icmp .ge 47, 3) := by decide +kernel
theorem d_Te_pairAt_25 : decode jTe_pairAt.cc 25 = .ok (.aload_n 0, 1) := by decide +kernel
theorem d_Te_pairAt_26 : decode jTe_pairAt.cc 26 = .ok (.getfield 9, 3) := by decide +kernel
theorem d_Te_pairAt_29 : decode jTe_pairAt.cc 29 = .ok (.iload_n 1, 1) := by decide +kernel
theorem d_Te_pairAt_30 : decode jTe_pairAt.cc 30 = .ok (.baload, 1) := by decide +kernel
theorem d_Te_pairAt_31 : decode jTe_pairAt.cc 31 = .ok (.ldc 98, 2) := by decide +kernel
theorem d_Te_pairAt_33 : decode jTe_pairAt.cc 33 = .ok (.iload_n 2, 1) := by decide +kernel
theorem d_Te_pairAt_34 : decode jTe_pairAt.cc 34 = .ok (.invokevirtual 103, 3) := by decide +kernel
theorem d_Te_pairAt_37 : decode jTe_pairAt.cc 37 = .ok (.if_icmp .ne 26, 3) := by decide +kernel
theorem d_Te_pairAt_40 : decode jTe_pairAt.cc 40 = .ok (.aload_n 0, 1) := by decide +kernel
theorem d_Te_pairAt_41 : decode jTe_pairAt.cc 41 = .ok (.getfield 9, 3) := by decide +kernel
theorem d_Te_pairAt_44 : decode jTe_pairAt.cc 44 = .ok (.iload_n 1, 1) := by decide +kernel
theorem d_Te_pairAt_45 : decode jTe_pairAt.cc 45 = .ok (.iconst 1, 1) := by decide +kernel
theorem d_Te_pairAt_46 : decode jTe_pairAt.cc 46 = .ok (.iadd, 1) := by decide +kernel
theorem d_Te_pairAt_47 : decode jTe_pairAt.cc 47 = .ok (.baload, 1) := by decide +kernel
theorem d_Te_pairAt_48 : decode jTe_pairAt.cc 48 = .ok (.ldc 98, 2) := by decide +kernel
theorem d_Te_pairAt_50 : decode jTe_pairAt.cc 50 = .ok (.iload_n 2, 1) := by decide +kernel
theorem d_Te_pairAt_51 : decode jTe_pairAt.cc 51 = .ok (.iconst 1, 1) := by decide +kernel
theorem d_Te_pairAt_52 : decode jTe_pairAt.cc 52 = .ok (.iadd, 1) := by decide +kernel
theorem d_Te_pairAt_53 : decode jTe_pairAt.cc 53 = .ok (.invokevirtual 103, 3) := by decide +kernel
theorem d_Te_pairAt_56 : decode jTe_pairAt.cc 56 = .ok (.if_icmp .ne 7, 3) := by decide +kernel
theorem d_Te_pairAt_59 : decode jTe_pairAt.cc 59 = .ok (.iload_n 2, 1) := by decide +kernel
theorem d_Te_pairAt_60 : decode jTe_pairAt.cc 60 = .ok (.iconst 2, 1) := by decide +kernel
theorem d_Te_pairAt_61 : decode jTe_pairAt.cc 61 = .ok (.idiv, 1) := by decide +kernel
theorem d_Te_pairAt_62 : decode jTe_pairAt.cc 62 = .ok (.ireturn, 1) := by decide +kernel
theorem d_Te_pairAt_63 : decode jTe_pairAt.cc 63 = .ok (.iinc 2 2, 3) := by decide +kernel
theorem d_Te_pairAt_66 : decode jTe_pairAt.cc 66 = .ok (.goto (-52), 3) := by decide +kernel
theorem d_Te_pairAt_69 : decode jTe_pairAt.cc 69 = .ok (.iconst (-1), 1) := by decide +kernel
theorem d_Te_pairAt_70 : decode jTe_pairAt.cc 70 = .ok (.ireturn, 1) := by decide +kernel
set_option maxHeartbeats 4000000 in
theorem s_Te_pairAt {g : Mg} {d : Nat} {K : Ou → Wd → Prop} {w : Wd} {p1 : Int} (h : ((wr (p1 + 1)) < (w 2 1) → (V g LC jTe_pairAt (d + 1) K 14 [(0, vA 2), (1, vI p1), (2, vI 0)] [] w)) ∧ (¬ (wr (p1 + 1)) < (w 2 1) → (K (.inl (some (vI (-1)))) w))) : V g LC jTe_pairAt (d + 1) K 0 [(0, vA 2), (1, vI p1)] [] w := by
  refine v_iload_n (pc := 0) d_Te_pairAt_0 rfl (.tail _ (.head _)) ?_
  refine v_iconst (pc := 1) d_Te_pairAt_1 (by decide) ?_
  refine v_iadd (pc := 2) d_Te_pairAt_2 ?_
  refine v_aload_n (pc := 3) d_Te_pairAt_3 rfl (.head _) ?_
  refine v_geti (pc := 4) (x := (w 2 1)) d_Te_pairAt_4 fl_Te_35 cC_2.1 cC_2.2 (Or.inl rfl) rfl ?_
  refine v_icmplt (pc := 7) (tgt := 12) d_Te_pairAt_7 (by decide) (fun c => ?_) (fun c => ?_)
  · replace h := h.1 c
    refine v_iconst (pc := 12) d_Te_pairAt_12 (by decide) ?_
    refine v_istore_n (pc := 13) (ls' := [(2, vI 0), (0, vA 2), (1, vI p1)]) d_Te_pairAt_13 rfl (by decide) rfl ?_
    exact v_sub (List.forall_mem_cons.mpr ⟨(.tail _ (.head _)), (List.forall_mem_cons.mpr ⟨(.tail _ (.tail _ (.head _))), (List.forall_mem_cons.mpr ⟨(.head _), (fun _ z => absurd z List.not_mem_nil)⟩)⟩)⟩) h
  · replace h := h.2 c
    refine v_iconst (pc := 10) d_Te_pairAt_10 (by decide) ?_
    exact v_iret (pc := 11) d_Te_pairAt_11 rfl h
set_option maxHeartbeats 4000000 in
theorem s_Te_pairAt_14 {g : Mg} {d : Nat} {K : Ou → Wd → Prop} {w : Wd} {x1_ : Int} {x2_ : Int} (h : Cal g LC jSg_length d [vA 1002] w (fun o w1 => rI o (fun x2 => (x2 ≤ (wr (x2_ + 1)) → (K (.inl (some (vI (-1)))) w1)) ∧ (¬ x2 ≤ (wr (x2_ + 1)) → ((0 ≤ x1_ ∧ x1_ < 4000) ∧ (Cal g LC jSg_charAt d [vA 1002, vI x2_] w1 (fun o w3 => rI o (fun x4 => (¬ (w1 3 x1_.toNat) = x4 → (V g LC jTe_pairAt (d + 1) K 14 [(0, vA 2), (1, vI x1_), (2, vI (wr (x2_ + 2)))] [] w3)) ∧ ((w1 3 x1_.toNat) = x4 → ((0 ≤ (wr (x1_ + 1)) ∧ (wr (x1_ + 1)) < 4000) ∧ (Cal g LC jSg_charAt d [vA 1002, vI (wr (x2_ + 1))] w3 (fun o w5 => rI o (fun x6 => (¬ (w3 3 ((wr (x1_ + 1)).toNat)) = x6 → (V g LC jTe_pairAt (d + 1) K 14 [(0, vA 2), (1, vI x1_), (2, vI (wr (x2_ + 2)))] [] w5)) ∧ ((w3 3 ((wr (x1_ + 1)).toNat)) = x6 → (K (.inl (some (vI (iDiv x2_ 2)))) w5))))))))))))))) : V g LC jTe_pairAt (d + 1) K 14 [(0, vA 2), (1, vI x1_), (2, vI x2_)] [] w := by
  refine v_iload_n (pc := 14) d_Te_pairAt_14 rfl (.tail _ (.tail _ (.head _))) ?_
  refine v_iconst (pc := 15) d_Te_pairAt_15 (by decide) ?_
  refine v_iadd (pc := 16) d_Te_pairAt_16 ?_
  refine v_ldcs (pc := 17) (n := 1) (tx := "==!=<=>=&&||") d_Te_pairAt_17 (by decide +kernel) ?_
  refine v_callG (pc := 19) (J' := jSg_length) (d' := d) (o := 1002) (As := []) d_Te_pairAt_19 ml_Te_100 rfl (by decide) rfl (Nat.le_of_ble_eq_true rfl) (Nat.le_refl _) rfl (Cal.weak h (fun o w1 h => ?_))
  rcases rI_of h with ⟨x2, rfl, h⟩
  refine v_icmpge (pc := 22) (tgt := 69) d_Te_pairAt_22 (by decide) (fun c => ?_) (fun c => ?_)
  · replace h := h.1 c
    refine v_iconst (pc := 69) d_Te_pairAt_69 (by decide) ?_
    exact v_iret (pc := 70) d_Te_pairAt_70 rfl h
  · replace h := h.2 c
    refine v_aload_n (pc := 25) d_Te_pairAt_25 rfl (.head _) ?_
    refine v_getr (C := "") (pc := 26) (r := 3) d_Te_pairAt_26 fl_Te_9 cC_2.1 cC_2.2 (Or.inr ⟨_, rfl⟩) rC_2_0 ?_
    refine v_iload_n (pc := 29) d_Te_pairAt_29 rfl (.tail _ (.head _)) ?_
    refine v_bald (pc := 30) (x := (w1 3 x1_.toNat)) d_Te_pairAt_30 cC_3.1 cC_3.2 rfl h.1 ?_
    replace h := h.2
    refine v_ldcs (pc := 31) (n := 1) (tx := "==!=<=>=&&||") d_Te_pairAt_31 (by decide +kernel) ?_
    refine v_iload_n (pc := 33) d_Te_pairAt_33 rfl (.tail _ (.tail _ (.head _))) ?_
    refine v_callG (pc := 34) (J' := jSg_charAt) (d' := d) (o := 1002) (As := [vI x2_]) d_Te_pairAt_34 ml_Te_103 rfl (by decide) rfl (Nat.le_of_ble_eq_true rfl) (Nat.le_refl _) rfl (Cal.weak h (fun o w3 h => ?_))
    rcases rI_of h with ⟨x4, rfl, h⟩
    refine v_icmpne (pc := 37) (tgt := 63) d_Te_pairAt_37 (by decide) (fun c => ?_) (fun c => ?_)
    · replace h := h.1 c
      refine v_iinc (pc := 63) (ls' := [(2, vI (wr (x2_ + 2))), (0, vA 2), (1, vI x1_)]) d_Te_pairAt_63 (.tail _ (.tail _ (.head _))) (by decide) rfl ?_
      refine v_goto (pc := 66) (tgt := 14) d_Te_pairAt_66 (by decide) ?_
      exact v_sub (List.forall_mem_cons.mpr ⟨(.tail _ (.head _)), (List.forall_mem_cons.mpr ⟨(.tail _ (.tail _ (.head _))), (List.forall_mem_cons.mpr ⟨(.head _), (fun _ z => absurd z List.not_mem_nil)⟩)⟩)⟩) h
    · replace h := h.2 c
      refine v_aload_n (pc := 40) d_Te_pairAt_40 rfl (.head _) ?_
      refine v_getr (C := "") (pc := 41) (r := 3) d_Te_pairAt_41 fl_Te_9 cC_2.1 cC_2.2 (Or.inr ⟨_, rfl⟩) rC_2_0 ?_
      refine v_iload_n (pc := 44) d_Te_pairAt_44 rfl (.tail _ (.head _)) ?_
      refine v_iconst (pc := 45) d_Te_pairAt_45 (by decide) ?_
      refine v_iadd (pc := 46) d_Te_pairAt_46 ?_
      refine v_bald (pc := 47) (x := (w3 3 ((wr (x1_ + 1)).toNat))) d_Te_pairAt_47 cC_3.1 cC_3.2 rfl h.1 ?_
      replace h := h.2
      refine v_ldcs (pc := 48) (n := 1) (tx := "==!=<=>=&&||") d_Te_pairAt_48 (by decide +kernel) ?_
      refine v_iload_n (pc := 50) d_Te_pairAt_50 rfl (.tail _ (.tail _ (.head _))) ?_
      refine v_iconst (pc := 51) d_Te_pairAt_51 (by decide) ?_
      refine v_iadd (pc := 52) d_Te_pairAt_52 ?_
      refine v_callG (pc := 53) (J' := jSg_charAt) (d' := d) (o := 1002) (As := [vI (wr (x2_ + 1))]) d_Te_pairAt_53 ml_Te_103 rfl (by decide) rfl (Nat.le_of_ble_eq_true rfl) (Nat.le_refl _) rfl (Cal.weak h (fun o w5 h => ?_))
      rcases rI_of h with ⟨x6, rfl, h⟩
      refine v_icmpne (pc := 56) (tgt := 63) d_Te_pairAt_56 (by decide) (fun c => ?_) (fun c => ?_)
      · replace h := h.1 c
        refine v_iinc (pc := 63) (ls' := [(2, vI (wr (x2_ + 2))), (0, vA 2), (1, vI x1_)]) d_Te_pairAt_63 (.tail _ (.tail _ (.head _))) (by decide) rfl ?_
        refine v_goto (pc := 66) (tgt := 14) d_Te_pairAt_66 (by decide) ?_
        exact v_sub (List.forall_mem_cons.mpr ⟨(.tail _ (.head _)), (List.forall_mem_cons.mpr ⟨(.tail _ (.tail _ (.head _))), (List.forall_mem_cons.mpr ⟨(.head _), (fun _ z => absurd z List.not_mem_nil)⟩)⟩)⟩) h
      · replace h := h.2 c
        refine v_iload_n (pc := 59) d_Te_pairAt_59 rfl (.tail _ (.tail _ (.head _))) ?_
        refine v_iconst (pc := 60) d_Te_pairAt_60 (by decide) ?_
        refine v_idiv (pc := 61) d_Te_pairAt_61 (by decide) ?_
        exact v_iret (pc := 62) d_Te_pairAt_62 rfl h
theorem d_Te_wordKind_0 : decode jTe_wordKind.cc 0 = .ok (.iconst 0, 1) := by decide +kernel
theorem d_Te_wordKind_1 : decode jTe_wordKind.cc 1 = .ok (.istore_n 3, 1) := by decide +kernel
theorem d_Te_wordKind_2 : decode jTe_wordKind.cc 2 = .ok (.iconst 0, 1) := by decide +kernel
theorem d_Te_wordKind_3 : decode jTe_wordKind.cc 3 = .ok (.istore 4, 2) := by decide +kernel
theorem d_Te_wordKind_5 : decode jTe_wordKind.cc 5 = .ok (.iconst 0, 1) := by decide +kernel
theorem d_Te_wordKind_6 : decode jTe_wordKind.cc 6 = .ok (.istore 5, 2) := by decide +kernel
theorem d_Te_wordKind_8 : decode jTe_wordKind.cc 8 = .ok (.iload 5, 2) := by decide +kernel
theorem d_Te_wordKind_10 : decode jTe_wordKind.cc 10 = .ok (.ldc 107, 2) := by decide +kernel
theorem d_Te_wordKind_12 : decode jTe_wordKind.cc 12 = .ok (.invokevirtual 100, 3) := by decide +kernel
theorem d_Te_wordKind_15 : decode jTe_wordKind.cc 15 = .ok (.if_icmp .ge 57, 3) := by decide +kernel
theorem d_Te_wordKind_18 : decode jTe_wordKind.cc 18 = .ok (.ldc 107, 2) := by decide +kernel
theorem d_Te_wordKind_20 : decode jTe_wordKind.cc 20 = .ok (.iload 5, 2) := by decide +kernel
theorem d_Te_wordKind_22 : decode jTe_wordKind.cc 22 = .ok (.invokevirtual 103, 3) := by decide +kernel
theorem d_Te_wordKind_25 : decode jTe_wordKind.cc 25 = .ok (.bipush 32, 2) := by decide +kernel
theorem d_Te_wordKind_27 : decode jTe_wordKind.cc 27 = .ok (.if_icmp .ne 39, 3) := by decide +kernel
theorem d_Te_wordKind_30 : decode jTe_wordKind.cc 30 = .ok (.iload 5, 2) := by decide +kernel
theorem d_Te_wordKind_32 : decode jTe_wordKind.cc 32 = .ok (.iload 4, 2) := by decide +kernel
theorem d_Te_wordKind_34 : decode jTe_wordKind.cc 34 = .ok (.isub, 1) := by decide +kernel
theorem d_Te_wordKind_35 : decode jTe_wordKind.cc 35 = .ok (.iload_n 2, 1) := by decide +kernel
theorem d_Te_wordKind_36 : decode jTe_wordKind.cc 36 = .ok (.iload_n 1, 1) := by decide +kernel
theorem d_Te_wordKind_37 : decode jTe_wordKind.cc 37 = .ok (.isub, 1) := by decide +kernel
theorem d_Te_wordKind_38 : decode jTe_wordKind.cc 38 = .ok (.if_icmp .ne 19, 3) := by decide +kernel
theorem d_Te_wordKind_41 : decode jTe_wordKind.cc 41 = .ok (.aload_n 0, 1) := by decide +kernel
theorem d_Te_wordKind_42 : decode jTe_wordKind.cc 42 = .ok (.iload_n 1, 1) := by decide +kernel
theorem d_Te_wordKind_43 : decode jTe_wordKind.cc 43 = .ok (.iload_n 2, 1) := by decide +kernel
theorem d_Te_wordKind_44 : decode jTe_wordKind.cc 44 = .ok (.iload 4, 2) := by decide +kernel
theorem d_Te_wordKind_46 : decode jTe_wordKind.cc 46 = .ok (.invokevirtual 109, 3) := by decide +kernel
theorem d_Te_wordKind_49 : decode jTe_wordKind.cc 49 = .ok (.ifCond .eq 8, 3) := by decide +kernel
theorem d_Te_wordKind_52 : decode jTe_wordKind.cc 52 = .ok (.bipush 27, 2) := by decide +kernel
theorem d_Te_wordKind_54 : decode jTe_wordKind.cc 54 = .ok (.iload_n 3, 1) := by decide +kernel
theorem d_Te_wordKind_55 : decode jTe_wordKind.cc 55 = .ok (.iadd, 1) := by decide +kernel
theorem d_Te_wordKind_56 : decode jTe_wordKind.cc 56 = .ok (.ireturn, 1) := by decide +kernel
theorem d_Te_wordKind_57 : decode jTe_wordKind.cc 57 = .ok (.iinc 3 1, 3) := by decide +kernel
theorem d_Te_wordKind_60 : decode jTe_wordKind.cc 60 = .ok (.iload 5, 2) := by decide +kernel
theorem d_Te_wordKind_62 : decode jTe_wordKind.cc 62 = .ok (.iconst 1, 1) := by decide +kernel
theorem d_Te_wordKind_63 : decode jTe_wordKind.cc 63 = .ok (.iadd, 1) := by decide +kernel
theorem d_Te_wordKind_64 : decode jTe_wordKind.cc 64 = .ok (.istore 4, 2) := by decide +kernel
theorem d_Te_wordKind_66 : decode jTe_wordKind.cc 66 = .ok (.iinc 5 1, 3) := by decide +kernel
theorem d_Te_wordKind_69 : decode jTe_wordKind.cc 69 = .ok (.goto (-61), 3) := by decide +kernel
theorem d_Te_wordKind_72 : decode jTe_wordKind.cc 72 = .ok (.iconst 2, 1) := by decide +kernel
theorem d_Te_wordKind_73 : decode jTe_wordKind.cc 73 = .ok (.ireturn, 1) := by decide +kernel
set_option maxHeartbeats 4000000 in
theorem s_Te_wordKind {g : Mg} {d : Nat} {K : Ou → Wd → Prop} {w : Wd} {p1 : Int} {p2 : Int} (h : V g LC jTe_wordKind (d + 1) K 8 [(0, vA 2), (1, vI p1), (2, vI p2), (3, vI 0), (4, vI 0), (5, vI 0)] [] w) : V g LC jTe_wordKind (d + 1) K 0 [(0, vA 2), (1, vI p1), (2, vI p2)] [] w := by
  refine v_iconst (pc := 0) d_Te_wordKind_0 (by decide) ?_
  refine v_istore_n (pc := 1) (ls' := [(3, vI 0), (0, vA 2), (1, vI p1), (2, vI p2)]) d_Te_wordKind_1 rfl (by decide) rfl ?_
  refine v_iconst (pc := 2) d_Te_wordKind_2 (by decide) ?_
  refine v_istore (pc := 3) (ls' := [(4, vI 0), (3, vI 0), (0, vA 2), (1, vI p1), (2, vI p2)]) d_Te_wordKind_3 (by decide) rfl ?_
  refine v_iconst (pc := 5) d_Te_wordKind_5 (by decide) ?_
  refine v_istore (pc := 6) (ls' := [(5, vI 0), (4, vI 0), (3, vI 0), (0, vA 2), (1, vI p1), (2, vI p2)]) d_Te_wordKind_6 (by decide) rfl ?_
  exact v_sub (List.forall_mem_cons.mpr ⟨(.tail _ (.tail _ (.tail _ (.head _)))), (List.forall_mem_cons.mpr ⟨(.tail _ (.tail _ (.tail _ (.tail _ (.head _))))), (List.forall_mem_cons.mpr ⟨(.tail _ (.tail _ (.tail _ (.tail _ (.tail _ (.head _)))))), (List.forall_mem_cons.mpr ⟨(.tail _ (.tail _ (.head _))), (List.forall_mem_cons.mpr ⟨(.tail _ (.head _)), (List.forall_mem_cons.mpr ⟨(.head _), (fun _ z => absurd z List.not_mem_nil)⟩)⟩)⟩)⟩)⟩)⟩) h
set_option maxHeartbeats 4000000 in
theorem s_Te_wordKind_8 {g : Mg} {d : Nat} {K : Ou → Wd → Prop} {w : Wd} {x1_ : Int} {x2_ : Int} {x3_ : Int} {x4_ : Int} {x5_ : Int} (h : Cal g LC jSg_length d [vA 1003] w (fun o w1 => rI o (fun x2 => (x2 ≤ x5_ → (K (.inl (some (vI 2))) w1)) ∧ (¬ x2 ≤ x5_ → (Cal g LC jSg_charAt d [vA 1003, vI x5_] w1 (fun o w3 => rI o (fun x4 => (¬ x4 = 32 → (V g LC jTe_wordKind (d + 1) K 8 [(0, vA 2), (1, vI x1_), (2, vI x2_), (3, vI x3_), (4, vI x4_), (5, vI (wr (x5_ + 1)))] [] w3)) ∧ (x4 = 32 → ((¬ (wr (x5_ - x4_)) = (wr (x2_ - x1_)) → (V g LC jTe_wordKind (d + 1) K 8 [(0, vA 2), (1, vI x1_), (2, vI x2_), (3, vI (wr (x3_ + 1))), (4, vI (wr (x5_ + 1))), (5, vI (wr (x5_ + 1)))] [] w3)) ∧ ((wr (x5_ - x4_)) = (wr (x2_ - x1_)) → (Cal g LC jTe_isWord d [vA 2, vI x1_, vI x2_, vI x4_] w3 (fun o w5 => rI o (fun x6 => (x6 = 0 → (V g LC jTe_wordKind (d + 1) K 8 [(0, vA 2), (1, vI x1_), (2, vI x2_), (3, vI (wr (x3_ + 1))), (4, vI (wr (x5_ + 1))), (5, vI (wr (x5_ + 1)))] [] w5)) ∧ (¬ x6 = 0 → (K (.inl (some (vI (wr (27 + x3_))))) w5))))))))))))))) : V g LC jTe_wordKind (d + 1) K 8 [(0, vA 2), (1, vI x1_), (2, vI x2_), (3, vI x3_), (4, vI x4_), (5, vI x5_)] [] w := by
  refine v_iload (pc := 8) d_Te_wordKind_8 (.tail _ (.tail _ (.tail _ (.tail _ (.tail _ (.head _)))))) ?_
  refine v_ldcs (pc := 10) (n := 2) (tx := "column node int bool true false fold global sum least most first all some start round let send along against give if else loop halt arc has id turn nodes degree indegree draw ") d_Te_wordKind_10 (by decide +kernel) ?_
  refine v_callG (pc := 12) (J' := jSg_length) (d' := d) (o := 1003) (As := []) d_Te_wordKind_12 ml_Te_100 rfl (by decide) rfl (Nat.le_of_ble_eq_true rfl) (Nat.le_refl _) rfl (Cal.weak h (fun o w1 h => ?_))
  rcases rI_of h with ⟨x2, rfl, h⟩
  refine v_icmpge (pc := 15) (tgt := 72) d_Te_wordKind_15 (by decide) (fun c => ?_) (fun c => ?_)
  · replace h := h.1 c
    refine v_iconst (pc := 72) d_Te_wordKind_72 (by decide) ?_
    exact v_iret (pc := 73) d_Te_wordKind_73 rfl h
  · replace h := h.2 c
    refine v_ldcs (pc := 18) (n := 2) (tx := "column node int bool true false fold global sum least most first all some start round let send along against give if else loop halt arc has id turn nodes degree indegree draw ") d_Te_wordKind_18 (by decide +kernel) ?_
    refine v_iload (pc := 20) d_Te_wordKind_20 (.tail _ (.tail _ (.tail _ (.tail _ (.tail _ (.head _)))))) ?_
    refine v_callG (pc := 22) (J' := jSg_charAt) (d' := d) (o := 1003) (As := [vI x5_]) d_Te_wordKind_22 ml_Te_103 rfl (by decide) rfl (Nat.le_of_ble_eq_true rfl) (Nat.le_refl _) rfl (Cal.weak h (fun o w3 h => ?_))
    rcases rI_of h with ⟨x4, rfl, h⟩
    refine v_bipush (pc := 25) d_Te_wordKind_25 (by decide) rfl ?_
    refine v_icmpne (pc := 27) (tgt := 66) d_Te_wordKind_27 (by decide) (fun c => ?_) (fun c => ?_)
    · replace h := h.1 c
      refine v_iinc (pc := 66) (ls' := [(5, vI (wr (x5_ + 1))), (0, vA 2), (1, vI x1_), (2, vI x2_), (3, vI x3_), (4, vI x4_)]) d_Te_wordKind_66 (.tail _ (.tail _ (.tail _ (.tail _ (.tail _ (.head _)))))) (by decide) rfl ?_
      refine v_goto (pc := 69) (tgt := 8) d_Te_wordKind_69 (by decide) ?_
      exact v_sub (List.forall_mem_cons.mpr ⟨(.tail _ (.head _)), (List.forall_mem_cons.mpr ⟨(.tail _ (.tail _ (.head _))), (List.forall_mem_cons.mpr ⟨(.tail _ (.tail _ (.tail _ (.head _)))), (List.forall_mem_cons.mpr ⟨(.tail _ (.tail _ (.tail _ (.tail _ (.head _))))), (List.forall_mem_cons.mpr ⟨(.tail _ (.tail _ (.tail _ (.tail _ (.tail _ (.head _)))))), (List.forall_mem_cons.mpr ⟨(.head _), (fun _ z => absurd z List.not_mem_nil)⟩)⟩)⟩)⟩)⟩)⟩) h
    · replace h := h.2 c
      refine v_iload (pc := 30) d_Te_wordKind_30 (.tail _ (.tail _ (.tail _ (.tail _ (.tail _ (.head _)))))) ?_
      refine v_iload (pc := 32) d_Te_wordKind_32 (.tail _ (.tail _ (.tail _ (.tail _ (.head _))))) ?_
      refine v_isub (pc := 34) d_Te_wordKind_34 ?_
      refine v_iload_n (pc := 35) d_Te_wordKind_35 rfl (.tail _ (.tail _ (.head _))) ?_
      refine v_iload_n (pc := 36) d_Te_wordKind_36 rfl (.tail _ (.head _)) ?_
      refine v_isub (pc := 37) d_Te_wordKind_37 ?_
      refine v_icmpne (pc := 38) (tgt := 57) d_Te_wordKind_38 (by decide) (fun c => ?_) (fun c => ?_)
      · replace h := h.1 c
        refine v_iinc (pc := 57) (ls' := [(3, vI (wr (x3_ + 1))), (0, vA 2), (1, vI x1_), (2, vI x2_), (4, vI x4_), (5, vI x5_)]) d_Te_wordKind_57 (.tail _ (.tail _ (.tail _ (.head _)))) (by decide) rfl ?_
        refine v_iload (pc := 60) d_Te_wordKind_60 (.tail _ (.tail _ (.tail _ (.tail _ (.tail _ (.head _)))))) ?_
        refine v_iconst (pc := 62) d_Te_wordKind_62 (by decide) ?_
        refine v_iadd (pc := 63) d_Te_wordKind_63 ?_
        refine v_istore (pc := 64) (ls' := [(4, vI (wr (x5_ + 1))), (3, vI (wr (x3_ + 1))), (0, vA 2), (1, vI x1_), (2, vI x2_), (5, vI x5_)]) d_Te_wordKind_64 (by decide) rfl ?_
        refine v_iinc (pc := 66) (ls' := [(5, vI (wr (x5_ + 1))), (4, vI (wr (x5_ + 1))), (3, vI (wr (x3_ + 1))), (0, vA 2), (1, vI x1_), (2, vI x2_)]) d_Te_wordKind_66 (.tail _ (.tail _ (.tail _ (.tail _ (.tail _ (.head _)))))) (by decide) rfl ?_
        refine v_goto (pc := 69) (tgt := 8) d_Te_wordKind_69 (by decide) ?_
        exact v_sub (List.forall_mem_cons.mpr ⟨(.tail _ (.tail _ (.tail _ (.head _)))), (List.forall_mem_cons.mpr ⟨(.tail _ (.tail _ (.tail _ (.tail _ (.head _))))), (List.forall_mem_cons.mpr ⟨(.tail _ (.tail _ (.tail _ (.tail _ (.tail _ (.head _)))))), (List.forall_mem_cons.mpr ⟨(.tail _ (.tail _ (.head _))), (List.forall_mem_cons.mpr ⟨(.tail _ (.head _)), (List.forall_mem_cons.mpr ⟨(.head _), (fun _ z => absurd z List.not_mem_nil)⟩)⟩)⟩)⟩)⟩)⟩) h
      · replace h := h.2 c
        refine v_aload_n (pc := 41) d_Te_wordKind_41 rfl (.head _) ?_
        refine v_iload_n (pc := 42) d_Te_wordKind_42 rfl (.tail _ (.head _)) ?_
        refine v_iload_n (pc := 43) d_Te_wordKind_43 rfl (.tail _ (.tail _ (.head _))) ?_
        refine v_iload (pc := 44) d_Te_wordKind_44 (.tail _ (.tail _ (.tail _ (.tail _ (.head _))))) ?_
        refine v_callV (pc := 46) (J' := jTe_isWord) (d' := d) (o := 2) (ci := 9) (N := 7) (T := cT9) (As := [vI x1_, vI x2_, vI x4_]) d_Te_wordKind_46 ml_Te_109 cC_2.1 cC_2.2 (by decide) rfl rfl (Nat.le_of_ble_eq_true rfl) (Nat.le_refl _) rfl (Cal.weak h (fun o w5 h => ?_))
        rcases rI_of h with ⟨x6, rfl, h⟩
        refine v_ifeq (pc := 49) (tgt := 57) d_Te_wordKind_49 (by decide) (fun c => ?_) (fun c => ?_)
        · replace h := h.1 c
          refine v_iinc (pc := 57) (ls' := [(3, vI (wr (x3_ + 1))), (0, vA 2), (1, vI x1_), (2, vI x2_), (4, vI x4_), (5, vI x5_)]) d_Te_wordKind_57 (.tail _ (.tail _ (.tail _ (.head _)))) (by decide) rfl ?_
          refine v_iload (pc := 60) d_Te_wordKind_60 (.tail _ (.tail _ (.tail _ (.tail _ (.tail _ (.head _)))))) ?_
          refine v_iconst (pc := 62) d_Te_wordKind_62 (by decide) ?_
          refine v_iadd (pc := 63) d_Te_wordKind_63 ?_
          refine v_istore (pc := 64) (ls' := [(4, vI (wr (x5_ + 1))), (3, vI (wr (x3_ + 1))), (0, vA 2), (1, vI x1_), (2, vI x2_), (5, vI x5_)]) d_Te_wordKind_64 (by decide) rfl ?_
          refine v_iinc (pc := 66) (ls' := [(5, vI (wr (x5_ + 1))), (4, vI (wr (x5_ + 1))), (3, vI (wr (x3_ + 1))), (0, vA 2), (1, vI x1_), (2, vI x2_)]) d_Te_wordKind_66 (.tail _ (.tail _ (.tail _ (.tail _ (.tail _ (.head _)))))) (by decide) rfl ?_
          refine v_goto (pc := 69) (tgt := 8) d_Te_wordKind_69 (by decide) ?_
          exact v_sub (List.forall_mem_cons.mpr ⟨(.tail _ (.tail _ (.tail _ (.head _)))), (List.forall_mem_cons.mpr ⟨(.tail _ (.tail _ (.tail _ (.tail _ (.head _))))), (List.forall_mem_cons.mpr ⟨(.tail _ (.tail _ (.tail _ (.tail _ (.tail _ (.head _)))))), (List.forall_mem_cons.mpr ⟨(.tail _ (.tail _ (.head _))), (List.forall_mem_cons.mpr ⟨(.tail _ (.head _)), (List.forall_mem_cons.mpr ⟨(.head _), (fun _ z => absurd z List.not_mem_nil)⟩)⟩)⟩)⟩)⟩)⟩) h
        · replace h := h.2 c
          refine v_bipush (pc := 52) d_Te_wordKind_52 (by decide) rfl ?_
          refine v_iload_n (pc := 54) d_Te_wordKind_54 rfl (.tail _ (.tail _ (.tail _ (.head _)))) ?_
          refine v_iadd (pc := 55) d_Te_wordKind_55 ?_
          exact v_iret (pc := 56) d_Te_wordKind_56 rfl h
theorem d_Te_isWord_0 : decode jTe_isWord.cc 0 = .ok (.iload_n 1, 1) := by decide +kernel
theorem d_Te_isWord_1 : decode jTe_isWord.cc 1 = .ok (.istore 4, 2) := by decide +kernel
theorem d_Te_isWord_3 : decode jTe_isWord.cc 3 = .ok (.iload 4, 2) := by decide +kernel
theorem d_Te_isWord_5 : decode jTe_isWord.cc 5 = .ok (.iload_n 2, 1) := by decide +kernel
theorem d_Te_isWord_6 : decode jTe_isWord.cc 6 = .ok (.if_icmp .ge 32, 3) := by decide +kernel
theorem d_Te_isWord_9 : decode jTe_isWord.cc 9 = .ok (.aload_n 0, 1) := by decide +kernel
theorem d_Te_isWord_10 : decode jTe_isWord.cc 10 = .ok (.getfield 9, 3) := by decide +kernel
theorem d_Te_isWord_13 : decode jTe_isWord.cc 13 = .ok (.iload 4, 2) := by decide +kernel
theorem d_Te_isWord_15 : decode jTe_isWord.cc 15 = .ok (.baload, 1) := by decide +kernel
theorem d_Te_isWord_16 : decode jTe_isWord.cc 16 = .ok (.ldc 107, 2) := by decide +kernel
theorem d_Te_isWord_18 : decode jTe_isWord.cc 18 = .ok (.iload_n 3, 1) := by decide +kernel
theorem d_Te_isWord_19 : decode jTe_isWord.cc 19 = .ok (.iload 4, 2) := by decide +kernel
theorem d_Te_isWord_21 : decode jTe_isWord.cc 21 = .ok (.iadd, 1) := by decide +kernel
theorem d_Te_isWord_22 : decode jTe_isWord.cc 22 = .ok (.iload_n 1, 1) := by decide +kernel
theorem d_Te_isWord_23 : decode jTe_isWord.cc 23 = .ok (.isub, 1) := by decide +kernel
theorem d_Te_isWord_24 : decode jTe_isWord.cc 24 = .ok (.invokevirtual 103, 3) := by decide +kernel
theorem d_Te_isWord_27 : decode jTe_isWord.cc 27 = .ok (.if_icmp .eq 5, 3) := by decide +kernel
theorem d_Te_isWord_30 : decode jTe_isWord.cc 30 = .ok (.iconst 0, 1) := by decide +kernel
theorem d_Te_isWord_31 : decode jTe_isWord.cc 31 = .ok (.ireturn, 1) := by decide +kernel
theorem d_Te_isWord_32 : decode jTe_isWord.cc 32 = .ok (.iinc 4 1, 3) := by decide +kernel
theorem d_Te_isWord_35 : decode jTe_isWord.cc 35 = .ok (.goto (-32), 3) := by decide +kernel
theorem d_Te_isWord_38 : decode jTe_isWord.cc 38 = .ok (.iconst 1, 1) := by decide +kernel
theorem d_Te_isWord_39 : decode jTe_isWord.cc 39 = .ok (.ireturn, 1) := by decide +kernel
set_option maxHeartbeats 4000000 in
theorem s_Te_isWord {g : Mg} {d : Nat} {K : Ou → Wd → Prop} {w : Wd} {p1 : Int} {p2 : Int} {p3 : Int} (h : V g LC jTe_isWord (d + 1) K 3 [(0, vA 2), (1, vI p1), (2, vI p2), (3, vI p3), (4, vI p1)] [] w) : V g LC jTe_isWord (d + 1) K 0 [(0, vA 2), (1, vI p1), (2, vI p2), (3, vI p3)] [] w := by
  refine v_iload_n (pc := 0) d_Te_isWord_0 rfl (.tail _ (.head _)) ?_
  refine v_istore (pc := 1) (ls' := [(4, vI p1), (0, vA 2), (1, vI p1), (2, vI p2), (3, vI p3)]) d_Te_isWord_1 (by decide) rfl ?_
  exact v_sub (List.forall_mem_cons.mpr ⟨(.tail _ (.head _)), (List.forall_mem_cons.mpr ⟨(.tail _ (.tail _ (.head _))), (List.forall_mem_cons.mpr ⟨(.tail _ (.tail _ (.tail _ (.head _)))), (List.forall_mem_cons.mpr ⟨(.tail _ (.tail _ (.tail _ (.tail _ (.head _))))), (List.forall_mem_cons.mpr ⟨(.head _), (fun _ z => absurd z List.not_mem_nil)⟩)⟩)⟩)⟩)⟩) h
set_option maxHeartbeats 4000000 in
theorem s_Te_isWord_3 {g : Mg} {d : Nat} {K : Ou → Wd → Prop} {w : Wd} {x1_ : Int} {x2_ : Int} {x3_ : Int} {x4_ : Int} (h : (x2_ ≤ x4_ → (K (.inl (some (vI 1))) w)) ∧ (¬ x2_ ≤ x4_ → ((0 ≤ x4_ ∧ x4_ < 4000) ∧ (Cal g LC jSg_charAt d [vA 1003, vI (wr ((wr (x3_ + x4_)) - x1_))] w (fun o w1 => rI o (fun x2 => ((w 3 x4_.toNat) = x2 → (V g LC jTe_isWord (d + 1) K 3 [(0, vA 2), (1, vI x1_), (2, vI x2_), (3, vI x3_), (4, vI (wr (x4_ + 1)))] [] w1)) ∧ (¬ (w 3 x4_.toNat) = x2 → (K (.inl (some (vI 0))) w1)))))))) : V g LC jTe_isWord (d + 1) K 3 [(0, vA 2), (1, vI x1_), (2, vI x2_), (3, vI x3_), (4, vI x4_)] [] w := by
  refine v_iload (pc := 3) d_Te_isWord_3 (.tail _ (.tail _ (.tail _ (.tail _ (.head _))))) ?_
  refine v_iload_n (pc := 5) d_Te_isWord_5 rfl (.tail _ (.tail _ (.head _))) ?_
  refine v_icmpge (pc := 6) (tgt := 38) d_Te_isWord_6 (by decide) (fun c => ?_) (fun c => ?_)
  · replace h := h.1 c
    refine v_iconst (pc := 38) d_Te_isWord_38 (by decide) ?_
    exact v_zret (pc := 39) d_Te_isWord_39 rfl (by decide) h
  · replace h := h.2 c
    refine v_aload_n (pc := 9) d_Te_isWord_9 rfl (.head _) ?_
    refine v_getr (C := "") (pc := 10) (r := 3) d_Te_isWord_10 fl_Te_9 cC_2.1 cC_2.2 (Or.inr ⟨_, rfl⟩) rC_2_0 ?_
    refine v_iload (pc := 13) d_Te_isWord_13 (.tail _ (.tail _ (.tail _ (.tail _ (.head _))))) ?_
    refine v_bald (pc := 15) (x := (w 3 x4_.toNat)) d_Te_isWord_15 cC_3.1 cC_3.2 rfl h.1 ?_
    replace h := h.2
    refine v_ldcs (pc := 16) (n := 2) (tx := "column node int bool true false fold global sum least most first all some start round let send along against give if else loop halt arc has id turn nodes degree indegree draw ") d_Te_isWord_16 (by decide +kernel) ?_
    refine v_iload_n (pc := 18) d_Te_isWord_18 rfl (.tail _ (.tail _ (.tail _ (.head _)))) ?_
    refine v_iload (pc := 19) d_Te_isWord_19 (.tail _ (.tail _ (.tail _ (.tail _ (.head _))))) ?_
    refine v_iadd (pc := 21) d_Te_isWord_21 ?_
    refine v_iload_n (pc := 22) d_Te_isWord_22 rfl (.tail _ (.head _)) ?_
    refine v_isub (pc := 23) d_Te_isWord_23 ?_
    refine v_callG (pc := 24) (J' := jSg_charAt) (d' := d) (o := 1003) (As := [vI (wr ((wr (x3_ + x4_)) - x1_))]) d_Te_isWord_24 ml_Te_103 rfl (by decide) rfl (Nat.le_of_ble_eq_true rfl) (Nat.le_refl _) rfl (Cal.weak h (fun o w1 h => ?_))
    rcases rI_of h with ⟨x2, rfl, h⟩
    refine v_icmpeq (pc := 27) (tgt := 32) d_Te_isWord_27 (by decide) (fun c => ?_) (fun c => ?_)
    · replace h := h.1 c
      refine v_iinc (pc := 32) (ls' := [(4, vI (wr (x4_ + 1))), (0, vA 2), (1, vI x1_), (2, vI x2_), (3, vI x3_)]) d_Te_isWord_32 (.tail _ (.tail _ (.tail _ (.tail _ (.head _))))) (by decide) rfl ?_
      refine v_goto (pc := 35) (tgt := 3) d_Te_isWord_35 (by decide) ?_
      exact v_sub (List.forall_mem_cons.mpr ⟨(.tail _ (.head _)), (List.forall_mem_cons.mpr ⟨(.tail _ (.tail _ (.head _))), (List.forall_mem_cons.mpr ⟨(.tail _ (.tail _ (.tail _ (.head _)))), (List.forall_mem_cons.mpr ⟨(.tail _ (.tail _ (.tail _ (.tail _ (.head _))))), (List.forall_mem_cons.mpr ⟨(.head _), (fun _ z => absurd z List.not_mem_nil)⟩)⟩)⟩)⟩)⟩) h
    · replace h := h.2 c
      refine v_iconst (pc := 30) d_Te_isWord_30 (by decide) ?_
      exact v_zret (pc := 31) d_Te_isWord_31 rfl (by decide) h
theorem d_Te_put_0 : decode jTe_put.cc 0 = .ok (.aload_n 0, 1) := by decide +kernel
theorem d_Te_put_1 : decode jTe_put.cc 1 = .ok (.getfield 48, 3) := by decide +kernel
theorem d_Te_put_4 : decode jTe_put.cc 4 = .ok (.aload_n 0, 1) := by decide +kernel
theorem d_Te_put_5 : decode jTe_put.cc 5 = .ok (.getfield 13, 3) := by decide +kernel
theorem d_Te_put_8 : decode jTe_put.cc 8 = .ok (.arraylength, 1) := by decide +kernel
theorem d_Te_put_9 : decode jTe_put.cc 9 = .ok (.if_icmp .ge 54, 3) := by decide +kernel
theorem d_Te_put_12 : decode jTe_put.cc 12 = .ok (.aload_n 0, 1) := by decide +kernel
theorem d_Te_put_13 : decode jTe_put.cc 13 = .ok (.getfield 13, 3) := by decide +kernel
theorem d_Te_put_16 : decode jTe_put.cc 16 = .ok (.aload_n 0, 1) := by decide +kernel
theorem d_Te_put_17 : decode jTe_put.cc 17 = .ok (.getfield 48, 3) := by decide +kernel
theorem d_Te_put_20 : decode jTe_put.cc 20 = .ok (.iload_n 1, 1) := by decide +kernel
theorem d_Te_put_21 : decode jTe_put.cc 21 = .ok (.iastore, 1) := by decide +kernel
theorem d_Te_put_22 : decode jTe_put.cc 22 = .ok (.aload_n 0, 1) := by decide +kernel
theorem d_Te_put_23 : decode jTe_put.cc 23 = .ok (.getfield 17, 3) := by decide +kernel
theorem d_Te_put_26 : decode jTe_put.cc 26 = .ok (.aload_n 0, 1) := by decide +kernel
theorem d_Te_put_27 : decode jTe_put.cc 27 = .ok (.getfield 48, 3) := by decide +kernel
theorem d_Te_put_30 : decode jTe_put.cc 30 = .ok (.iload_n 2, 1) := by decide +kernel
theorem d_Te_put_31 : decode jTe_put.cc 31 = .ok (.iastore, 1) := by decide +kernel
theorem d_Te_put_32 : decode jTe_put.cc 32 = .ok (.aload_n 0, 1) := by decide +kernel
theorem d_Te_put_33 : decode jTe_put.cc 33 = .ok (.getfield 20, 3) := by decide +kernel
theorem d_Te_put_36 : decode jTe_put.cc 36 = .ok (.aload_n 0, 1) := by decide +kernel
theorem d_Te_put_37 : decode jTe_put.cc 37 = .ok (.getfield 48, 3) := by decide +kernel
theorem d_Te_put_40 : decode jTe_put.cc 40 = .ok (.iload_n 3, 1) := by decide +kernel
theorem d_Te_put_41 : decode jTe_put.cc 41 = .ok (.iastore, 1) := by decide +kernel
theorem d_Te_put_42 : decode jTe_put.cc 42 = .ok (.aload_n 0, 1) := by decide +kernel
theorem d_Te_put_43 : decode jTe_put.cc 43 = .ok (.getfield 23, 3) := by decide +kernel
theorem d_Te_put_46 : decode jTe_put.cc 46 = .ok (.aload_n 0, 1) := by decide +kernel
theorem d_Te_put_47 : decode jTe_put.cc 47 = .ok (.getfield 48, 3) := by decide +kernel
theorem d_Te_put_50 : decode jTe_put.cc 50 = .ok (.iload 4, 2) := by decide +kernel
theorem d_Te_put_52 : decode jTe_put.cc 52 = .ok (.iastore, 1) := by decide +kernel
theorem d_Te_put_53 : decode jTe_put.cc 53 = .ok (.aload_n 0, 1) := by decide +kernel
theorem d_Te_put_54 : decode jTe_put.cc 54 = .ok (.dup, 1) := by decide +kernel
theorem d_Te_put_55 : decode jTe_put.cc 55 = .ok (.getfield 48, 3) := by decide +kernel
theorem d_Te_put_58 : decode jTe_put.cc 58 = .ok (.iconst 1, 1) := by decide +kernel
theorem d_Te_put_59 : decode jTe_put.cc 59 = .ok (.iadd, 1) := by decide +kernel
theorem d_Te_put_60 : decode jTe_put.cc 60 = .ok (.putfield 48, 3) := by decide +kernel
theorem d_Te_put_63 : decode jTe_put.cc 63 = .ok (.return_, 1) := by decide +kernel
set_option maxHeartbeats 4000000 in
theorem s_Te_put {g : Mg} {d : Nat} {K : Ou → Wd → Prop} {w : Wd} {p1 : Int} {p2 : Int} {p3 : Int} {p4 : Int} (h : (1002 ≤ (w 2 6) → (K (.inl none) w)) ∧ (¬ 1002 ≤ (w 2 6) → ((0 ≤ (w 2 6) ∧ (w 2 6) < 1002) ∧ ((0 ≤ (w 2 6) ∧ (w 2 6) < 1002) ∧ ((0 ≤ (w 2 6) ∧ (w 2 6) < 1002) ∧ ((0 ≤ (w 2 6) ∧ (w 2 6) < 1002) ∧ (K (.inl none) (up (up (up (up (up w 4 ((w 2 6).toNat) p1) 5 ((w 2 6).toNat) p2) 6 ((w 2 6).toNat) p3) 7 ((w 2 6).toNat) p4) 2 6 (wr ((w 2 6) + 1)))))))))) : V g LC jTe_put d K 0 [(0, vA 2), (1, vI p1), (2, vI p2), (3, vI p3), (4, vI p4)] [] w := by
  refine v_aload_n (pc := 0) d_Te_put_0 rfl (.head _) ?_
  refine v_geti (pc := 1) (x := (w 2 6)) d_Te_put_1 fl_Te_48 cC_2.1 cC_2.2 (Or.inl rfl) rfl ?_
  refine v_aload_n (pc := 4) d_Te_put_4 rfl (.head _) ?_
  refine v_getr (C := "") (pc := 5) (r := 4) d_Te_put_5 fl_Te_13 cC_2.1 cC_2.2 (Or.inr ⟨_, rfl⟩) rC_2_2 ?_
  refine v_alen (pc := 8) (n := 1002) d_Te_put_8 cC_4.1 cC_4.2 (by decide) (by decide) ?_
  refine v_icmpge (pc := 9) (tgt := 63) d_Te_put_9 (by decide) (fun c => ?_) (fun c => ?_)
  · replace h := h.1 c
    exact v_vret (pc := 63) d_Te_put_63 rfl h
  · replace h := h.2 c
    refine v_aload_n (pc := 12) d_Te_put_12 rfl (.head _) ?_
    refine v_getr (C := "") (pc := 13) (r := 4) d_Te_put_13 fl_Te_13 cC_2.1 cC_2.2 (Or.inr ⟨_, rfl⟩) rC_2_2 ?_
    refine v_aload_n (pc := 16) d_Te_put_16 rfl (.head _) ?_
    refine v_geti (pc := 17) (x := (w 2 6)) d_Te_put_17 fl_Te_48 cC_2.1 cC_2.2 (Or.inl rfl) rfl ?_
    refine v_iload_n (pc := 20) d_Te_put_20 rfl (.tail _ (.head _)) ?_
    refine v_iast (pc := 21) d_Te_put_21 cC_4.1 cC_4.2 (aC_4 _) h.1 ?_
    replace h := h.2
    refine v_aload_n (pc := 22) d_Te_put_22 rfl (.head _) ?_
    refine v_getr (C := "") (pc := 23) (r := 5) d_Te_put_23 fl_Te_17 cC_2.1 cC_2.2 (Or.inr ⟨_, rfl⟩) rC_2_3 ?_
    refine v_aload_n (pc := 26) d_Te_put_26 rfl (.head _) ?_
    refine v_geti (pc := 27) (x := (w 2 6)) d_Te_put_27 fl_Te_48 cC_2.1 cC_2.2 (Or.inl rfl) rfl ?_
    refine v_iload_n (pc := 30) d_Te_put_30 rfl (.tail _ (.tail _ (.head _))) ?_
    refine v_iast (pc := 31) d_Te_put_31 cC_5.1 cC_5.2 (aC_5 _) h.1 ?_
    replace h := h.2
    refine v_aload_n (pc := 32) d_Te_put_32 rfl (.head _) ?_
    refine v_getr (C := "") (pc := 33) (r := 6) d_Te_put_33 fl_Te_20 cC_2.1 cC_2.2 (Or.inr ⟨_, rfl⟩) rC_2_4 ?_
    refine v_aload_n (pc := 36) d_Te_put_36 rfl (.head _) ?_
    refine v_geti (pc := 37) (x := (w 2 6)) d_Te_put_37 fl_Te_48 cC_2.1 cC_2.2 (Or.inl rfl) rfl ?_
    refine v_iload_n (pc := 40) d_Te_put_40 rfl (.tail _ (.tail _ (.tail _ (.head _)))) ?_
    refine v_iast (pc := 41) d_Te_put_41 cC_6.1 cC_6.2 (aC_6 _) h.1 ?_
    replace h := h.2
    refine v_aload_n (pc := 42) d_Te_put_42 rfl (.head _) ?_
    refine v_getr (C := "") (pc := 43) (r := 7) d_Te_put_43 fl_Te_23 cC_2.1 cC_2.2 (Or.inr ⟨_, rfl⟩) rC_2_5 ?_
    refine v_aload_n (pc := 46) d_Te_put_46 rfl (.head _) ?_
    refine v_geti (pc := 47) (x := (w 2 6)) d_Te_put_47 fl_Te_48 cC_2.1 cC_2.2 (Or.inl rfl) rfl ?_
    refine v_iload (pc := 50) d_Te_put_50 (.tail _ (.tail _ (.tail _ (.tail _ (.head _))))) ?_
    refine v_iast (pc := 52) d_Te_put_52 cC_7.1 cC_7.2 (aC_7 _) h.1 ?_
    replace h := h.2
    refine v_aload_n (pc := 53) d_Te_put_53 rfl (.head _) ?_
    refine v_dup (pc := 54) d_Te_put_54 rfl ?_
    refine v_geti (pc := 55) (x := (w 2 6)) d_Te_put_55 fl_Te_48 cC_2.1 cC_2.2 (Or.inl rfl) rfl ?_
    refine v_iconst (pc := 58) d_Te_put_58 (by decide) ?_
    refine v_iadd (pc := 59) d_Te_put_59 ?_
    refine v_puti (pc := 60) d_Te_put_60 fp_Te_48 cC_2.1 cC_2.2 (by decide) rfl ?_
    exact v_vret (pc := 63) d_Te_put_63 rfl h
theorem d_Te_isLetter_0 : decode jTe_isLetter.cc 0 = .ok (.iload_n 0, 1) := by decide +kernel
theorem d_Te_isLetter_1 : decode jTe_isLetter.cc 1 = .ok (.bipush 97, 2) := by decide +kernel
theorem d_Te_isLetter_3 : decode jTe_isLetter.cc 3 = .ok (.if_icmp .lt 9, 3) := by decide +kernel
theorem d_Te_isLetter_6 : decode jTe_isLetter.cc 6 = .ok (.iload_n 0, 1) := by decide +kernel
theorem d_Te_isLetter_7 : decode jTe_isLetter.cc 7 = .ok (.bipush 122, 2) := by decide +kernel
theorem d_Te_isLetter_9 : decode jTe_isLetter.cc 9 = .ok (.if_icmp .le 15, 3) := by decide +kernel
theorem d_Te_isLetter_12 : decode jTe_isLetter.cc 12 = .ok (.iload_n 0, 1) := by decide +kernel
theorem d_Te_isLetter_13 : decode jTe_isLetter.cc 13 = .ok (.bipush 65, 2) := by decide +kernel
theorem d_Te_isLetter_15 : decode jTe_isLetter.cc 15 = .ok (.if_icmp .lt 13, 3) := by decide +kernel
theorem d_Te_isLetter_18 : decode jTe_isLetter.cc 18 = .ok (.iload_n 0, 1) := by decide +kernel
theorem d_Te_isLetter_19 : decode jTe_isLetter.cc 19 = .ok (.bipush 90, 2) := by decide +kernel
theorem d_Te_isLetter_21 : decode jTe_isLetter.cc 21 = .ok (.if_icmp .gt 7, 3) := by decide +kernel
theorem d_Te_isLetter_24 : decode jTe_isLetter.cc 24 = .ok (.iconst 1, 1) := by decide +kernel
theorem d_Te_isLetter_25 : decode jTe_isLetter.cc 25 = .ok (.goto 4, 3) := by decide +kernel
theorem d_Te_isLetter_28 : decode jTe_isLetter.cc 28 = .ok (.iconst 0, 1) := by decide +kernel
theorem d_Te_isLetter_29 : decode jTe_isLetter.cc 29 = .ok (.ireturn, 1) := by decide +kernel
set_option maxHeartbeats 4000000 in
theorem s_Te_isLetter {g : Mg} {d : Nat} {K : Ou → Wd → Prop} {w : Wd} {p0 : Int} (h : (p0 < 97 → ((p0 < 65 → (K (.inl (some (vI 0))) w)) ∧ (¬ p0 < 65 → ((90 < p0 → (K (.inl (some (vI 0))) w)) ∧ (¬ 90 < p0 → (K (.inl (some (vI 1))) w)))))) ∧ (¬ p0 < 97 → ((p0 ≤ 122 → (K (.inl (some (vI 1))) w)) ∧ (¬ p0 ≤ 122 → ((p0 < 65 → (K (.inl (some (vI 0))) w)) ∧ (¬ p0 < 65 → ((90 < p0 → (K (.inl (some (vI 0))) w)) ∧ (¬ 90 < p0 → (K (.inl (some (vI 1))) w))))))))) : V g LC jTe_isLetter d K 0 [(0, vI p0)] [] w := by
  refine v_iload_n (pc := 0) d_Te_isLetter_0 rfl (.head _) ?_
  refine v_bipush (pc := 1) d_Te_isLetter_1 (by decide) rfl ?_
  refine v_icmplt (pc := 3) (tgt := 12) d_Te_isLetter_3 (by decide) (fun c => ?_) (fun c => ?_)
  · replace h := h.1 c
    refine v_iload_n (pc := 12) d_Te_isLetter_12 rfl (.head _) ?_
    refine v_bipush (pc := 13) d_Te_isLetter_13 (by decide) rfl ?_
    refine v_icmplt (pc := 15) (tgt := 28) d_Te_isLetter_15 (by decide) (fun c => ?_) (fun c => ?_)
    · replace h := h.1 c
      refine v_iconst (pc := 28) d_Te_isLetter_28 (by decide) ?_
      exact v_zret (pc := 29) d_Te_isLetter_29 rfl (by decide) h
    · replace h := h.2 c
      refine v_iload_n (pc := 18) d_Te_isLetter_18 rfl (.head _) ?_
      refine v_bipush (pc := 19) d_Te_isLetter_19 (by decide) rfl ?_
      refine v_icmpgt (pc := 21) (tgt := 28) d_Te_isLetter_21 (by decide) (fun c => ?_) (fun c => ?_)
      · replace h := h.1 c
        refine v_iconst (pc := 28) d_Te_isLetter_28 (by decide) ?_
        exact v_zret (pc := 29) d_Te_isLetter_29 rfl (by decide) h
      · replace h := h.2 c
        refine v_iconst (pc := 24) d_Te_isLetter_24 (by decide) ?_
        refine v_goto (pc := 25) (tgt := 29) d_Te_isLetter_25 (by decide) ?_
        exact v_zret (pc := 29) d_Te_isLetter_29 rfl (by decide) h
  · replace h := h.2 c
    refine v_iload_n (pc := 6) d_Te_isLetter_6 rfl (.head _) ?_
    refine v_bipush (pc := 7) d_Te_isLetter_7 (by decide) rfl ?_
    refine v_icmple (pc := 9) (tgt := 24) d_Te_isLetter_9 (by decide) (fun c => ?_) (fun c => ?_)
    · replace h := h.1 c
      refine v_iconst (pc := 24) d_Te_isLetter_24 (by decide) ?_
      refine v_goto (pc := 25) (tgt := 29) d_Te_isLetter_25 (by decide) ?_
      exact v_zret (pc := 29) d_Te_isLetter_29 rfl (by decide) h
    · replace h := h.2 c
      refine v_iload_n (pc := 12) d_Te_isLetter_12 rfl (.head _) ?_
      refine v_bipush (pc := 13) d_Te_isLetter_13 (by decide) rfl ?_
      refine v_icmplt (pc := 15) (tgt := 28) d_Te_isLetter_15 (by decide) (fun c => ?_) (fun c => ?_)
      · replace h := h.1 c
        refine v_iconst (pc := 28) d_Te_isLetter_28 (by decide) ?_
        exact v_zret (pc := 29) d_Te_isLetter_29 rfl (by decide) h
      · replace h := h.2 c
        refine v_iload_n (pc := 18) d_Te_isLetter_18 rfl (.head _) ?_
        refine v_bipush (pc := 19) d_Te_isLetter_19 (by decide) rfl ?_
        refine v_icmpgt (pc := 21) (tgt := 28) d_Te_isLetter_21 (by decide) (fun c => ?_) (fun c => ?_)
        · replace h := h.1 c
          refine v_iconst (pc := 28) d_Te_isLetter_28 (by decide) ?_
          exact v_zret (pc := 29) d_Te_isLetter_29 rfl (by decide) h
        · replace h := h.2 c
          refine v_iconst (pc := 24) d_Te_isLetter_24 (by decide) ?_
          refine v_goto (pc := 25) (tgt := 29) d_Te_isLetter_25 (by decide) ?_
          exact v_zret (pc := 29) d_Te_isLetter_29 rfl (by decide) h
theorem d_Te_isDigit_0 : decode jTe_isDigit.cc 0 = .ok (.iload_n 0, 1) := by decide +kernel
theorem d_Te_isDigit_1 : decode jTe_isDigit.cc 1 = .ok (.bipush 48, 2) := by decide +kernel
theorem d_Te_isDigit_3 : decode jTe_isDigit.cc 3 = .ok (.if_icmp .lt 13, 3) := by decide +kernel
theorem d_Te_isDigit_6 : decode jTe_isDigit.cc 6 = .ok (.iload_n 0, 1) := by decide +kernel
theorem d_Te_isDigit_7 : decode jTe_isDigit.cc 7 = .ok (.bipush 57, 2) := by decide +kernel
theorem d_Te_isDigit_9 : decode jTe_isDigit.cc 9 = .ok (.if_icmp .gt 7, 3) := by decide +kernel
theorem d_Te_isDigit_12 : decode jTe_isDigit.cc 12 = .ok (.iconst 1, 1) := by decide +kernel
theorem d_Te_isDigit_13 : decode jTe_isDigit.cc 13 = .ok (.goto 4, 3) := by decide +kernel
theorem d_Te_isDigit_16 : decode jTe_isDigit.cc 16 = .ok (.iconst 0, 1) := by decide +kernel
theorem d_Te_isDigit_17 : decode jTe_isDigit.cc 17 = .ok (.ireturn, 1) := by decide +kernel
set_option maxHeartbeats 4000000 in
theorem s_Te_isDigit {g : Mg} {d : Nat} {K : Ou → Wd → Prop} {w : Wd} {p0 : Int} (h : (p0 < 48 → (K (.inl (some (vI 0))) w)) ∧ (¬ p0 < 48 → ((57 < p0 → (K (.inl (some (vI 0))) w)) ∧ (¬ 57 < p0 → (K (.inl (some (vI 1))) w))))) : V g LC jTe_isDigit d K 0 [(0, vI p0)] [] w := by
  refine v_iload_n (pc := 0) d_Te_isDigit_0 rfl (.head _) ?_
  refine v_bipush (pc := 1) d_Te_isDigit_1 (by decide) rfl ?_
  refine v_icmplt (pc := 3) (tgt := 16) d_Te_isDigit_3 (by decide) (fun c => ?_) (fun c => ?_)
  · replace h := h.1 c
    refine v_iconst (pc := 16) d_Te_isDigit_16 (by decide) ?_
    exact v_zret (pc := 17) d_Te_isDigit_17 rfl (by decide) h
  · replace h := h.2 c
    refine v_iload_n (pc := 6) d_Te_isDigit_6 rfl (.head _) ?_
    refine v_bipush (pc := 7) d_Te_isDigit_7 (by decide) rfl ?_
    refine v_icmpgt (pc := 9) (tgt := 16) d_Te_isDigit_9 (by decide) (fun c => ?_) (fun c => ?_)
    · replace h := h.1 c
      refine v_iconst (pc := 16) d_Te_isDigit_16 (by decide) ?_
      exact v_zret (pc := 17) d_Te_isDigit_17 rfl (by decide) h
    · replace h := h.2 c
      refine v_iconst (pc := 12) d_Te_isDigit_12 (by decide) ?_
      refine v_goto (pc := 13) (tgt := 17) d_Te_isDigit_13 (by decide) ?_
      exact v_zret (pc := 17) d_Te_isDigit_17 rfl (by decide) h
theorem d_Pr_clear_0 : decode jPr_clear.cc 0 = .ok (.aload_n 0, 1) := by decide +kernel
theorem d_Pr_clear_1 : decode jPr_clear.cc 1 = .ok (.iconst 0, 1) := by decide +kernel
theorem d_Pr_clear_2 : decode jPr_clear.cc 2 = .ok (.putfield 41, 3) := by decide +kernel
theorem d_Pr_clear_5 : decode jPr_clear.cc 5 = .ok (.aload_n 0, 1) := by decide +kernel
theorem d_Pr_clear_6 : decode jPr_clear.cc 6 = .ok (.iconst 0, 1) := by decide +kernel
theorem d_Pr_clear_7 : decode jPr_clear.cc 7 = .ok (.putfield 45, 3) := by decide +kernel
theorem d_Pr_clear_10 : decode jPr_clear.cc 10 = .ok (.aload_n 0, 1) := by decide +kernel
theorem d_Pr_clear_11 : decode jPr_clear.cc 11 = .ok (.iconst 0, 1) := by decide +kernel
theorem d_Pr_clear_12 : decode jPr_clear.cc 12 = .ok (.putfield 49, 3) := by decide +kernel
theorem d_Pr_clear_15 : decode jPr_clear.cc 15 = .ok (.aload_n 0, 1) := by decide +kernel
theorem d_Pr_clear_16 : decode jPr_clear.cc 16 = .ok (.getfield 30, 3) := by decide +kernel
theorem d_Pr_clear_19 : decode jPr_clear.cc 19 = .ok (.invokevirtual 52, 3) := by decide +kernel
theorem d_Pr_clear_22 : decode jPr_clear.cc 22 = .ok (.aload_n 0, 1) := by decide +kernel
theorem d_Pr_clear_23 : decode jPr_clear.cc 23 = .ok (.getfield 37, 3) := by decide +kernel
theorem d_Pr_clear_26 : decode jPr_clear.cc 26 = .ok (.invokevirtual 55, 3) := by decide +kernel
theorem d_Pr_clear_29 : decode jPr_clear.cc 29 = .ok (.return_, 1) := by decide +kernel
set_option maxHeartbeats 4000000 in
theorem s_Pr_clear {g : Mg} {d : Nat} {K : Ou → Wd → Prop} {w : Wd} (h : Cal g LC jLo_clear d [vA 13] (up (up (up w 8 2 0) 8 3 0) 8 10 0) (fun o w1 => rV o (Cal g LC jCo_clear d [vA 19] w1 (fun o w2 => rV o (K (.inl none) w2))))) : V g LC jPr_clear (d + 1) K 0 [(0, vA 8)] [] w := by
  refine v_aload_n (pc := 0) d_Pr_clear_0 rfl (.head _) ?_
  refine v_iconst (pc := 1) d_Pr_clear_1 (by decide) ?_
  refine v_putz (pc := 2) d_Pr_clear_2 fp_Pr_41 cC_8.1 cC_8.2 (by decide) rfl (by decide) ?_
  refine v_aload_n (pc := 5) d_Pr_clear_5 rfl (.head _) ?_
  refine v_iconst (pc := 6) d_Pr_clear_6 (by decide) ?_
  refine v_puti (pc := 7) d_Pr_clear_7 fp_Pr_45 cC_8.1 cC_8.2 (by decide) rfl ?_
  refine v_aload_n (pc := 10) d_Pr_clear_10 rfl (.head _) ?_
  refine v_iconst (pc := 11) d_Pr_clear_11 (by decide) ?_
  refine v_puti (pc := 12) d_Pr_clear_12 fp_Pr_49 cC_8.1 cC_8.2 (by decide) rfl ?_
  refine v_aload_n (pc := 15) d_Pr_clear_15 rfl (.head _) ?_
  refine v_getr (C := "") (pc := 16) (r := 13) d_Pr_clear_16 fl_Pr_30 cC_8.1 cC_8.2 (Or.inl ⟨_, rfl⟩) rC_8_0 ?_
  refine v_callV (pc := 19) (J' := jLo_clear) (d' := d) (o := 13) (ci := 4) (N := 7) (T := cT4) (As := []) d_Pr_clear_19 ml_Pr_52 cC_13.1 cC_13.2 (by decide) rfl rfl (Nat.le_of_ble_eq_true rfl) (Nat.le_refl _) rfl (Cal.weak h (fun o w1 h => ?_))
  rcases rV_of h with ⟨rfl, h⟩
  refine v_aload_n (pc := 22) d_Pr_clear_22 rfl (.head _) ?_
  refine v_getr (C := "") (pc := 23) (r := 19) d_Pr_clear_23 fl_Pr_37 cC_8.1 cC_8.2 (Or.inl ⟨_, rfl⟩) rC_8_1 ?_
  refine v_callV (pc := 26) (J' := jCo_clear) (d' := d) (o := 19) (ci := 0) (N := 6) (T := cT0) (As := []) d_Pr_clear_26 ml_Pr_55 cC_19.1 cC_19.2 (by decide) rfl rfl (Nat.le_of_ble_eq_true rfl) (Nat.le_refl _) rfl (Cal.weak h (fun o w2 h => ?_))
  rcases rV_of h with ⟨rfl, h⟩
  exact v_vret (pc := 29) d_Pr_clear_29 rfl h
theorem d_Pr_howMany_0 : decode jPr_howMany.cc 0 = .ok (.aload_n 0, 1) := by decide +kernel
theorem d_Pr_howMany_1 : decode jPr_howMany.cc 1 = .ok (.getfield 41, 3) := by decide +kernel
theorem d_Pr_howMany_4 : decode jPr_howMany.cc 4 = .ok (.ifCond .eq 14, 3) := by decide +kernel
theorem d_Pr_howMany_7 : decode jPr_howMany.cc 7 = .ok (.aload_n 0, 1) := by decide +kernel
theorem d_Pr_howMany_8 : decode jPr_howMany.cc 8 = .ok (.getfield 30, 3) := by decide +kernel
theorem d_Pr_howMany_11 : decode jPr_howMany.cc 11 = .ok (.iload_n 1, 1) := by decide +kernel
theorem d_Pr_howMany_12 : decode jPr_howMany.cc 12 = .ok (.invokevirtual 56, 3) := by decide +kernel
theorem d_Pr_howMany_15 : decode jPr_howMany.cc 15 = .ok (.goto 4, 3) := by decide +kernel
theorem d_Pr_howMany_18 : decode jPr_howMany.cc 18 = .ok (.iconst 0, 1) := by decide +kernel
theorem d_Pr_howMany_19 : decode jPr_howMany.cc 19 = .ok (.ireturn, 1) := by decide +kernel
set_option maxHeartbeats 4000000 in
theorem s_Pr_howMany {g : Mg} {d : Nat} {K : Ou → Wd → Prop} {w : Wd} {p1 : Int} (h : ((w 8 2) = 0 → (K (.inl (some (vI 0))) w)) ∧ (¬ (w 8 2) = 0 → (Cal g LC jLo_howMany d [vA 13, vI p1] w (fun o w1 => rI o (fun x2 => K (.inl (some (vI x2))) w1))))) : V g LC jPr_howMany (d + 1) K 0 [(0, vA 8), (1, vI p1)] [] w := by
  refine v_aload_n (pc := 0) d_Pr_howMany_0 rfl (.head _) ?_
  refine v_geti (pc := 1) (x := (w 8 2)) d_Pr_howMany_1 fl_Pr_41 cC_8.1 cC_8.2 (Or.inr rfl) rfl ?_
  refine v_ifeq (pc := 4) (tgt := 18) d_Pr_howMany_4 (by decide) (fun c => ?_) (fun c => ?_)
  · replace h := h.1 c
    refine v_iconst (pc := 18) d_Pr_howMany_18 (by decide) ?_
    exact v_iret (pc := 19) d_Pr_howMany_19 rfl h
  · replace h := h.2 c
    refine v_aload_n (pc := 7) d_Pr_howMany_7 rfl (.head _) ?_
    refine v_getr (C := "") (pc := 8) (r := 13) d_Pr_howMany_8 fl_Pr_30 cC_8.1 cC_8.2 (Or.inl ⟨_, rfl⟩) rC_8_0 ?_
    refine v_iload_n (pc := 11) d_Pr_howMany_11 rfl (.tail _ (.head _)) ?_
    refine v_callV (pc := 12) (J' := jLo_howMany) (d' := d) (o := 13) (ci := 4) (N := 7) (T := cT4) (As := [vI p1]) d_Pr_howMany_12 ml_Pr_56 cC_13.1 cC_13.2 (by decide) rfl rfl (Nat.le_of_ble_eq_true rfl) (Nat.le_refl _) rfl (Cal.weak h (fun o w1 h => ?_))
    rcases rI_of h with ⟨x2, rfl, h⟩
    refine v_goto (pc := 15) (tgt := 19) d_Pr_howMany_15 (by decide) ?_
    exact v_iret (pc := 19) d_Pr_howMany_19 rfl h
theorem d_Pr_write_0 : decode jPr_write.cc 0 = .ok (.aload_n 0, 1) := by decide +kernel
theorem d_Pr_write_1 : decode jPr_write.cc 1 = .ok (.getfield 49, 3) := by decide +kernel
theorem d_Pr_write_4 : decode jPr_write.cc 4 = .ok (.ifCond .le 9, 3) := by decide +kernel
theorem d_Pr_write_7 : decode jPr_write.cc 7 = .ok (.aload_n 0, 1) := by decide +kernel
theorem d_Pr_write_8 : decode jPr_write.cc 8 = .ok (.bipush 32, 2) := by decide +kernel
theorem d_Pr_write_10 : decode jPr_write.cc 10 = .ok (.invokevirtual 60, 3) := by decide +kernel
theorem d_Pr_write_13 : decode jPr_write.cc 13 = .ok (.iload_n 2, 1) := by decide +kernel
theorem d_Pr_write_14 : decode jPr_write.cc 14 = .ok (.istore 4, 2) := by decide +kernel
theorem d_Pr_write_16 : decode jPr_write.cc 16 = .ok (.iload 4, 2) := by decide +kernel
theorem d_Pr_write_18 : decode jPr_write.cc 18 = .ok (.iload_n 3, 1) := by decide +kernel
theorem d_Pr_write_19 : decode jPr_write.cc 19 = .ok (.if_icmp .ge 17, 3) := by decide +kernel
theorem d_Pr_write_22 : decode jPr_write.cc 22 = .ok (.aload_n 0, 1) := by decide +kernel
theorem d_Pr_write_23 : decode jPr_write.cc 23 = .ok (.aload_n 1, 1) := by decide +kernel
theorem d_Pr_write_24 : decode jPr_write.cc 24 = .ok (.iload 4, 2) := by decide +kernel
theorem d_Pr_write_26 : decode jPr_write.cc 26 = .ok (.baload, 1) := by decide +kernel
theorem d_Pr_write_27 : decode jPr_write.cc 27 = .ok (.invokevirtual 60, 3) := by decide +kernel
theorem d_Pr_write_30 : decode jPr_write.cc 30 = .ok (.iinc 4 1, 3) := by decide +kernel
theorem d_Pr_write_33 : decode jPr_write.cc 33 = .ok (.goto (-17), 3) := by decide +kernel
theorem d_Pr_write_36 : decode jPr_write.cc 36 = .ok (.return_, 1) := by decide +kernel
set_option maxHeartbeats 4000000 in
theorem s_Pr_write {g : Mg} {d : Nat} {K : Ou → Wd → Prop} {w : Wd} {p2 : Int} {p3 : Int} (h : ((w 8 10) ≤ 0 → (V g LC jPr_write (d + 1) K 16 [(0, vA 8), (1, vA 3), (3, vI p3), (4, vI p2)] [] w)) ∧ (¬ (w 8 10) ≤ 0 → (Cal g LC jPr_writeByte d [vA 8, vI 32] w (fun o w1 => rV o (V g LC jPr_write (d + 1) K 16 [(0, vA 8), (1, vA 3), (3, vI p3), (4, vI p2)] [] w1))))) : V g LC jPr_write (d + 1) K 0 [(0, vA 8), (1, vA 3), (2, vI p2), (3, vI p3)] [] w := by
  refine v_aload_n (pc := 0) d_Pr_write_0 rfl (.head _) ?_
  refine v_geti (pc := 1) (x := (w 8 10)) d_Pr_write_1 fl_Pr_49 cC_8.1 cC_8.2 (Or.inl rfl) rfl ?_
  refine v_ifle (pc := 4) (tgt := 13) d_Pr_write_4 (by decide) (fun c => ?_) (fun c => ?_)
  · replace h := h.1 c
    refine v_iload_n (pc := 13) d_Pr_write_13 rfl (.tail _ (.tail _ (.head _))) ?_
    refine v_istore (pc := 14) (ls' := [(4, vI p2), (0, vA 8), (1, vA 3), (2, vI p2), (3, vI p3)]) d_Pr_write_14 (by decide) rfl ?_
    exact v_sub (List.forall_mem_cons.mpr ⟨(.tail _ (.head _)), (List.forall_mem_cons.mpr ⟨(.tail _ (.tail _ (.head _))), (List.forall_mem_cons.mpr ⟨(.tail _ (.tail _ (.tail _ (.tail _ (.head _))))), (List.forall_mem_cons.mpr ⟨(.head _), (fun _ z => absurd z List.not_mem_nil)⟩)⟩)⟩)⟩) h
  · replace h := h.2 c
    refine v_aload_n (pc := 7) d_Pr_write_7 rfl (.head _) ?_
    refine v_bipush (pc := 8) d_Pr_write_8 (by decide) rfl ?_
    refine v_callV (pc := 10) (J' := jPr_writeByte) (d' := d) (o := 8) (ci := 7) (N := 11) (T := cT7) (As := [vI 32]) d_Pr_write_10 ml_Pr_60 cC_8.1 cC_8.2 (by decide) rfl rfl (Nat.le_of_ble_eq_true rfl) (Nat.le_refl _) rfl (Cal.weak h (fun o w1 h => ?_))
    rcases rV_of h with ⟨rfl, h⟩
    refine v_iload_n (pc := 13) d_Pr_write_13 rfl (.tail _ (.tail _ (.head _))) ?_
    refine v_istore (pc := 14) (ls' := [(4, vI p2), (0, vA 8), (1, vA 3), (2, vI p2), (3, vI p3)]) d_Pr_write_14 (by decide) rfl ?_
    exact v_sub (List.forall_mem_cons.mpr ⟨(.tail _ (.head _)), (List.forall_mem_cons.mpr ⟨(.tail _ (.tail _ (.head _))), (List.forall_mem_cons.mpr ⟨(.tail _ (.tail _ (.tail _ (.tail _ (.head _))))), (List.forall_mem_cons.mpr ⟨(.head _), (fun _ z => absurd z List.not_mem_nil)⟩)⟩)⟩)⟩) h
set_option maxHeartbeats 4000000 in
theorem s_Pr_write_16 {g : Mg} {d : Nat} {K : Ou → Wd → Prop} {w : Wd} {x3_ : Int} {x4_ : Int} (h : (x3_ ≤ x4_ → (K (.inl none) w)) ∧ (¬ x3_ ≤ x4_ → ((0 ≤ x4_ ∧ x4_ < 4000) ∧ (Cal g LC jPr_writeByte d [vA 8, vI (w 3 x4_.toNat)] w (fun o w1 => rV o (V g LC jPr_write (d + 1) K 16 [(0, vA 8), (1, vA 3), (3, vI x3_), (4, vI (wr (x4_ + 1)))] [] w1)))))) : V g LC jPr_write (d + 1) K 16 [(0, vA 8), (1, vA 3), (3, vI x3_), (4, vI x4_)] [] w := by
  refine v_iload (pc := 16) d_Pr_write_16 (.tail _ (.tail _ (.tail _ (.head _)))) ?_
  refine v_iload_n (pc := 18) d_Pr_write_18 rfl (.tail _ (.tail _ (.head _))) ?_
  refine v_icmpge (pc := 19) (tgt := 36) d_Pr_write_19 (by decide) (fun c => ?_) (fun c => ?_)
  · replace h := h.1 c
    exact v_vret (pc := 36) d_Pr_write_36 rfl h
  · replace h := h.2 c
    refine v_aload_n (pc := 22) d_Pr_write_22 rfl (.head _) ?_
    refine v_aload_n (pc := 23) d_Pr_write_23 rfl (.tail _ (.head _)) ?_
    refine v_iload (pc := 24) d_Pr_write_24 (.tail _ (.tail _ (.tail _ (.head _)))) ?_
    refine v_bald (pc := 26) (x := (w 3 x4_.toNat)) d_Pr_write_26 cC_3.1 cC_3.2 rfl h.1 ?_
    replace h := h.2
    refine v_callV (pc := 27) (J' := jPr_writeByte) (d' := d) (o := 8) (ci := 7) (N := 11) (T := cT7) (As := [vI (w 3 x4_.toNat)]) d_Pr_write_27 ml_Pr_60 cC_8.1 cC_8.2 (by decide) rfl rfl (Nat.le_of_ble_eq_true rfl) (Nat.le_refl _) rfl (Cal.weak h (fun o w1 h => ?_))
    rcases rV_of h with ⟨rfl, h⟩
    refine v_iinc (pc := 30) (ls' := [(4, vI (wr (x4_ + 1))), (0, vA 8), (1, vA 3), (3, vI x3_)]) d_Pr_write_30 (.tail _ (.tail _ (.tail _ (.head _)))) (by decide) rfl ?_
    refine v_goto (pc := 33) (tgt := 16) d_Pr_write_33 (by decide) ?_
    exact v_sub (List.forall_mem_cons.mpr ⟨(.tail _ (.head _)), (List.forall_mem_cons.mpr ⟨(.tail _ (.tail _ (.head _))), (List.forall_mem_cons.mpr ⟨(.tail _ (.tail _ (.tail _ (.head _)))), (List.forall_mem_cons.mpr ⟨(.head _), (fun _ z => absurd z List.not_mem_nil)⟩)⟩)⟩)⟩) h
theorem d_Pr_writeByte_0 : decode jPr_writeByte.cc 0 = .ok (.aload_n 0, 1) := by decide +kernel
theorem d_Pr_writeByte_1 : decode jPr_writeByte.cc 1 = .ok (.getfield 49, 3) := by decide +kernel
theorem d_Pr_writeByte_4 : decode jPr_writeByte.cc 4 = .ok (.aload_n 0, 1) := by decide +kernel
theorem d_Pr_writeByte_5 : decode jPr_writeByte.cc 5 = .ok (.getfield 23, 3) := by decide +kernel
theorem d_Pr_writeByte_8 : decode jPr_writeByte.cc 8 = .ok (.arraylength, 1) := by decide +kernel
theorem d_Pr_writeByte_9 : decode jPr_writeByte.cc 9 = .ok (.if_icmp .ge 23, 3) := by decide +kernel
theorem d_Pr_writeByte_12 : decode jPr_writeByte.cc 12 = .ok (.aload_n 0, 1) := by decide +kernel
theorem d_Pr_writeByte_13 : decode jPr_writeByte.cc 13 = .ok (.getfield 23, 3) := by decide +kernel
theorem d_Pr_writeByte_16 : decode jPr_writeByte.cc 16 = .ok (.aload_n 0, 1) := by decide +kernel
theorem d_Pr_writeByte_17 : decode jPr_writeByte.cc 17 = .ok (.getfield 49, 3) := by decide +kernel
theorem d_Pr_writeByte_20 : decode jPr_writeByte.cc 20 = .ok (.iload_n 1, 1) := by decide +kernel
theorem d_Pr_writeByte_21 : decode jPr_writeByte.cc 21 = .ok (.bastore, 1) := by decide +kernel
theorem d_Pr_writeByte_22 : decode jPr_writeByte.cc 22 = .ok (.aload_n 0, 1) := by decide +kernel
theorem d_Pr_writeByte_23 : decode jPr_writeByte.cc 23 = .ok (.dup, 1) := by decide +kernel
theorem d_Pr_writeByte_24 : decode jPr_writeByte.cc 24 = .ok (.getfield 49, 3) := by decide +kernel
theorem d_Pr_writeByte_27 : decode jPr_writeByte.cc 27 = .ok (.iconst 1, 1) := by decide +kernel
theorem d_Pr_writeByte_28 : decode jPr_writeByte.cc 28 = .ok (.iadd, 1) := by decide +kernel
theorem d_Pr_writeByte_29 : decode jPr_writeByte.cc 29 = .ok (.putfield 49, 3) := by decide +kernel
theorem d_Pr_writeByte_32 : decode jPr_writeByte.cc 32 = .ok (.return_, 1) := by decide +kernel
set_option maxHeartbeats 4000000 in
theorem s_Pr_writeByte {g : Mg} {d : Nat} {K : Ou → Wd → Prop} {w : Wd} {p1 : Int} (h : (5000 ≤ (w 8 10) → (K (.inl none) w)) ∧ (¬ 5000 ≤ (w 8 10) → ((0 ≤ (w 8 10) ∧ (w 8 10) < 5000) ∧ (K (.inl none) (up (up w 12 ((w 8 10).toNat) (i2bF p1)) 8 10 (wr ((w 8 10) + 1))))))) : V g LC jPr_writeByte d K 0 [(0, vA 8), (1, vI p1)] [] w := by
  refine v_aload_n (pc := 0) d_Pr_writeByte_0 rfl (.head _) ?_
  refine v_geti (pc := 1) (x := (w 8 10)) d_Pr_writeByte_1 fl_Pr_49 cC_8.1 cC_8.2 (Or.inl rfl) rfl ?_
  refine v_aload_n (pc := 4) d_Pr_writeByte_4 rfl (.head _) ?_
  refine v_getr (C := "") (pc := 5) (r := 12) d_Pr_writeByte_5 fl_Pr_23 cC_8.1 cC_8.2 (Or.inr ⟨_, rfl⟩) rC_8_9 ?_
  refine v_alen (pc := 8) (n := 5000) d_Pr_writeByte_8 cC_12.1 cC_12.2 (by decide) (by decide) ?_
  refine v_icmpge (pc := 9) (tgt := 32) d_Pr_writeByte_9 (by decide) (fun c => ?_) (fun c => ?_)
  · replace h := h.1 c
    exact v_vret (pc := 32) d_Pr_writeByte_32 rfl h
  · replace h := h.2 c
    refine v_aload_n (pc := 12) d_Pr_writeByte_12 rfl (.head _) ?_
    refine v_getr (C := "") (pc := 13) (r := 12) d_Pr_writeByte_13 fl_Pr_23 cC_8.1 cC_8.2 (Or.inr ⟨_, rfl⟩) rC_8_9 ?_
    refine v_aload_n (pc := 16) d_Pr_writeByte_16 rfl (.head _) ?_
    refine v_geti (pc := 17) (x := (w 8 10)) d_Pr_writeByte_17 fl_Pr_49 cC_8.1 cC_8.2 (Or.inl rfl) rfl ?_
    refine v_iload_n (pc := 20) d_Pr_writeByte_20 rfl (.tail _ (.head _)) ?_
    refine v_bast (pc := 21) d_Pr_writeByte_21 cC_12.1 cC_12.2 (aC_12 _) h.1 ?_
    replace h := h.2
    refine v_aload_n (pc := 22) d_Pr_writeByte_22 rfl (.head _) ?_
    refine v_dup (pc := 23) d_Pr_writeByte_23 rfl ?_
    refine v_geti (pc := 24) (x := (w 8 10)) d_Pr_writeByte_24 fl_Pr_49 cC_8.1 cC_8.2 (Or.inl rfl) rfl ?_
    refine v_iconst (pc := 27) d_Pr_writeByte_27 (by decide) ?_
    refine v_iadd (pc := 28) d_Pr_writeByte_28 ?_
    refine v_puti (pc := 29) d_Pr_writeByte_29 fp_Pr_49 cC_8.1 cC_8.2 (by decide) rfl ?_
    exact v_vret (pc := 32) d_Pr_writeByte_32 rfl h
theorem d_Pr_kindOfWay_0 : decode jPr_kindOfWay.cc 0 = .ok (.iload_n 0, 1) := by decide +kernel
theorem d_Pr_kindOfWay_1 : decode jPr_kindOfWay.cc 1 = .ok (.bipush 39, 2) := by decide +kernel
theorem d_Pr_kindOfWay_3 : decode jPr_kindOfWay.cc 3 = .ok (.if_icmp .eq 9, 3) := by decide +kernel
theorem d_Pr_kindOfWay_6 : decode jPr_kindOfWay.cc 6 = .ok (.iload_n 0, 1) := by decide +kernel
theorem d_Pr_kindOfWay_7 : decode jPr_kindOfWay.cc 7 = .ok (.bipush 40, 2) := by decide +kernel
theorem d_Pr_kindOfWay_9 : decode jPr_kindOfWay.cc 9 = .ok (.if_icmp .ne 7, 3) := by decide +kernel
theorem d_Pr_kindOfWay_12 : decode jPr_kindOfWay.cc 12 = .ok (.iconst 2, 1) := by decide +kernel
theorem d_Pr_kindOfWay_13 : decode jPr_kindOfWay.cc 13 = .ok (.goto 4, 3) := by decide +kernel
theorem d_Pr_kindOfWay_16 : decode jPr_kindOfWay.cc 16 = .ok (.iconst 1, 1) := by decide +kernel
theorem d_Pr_kindOfWay_17 : decode jPr_kindOfWay.cc 17 = .ok (.ireturn, 1) := by decide +kernel
set_option maxHeartbeats 4000000 in
theorem s_Pr_kindOfWay {g : Mg} {d : Nat} {K : Ou → Wd → Prop} {w : Wd} {p0 : Int} (h : (p0 = 39 → (K (.inl (some (vI 2))) w)) ∧ (¬ p0 = 39 → ((¬ p0 = 40 → (K (.inl (some (vI 1))) w)) ∧ (p0 = 40 → (K (.inl (some (vI 2))) w))))) : V g LC jPr_kindOfWay d K 0 [(0, vI p0)] [] w := by
  refine v_iload_n (pc := 0) d_Pr_kindOfWay_0 rfl (.head _) ?_
  refine v_bipush (pc := 1) d_Pr_kindOfWay_1 (by decide) rfl ?_
  refine v_icmpeq (pc := 3) (tgt := 12) d_Pr_kindOfWay_3 (by decide) (fun c => ?_) (fun c => ?_)
  · replace h := h.1 c
    refine v_iconst (pc := 12) d_Pr_kindOfWay_12 (by decide) ?_
    refine v_goto (pc := 13) (tgt := 17) d_Pr_kindOfWay_13 (by decide) ?_
    exact v_iret (pc := 17) d_Pr_kindOfWay_17 rfl h
  · replace h := h.2 c
    refine v_iload_n (pc := 6) d_Pr_kindOfWay_6 rfl (.head _) ?_
    refine v_bipush (pc := 7) d_Pr_kindOfWay_7 (by decide) rfl ?_
    refine v_icmpne (pc := 9) (tgt := 16) d_Pr_kindOfWay_9 (by decide) (fun c => ?_) (fun c => ?_)
    · replace h := h.1 c
      refine v_iconst (pc := 16) d_Pr_kindOfWay_16 (by decide) ?_
      exact v_iret (pc := 17) d_Pr_kindOfWay_17 rfl h
    · replace h := h.2 c
      refine v_iconst (pc := 12) d_Pr_kindOfWay_12 (by decide) ?_
      refine v_goto (pc := 13) (tgt := 17) d_Pr_kindOfWay_13 (by decide) ?_
      exact v_iret (pc := 17) d_Pr_kindOfWay_17 rfl h
theorem d_Pr_nothing_0 : decode jPr_nothing.cc 0 = .ok (.iload_n 0, 1) := by decide +kernel
theorem d_Pr_nothing_1 : decode jPr_nothing.cc 1 = .ok (.tableswitch 39 36 39 #[31, 34, 39, 37], 31) := by decide +kernel
theorem d_Pr_nothing_32 : decode jPr_nothing.cc 32 = .ok (.ldc 66, 2) := by decide +kernel
theorem d_Pr_nothing_34 : decode jPr_nothing.cc 34 = .ok (.ireturn, 1) := by decide +kernel
theorem d_Pr_nothing_35 : decode jPr_nothing.cc 35 = .ok (.ldc 67, 2) := by decide +kernel
theorem d_Pr_nothing_37 : decode jPr_nothing.cc 37 = .ok (.ireturn, 1) := by decide +kernel
theorem d_Pr_nothing_38 : decode jPr_nothing.cc 38 = .ok (.iconst 1, 1) := by decide +kernel
theorem d_Pr_nothing_39 : decode jPr_nothing.cc 39 = .ok (.ireturn, 1) := by decide +kernel
theorem d_Pr_nothing_40 : decode jPr_nothing.cc 40 = .ok (.iconst 0, 1) := by decide +kernel
theorem d_Pr_nothing_41 : decode jPr_nothing.cc 41 = .ok (.ireturn, 1) := by decide +kernel
set_option maxHeartbeats 4000000 in
theorem s_Pr_nothing {g : Mg} {d : Nat} {K : Ou → Wd → Prop} {w : Wd} {p0 : Int} (h : ((p0 < 36 ∨ 39 < p0) → (K (.inl (some (vI 0))) w)) ∧ (p0 = 36 → (K (.inl (some (vI 2147483647))) w)) ∧ (p0 = 37 → (K (.inl (some (vI (-2147483648)))) w)) ∧ (p0 = 38 → (K (.inl (some (vI 0))) w)) ∧ (p0 = 39 → (K (.inl (some (vI 1))) w))) : V g LC jPr_nothing d K 0 [(0, vI p0)] [] w := by
  refine v_iload_n (pc := 0) d_Pr_nothing_0 rfl (.head _) ?_
  refine v_table (pc := 1) (tgd := 40) (tgs := [32, 35, 40, 38]) d_Pr_nothing_1 (by decide) (by decide) (by decide) (fun c => ?_) ⟨fun c => ?_, fun c => ?_, fun c => ?_, fun c => ?_, trivial⟩
  · replace h := h.1 c
    refine v_iconst (pc := 40) d_Pr_nothing_40 (by decide) ?_
    exact v_iret (pc := 41) d_Pr_nothing_41 rfl h
  · replace h := h.2.1 c
    refine v_ldc (pc := 32) (n := 2147483647) d_Pr_nothing_32 (by decide) (mt_5 137 rfl rfl) ?_
    exact v_iret (pc := 34) d_Pr_nothing_34 rfl h
  · replace h := h.2.2.1 c
    refine v_ldc (pc := 35) (n := (-2147483648)) d_Pr_nothing_35 (by decide) (mt_5 138 rfl rfl) ?_
    exact v_iret (pc := 37) d_Pr_nothing_37 rfl h
  · replace h := h.2.2.2.1 c
    refine v_iconst (pc := 40) d_Pr_nothing_40 (by decide) ?_
    exact v_iret (pc := 41) d_Pr_nothing_41 rfl h
  · replace h := h.2.2.2.2 c
    refine v_iconst (pc := 38) d_Pr_nothing_38 (by decide) ?_
    exact v_iret (pc := 39) d_Pr_nothing_39 rfl h
theorem d_Pr_folded_0 : decode jPr_folded.cc 0 = .ok (.iload_n 0, 1) := by decide +kernel
theorem d_Pr_folded_1 : decode jPr_folded.cc 1 = .ok (.tableswitch 65 35 39 #[35, 39, 45, 51, 61], 35) := by decide +kernel
theorem d_Pr_folded_36 : decode jPr_folded.cc 36 = .ok (.iload_n 1, 1) := by decide +kernel
theorem d_Pr_folded_37 : decode jPr_folded.cc 37 = .ok (.iload_n 3, 1) := by decide +kernel
theorem d_Pr_folded_38 : decode jPr_folded.cc 38 = .ok (.iadd, 1) := by decide +kernel
theorem d_Pr_folded_39 : decode jPr_folded.cc 39 = .ok (.ireturn, 1) := by decide +kernel
theorem d_Pr_folded_40 : decode jPr_folded.cc 40 = .ok (.iload_n 1, 1) := by decide +kernel
theorem d_Pr_folded_41 : decode jPr_folded.cc 41 = .ok (.iload_n 3, 1) := by decide +kernel
theorem d_Pr_folded_42 : decode jPr_folded.cc 42 = .ok (.invokestatic 68, 3) := by decide +kernel
theorem d_Pr_folded_45 : decode jPr_folded.cc 45 = .ok (.ireturn, 1) := by decide +kernel
theorem d_Pr_folded_46 : decode jPr_folded.cc 46 = .ok (.iload_n 1, 1) := by decide +kernel
theorem d_Pr_folded_47 : decode jPr_folded.cc 47 = .ok (.iload_n 3, 1) := by decide +kernel
theorem d_Pr_folded_48 : decode jPr_folded.cc 48 = .ok (.invokestatic 74, 3) := by decide +kernel
theorem d_Pr_folded_51 : decode jPr_folded.cc 51 = .ok (.ireturn, 1) := by decide +kernel
theorem d_Pr_folded_52 : decode jPr_folded.cc 52 = .ok (.iload_n 2, 1) := by decide +kernel
theorem d_Pr_folded_53 : decode jPr_folded.cc 53 = .ok (.ifCond .ne 7, 3) := by decide +kernel
theorem d_Pr_folded_56 : decode jPr_folded.cc 56 = .ok (.iload_n 3, 1) := by decide +kernel
theorem d_Pr_folded_57 : decode jPr_folded.cc 57 = .ok (.goto 4, 3) := by decide +kernel
theorem d_Pr_folded_60 : decode jPr_folded.cc 60 = .ok (.iload_n 1, 1) := by decide +kernel
theorem d_Pr_folded_61 : decode jPr_folded.cc 61 = .ok (.ireturn, 1) := by decide +kernel
theorem d_Pr_folded_62 : decode jPr_folded.cc 62 = .ok (.iload_n 1, 1) := by decide +kernel
theorem d_Pr_folded_63 : decode jPr_folded.cc 63 = .ok (.iload_n 3, 1) := by decide +kernel
theorem d_Pr_folded_64 : decode jPr_folded.cc 64 = .ok (.iand, 1) := by decide +kernel
theorem d_Pr_folded_65 : decode jPr_folded.cc 65 = .ok (.ireturn, 1) := by decide +kernel
theorem d_Pr_folded_66 : decode jPr_folded.cc 66 = .ok (.iload_n 1, 1) := by decide +kernel
theorem d_Pr_folded_67 : decode jPr_folded.cc 67 = .ok (.iload_n 3, 1) := by decide +kernel
theorem d_Pr_folded_68 : decode jPr_folded.cc 68 = .ok (.ior, 1) := by decide +kernel
theorem d_Pr_folded_69 : decode jPr_folded.cc 69 = .ok (.ireturn, 1) := by decide +kernel
set_option maxHeartbeats 4000000 in
theorem s_Pr_folded {g : Mg} {d : Nat} {K : Ou → Wd → Prop} {w : Wd} {p0 : Int} {p1 : Int} {p2 : Int} {p3 : Int} (h : ((p0 < 35 ∨ 39 < p0) → (K (.inl (some (vI (iOr p1 p3)))) w)) ∧ (p0 = 35 → (K (.inl (some (vI (wr (p1 + p3))))) w)) ∧ (p0 = 36 → (Cal g LC jMt_min d [vI p1, vI p3] w (fun o w1 => rI o (fun x2 => K (.inl (some (vI x2))) w1)))) ∧ (p0 = 37 → (Cal g LC jMt_max d [vI p1, vI p3] w (fun o w3 => rI o (fun x4 => K (.inl (some (vI x4))) w3)))) ∧ (p0 = 38 → ((¬ p2 = 0 → (K (.inl (some (vI p1))) w)) ∧ (p2 = 0 → (K (.inl (some (vI p3))) w)))) ∧ (p0 = 39 → (K (.inl (some (vI (iAnd p1 p3)))) w))) : V g LC jPr_folded (d + 1) K 0 [(0, vI p0), (1, vI p1), (2, vI p2), (3, vI p3)] [] w := by
  refine v_iload_n (pc := 0) d_Pr_folded_0 rfl (.head _) ?_
  refine v_table (pc := 1) (tgd := 66) (tgs := [36, 40, 46, 52, 62]) d_Pr_folded_1 (by decide) (by decide) (by decide) (fun c => ?_) ⟨fun c => ?_, fun c => ?_, fun c => ?_, fun c => ?_, fun c => ?_, trivial⟩
  · replace h := h.1 c
    refine v_iload_n (pc := 66) d_Pr_folded_66 rfl (.tail _ (.head _)) ?_
    refine v_iload_n (pc := 67) d_Pr_folded_67 rfl (.tail _ (.tail _ (.tail _ (.head _)))) ?_
    refine v_ior (pc := 68) d_Pr_folded_68 ?_
    exact v_iret (pc := 69) d_Pr_folded_69 rfl h
  · replace h := h.2.1 c
    refine v_iload_n (pc := 36) d_Pr_folded_36 rfl (.tail _ (.head _)) ?_
    refine v_iload_n (pc := 37) d_Pr_folded_37 rfl (.tail _ (.tail _ (.tail _ (.head _)))) ?_
    refine v_iadd (pc := 38) d_Pr_folded_38 ?_
    exact v_iret (pc := 39) d_Pr_folded_39 rfl h
  · replace h := h.2.2.1 c
    refine v_iload_n (pc := 40) d_Pr_folded_40 rfl (.tail _ (.head _)) ?_
    refine v_iload_n (pc := 41) d_Pr_folded_41 rfl (.tail _ (.tail _ (.tail _ (.head _)))) ?_
    refine v_callS (pc := 42) (J' := jMt_min) (d' := d) (As := [vI p1, vI p3]) d_Pr_folded_42 ml_Pr_68 rfl (Nat.le_of_ble_eq_true rfl) (Nat.le_refl _) rfl (Cal.weak h (fun o w1 h => ?_))
    rcases rI_of h with ⟨x2, rfl, h⟩
    exact v_iret (pc := 45) d_Pr_folded_45 rfl h
  · replace h := h.2.2.2.1 c
    refine v_iload_n (pc := 46) d_Pr_folded_46 rfl (.tail _ (.head _)) ?_
    refine v_iload_n (pc := 47) d_Pr_folded_47 rfl (.tail _ (.tail _ (.tail _ (.head _)))) ?_
    refine v_callS (pc := 48) (J' := jMt_max) (d' := d) (As := [vI p1, vI p3]) d_Pr_folded_48 ml_Pr_74 rfl (Nat.le_of_ble_eq_true rfl) (Nat.le_refl _) rfl (Cal.weak h (fun o w3 h => ?_))
    rcases rI_of h with ⟨x4, rfl, h⟩
    exact v_iret (pc := 51) d_Pr_folded_51 rfl h
  · replace h := h.2.2.2.2.1 c
    refine v_iload_n (pc := 52) d_Pr_folded_52 rfl (.tail _ (.tail _ (.head _))) ?_
    refine v_ifne (pc := 53) (tgt := 60) d_Pr_folded_53 (by decide) (fun c => ?_) (fun c => ?_)
    · replace h := h.1 c
      refine v_iload_n (pc := 60) d_Pr_folded_60 rfl (.tail _ (.head _)) ?_
      exact v_iret (pc := 61) d_Pr_folded_61 rfl h
    · replace h := h.2 c
      refine v_iload_n (pc := 56) d_Pr_folded_56 rfl (.tail _ (.tail _ (.tail _ (.head _)))) ?_
      refine v_goto (pc := 57) (tgt := 61) d_Pr_folded_57 (by decide) ?_
      exact v_iret (pc := 61) d_Pr_folded_61 rfl h
  · replace h := h.2.2.2.2.2 c
    refine v_iload_n (pc := 62) d_Pr_folded_62 rfl (.tail _ (.head _)) ?_
    refine v_iload_n (pc := 63) d_Pr_folded_63 rfl (.tail _ (.tail _ (.tail _ (.head _)))) ?_
    refine v_iand (pc := 64) d_Pr_folded_64 ?_
    exact v_iret (pc := 65) d_Pr_folded_65 rfl h
