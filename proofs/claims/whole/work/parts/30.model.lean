theorem d_Md_in_0 : decode jMd_in.cc 0 = .ok (.lload_n 0, 1) := by decide +kernel
theorem d_Md_in_1 : decode jMd_in.cc 1 = .ok (.lload_n 2, 1) := by decide +kernel
theorem d_Md_in_2 : decode jMd_in.cc 2 = .ok (.lcmp, 1) := by decide +kernel
theorem d_Md_in_3 : decode jMd_in.cc 3 = .ok (.ifCond .lt 14, 3) := by decide +kernel
theorem d_Md_in_6 : decode jMd_in.cc 6 = .ok (.lload_n 0, 1) := by decide +kernel
theorem d_Md_in_7 : decode jMd_in.cc 7 = .ok (.lload 4, 2) := by decide +kernel
theorem d_Md_in_9 : decode jMd_in.cc 9 = .ok (.lcmp, 1) := by decide +kernel
theorem d_Md_in_10 : decode jMd_in.cc 10 = .ok (.ifCond .gt 7, 3) := by decide +kernel
theorem d_Md_in_13 : decode jMd_in.cc 13 = .ok (.iconst 1, 1) := by decide +kernel
theorem d_Md_in_14 : decode jMd_in.cc 14 = .ok (.goto 4, 3) := by decide +kernel
theorem d_Md_in_17 : decode jMd_in.cc 17 = .ok (.iconst 0, 1) := by decide +kernel
theorem d_Md_in_18 : decode jMd_in.cc 18 = .ok (.ireturn, 1) := by decide +kernel
set_option maxHeartbeats 4000000 in
theorem s_Md_in {g : Mg} {d : Nat} {K : Ou → Wd → Prop} {w : Wd} {p0 : Int} {p2 : Int} {p4 : Int} (h : ((lCmp p0 p2) < 0 → (K (.inl (some (vI 0))) w)) ∧ (¬ (lCmp p0 p2) < 0 → ((0 < (lCmp p0 p4) → (K (.inl (some (vI 0))) w)) ∧ (¬ 0 < (lCmp p0 p4) → (K (.inl (some (vI 1))) w))))) : V g LM jMd_in d K 0 [(0, vL p0), (2, vL p2), (4, vL p4)] [] w := by
  refine v_lload_n (pc := 0) d_Md_in_0 rfl (.head _) ?_
  refine v_lload_n (pc := 1) d_Md_in_1 rfl (.tail _ (.head _)) ?_
  refine v_lcmp (pc := 2) d_Md_in_2 ?_
  refine v_iflt (pc := 3) (tgt := 17) d_Md_in_3 (by decide) (fun c => ?_) (fun c => ?_)
  · replace h := h.1 c
    refine v_iconst (pc := 17) d_Md_in_17 (by decide) ?_
    exact v_zret (pc := 18) d_Md_in_18 rfl (by decide) h
  · replace h := h.2 c
    refine v_lload_n (pc := 6) d_Md_in_6 rfl (.head _) ?_
    refine v_lload (pc := 7) d_Md_in_7 (.tail _ (.tail _ (.head _))) ?_
    refine v_lcmp (pc := 9) d_Md_in_9 ?_
    refine v_ifgt (pc := 10) (tgt := 17) d_Md_in_10 (by decide) (fun c => ?_) (fun c => ?_)
    · replace h := h.1 c
      refine v_iconst (pc := 17) d_Md_in_17 (by decide) ?_
      exact v_zret (pc := 18) d_Md_in_18 rfl (by decide) h
    · replace h := h.2 c
      refine v_iconst (pc := 13) d_Md_in_13 (by decide) ?_
      refine v_goto (pc := 14) (tgt := 18) d_Md_in_14 (by decide) ?_
      exact v_zret (pc := 18) d_Md_in_18 rfl (by decide) h
theorem d_Md_fail_0 : decode jMd_fail.cc 0 = .ok (.aload_n 0, 1) := by decide +kernel
theorem d_Md_fail_1 : decode jMd_fail.cc 1 = .ok (.getfield 7, 3) := by decide +kernel
theorem d_Md_fail_4 : decode jMd_fail.cc 4 = .ok (.iload_n 1, 1) := by decide +kernel
theorem d_Md_fail_5 : decode jMd_fail.cc 5 = .ok (.putfield 11, 3) := by decide +kernel
theorem d_Md_fail_8 : decode jMd_fail.cc 8 = .ok (.aload_n 0, 1) := by decide +kernel
theorem d_Md_fail_9 : decode jMd_fail.cc 9 = .ok (.getfield 7, 3) := by decide +kernel
theorem d_Md_fail_12 : decode jMd_fail.cc 12 = .ok (.iload_n 2, 1) := by decide +kernel
theorem d_Md_fail_13 : decode jMd_fail.cc 13 = .ok (.putfield 16, 3) := by decide +kernel
theorem d_Md_fail_16 : decode jMd_fail.cc 16 = .ok (.aload_n 0, 1) := by decide +kernel
theorem d_Md_fail_17 : decode jMd_fail.cc 17 = .ok (.getfield 7, 3) := by decide +kernel
theorem d_Md_fail_20 : decode jMd_fail.cc 20 = .ok (.athrow, 1) := by decide +kernel
set_option maxHeartbeats 4000000 in
theorem s_Md_fail {g : Mg} {d : Nat} {K : Ou → Wd → Prop} {w : Wd} {p1 : Int} {p2 : Int} (h : K (.inr 1) (up (up w 1 0 p1) 1 1 p2)) : V g LM jMd_fail d K 0 [(0, vA 0), (1, vI p1), (2, vI p2)] [] w := by
  refine v_aload_n (pc := 0) d_Md_fail_0 rfl (.head _) ?_
  refine v_getr (C := "") (pc := 1) (r := 1) d_Md_fail_1 fl_Md_7 cM_0.1 cM_0.2 (Or.inl ⟨_, rfl⟩) rM_0_1 ?_
  refine v_iload_n (pc := 4) d_Md_fail_4 rfl (.tail _ (.head _)) ?_
  refine v_putN (pc := 5) fn_what d_Md_fail_5 cM_1.1 cM_1.2 (by decide) ?_
  refine v_aload_n (pc := 8) d_Md_fail_8 rfl (.head _) ?_
  refine v_getr (C := "") (pc := 9) (r := 1) d_Md_fail_9 fl_Md_7 cM_0.1 cM_0.2 (Or.inl ⟨_, rfl⟩) rM_0_1 ?_
  refine v_iload_n (pc := 12) d_Md_fail_12 rfl (.tail _ (.tail _ (.head _))) ?_
  refine v_putN (pc := 13) fn_place d_Md_fail_13 cM_1.1 cM_1.2 (by decide) ?_
  refine v_aload_n (pc := 16) d_Md_fail_16 rfl (.head _) ?_
  refine v_getr (C := "") (pc := 17) (r := 1) d_Md_fail_17 fl_Md_7 cM_0.1 cM_0.2 (Or.inl ⟨_, rfl⟩) rM_0_1 ?_
  exact v_athrow (pc := 20) d_Md_fail_20 rfl h
theorem d_Md_feed_0 : decode jMd_feed.cc 0 = .ok (.aload_n 0, 1) := by decide +kernel
theorem d_Md_feed_1 : decode jMd_feed.cc 1 = .ok (.iconst 0, 1) := by decide +kernel
theorem d_Md_feed_2 : decode jMd_feed.cc 2 = .ok (.putfield 1, 3) := by decide +kernel
theorem d_Md_feed_5 : decode jMd_feed.cc 5 = .ok (.aload_n 0, 1) := by decide +kernel
theorem d_Md_feed_6 : decode jMd_feed.cc 6 = .ok (.getfield 307, 3) := by decide +kernel
theorem d_Md_feed_9 : decode jMd_feed.cc 9 = .ok (.bipush 20, 2) := by decide +kernel
theorem d_Md_feed_11 : decode jMd_feed.cc 11 = .ok (.iadd, 1) := by decide +kernel
theorem d_Md_feed_12 : decode jMd_feed.cc 12 = .ok (.sipush 4000, 3) := by decide +kernel
theorem d_Md_feed_15 : decode jMd_feed.cc 15 = .ok (.if_icmp .le 6, 3) := by decide +kernel
theorem d_Md_feed_18 : decode jMd_feed.cc 18 = .ok (.bipush (-3), 2) := by decide +kernel
theorem d_Md_feed_20 : decode jMd_feed.cc 20 = .ok (.ireturn, 1) := by decide +kernel
theorem d_Md_feed_21 : decode jMd_feed.cc 21 = .ok (.iconst 0, 1) := by decide +kernel
theorem d_Md_feed_22 : decode jMd_feed.cc 22 = .ok (.istore 6, 2) := by decide +kernel
theorem d_Md_feed_24 : decode jMd_feed.cc 24 = .ok (.iload 6, 2) := by decide +kernel
theorem d_Md_feed_26 : decode jMd_feed.cc 26 = .ok (.bipush 20, 2) := by decide +kernel
theorem d_Md_feed_28 : decode jMd_feed.cc 28 = .ok (.if_icmp .ge 83, 3) := by decide +kernel
theorem d_Md_feed_31 : decode jMd_feed.cc 31 = .ok (.iload 6, 2) := by decide +kernel
theorem d_Md_feed_33 : decode jMd_feed.cc 33 = .ok (.iconst 4, 1) := by decide +kernel
theorem d_Md_feed_34 : decode jMd_feed.cc 34 = .ok (.if_icmp .ge 7, 3) := by decide +kernel
theorem d_Md_feed_37 : decode jMd_feed.cc 37 = .ok (.iload_n 1, 1) := by decide +kernel
theorem d_Md_feed_38 : decode jMd_feed.cc 38 = .ok (.goto 39, 3) := by decide +kernel
theorem d_Md_feed_41 : decode jMd_feed.cc 41 = .ok (.iload 6, 2) := by decide +kernel
theorem d_Md_feed_43 : decode jMd_feed.cc 43 = .ok (.bipush 8, 2) := by decide +kernel
theorem d_Md_feed_45 : decode jMd_feed.cc 45 = .ok (.if_icmp .ge 7, 3) := by decide +kernel
theorem d_Md_feed_48 : decode jMd_feed.cc 48 = .ok (.iload_n 2, 1) := by decide +kernel
theorem d_Md_feed_49 : decode jMd_feed.cc 49 = .ok (.goto 28, 3) := by decide +kernel
theorem d_Md_feed_52 : decode jMd_feed.cc 52 = .ok (.iload 6, 2) := by decide +kernel
theorem d_Md_feed_54 : decode jMd_feed.cc 54 = .ok (.bipush 12, 2) := by decide +kernel
theorem d_Md_feed_56 : decode jMd_feed.cc 56 = .ok (.if_icmp .ge 7, 3) := by decide +kernel
theorem d_Md_feed_59 : decode jMd_feed.cc 59 = .ok (.iload_n 3, 1) := by decide +kernel
theorem d_Md_feed_60 : decode jMd_feed.cc 60 = .ok (.goto 17, 3) := by decide +kernel
theorem d_Md_feed_63 : decode jMd_feed.cc 63 = .ok (.iload 6, 2) := by decide +kernel
theorem d_Md_feed_65 : decode jMd_feed.cc 65 = .ok (.bipush 16, 2) := by decide +kernel
theorem d_Md_feed_67 : decode jMd_feed.cc 67 = .ok (.if_icmp .ge 8, 3) := by decide +kernel
theorem d_Md_feed_70 : decode jMd_feed.cc 70 = .ok (.iload 4, 2) := by decide +kernel
theorem d_Md_feed_72 : decode jMd_feed.cc 72 = .ok (.goto 5, 3) := by decide +kernel
theorem d_Md_feed_75 : decode jMd_feed.cc 75 = .ok (.iload 5, 2) := by decide +kernel
theorem d_Md_feed_77 : decode jMd_feed.cc 77 = .ok (.istore 7, 2) := by decide +kernel
theorem d_Md_feed_79 : decode jMd_feed.cc 79 = .ok (.aload_n 0, 1) := by decide +kernel
theorem d_Md_feed_80 : decode jMd_feed.cc 80 = .ok (.getfield 26, 3) := by decide +kernel
theorem d_Md_feed_83 : decode jMd_feed.cc 83 = .ok (.aload_n 0, 1) := by decide +kernel
theorem d_Md_feed_84 : decode jMd_feed.cc 84 = .ok (.getfield 307, 3) := by decide +kernel
theorem d_Md_feed_87 : decode jMd_feed.cc 87 = .ok (.iload 6, 2) := by decide +kernel
theorem d_Md_feed_89 : decode jMd_feed.cc 89 = .ok (.iadd, 1) := by decide +kernel
theorem d_Md_feed_90 : decode jMd_feed.cc 90 = .ok (.iload 7, 2) := by decide +kernel
theorem d_Md_feed_92 : decode jMd_feed.cc 92 = .ok (.bipush 24, 2) := by decide +kernel
theorem d_Md_feed_94 : decode jMd_feed.cc 94 = .ok (.bipush 8, 2) := by decide +kernel
theorem d_Md_feed_96 : decode jMd_feed.cc 96 = .ok (.iload 6, 2) := by decide +kernel
theorem d_Md_feed_98 : decode jMd_feed.cc 98 = .ok (.iconst 4, 1) := by decide +kernel
theorem d_Md_feed_99 : decode jMd_feed.cc 99 = .ok (.irem, 1) := by decide +kernel
theorem d_Md_feed_100 : decode jMd_feed.cc 100 = .ok (.imul, 1) := by decide +kernel
theorem d_Md_feed_101 : decode jMd_feed.cc 101 = .ok (.isub, 1) := by decide +kernel
theorem d_Md_feed_102 : decode jMd_feed.cc 102 = .ok (.iushr, 1) := by decide +kernel
theorem d_Md_feed_103 : decode jMd_feed.cc 103 = .ok (.i2b, 1) := by decide +kernel
theorem d_Md_feed_104 : decode jMd_feed.cc 104 = .ok (.bastore, 1) := by decide +kernel
theorem d_Md_feed_105 : decode jMd_feed.cc 105 = .ok (.iinc 6 1, 3) := by decide +kernel
theorem d_Md_feed_108 : decode jMd_feed.cc 108 = .ok (.goto (-84), 3) := by decide +kernel
theorem d_Md_feed_111 : decode jMd_feed.cc 111 = .ok (.aload_n 0, 1) := by decide +kernel
theorem d_Md_feed_112 : decode jMd_feed.cc 112 = .ok (.aload_n 0, 1) := by decide +kernel
theorem d_Md_feed_113 : decode jMd_feed.cc 113 = .ok (.getfield 307, 3) := by decide +kernel
theorem d_Md_feed_116 : decode jMd_feed.cc 116 = .ok (.bipush 20, 2) := by decide +kernel
theorem d_Md_feed_118 : decode jMd_feed.cc 118 = .ok (.iadd, 1) := by decide +kernel
theorem d_Md_feed_119 : decode jMd_feed.cc 119 = .ok (.putfield 307, 3) := by decide +kernel
theorem d_Md_feed_122 : decode jMd_feed.cc 122 = .ok (.aload_n 0, 1) := by decide +kernel
theorem d_Md_feed_123 : decode jMd_feed.cc 123 = .ok (.getfield 307, 3) := by decide +kernel
theorem d_Md_feed_126 : decode jMd_feed.cc 126 = .ok (.ireturn, 1) := by decide +kernel
set_option maxHeartbeats 4000000 in
theorem s_Md_feed {g : Mg} {d : Nat} {K : Ou → Wd → Prop} {w : Wd} {p1 : Int} {p2 : Int} {p3 : Int} {p4 : Int} {p5 : Int} (h : ((wr ((w 0 3) + 20)) ≤ 4000 → (V g LM jMd_feed d K 24 [(0, vA 0), (1, vI p1), (2, vI p2), (3, vI p3), (4, vI p4), (5, vI p5), (6, vI 0)] [] (up w 0 0 0))) ∧ (¬ (wr ((w 0 3) + 20)) ≤ 4000 → (K (.inl (some (vI (-3)))) (up w 0 0 0)))) : V g LM jMd_feed d K 0 [(0, vA 0), (1, vI p1), (2, vI p2), (3, vI p3), (4, vI p4), (5, vI p5)] [] w := by
  refine v_aload_n (pc := 0) d_Md_feed_0 rfl (.head _) ?_
  refine v_iconst (pc := 1) d_Md_feed_1 (by decide) ?_
  refine v_puti (pc := 2) d_Md_feed_2 fp_Md_1 cM_0.1 cM_0.2 (by decide) rfl ?_
  refine v_aload_n (pc := 5) d_Md_feed_5 rfl (.head _) ?_
  refine v_geti (pc := 6) (x := (w 0 3)) d_Md_feed_6 fl_Md_307 cM_0.1 cM_0.2 (Or.inl rfl) rfl ?_
  refine v_bipush (pc := 9) d_Md_feed_9 (by decide) rfl ?_
  refine v_iadd (pc := 11) d_Md_feed_11 ?_
  refine v_sipush (pc := 12) d_Md_feed_12 (by decide) rfl ?_
  refine v_icmple (pc := 15) (tgt := 21) d_Md_feed_15 (by decide) (fun c => ?_) (fun c => ?_)
  · replace h := h.1 c
    refine v_iconst (pc := 21) d_Md_feed_21 (by decide) ?_
    refine v_istore (pc := 22) (ls' := [(6, vI 0), (0, vA 0), (1, vI p1), (2, vI p2), (3, vI p3), (4, vI p4), (5, vI p5)]) d_Md_feed_22 (by decide) rfl ?_
    exact v_sub (List.forall_mem_cons.mpr ⟨(.tail _ (.head _)), (List.forall_mem_cons.mpr ⟨(.tail _ (.tail _ (.head _))), (List.forall_mem_cons.mpr ⟨(.tail _ (.tail _ (.tail _ (.head _)))), (List.forall_mem_cons.mpr ⟨(.tail _ (.tail _ (.tail _ (.tail _ (.head _))))), (List.forall_mem_cons.mpr ⟨(.tail _ (.tail _ (.tail _ (.tail _ (.tail _ (.head _)))))), (List.forall_mem_cons.mpr ⟨(.tail _ (.tail _ (.tail _ (.tail _ (.tail _ (.tail _ (.head _))))))), (List.forall_mem_cons.mpr ⟨(.head _), (fun _ z => absurd z List.not_mem_nil)⟩)⟩)⟩)⟩)⟩)⟩)⟩) h
  · replace h := h.2 c
    refine v_bipush (pc := 18) d_Md_feed_18 (by decide) rfl ?_
    exact v_iret (pc := 20) d_Md_feed_20 rfl h
set_option maxHeartbeats 4000000 in
theorem s_Md_feed_24 {g : Mg} {d : Nat} {K : Ou → Wd → Prop} {w : Wd} {x1_ : Int} {x2_ : Int} {x3_ : Int} {x4_ : Int} {x5_ : Int} {x6_ : Int} (h : (20 ≤ x6_ → (K (.inl (some (vI (wr ((w 0 3) + 20))))) (up w 0 3 (wr ((w 0 3) + 20))))) ∧ (¬ 20 ≤ x6_ → ((4 ≤ x6_ → ((8 ≤ x6_ → ((12 ≤ x6_ → ((16 ≤ x6_ → ((0 ≤ (wr ((w 0 3) + x6_)) ∧ (wr ((w 0 3) + x6_)) < 4020) ∧ (V g LM jMd_feed d K 24 [(0, vA 0), (1, vI x1_), (2, vI x2_), (3, vI x3_), (4, vI x4_), (5, vI x5_), (6, vI (wr (x6_ + 1)))] [] (up w 2 ((wr ((w 0 3) + x6_)).toNat) (i2bF (i2bF (iUshr x5_ (wr (24 - (wr (8 * (iRem x6_ 4)))))))))))) ∧ (¬ 16 ≤ x6_ → ((0 ≤ (wr ((w 0 3) + x6_)) ∧ (wr ((w 0 3) + x6_)) < 4020) ∧ (V g LM jMd_feed d K 24 [(0, vA 0), (1, vI x1_), (2, vI x2_), (3, vI x3_), (4, vI x4_), (5, vI x5_), (6, vI (wr (x6_ + 1)))] [] (up w 2 ((wr ((w 0 3) + x6_)).toNat) (i2bF (i2bF (iUshr x4_ (wr (24 - (wr (8 * (iRem x6_ 4)))))))))))))) ∧ (¬ 12 ≤ x6_ → ((0 ≤ (wr ((w 0 3) + x6_)) ∧ (wr ((w 0 3) + x6_)) < 4020) ∧ (V g LM jMd_feed d K 24 [(0, vA 0), (1, vI x1_), (2, vI x2_), (3, vI x3_), (4, vI x4_), (5, vI x5_), (6, vI (wr (x6_ + 1)))] [] (up w 2 ((wr ((w 0 3) + x6_)).toNat) (i2bF (i2bF (iUshr x3_ (wr (24 - (wr (8 * (iRem x6_ 4)))))))))))))) ∧ (¬ 8 ≤ x6_ → ((0 ≤ (wr ((w 0 3) + x6_)) ∧ (wr ((w 0 3) + x6_)) < 4020) ∧ (V g LM jMd_feed d K 24 [(0, vA 0), (1, vI x1_), (2, vI x2_), (3, vI x3_), (4, vI x4_), (5, vI x5_), (6, vI (wr (x6_ + 1)))] [] (up w 2 ((wr ((w 0 3) + x6_)).toNat) (i2bF (i2bF (iUshr x2_ (wr (24 - (wr (8 * (iRem x6_ 4)))))))))))))) ∧ (¬ 4 ≤ x6_ → ((0 ≤ (wr ((w 0 3) + x6_)) ∧ (wr ((w 0 3) + x6_)) < 4020) ∧ (V g LM jMd_feed d K 24 [(0, vA 0), (1, vI x1_), (2, vI x2_), (3, vI x3_), (4, vI x4_), (5, vI x5_), (6, vI (wr (x6_ + 1)))] [] (up w 2 ((wr ((w 0 3) + x6_)).toNat) (i2bF (i2bF (iUshr x1_ (wr (24 - (wr (8 * (iRem x6_ 4))))))))))))))) : V g LM jMd_feed d K 24 [(0, vA 0), (1, vI x1_), (2, vI x2_), (3, vI x3_), (4, vI x4_), (5, vI x5_), (6, vI x6_)] [] w := by
  refine v_iload (pc := 24) d_Md_feed_24 (.tail _ (.tail _ (.tail _ (.tail _ (.tail _ (.tail _ (.head _))))))) ?_
  refine v_bipush (pc := 26) d_Md_feed_26 (by decide) rfl ?_
  refine v_icmpge (pc := 28) (tgt := 111) d_Md_feed_28 (by decide) (fun c => ?_) (fun c => ?_)
  · replace h := h.1 c
    refine v_aload_n (pc := 111) d_Md_feed_111 rfl (.head _) ?_
    refine v_aload_n (pc := 112) d_Md_feed_112 rfl (.head _) ?_
    refine v_geti (pc := 113) (x := (w 0 3)) d_Md_feed_113 fl_Md_307 cM_0.1 cM_0.2 (Or.inl rfl) rfl ?_
    refine v_bipush (pc := 116) d_Md_feed_116 (by decide) rfl ?_
    refine v_iadd (pc := 118) d_Md_feed_118 ?_
    refine v_puti (pc := 119) d_Md_feed_119 fp_Md_307 cM_0.1 cM_0.2 (by decide) rfl ?_
    refine v_aload_n (pc := 122) d_Md_feed_122 rfl (.head _) ?_
    refine v_geti (pc := 123) (x := (wr ((w 0 3) + 20))) d_Md_feed_123 fl_Md_307 cM_0.1 cM_0.2 (Or.inl rfl) rfl ?_
    exact v_iret (pc := 126) d_Md_feed_126 rfl h
  · replace h := h.2 c
    refine v_iload (pc := 31) d_Md_feed_31 (.tail _ (.tail _ (.tail _ (.tail _ (.tail _ (.tail _ (.head _))))))) ?_
    refine v_iconst (pc := 33) d_Md_feed_33 (by decide) ?_
    refine v_icmpge (pc := 34) (tgt := 41) d_Md_feed_34 (by decide) (fun c => ?_) (fun c => ?_)
    · replace h := h.1 c
      refine v_iload (pc := 41) d_Md_feed_41 (.tail _ (.tail _ (.tail _ (.tail _ (.tail _ (.tail _ (.head _))))))) ?_
      refine v_bipush (pc := 43) d_Md_feed_43 (by decide) rfl ?_
      refine v_icmpge (pc := 45) (tgt := 52) d_Md_feed_45 (by decide) (fun c => ?_) (fun c => ?_)
      · replace h := h.1 c
        refine v_iload (pc := 52) d_Md_feed_52 (.tail _ (.tail _ (.tail _ (.tail _ (.tail _ (.tail _ (.head _))))))) ?_
        refine v_bipush (pc := 54) d_Md_feed_54 (by decide) rfl ?_
        refine v_icmpge (pc := 56) (tgt := 63) d_Md_feed_56 (by decide) (fun c => ?_) (fun c => ?_)
        · replace h := h.1 c
          refine v_iload (pc := 63) d_Md_feed_63 (.tail _ (.tail _ (.tail _ (.tail _ (.tail _ (.tail _ (.head _))))))) ?_
          refine v_bipush (pc := 65) d_Md_feed_65 (by decide) rfl ?_
          refine v_icmpge (pc := 67) (tgt := 75) d_Md_feed_67 (by decide) (fun c => ?_) (fun c => ?_)
          · replace h := h.1 c
            refine v_iload (pc := 75) d_Md_feed_75 (.tail _ (.tail _ (.tail _ (.tail _ (.tail _ (.head _)))))) ?_
            refine v_istore (pc := 77) (ls' := [(7, vI x5_), (0, vA 0), (1, vI x1_), (2, vI x2_), (3, vI x3_), (4, vI x4_), (5, vI x5_), (6, vI x6_)]) d_Md_feed_77 (by decide) rfl ?_
            refine v_aload_n (pc := 79) d_Md_feed_79 rfl (.tail _ (.head _)) ?_
            refine v_getr (C := "") (pc := 80) (r := 2) d_Md_feed_80 fl_Md_26 cM_0.1 cM_0.2 (Or.inr ⟨_, rfl⟩) rM_0_2 ?_
            refine v_aload_n (pc := 83) d_Md_feed_83 rfl (.tail _ (.head _)) ?_
            refine v_geti (pc := 84) (x := (w 0 3)) d_Md_feed_84 fl_Md_307 cM_0.1 cM_0.2 (Or.inl rfl) rfl ?_
            refine v_iload (pc := 87) d_Md_feed_87 (.tail _ (.tail _ (.tail _ (.tail _ (.tail _ (.tail _ (.tail _ (.head _)))))))) ?_
            refine v_iadd (pc := 89) d_Md_feed_89 ?_
            refine v_iload (pc := 90) d_Md_feed_90 (.head _) ?_
            refine v_bipush (pc := 92) d_Md_feed_92 (by decide) rfl ?_
            refine v_bipush (pc := 94) d_Md_feed_94 (by decide) rfl ?_
            refine v_iload (pc := 96) d_Md_feed_96 (.tail _ (.tail _ (.tail _ (.tail _ (.tail _ (.tail _ (.tail _ (.head _)))))))) ?_
            refine v_iconst (pc := 98) d_Md_feed_98 (by decide) ?_
            refine v_irem (pc := 99) d_Md_feed_99 (by decide) ?_
            refine v_imul (pc := 100) d_Md_feed_100 ?_
            refine v_isub (pc := 101) d_Md_feed_101 ?_
            refine v_iushr (pc := 102) d_Md_feed_102 ?_
            refine v_i2b (pc := 103) d_Md_feed_103 ?_
            refine v_bast (pc := 104) d_Md_feed_104 cM_2.1 cM_2.2 (aM_2 _) h.1 ?_
            replace h := h.2
            refine v_iinc (pc := 105) (ls' := [(6, vI (wr (x6_ + 1))), (7, vI x5_), (0, vA 0), (1, vI x1_), (2, vI x2_), (3, vI x3_), (4, vI x4_), (5, vI x5_)]) d_Md_feed_105 (.tail _ (.tail _ (.tail _ (.tail _ (.tail _ (.tail _ (.tail _ (.head _)))))))) (by decide) rfl ?_
            refine v_goto (pc := 108) (tgt := 24) d_Md_feed_108 (by decide) ?_
            exact v_sub (List.forall_mem_cons.mpr ⟨(.tail _ (.tail _ (.head _))), (List.forall_mem_cons.mpr ⟨(.tail _ (.tail _ (.tail _ (.head _)))), (List.forall_mem_cons.mpr ⟨(.tail _ (.tail _ (.tail _ (.tail _ (.head _))))), (List.forall_mem_cons.mpr ⟨(.tail _ (.tail _ (.tail _ (.tail _ (.tail _ (.head _)))))), (List.forall_mem_cons.mpr ⟨(.tail _ (.tail _ (.tail _ (.tail _ (.tail _ (.tail _ (.head _))))))), (List.forall_mem_cons.mpr ⟨(.tail _ (.tail _ (.tail _ (.tail _ (.tail _ (.tail _ (.tail _ (.head _)))))))), (List.forall_mem_cons.mpr ⟨(.head _), (fun _ z => absurd z List.not_mem_nil)⟩)⟩)⟩)⟩)⟩)⟩)⟩) h
          · replace h := h.2 c
            refine v_iload (pc := 70) d_Md_feed_70 (.tail _ (.tail _ (.tail _ (.tail _ (.head _))))) ?_
            refine v_goto (pc := 72) (tgt := 77) d_Md_feed_72 (by decide) ?_
            refine v_istore (pc := 77) (ls' := [(7, vI x4_), (0, vA 0), (1, vI x1_), (2, vI x2_), (3, vI x3_), (4, vI x4_), (5, vI x5_), (6, vI x6_)]) d_Md_feed_77 (by decide) rfl ?_
            refine v_aload_n (pc := 79) d_Md_feed_79 rfl (.tail _ (.head _)) ?_
            refine v_getr (C := "") (pc := 80) (r := 2) d_Md_feed_80 fl_Md_26 cM_0.1 cM_0.2 (Or.inr ⟨_, rfl⟩) rM_0_2 ?_
            refine v_aload_n (pc := 83) d_Md_feed_83 rfl (.tail _ (.head _)) ?_
            refine v_geti (pc := 84) (x := (w 0 3)) d_Md_feed_84 fl_Md_307 cM_0.1 cM_0.2 (Or.inl rfl) rfl ?_
            refine v_iload (pc := 87) d_Md_feed_87 (.tail _ (.tail _ (.tail _ (.tail _ (.tail _ (.tail _ (.tail _ (.head _)))))))) ?_
            refine v_iadd (pc := 89) d_Md_feed_89 ?_
            refine v_iload (pc := 90) d_Md_feed_90 (.head _) ?_
            refine v_bipush (pc := 92) d_Md_feed_92 (by decide) rfl ?_
            refine v_bipush (pc := 94) d_Md_feed_94 (by decide) rfl ?_
            refine v_iload (pc := 96) d_Md_feed_96 (.tail _ (.tail _ (.tail _ (.tail _ (.tail _ (.tail _ (.tail _ (.head _)))))))) ?_
            refine v_iconst (pc := 98) d_Md_feed_98 (by decide) ?_
            refine v_irem (pc := 99) d_Md_feed_99 (by decide) ?_
            refine v_imul (pc := 100) d_Md_feed_100 ?_
            refine v_isub (pc := 101) d_Md_feed_101 ?_
            refine v_iushr (pc := 102) d_Md_feed_102 ?_
            refine v_i2b (pc := 103) d_Md_feed_103 ?_
            refine v_bast (pc := 104) d_Md_feed_104 cM_2.1 cM_2.2 (aM_2 _) h.1 ?_
            replace h := h.2
            refine v_iinc (pc := 105) (ls' := [(6, vI (wr (x6_ + 1))), (7, vI x4_), (0, vA 0), (1, vI x1_), (2, vI x2_), (3, vI x3_), (4, vI x4_), (5, vI x5_)]) d_Md_feed_105 (.tail _ (.tail _ (.tail _ (.tail _ (.tail _ (.tail _ (.tail _ (.head _)))))))) (by decide) rfl ?_
            refine v_goto (pc := 108) (tgt := 24) d_Md_feed_108 (by decide) ?_
            exact v_sub (List.forall_mem_cons.mpr ⟨(.tail _ (.tail _ (.head _))), (List.forall_mem_cons.mpr ⟨(.tail _ (.tail _ (.tail _ (.head _)))), (List.forall_mem_cons.mpr ⟨(.tail _ (.tail _ (.tail _ (.tail _ (.head _))))), (List.forall_mem_cons.mpr ⟨(.tail _ (.tail _ (.tail _ (.tail _ (.tail _ (.head _)))))), (List.forall_mem_cons.mpr ⟨(.tail _ (.tail _ (.tail _ (.tail _ (.tail _ (.tail _ (.head _))))))), (List.forall_mem_cons.mpr ⟨(.tail _ (.tail _ (.tail _ (.tail _ (.tail _ (.tail _ (.tail _ (.head _)))))))), (List.forall_mem_cons.mpr ⟨(.head _), (fun _ z => absurd z List.not_mem_nil)⟩)⟩)⟩)⟩)⟩)⟩)⟩) h
        · replace h := h.2 c
          refine v_iload_n (pc := 59) d_Md_feed_59 rfl (.tail _ (.tail _ (.tail _ (.head _)))) ?_
          refine v_goto (pc := 60) (tgt := 77) d_Md_feed_60 (by decide) ?_
          refine v_istore (pc := 77) (ls' := [(7, vI x3_), (0, vA 0), (1, vI x1_), (2, vI x2_), (3, vI x3_), (4, vI x4_), (5, vI x5_), (6, vI x6_)]) d_Md_feed_77 (by decide) rfl ?_
          refine v_aload_n (pc := 79) d_Md_feed_79 rfl (.tail _ (.head _)) ?_
          refine v_getr (C := "") (pc := 80) (r := 2) d_Md_feed_80 fl_Md_26 cM_0.1 cM_0.2 (Or.inr ⟨_, rfl⟩) rM_0_2 ?_
          refine v_aload_n (pc := 83) d_Md_feed_83 rfl (.tail _ (.head _)) ?_
          refine v_geti (pc := 84) (x := (w 0 3)) d_Md_feed_84 fl_Md_307 cM_0.1 cM_0.2 (Or.inl rfl) rfl ?_
          refine v_iload (pc := 87) d_Md_feed_87 (.tail _ (.tail _ (.tail _ (.tail _ (.tail _ (.tail _ (.tail _ (.head _)))))))) ?_
          refine v_iadd (pc := 89) d_Md_feed_89 ?_
          refine v_iload (pc := 90) d_Md_feed_90 (.head _) ?_
          refine v_bipush (pc := 92) d_Md_feed_92 (by decide) rfl ?_
          refine v_bipush (pc := 94) d_Md_feed_94 (by decide) rfl ?_
          refine v_iload (pc := 96) d_Md_feed_96 (.tail _ (.tail _ (.tail _ (.tail _ (.tail _ (.tail _ (.tail _ (.head _)))))))) ?_
          refine v_iconst (pc := 98) d_Md_feed_98 (by decide) ?_
          refine v_irem (pc := 99) d_Md_feed_99 (by decide) ?_
          refine v_imul (pc := 100) d_Md_feed_100 ?_
          refine v_isub (pc := 101) d_Md_feed_101 ?_
          refine v_iushr (pc := 102) d_Md_feed_102 ?_
          refine v_i2b (pc := 103) d_Md_feed_103 ?_
          refine v_bast (pc := 104) d_Md_feed_104 cM_2.1 cM_2.2 (aM_2 _) h.1 ?_
          replace h := h.2
          refine v_iinc (pc := 105) (ls' := [(6, vI (wr (x6_ + 1))), (7, vI x3_), (0, vA 0), (1, vI x1_), (2, vI x2_), (3, vI x3_), (4, vI x4_), (5, vI x5_)]) d_Md_feed_105 (.tail _ (.tail _ (.tail _ (.tail _ (.tail _ (.tail _ (.tail _ (.head _)))))))) (by decide) rfl ?_
          refine v_goto (pc := 108) (tgt := 24) d_Md_feed_108 (by decide) ?_
          exact v_sub (List.forall_mem_cons.mpr ⟨(.tail _ (.tail _ (.head _))), (List.forall_mem_cons.mpr ⟨(.tail _ (.tail _ (.tail _ (.head _)))), (List.forall_mem_cons.mpr ⟨(.tail _ (.tail _ (.tail _ (.tail _ (.head _))))), (List.forall_mem_cons.mpr ⟨(.tail _ (.tail _ (.tail _ (.tail _ (.tail _ (.head _)))))), (List.forall_mem_cons.mpr ⟨(.tail _ (.tail _ (.tail _ (.tail _ (.tail _ (.tail _ (.head _))))))), (List.forall_mem_cons.mpr ⟨(.tail _ (.tail _ (.tail _ (.tail _ (.tail _ (.tail _ (.tail _ (.head _)))))))), (List.forall_mem_cons.mpr ⟨(.head _), (fun _ z => absurd z List.not_mem_nil)⟩)⟩)⟩)⟩)⟩)⟩)⟩) h
      · replace h := h.2 c
        refine v_iload_n (pc := 48) d_Md_feed_48 rfl (.tail _ (.tail _ (.head _))) ?_
        refine v_goto (pc := 49) (tgt := 77) d_Md_feed_49 (by decide) ?_
        refine v_istore (pc := 77) (ls' := [(7, vI x2_), (0, vA 0), (1, vI x1_), (2, vI x2_), (3, vI x3_), (4, vI x4_), (5, vI x5_), (6, vI x6_)]) d_Md_feed_77 (by decide) rfl ?_
        refine v_aload_n (pc := 79) d_Md_feed_79 rfl (.tail _ (.head _)) ?_
        refine v_getr (C := "") (pc := 80) (r := 2) d_Md_feed_80 fl_Md_26 cM_0.1 cM_0.2 (Or.inr ⟨_, rfl⟩) rM_0_2 ?_
        refine v_aload_n (pc := 83) d_Md_feed_83 rfl (.tail _ (.head _)) ?_
        refine v_geti (pc := 84) (x := (w 0 3)) d_Md_feed_84 fl_Md_307 cM_0.1 cM_0.2 (Or.inl rfl) rfl ?_
        refine v_iload (pc := 87) d_Md_feed_87 (.tail _ (.tail _ (.tail _ (.tail _ (.tail _ (.tail _ (.tail _ (.head _)))))))) ?_
        refine v_iadd (pc := 89) d_Md_feed_89 ?_
        refine v_iload (pc := 90) d_Md_feed_90 (.head _) ?_
        refine v_bipush (pc := 92) d_Md_feed_92 (by decide) rfl ?_
        refine v_bipush (pc := 94) d_Md_feed_94 (by decide) rfl ?_
        refine v_iload (pc := 96) d_Md_feed_96 (.tail _ (.tail _ (.tail _ (.tail _ (.tail _ (.tail _ (.tail _ (.head _)))))))) ?_
        refine v_iconst (pc := 98) d_Md_feed_98 (by decide) ?_
        refine v_irem (pc := 99) d_Md_feed_99 (by decide) ?_
        refine v_imul (pc := 100) d_Md_feed_100 ?_
        refine v_isub (pc := 101) d_Md_feed_101 ?_
        refine v_iushr (pc := 102) d_Md_feed_102 ?_
        refine v_i2b (pc := 103) d_Md_feed_103 ?_
        refine v_bast (pc := 104) d_Md_feed_104 cM_2.1 cM_2.2 (aM_2 _) h.1 ?_
        replace h := h.2
        refine v_iinc (pc := 105) (ls' := [(6, vI (wr (x6_ + 1))), (7, vI x2_), (0, vA 0), (1, vI x1_), (2, vI x2_), (3, vI x3_), (4, vI x4_), (5, vI x5_)]) d_Md_feed_105 (.tail _ (.tail _ (.tail _ (.tail _ (.tail _ (.tail _ (.tail _ (.head _)))))))) (by decide) rfl ?_
        refine v_goto (pc := 108) (tgt := 24) d_Md_feed_108 (by decide) ?_
        exact v_sub (List.forall_mem_cons.mpr ⟨(.tail _ (.tail _ (.head _))), (List.forall_mem_cons.mpr ⟨(.tail _ (.tail _ (.tail _ (.head _)))), (List.forall_mem_cons.mpr ⟨(.tail _ (.tail _ (.tail _ (.tail _ (.head _))))), (List.forall_mem_cons.mpr ⟨(.tail _ (.tail _ (.tail _ (.tail _ (.tail _ (.head _)))))), (List.forall_mem_cons.mpr ⟨(.tail _ (.tail _ (.tail _ (.tail _ (.tail _ (.tail _ (.head _))))))), (List.forall_mem_cons.mpr ⟨(.tail _ (.tail _ (.tail _ (.tail _ (.tail _ (.tail _ (.tail _ (.head _)))))))), (List.forall_mem_cons.mpr ⟨(.head _), (fun _ z => absurd z List.not_mem_nil)⟩)⟩)⟩)⟩)⟩)⟩)⟩) h
    · replace h := h.2 c
      refine v_iload_n (pc := 37) d_Md_feed_37 rfl (.tail _ (.head _)) ?_
      refine v_goto (pc := 38) (tgt := 77) d_Md_feed_38 (by decide) ?_
      refine v_istore (pc := 77) (ls' := [(7, vI x1_), (0, vA 0), (1, vI x1_), (2, vI x2_), (3, vI x3_), (4, vI x4_), (5, vI x5_), (6, vI x6_)]) d_Md_feed_77 (by decide) rfl ?_
      refine v_aload_n (pc := 79) d_Md_feed_79 rfl (.tail _ (.head _)) ?_
      refine v_getr (C := "") (pc := 80) (r := 2) d_Md_feed_80 fl_Md_26 cM_0.1 cM_0.2 (Or.inr ⟨_, rfl⟩) rM_0_2 ?_
      refine v_aload_n (pc := 83) d_Md_feed_83 rfl (.tail _ (.head _)) ?_
      refine v_geti (pc := 84) (x := (w 0 3)) d_Md_feed_84 fl_Md_307 cM_0.1 cM_0.2 (Or.inl rfl) rfl ?_
      refine v_iload (pc := 87) d_Md_feed_87 (.tail _ (.tail _ (.tail _ (.tail _ (.tail _ (.tail _ (.tail _ (.head _)))))))) ?_
      refine v_iadd (pc := 89) d_Md_feed_89 ?_
      refine v_iload (pc := 90) d_Md_feed_90 (.head _) ?_
      refine v_bipush (pc := 92) d_Md_feed_92 (by decide) rfl ?_
      refine v_bipush (pc := 94) d_Md_feed_94 (by decide) rfl ?_
      refine v_iload (pc := 96) d_Md_feed_96 (.tail _ (.tail _ (.tail _ (.tail _ (.tail _ (.tail _ (.tail _ (.head _)))))))) ?_
      refine v_iconst (pc := 98) d_Md_feed_98 (by decide) ?_
      refine v_irem (pc := 99) d_Md_feed_99 (by decide) ?_
      refine v_imul (pc := 100) d_Md_feed_100 ?_
      refine v_isub (pc := 101) d_Md_feed_101 ?_
      refine v_iushr (pc := 102) d_Md_feed_102 ?_
      refine v_i2b (pc := 103) d_Md_feed_103 ?_
      refine v_bast (pc := 104) d_Md_feed_104 cM_2.1 cM_2.2 (aM_2 _) h.1 ?_
      replace h := h.2
      refine v_iinc (pc := 105) (ls' := [(6, vI (wr (x6_ + 1))), (7, vI x1_), (0, vA 0), (1, vI x1_), (2, vI x2_), (3, vI x3_), (4, vI x4_), (5, vI x5_)]) d_Md_feed_105 (.tail _ (.tail _ (.tail _ (.tail _ (.tail _ (.tail _ (.tail _ (.head _)))))))) (by decide) rfl ?_
      refine v_goto (pc := 108) (tgt := 24) d_Md_feed_108 (by decide) ?_
      exact v_sub (List.forall_mem_cons.mpr ⟨(.tail _ (.tail _ (.head _))), (List.forall_mem_cons.mpr ⟨(.tail _ (.tail _ (.tail _ (.head _)))), (List.forall_mem_cons.mpr ⟨(.tail _ (.tail _ (.tail _ (.tail _ (.head _))))), (List.forall_mem_cons.mpr ⟨(.tail _ (.tail _ (.tail _ (.tail _ (.tail _ (.head _)))))), (List.forall_mem_cons.mpr ⟨(.tail _ (.tail _ (.tail _ (.tail _ (.tail _ (.tail _ (.head _))))))), (List.forall_mem_cons.mpr ⟨(.tail _ (.tail _ (.tail _ (.tail _ (.tail _ (.tail _ (.tail _ (.head _)))))))), (List.forall_mem_cons.mpr ⟨(.head _), (fun _ z => absurd z List.not_mem_nil)⟩)⟩)⟩)⟩)⟩)⟩)⟩) h
theorem d_Md_end_0 : decode jMd_end.cc 0 = .ok (.aload_n 0, 1) := by decide +kernel
theorem d_Md_end_1 : decode jMd_end.cc 1 = .ok (.iconst 0, 1) := by decide +kernel
theorem d_Md_end_2 : decode jMd_end.cc 2 = .ok (.putfield 1, 3) := by decide +kernel
theorem d_Md_end_5 : decode jMd_end.cc 5 = .ok (.iload_n 1, 1) := by decide +kernel
theorem d_Md_end_6 : decode jMd_end.cc 6 = .ok (.i2l, 1) := by decide +kernel
theorem d_Md_end_7 : decode jMd_end.cc 7 = .ok (.lconst 0, 1) := by decide +kernel
theorem d_Md_end_8 : decode jMd_end.cc 8 = .ok (.ldc2_w 310, 3) := by decide +kernel
theorem d_Md_end_11 : decode jMd_end.cc 11 = .ok (.invokestatic 312, 3) := by decide +kernel
theorem d_Md_end_14 : decode jMd_end.cc 14 = .ok (.ifCond .eq 12, 3) := by decide +kernel
theorem d_Md_end_17 : decode jMd_end.cc 17 = .ok (.aload_n 0, 1) := by decide +kernel
theorem d_Md_end_18 : decode jMd_end.cc 18 = .ok (.getfield 307, 3) := by decide +kernel
theorem d_Md_end_21 : decode jMd_end.cc 21 = .ok (.bipush 20, 2) := by decide +kernel
theorem d_Md_end_23 : decode jMd_end.cc 23 = .ok (.if_icmp .ge 5, 3) := by decide +kernel
theorem d_Md_end_26 : decode jMd_end.cc 26 = .ok (.iconst (-1), 1) := by decide +kernel
theorem d_Md_end_27 : decode jMd_end.cc 27 = .ok (.ireturn, 1) := by decide +kernel
theorem d_Md_end_28 : decode jMd_end.cc 28 = .ok (.aload_n 0, 1) := by decide +kernel
theorem d_Md_end_29 : decode jMd_end.cc 29 = .ok (.aload_n 0, 1) := by decide +kernel
theorem d_Md_end_30 : decode jMd_end.cc 30 = .ok (.getfield 307, 3) := by decide +kernel
theorem d_Md_end_33 : decode jMd_end.cc 33 = .ok (.iload_n 1, 1) := by decide +kernel
theorem d_Md_end_34 : decode jMd_end.cc 34 = .ok (.iadd, 1) := by decide +kernel
theorem d_Md_end_35 : decode jMd_end.cc 35 = .ok (.bipush 20, 2) := by decide +kernel
theorem d_Md_end_37 : decode jMd_end.cc 37 = .ok (.isub, 1) := by decide +kernel
theorem d_Md_end_38 : decode jMd_end.cc 38 = .ok (.putfield 307, 3) := by decide +kernel
theorem d_Md_end_41 : decode jMd_end.cc 41 = .ok (.aload_n 0, 1) := by decide +kernel
theorem d_Md_end_42 : decode jMd_end.cc 42 = .ok (.getfield 307, 3) := by decide +kernel
theorem d_Md_end_45 : decode jMd_end.cc 45 = .ok (.ireturn, 1) := by decide +kernel
set_option maxHeartbeats 4000000 in
theorem s_Md_end {g : Mg} {d : Nat} {K : Ou → Wd → Prop} {w : Wd} {p1 : Int} (h : Cal g LM jMd_in d [vL p1, vL 0, vL 20] (up w 0 0 0) (fun o w1 => rIt o (fun b => K (.inr b) w1) (fun x2 => (x2 = 0 → (K (.inl (some (vI (-1)))) w1)) ∧ (¬ x2 = 0 → ((20 ≤ (w1 0 3) → (K (.inl (some (vI (wr ((wr ((w1 0 3) + p1)) - 20))))) (up w1 0 3 (wr ((wr ((w1 0 3) + p1)) - 20))))) ∧ (¬ 20 ≤ (w1 0 3) → (K (.inl (some (vI (-1)))) w1))))))) : V g LM jMd_end (d + 1) K 0 [(0, vA 0), (1, vI p1)] [] w := by
  refine v_aload_n (pc := 0) d_Md_end_0 rfl (.head _) ?_
  refine v_iconst (pc := 1) d_Md_end_1 (by decide) ?_
  refine v_puti (pc := 2) d_Md_end_2 fp_Md_1 cM_0.1 cM_0.2 (by decide) rfl ?_
  refine v_iload_n (pc := 5) d_Md_end_5 rfl (.tail _ (.head _)) ?_
  refine v_i2l (pc := 6) d_Md_end_6 ?_
  refine v_lconst (pc := 7) (x := 0) d_Md_end_7 (by decide) rfl ?_
  refine v_ldc2 (pc := 8) (n := 20) d_Md_end_8 (by decide) (mt_8 12 rfl rfl) ?_
  refine v_callS (pc := 11) (J' := jMd_in) (d' := d) (As := [vL p1, vL 0, vL 20]) d_Md_end_11 ml_Md_312 rfl (Nat.le_of_ble_eq_true rfl) (Nat.le_refl _) rfl (Cal.weak h (fun o w1 h => ?_))
  rcases rIt_of h with ⟨x2, rfl, h⟩ | ⟨b, rfl, h⟩
  rotate_left
  · exact h
  refine v_ifeq (pc := 14) (tgt := 26) d_Md_end_14 (by decide) (fun c => ?_) (fun c => ?_)
  · replace h := h.1 c
    refine v_iconst (pc := 26) d_Md_end_26 (by decide) ?_
    exact v_iret (pc := 27) d_Md_end_27 rfl h
  · replace h := h.2 c
    refine v_aload_n (pc := 17) d_Md_end_17 rfl (.head _) ?_
    refine v_geti (pc := 18) (x := (w1 0 3)) d_Md_end_18 fl_Md_307 cM_0.1 cM_0.2 (Or.inl rfl) rfl ?_
    refine v_bipush (pc := 21) d_Md_end_21 (by decide) rfl ?_
    refine v_icmpge (pc := 23) (tgt := 28) d_Md_end_23 (by decide) (fun c => ?_) (fun c => ?_)
    · replace h := h.1 c
      refine v_aload_n (pc := 28) d_Md_end_28 rfl (.head _) ?_
      refine v_aload_n (pc := 29) d_Md_end_29 rfl (.head _) ?_
      refine v_geti (pc := 30) (x := (w1 0 3)) d_Md_end_30 fl_Md_307 cM_0.1 cM_0.2 (Or.inl rfl) rfl ?_
      refine v_iload_n (pc := 33) d_Md_end_33 rfl (.tail _ (.head _)) ?_
      refine v_iadd (pc := 34) d_Md_end_34 ?_
      refine v_bipush (pc := 35) d_Md_end_35 (by decide) rfl ?_
      refine v_isub (pc := 37) d_Md_end_37 ?_
      refine v_puti (pc := 38) d_Md_end_38 fp_Md_307 cM_0.1 cM_0.2 (by decide) rfl ?_
      refine v_aload_n (pc := 41) d_Md_end_41 rfl (.head _) ?_
      refine v_geti (pc := 42) (x := (wr ((wr ((w1 0 3) + p1)) - 20))) d_Md_end_42 fl_Md_307 cM_0.1 cM_0.2 (Or.inl rfl) rfl ?_
      exact v_iret (pc := 45) d_Md_end_45 rfl h
    · replace h := h.2 c
      refine v_iconst (pc := 26) d_Md_end_26 (by decide) ?_
      exact v_iret (pc := 27) d_Md_end_27 rfl h
theorem d_Md_isLetter_0 : decode jMd_isLetter.cc 0 = .ok (.iload_n 0, 1) := by decide +kernel
theorem d_Md_isLetter_1 : decode jMd_isLetter.cc 1 = .ok (.i2l, 1) := by decide +kernel
theorem d_Md_isLetter_2 : decode jMd_isLetter.cc 2 = .ok (.ldc2_w 316, 3) := by decide +kernel
theorem d_Md_isLetter_5 : decode jMd_isLetter.cc 5 = .ok (.ldc2_w 318, 3) := by decide +kernel
theorem d_Md_isLetter_8 : decode jMd_isLetter.cc 8 = .ok (.invokestatic 312, 3) := by decide +kernel
theorem d_Md_isLetter_11 : decode jMd_isLetter.cc 11 = .ok (.ifCond .ne 17, 3) := by decide +kernel
theorem d_Md_isLetter_14 : decode jMd_isLetter.cc 14 = .ok (.iload_n 0, 1) := by decide +kernel
theorem d_Md_isLetter_15 : decode jMd_isLetter.cc 15 = .ok (.i2l, 1) := by decide +kernel
theorem d_Md_isLetter_16 : decode jMd_isLetter.cc 16 = .ok (.ldc2_w 320, 3) := by decide +kernel
theorem d_Md_isLetter_19 : decode jMd_isLetter.cc 19 = .ok (.ldc2_w 322, 3) := by decide +kernel
theorem d_Md_isLetter_22 : decode jMd_isLetter.cc 22 = .ok (.invokestatic 312, 3) := by decide +kernel
theorem d_Md_isLetter_25 : decode jMd_isLetter.cc 25 = .ok (.ifCond .eq 7, 3) := by decide +kernel
theorem d_Md_isLetter_28 : decode jMd_isLetter.cc 28 = .ok (.iconst 1, 1) := by decide +kernel
theorem d_Md_isLetter_29 : decode jMd_isLetter.cc 29 = .ok (.goto 4, 3) := by decide +kernel
theorem d_Md_isLetter_32 : decode jMd_isLetter.cc 32 = .ok (.iconst 0, 1) := by decide +kernel
theorem d_Md_isLetter_33 : decode jMd_isLetter.cc 33 = .ok (.ireturn, 1) := by decide +kernel
set_option maxHeartbeats 4000000 in
theorem s_Md_isLetter {g : Mg} {d : Nat} {K : Ou → Wd → Prop} {w : Wd} {p0 : Int} (h : Cal g LM jMd_in d [vL p0, vL 97, vL 122] w (fun o w1 => rIt o (fun b => K (.inr b) w1) (fun x2 => (¬ x2 = 0 → (K (.inl (some (vI 1))) w1)) ∧ (x2 = 0 → (Cal g LM jMd_in d [vL p0, vL 65, vL 90] w1 (fun o w3 => rIt o (fun b => K (.inr b) w3) (fun x4 => (x4 = 0 → (K (.inl (some (vI 0))) w3)) ∧ (¬ x4 = 0 → (K (.inl (some (vI 1))) w3))))))))) : V g LM jMd_isLetter (d + 1) K 0 [(0, vI p0)] [] w := by
  refine v_iload_n (pc := 0) d_Md_isLetter_0 rfl (.head _) ?_
  refine v_i2l (pc := 1) d_Md_isLetter_1 ?_
  refine v_ldc2 (pc := 2) (n := 97) d_Md_isLetter_2 (by decide) (mt_8 31 rfl rfl) ?_
  refine v_ldc2 (pc := 5) (n := 122) d_Md_isLetter_5 (by decide) (mt_8 32 rfl rfl) ?_
  refine v_callS (pc := 8) (J' := jMd_in) (d' := d) (As := [vL p0, vL 97, vL 122]) d_Md_isLetter_8 ml_Md_312 rfl (Nat.le_of_ble_eq_true rfl) (Nat.le_refl _) rfl (Cal.weak h (fun o w1 h => ?_))
  rcases rIt_of h with ⟨x2, rfl, h⟩ | ⟨b, rfl, h⟩
  rotate_left
  · exact h
  refine v_ifne (pc := 11) (tgt := 28) d_Md_isLetter_11 (by decide) (fun c => ?_) (fun c => ?_)
  · replace h := h.1 c
    refine v_iconst (pc := 28) d_Md_isLetter_28 (by decide) ?_
    refine v_goto (pc := 29) (tgt := 33) d_Md_isLetter_29 (by decide) ?_
    exact v_zret (pc := 33) d_Md_isLetter_33 rfl (by decide) h
  · replace h := h.2 c
    refine v_iload_n (pc := 14) d_Md_isLetter_14 rfl (.head _) ?_
    refine v_i2l (pc := 15) d_Md_isLetter_15 ?_
    refine v_ldc2 (pc := 16) (n := 65) d_Md_isLetter_16 (by decide) (mt_8 33 rfl rfl) ?_
    refine v_ldc2 (pc := 19) (n := 90) d_Md_isLetter_19 (by decide) (mt_8 34 rfl rfl) ?_
    refine v_callS (pc := 22) (J' := jMd_in) (d' := d) (As := [vL p0, vL 65, vL 90]) d_Md_isLetter_22 ml_Md_312 rfl (Nat.le_of_ble_eq_true rfl) (Nat.le_refl _) rfl (Cal.weak h (fun o w3 h => ?_))
    rcases rIt_of h with ⟨x4, rfl, h⟩ | ⟨b, rfl, h⟩
    rotate_left
    · exact h
    refine v_ifeq (pc := 25) (tgt := 32) d_Md_isLetter_25 (by decide) (fun c => ?_) (fun c => ?_)
    · replace h := h.1 c
      refine v_iconst (pc := 32) d_Md_isLetter_32 (by decide) ?_
      exact v_zret (pc := 33) d_Md_isLetter_33 rfl (by decide) h
    · replace h := h.2 c
      refine v_iconst (pc := 28) d_Md_isLetter_28 (by decide) ?_
      refine v_goto (pc := 29) (tgt := 33) d_Md_isLetter_29 (by decide) ?_
      exact v_zret (pc := 33) d_Md_isLetter_33 rfl (by decide) h
theorem d_Md_isDigit_0 : decode jMd_isDigit.cc 0 = .ok (.iload_n 0, 1) := by decide +kernel
theorem d_Md_isDigit_1 : decode jMd_isDigit.cc 1 = .ok (.i2l, 1) := by decide +kernel
theorem d_Md_isDigit_2 : decode jMd_isDigit.cc 2 = .ok (.ldc2_w 324, 3) := by decide +kernel
theorem d_Md_isDigit_5 : decode jMd_isDigit.cc 5 = .ok (.ldc2_w 326, 3) := by decide +kernel
theorem d_Md_isDigit_8 : decode jMd_isDigit.cc 8 = .ok (.invokestatic 312, 3) := by decide +kernel
theorem d_Md_isDigit_11 : decode jMd_isDigit.cc 11 = .ok (.ireturn, 1) := by decide +kernel
set_option maxHeartbeats 4000000 in
theorem s_Md_isDigit {g : Mg} {d : Nat} {K : Ou → Wd → Prop} {w : Wd} {p0 : Int} (h : Cal g LM jMd_in d [vL p0, vL 48, vL 57] w (fun o w1 => rIt o (fun b => K (.inr b) w1) (fun x2 => (x2 = 0 ∨ x2 = 1) ∧ K (.inl (some (vI x2))) w1))) : V g LM jMd_isDigit (d + 1) K 0 [(0, vI p0)] [] w := by
  refine v_iload_n (pc := 0) d_Md_isDigit_0 rfl (.head _) ?_
  refine v_i2l (pc := 1) d_Md_isDigit_1 ?_
  refine v_ldc2 (pc := 2) (n := 48) d_Md_isDigit_2 (by decide) (mt_8 38 rfl rfl) ?_
  refine v_ldc2 (pc := 5) (n := 57) d_Md_isDigit_5 (by decide) (mt_8 39 rfl rfl) ?_
  refine v_callS (pc := 8) (J' := jMd_in) (d' := d) (As := [vL p0, vL 48, vL 57]) d_Md_isDigit_8 ml_Md_312 rfl (Nat.le_of_ble_eq_true rfl) (Nat.le_refl _) rfl (Cal.weak h (fun o w1 h => ?_))
  rcases rIt_of h with ⟨x2, rfl, h⟩ | ⟨b, rfl, h⟩
  rotate_left
  · exact h
  exact v_zret (pc := 11) d_Md_isDigit_11 rfl h.1 h.2
theorem d_Md_isText_0 : decode jMd_isText.cc 0 = .ok (.iload_n 2, 1) := by decide +kernel
theorem d_Md_isText_1 : decode jMd_isText.cc 1 = .ok (.aload_n 3, 1) := by decide +kernel
theorem d_Md_isText_2 : decode jMd_isText.cc 2 = .ok (.invokevirtual 328, 3) := by decide +kernel
theorem d_Md_isText_5 : decode jMd_isText.cc 5 = .ok (.if_icmp .ne 7, 3) := by decide +kernel
theorem d_Md_isText_8 : decode jMd_isText.cc 8 = .ok (.iconst 1, 1) := by decide +kernel
theorem d_Md_isText_9 : decode jMd_isText.cc 9 = .ok (.goto 4, 3) := by decide +kernel
theorem d_Md_isText_12 : decode jMd_isText.cc 12 = .ok (.iconst 0, 1) := by decide +kernel
theorem d_Md_isText_13 : decode jMd_isText.cc 13 = .ok (.istore 4, 2) := by decide +kernel
theorem d_Md_isText_15 : decode jMd_isText.cc 15 = .ok (.iconst 0, 1) := by decide +kernel
theorem d_Md_isText_16 : decode jMd_isText.cc 16 = .ok (.istore 5, 2) := by decide +kernel
theorem d_Md_isText_18 : decode jMd_isText.cc 18 = .ok (.iload 5, 2) := by decide +kernel
theorem d_Md_isText_20 : decode jMd_isText.cc 20 = .ok (.iload_n 2, 1) := by decide +kernel
theorem d_Md_isText_21 : decode jMd_isText.cc 21 = .ok (.if_icmp .ge 39, 3) := by decide +kernel
theorem d_Md_isText_24 : decode jMd_isText.cc 24 = .ok (.iload 4, 2) := by decide +kernel
theorem d_Md_isText_26 : decode jMd_isText.cc 26 = .ok (.ifCond .eq 34, 3) := by decide +kernel
theorem d_Md_isText_29 : decode jMd_isText.cc 29 = .ok (.aload_n 0, 1) := by decide +kernel
theorem d_Md_isText_30 : decode jMd_isText.cc 30 = .ok (.getfield 30, 3) := by decide +kernel
theorem d_Md_isText_33 : decode jMd_isText.cc 33 = .ok (.iload_n 1, 1) := by decide +kernel
theorem d_Md_isText_34 : decode jMd_isText.cc 34 = .ok (.iload 5, 2) := by decide +kernel
theorem d_Md_isText_36 : decode jMd_isText.cc 36 = .ok (.iadd, 1) := by decide +kernel
theorem d_Md_isText_37 : decode jMd_isText.cc 37 = .ok (.baload, 1) := by decide +kernel
theorem d_Md_isText_38 : decode jMd_isText.cc 38 = .ok (.aload_n 3, 1) := by decide +kernel
theorem d_Md_isText_39 : decode jMd_isText.cc 39 = .ok (.iload 5, 2) := by decide +kernel
theorem d_Md_isText_41 : decode jMd_isText.cc 41 = .ok (.invokevirtual 332, 3) := by decide +kernel
theorem d_Md_isText_44 : decode jMd_isText.cc 44 = .ok (.if_icmp .ne 7, 3) := by decide +kernel
theorem d_Md_isText_47 : decode jMd_isText.cc 47 = .ok (.iconst 1, 1) := by decide +kernel
theorem d_Md_isText_48 : decode jMd_isText.cc 48 = .ok (.goto 4, 3) := by decide +kernel
theorem d_Md_isText_51 : decode jMd_isText.cc 51 = .ok (.iconst 0, 1) := by decide +kernel
theorem d_Md_isText_52 : decode jMd_isText.cc 52 = .ok (.istore 4, 2) := by decide +kernel
theorem d_Md_isText_54 : decode jMd_isText.cc 54 = .ok (.iinc 5 1, 3) := by decide +kernel
theorem d_Md_isText_57 : decode jMd_isText.cc 57 = .ok (.goto (-39), 3) := by decide +kernel
theorem d_Md_isText_60 : decode jMd_isText.cc 60 = .ok (.iload 4, 2) := by decide +kernel
theorem d_Md_isText_62 : decode jMd_isText.cc 62 = .ok (.ireturn, 1) := by decide +kernel
set_option maxHeartbeats 4000000 in
theorem s_Md_isText {g : Mg} {d : Nat} {K : Ou → Wd → Prop} {w : Wd} {p1 : Int} {p2 : Int} {p3 : Nat} (h : (1001 ≤ p3 ∧ p3 < 1060) ∧ Cal g LM jSg_length d [vA p3] w (fun o w1 => rI o (fun x2 => (¬ p2 = x2 → (V g LM jMd_isText (d + 1) K 18 [(0, vA 0), (1, vI p1), (2, vI p2), (3, vA p3), (4, vI 0), (5, vI 0)] [] w1)) ∧ (p2 = x2 → (V g LM jMd_isText (d + 1) K 18 [(0, vA 0), (1, vI p1), (2, vI p2), (3, vA p3), (4, vI 1), (5, vI 0)] [] w1))))) : V g LM jMd_isText (d + 1) K 0 [(0, vA 0), (1, vI p1), (2, vI p2), (3, vA p3)] [] w := by
  refine v_iload_n (pc := 0) d_Md_isText_0 rfl (.tail _ (.tail _ (.head _))) ?_
  refine v_aload_n (pc := 1) d_Md_isText_1 rfl (.tail _ (.tail _ (.tail _ (.head _)))) ?_
  refine v_callG (pc := 2) (J' := jSg_length) (d' := d) (o := p3) (As := []) d_Md_isText_2 ml_Md_328 rfl h.1 rfl (Nat.le_of_ble_eq_true rfl) (Nat.le_refl _) rfl (Cal.weak h.2 (fun o w1 h => ?_))
  rcases rI_of h with ⟨x2, rfl, h⟩
  refine v_icmpne (pc := 5) (tgt := 12) d_Md_isText_5 (by decide) (fun c => ?_) (fun c => ?_)
  · replace h := h.1 c
    refine v_iconst (pc := 12) d_Md_isText_12 (by decide) ?_
    refine v_istore (pc := 13) (ls' := [(4, vI 0), (0, vA 0), (1, vI p1), (2, vI p2), (3, vA p3)]) d_Md_isText_13 (by decide) rfl ?_
    refine v_iconst (pc := 15) d_Md_isText_15 (by decide) ?_
    refine v_istore (pc := 16) (ls' := [(5, vI 0), (4, vI 0), (0, vA 0), (1, vI p1), (2, vI p2), (3, vA p3)]) d_Md_isText_16 (by decide) rfl ?_
    exact v_sub (List.forall_mem_cons.mpr ⟨(.tail _ (.tail _ (.head _))), (List.forall_mem_cons.mpr ⟨(.tail _ (.tail _ (.tail _ (.head _)))), (List.forall_mem_cons.mpr ⟨(.tail _ (.tail _ (.tail _ (.tail _ (.head _))))), (List.forall_mem_cons.mpr ⟨(.tail _ (.tail _ (.tail _ (.tail _ (.tail _ (.head _)))))), (List.forall_mem_cons.mpr ⟨(.tail _ (.head _)), (List.forall_mem_cons.mpr ⟨(.head _), (fun _ z => absurd z List.not_mem_nil)⟩)⟩)⟩)⟩)⟩)⟩) h
  · replace h := h.2 c
    refine v_iconst (pc := 8) d_Md_isText_8 (by decide) ?_
    refine v_goto (pc := 9) (tgt := 13) d_Md_isText_9 (by decide) ?_
    refine v_istore (pc := 13) (ls' := [(4, vI 1), (0, vA 0), (1, vI p1), (2, vI p2), (3, vA p3)]) d_Md_isText_13 (by decide) rfl ?_
    refine v_iconst (pc := 15) d_Md_isText_15 (by decide) ?_
    refine v_istore (pc := 16) (ls' := [(5, vI 0), (4, vI 1), (0, vA 0), (1, vI p1), (2, vI p2), (3, vA p3)]) d_Md_isText_16 (by decide) rfl ?_
    exact v_sub (List.forall_mem_cons.mpr ⟨(.tail _ (.tail _ (.head _))), (List.forall_mem_cons.mpr ⟨(.tail _ (.tail _ (.tail _ (.head _)))), (List.forall_mem_cons.mpr ⟨(.tail _ (.tail _ (.tail _ (.tail _ (.head _))))), (List.forall_mem_cons.mpr ⟨(.tail _ (.tail _ (.tail _ (.tail _ (.tail _ (.head _)))))), (List.forall_mem_cons.mpr ⟨(.tail _ (.head _)), (List.forall_mem_cons.mpr ⟨(.head _), (fun _ z => absurd z List.not_mem_nil)⟩)⟩)⟩)⟩)⟩)⟩) h
set_option maxHeartbeats 4000000 in
theorem s_Md_isText_18 {g : Mg} {d : Nat} {K : Ou → Wd → Prop} {w : Wd} {x1_ : Int} {x2_ : Int} {a3 : Nat} {x4_ : Int} {x5_ : Int} (h : (x2_ ≤ x5_ → ((x4_ = 0 ∨ x4_ = 1) ∧ K (.inl (some (vI x4_))) w)) ∧ (¬ x2_ ≤ x5_ → ((x4_ = 0 → ((x4_ = 0 ∨ x4_ = 1) ∧ K (.inl (some (vI x4_))) w)) ∧ (¬ x4_ = 0 → ((0 ≤ (wr (x1_ + x5_)) ∧ (wr (x1_ + x5_)) < 4020) ∧ ((1001 ≤ a3 ∧ a3 < 1060) ∧ Cal g LM jSg_charAt d [vA a3, vI x5_] w (fun o w1 => rI o (fun x2 => (¬ (w 3 ((wr (x1_ + x5_)).toNat)) = x2 → (V g LM jMd_isText (d + 1) K 18 [(0, vA 0), (1, vI x1_), (2, vI x2_), (3, vA a3), (4, vI 0), (5, vI (wr (x5_ + 1)))] [] w1)) ∧ ((w 3 ((wr (x1_ + x5_)).toNat)) = x2 → (V g LM jMd_isText (d + 1) K 18 [(0, vA 0), (1, vI x1_), (2, vI x2_), (3, vA a3), (4, vI 1), (5, vI (wr (x5_ + 1)))] [] w1)))))))))) : V g LM jMd_isText (d + 1) K 18 [(0, vA 0), (1, vI x1_), (2, vI x2_), (3, vA a3), (4, vI x4_), (5, vI x5_)] [] w := by
  refine v_iload (pc := 18) d_Md_isText_18 (.tail _ (.tail _ (.tail _ (.tail _ (.tail _ (.head _)))))) ?_
  refine v_iload_n (pc := 20) d_Md_isText_20 rfl (.tail _ (.tail _ (.head _))) ?_
  refine v_icmpge (pc := 21) (tgt := 60) d_Md_isText_21 (by decide) (fun c => ?_) (fun c => ?_)
  · replace h := h.1 c
    refine v_iload (pc := 60) d_Md_isText_60 (.tail _ (.tail _ (.tail _ (.tail _ (.head _))))) ?_
    exact v_zret (pc := 62) d_Md_isText_62 rfl h.1 h.2
  · replace h := h.2 c
    refine v_iload (pc := 24) d_Md_isText_24 (.tail _ (.tail _ (.tail _ (.tail _ (.head _))))) ?_
    refine v_ifeq (pc := 26) (tgt := 60) d_Md_isText_26 (by decide) (fun c => ?_) (fun c => ?_)
    · replace h := h.1 c
      refine v_iload (pc := 60) d_Md_isText_60 (.tail _ (.tail _ (.tail _ (.tail _ (.head _))))) ?_
      exact v_zret (pc := 62) d_Md_isText_62 rfl h.1 h.2
    · replace h := h.2 c
      refine v_aload_n (pc := 29) d_Md_isText_29 rfl (.head _) ?_
      refine v_getr (C := "") (pc := 30) (r := 3) d_Md_isText_30 fl_Md_30 cM_0.1 cM_0.2 (Or.inr ⟨_, rfl⟩) rM_0_4 ?_
      refine v_iload_n (pc := 33) d_Md_isText_33 rfl (.tail _ (.head _)) ?_
      refine v_iload (pc := 34) d_Md_isText_34 (.tail _ (.tail _ (.tail _ (.tail _ (.tail _ (.head _)))))) ?_
      refine v_iadd (pc := 36) d_Md_isText_36 ?_
      refine v_bald (pc := 37) (x := (w 3 ((wr (x1_ + x5_)).toNat))) d_Md_isText_37 cM_3.1 cM_3.2 rfl h.1 ?_
      replace h := h.2
      refine v_aload_n (pc := 38) d_Md_isText_38 rfl (.tail _ (.tail _ (.tail _ (.head _)))) ?_
      refine v_iload (pc := 39) d_Md_isText_39 (.tail _ (.tail _ (.tail _ (.tail _ (.tail _ (.head _)))))) ?_
      refine v_callG (pc := 41) (J' := jSg_charAt) (d' := d) (o := a3) (As := [vI x5_]) d_Md_isText_41 ml_Md_332 rfl h.1 rfl (Nat.le_of_ble_eq_true rfl) (Nat.le_refl _) rfl (Cal.weak h.2 (fun o w1 h => ?_))
      rcases rI_of h with ⟨x2, rfl, h⟩
      refine v_icmpne (pc := 44) (tgt := 51) d_Md_isText_44 (by decide) (fun c => ?_) (fun c => ?_)
      · replace h := h.1 c
        refine v_iconst (pc := 51) d_Md_isText_51 (by decide) ?_
        refine v_istore (pc := 52) (ls' := [(4, vI 0), (0, vA 0), (1, vI x1_), (2, vI x2_), (3, vA a3), (5, vI x5_)]) d_Md_isText_52 (by decide) rfl ?_
        refine v_iinc (pc := 54) (ls' := [(5, vI (wr (x5_ + 1))), (4, vI 0), (0, vA 0), (1, vI x1_), (2, vI x2_), (3, vA a3)]) d_Md_isText_54 (.tail _ (.tail _ (.tail _ (.tail _ (.tail _ (.head _)))))) (by decide) rfl ?_
        refine v_goto (pc := 57) (tgt := 18) d_Md_isText_57 (by decide) ?_
        exact v_sub (List.forall_mem_cons.mpr ⟨(.tail _ (.tail _ (.head _))), (List.forall_mem_cons.mpr ⟨(.tail _ (.tail _ (.tail _ (.head _)))), (List.forall_mem_cons.mpr ⟨(.tail _ (.tail _ (.tail _ (.tail _ (.head _))))), (List.forall_mem_cons.mpr ⟨(.tail _ (.tail _ (.tail _ (.tail _ (.tail _ (.head _)))))), (List.forall_mem_cons.mpr ⟨(.tail _ (.head _)), (List.forall_mem_cons.mpr ⟨(.head _), (fun _ z => absurd z List.not_mem_nil)⟩)⟩)⟩)⟩)⟩)⟩) h
      · replace h := h.2 c
        refine v_iconst (pc := 47) d_Md_isText_47 (by decide) ?_
        refine v_goto (pc := 48) (tgt := 52) d_Md_isText_48 (by decide) ?_
        refine v_istore (pc := 52) (ls' := [(4, vI 1), (0, vA 0), (1, vI x1_), (2, vI x2_), (3, vA a3), (5, vI x5_)]) d_Md_isText_52 (by decide) rfl ?_
        refine v_iinc (pc := 54) (ls' := [(5, vI (wr (x5_ + 1))), (4, vI 1), (0, vA 0), (1, vI x1_), (2, vI x2_), (3, vA a3)]) d_Md_isText_54 (.tail _ (.tail _ (.tail _ (.tail _ (.tail _ (.head _)))))) (by decide) rfl ?_
        refine v_goto (pc := 57) (tgt := 18) d_Md_isText_57 (by decide) ?_
        exact v_sub (List.forall_mem_cons.mpr ⟨(.tail _ (.tail _ (.head _))), (List.forall_mem_cons.mpr ⟨(.tail _ (.tail _ (.tail _ (.head _)))), (List.forall_mem_cons.mpr ⟨(.tail _ (.tail _ (.tail _ (.tail _ (.head _))))), (List.forall_mem_cons.mpr ⟨(.tail _ (.tail _ (.tail _ (.tail _ (.tail _ (.head _)))))), (List.forall_mem_cons.mpr ⟨(.tail _ (.head _)), (List.forall_mem_cons.mpr ⟨(.head _), (fun _ z => absurd z List.not_mem_nil)⟩)⟩)⟩)⟩)⟩)⟩) h
theorem d_Md_token_0 : decode jMd_token.cc 0 = .ok (.aload_n 0, 1) := by decide +kernel
theorem d_Md_token_1 : decode jMd_token.cc 1 = .ok (.getfield 33, 3) := by decide +kernel
theorem d_Md_token_4 : decode jMd_token.cc 4 = .ok (.aload_n 0, 1) := by decide +kernel
theorem d_Md_token_5 : decode jMd_token.cc 5 = .ok (.getfield 336, 3) := by decide +kernel
theorem d_Md_token_8 : decode jMd_token.cc 8 = .ok (.iload_n 1, 1) := by decide +kernel
theorem d_Md_token_9 : decode jMd_token.cc 9 = .ok (.iastore, 1) := by decide +kernel
theorem d_Md_token_10 : decode jMd_token.cc 10 = .ok (.aload_n 0, 1) := by decide +kernel
theorem d_Md_token_11 : decode jMd_token.cc 11 = .ok (.getfield 37, 3) := by decide +kernel
theorem d_Md_token_14 : decode jMd_token.cc 14 = .ok (.aload_n 0, 1) := by decide +kernel
theorem d_Md_token_15 : decode jMd_token.cc 15 = .ok (.getfield 336, 3) := by decide +kernel
theorem d_Md_token_18 : decode jMd_token.cc 18 = .ok (.iload_n 2, 1) := by decide +kernel
theorem d_Md_token_19 : decode jMd_token.cc 19 = .ok (.iastore, 1) := by decide +kernel
theorem d_Md_token_20 : decode jMd_token.cc 20 = .ok (.aload_n 0, 1) := by decide +kernel
theorem d_Md_token_21 : decode jMd_token.cc 21 = .ok (.getfield 40, 3) := by decide +kernel
theorem d_Md_token_24 : decode jMd_token.cc 24 = .ok (.aload_n 0, 1) := by decide +kernel
theorem d_Md_token_25 : decode jMd_token.cc 25 = .ok (.getfield 336, 3) := by decide +kernel
theorem d_Md_token_28 : decode jMd_token.cc 28 = .ok (.iload_n 3, 1) := by decide +kernel
theorem d_Md_token_29 : decode jMd_token.cc 29 = .ok (.iastore, 1) := by decide +kernel
theorem d_Md_token_30 : decode jMd_token.cc 30 = .ok (.aload_n 0, 1) := by decide +kernel
theorem d_Md_token_31 : decode jMd_token.cc 31 = .ok (.getfield 43, 3) := by decide +kernel
theorem d_Md_token_34 : decode jMd_token.cc 34 = .ok (.aload_n 0, 1) := by decide +kernel
theorem d_Md_token_35 : decode jMd_token.cc 35 = .ok (.getfield 336, 3) := by decide +kernel
theorem d_Md_token_38 : decode jMd_token.cc 38 = .ok (.iload 4, 2) := by decide +kernel
theorem d_Md_token_40 : decode jMd_token.cc 40 = .ok (.iastore, 1) := by decide +kernel
theorem d_Md_token_41 : decode jMd_token.cc 41 = .ok (.aload_n 0, 1) := by decide +kernel
theorem d_Md_token_42 : decode jMd_token.cc 42 = .ok (.dup, 1) := by decide +kernel
theorem d_Md_token_43 : decode jMd_token.cc 43 = .ok (.getfield 336, 3) := by decide +kernel
theorem d_Md_token_46 : decode jMd_token.cc 46 = .ok (.iconst 1, 1) := by decide +kernel
theorem d_Md_token_47 : decode jMd_token.cc 47 = .ok (.iadd, 1) := by decide +kernel
theorem d_Md_token_48 : decode jMd_token.cc 48 = .ok (.putfield 336, 3) := by decide +kernel
theorem d_Md_token_51 : decode jMd_token.cc 51 = .ok (.return_, 1) := by decide +kernel
set_option maxHeartbeats 4000000 in
theorem s_Md_token {g : Mg} {d : Nat} {K : Ou → Wd → Prop} {w : Wd} {p1 : Int} {p2 : Int} {p3 : Int} {p4 : Int} (h : (0 ≤ (w 0 10) ∧ (w 0 10) < 4022) ∧ ((0 ≤ (w 0 10) ∧ (w 0 10) < 4022) ∧ ((0 ≤ (w 0 10) ∧ (w 0 10) < 4022) ∧ ((0 ≤ (w 0 10) ∧ (w 0 10) < 4022) ∧ (K (.inl none) (up (up (up (up (up w 4 ((w 0 10).toNat) p1) 5 ((w 0 10).toNat) p2) 6 ((w 0 10).toNat) p3) 7 ((w 0 10).toNat) p4) 0 10 (wr ((w 0 10) + 1)))))))) : V g LM jMd_token d K 0 [(0, vA 0), (1, vI p1), (2, vI p2), (3, vI p3), (4, vI p4)] [] w := by
  refine v_aload_n (pc := 0) d_Md_token_0 rfl (.head _) ?_
  refine v_getr (C := "") (pc := 1) (r := 4) d_Md_token_1 fl_Md_33 cM_0.1 cM_0.2 (Or.inr ⟨_, rfl⟩) rM_0_6 ?_
  refine v_aload_n (pc := 4) d_Md_token_4 rfl (.head _) ?_
  refine v_geti (pc := 5) (x := (w 0 10)) d_Md_token_5 fl_Md_336 cM_0.1 cM_0.2 (Or.inl rfl) rfl ?_
  refine v_iload_n (pc := 8) d_Md_token_8 rfl (.tail _ (.head _)) ?_
  refine v_iast (pc := 9) d_Md_token_9 cM_4.1 cM_4.2 (aM_4 _) h.1 ?_
  replace h := h.2
  refine v_aload_n (pc := 10) d_Md_token_10 rfl (.head _) ?_
  refine v_getr (C := "") (pc := 11) (r := 5) d_Md_token_11 fl_Md_37 cM_0.1 cM_0.2 (Or.inr ⟨_, rfl⟩) rM_0_7 ?_
  refine v_aload_n (pc := 14) d_Md_token_14 rfl (.head _) ?_
  refine v_geti (pc := 15) (x := (w 0 10)) d_Md_token_15 fl_Md_336 cM_0.1 cM_0.2 (Or.inl rfl) rfl ?_
  refine v_iload_n (pc := 18) d_Md_token_18 rfl (.tail _ (.tail _ (.head _))) ?_
  refine v_iast (pc := 19) d_Md_token_19 cM_5.1 cM_5.2 (aM_5 _) h.1 ?_
  replace h := h.2
  refine v_aload_n (pc := 20) d_Md_token_20 rfl (.head _) ?_
  refine v_getr (C := "") (pc := 21) (r := 6) d_Md_token_21 fl_Md_40 cM_0.1 cM_0.2 (Or.inr ⟨_, rfl⟩) rM_0_8 ?_
  refine v_aload_n (pc := 24) d_Md_token_24 rfl (.head _) ?_
  refine v_geti (pc := 25) (x := (w 0 10)) d_Md_token_25 fl_Md_336 cM_0.1 cM_0.2 (Or.inl rfl) rfl ?_
  refine v_iload_n (pc := 28) d_Md_token_28 rfl (.tail _ (.tail _ (.tail _ (.head _)))) ?_
  refine v_iast (pc := 29) d_Md_token_29 cM_6.1 cM_6.2 (aM_6 _) h.1 ?_
  replace h := h.2
  refine v_aload_n (pc := 30) d_Md_token_30 rfl (.head _) ?_
  refine v_getr (C := "") (pc := 31) (r := 7) d_Md_token_31 fl_Md_43 cM_0.1 cM_0.2 (Or.inr ⟨_, rfl⟩) rM_0_9 ?_
  refine v_aload_n (pc := 34) d_Md_token_34 rfl (.head _) ?_
  refine v_geti (pc := 35) (x := (w 0 10)) d_Md_token_35 fl_Md_336 cM_0.1 cM_0.2 (Or.inl rfl) rfl ?_
  refine v_iload (pc := 38) d_Md_token_38 (.tail _ (.tail _ (.tail _ (.tail _ (.head _))))) ?_
  refine v_iast (pc := 40) d_Md_token_40 cM_7.1 cM_7.2 (aM_7 _) h.1 ?_
  replace h := h.2
  refine v_aload_n (pc := 41) d_Md_token_41 rfl (.head _) ?_
  refine v_dup (pc := 42) d_Md_token_42 rfl ?_
  refine v_geti (pc := 43) (x := (w 0 10)) d_Md_token_43 fl_Md_336 cM_0.1 cM_0.2 (Or.inl rfl) rfl ?_
  refine v_iconst (pc := 46) d_Md_token_46 (by decide) ?_
  refine v_iadd (pc := 47) d_Md_token_47 ?_
  refine v_puti (pc := 48) d_Md_token_48 fp_Md_336 cM_0.1 cM_0.2 (by decide) rfl ?_
  exact v_vret (pc := 51) d_Md_token_51 rfl h
theorem d_Md_findTokens_0 : decode jMd_findTokens.cc 0 = .ok (.aload_n 0, 1) := by decide +kernel
theorem d_Md_findTokens_1 : decode jMd_findTokens.cc 1 = .ok (.iconst 0, 1) := by decide +kernel
theorem d_Md_findTokens_2 : decode jMd_findTokens.cc 2 = .ok (.putfield 336, 3) := by decide +kernel
theorem d_Md_findTokens_5 : decode jMd_findTokens.cc 5 = .ok (.iconst 0, 1) := by decide +kernel
theorem d_Md_findTokens_6 : decode jMd_findTokens.cc 6 = .ok (.istore_n 1, 1) := by decide +kernel
theorem d_Md_findTokens_7 : decode jMd_findTokens.cc 7 = .ok (.iconst 1, 1) := by decide +kernel
theorem d_Md_findTokens_8 : decode jMd_findTokens.cc 8 = .ok (.istore_n 2, 1) := by decide +kernel
theorem d_Md_findTokens_9 : decode jMd_findTokens.cc 9 = .ok (.iload_n 2, 1) := by decide +kernel
theorem d_Md_findTokens_10 : decode jMd_findTokens.cc 10 = .ok (.ifCond .eq 498, 3) := by decide +kernel
theorem d_Md_findTokens_13 : decode jMd_findTokens.cc 13 = .ok (.iload_n 1, 1) := by decide +kernel
theorem d_Md_findTokens_14 : decode jMd_findTokens.cc 14 = .ok (.aload_n 0, 1) := by decide +kernel
theorem d_Md_findTokens_15 : decode jMd_findTokens.cc 15 = .ok (.getfield 339, 3) := by decide +kernel
theorem d_Md_findTokens_18 : decode jMd_findTokens.cc 18 = .ok (.if_icmp .ge 78, 3) := by decide +kernel
theorem d_Md_findTokens_21 : decode jMd_findTokens.cc 21 = .ok (.aload_n 0, 1) := by decide +kernel
theorem d_Md_findTokens_22 : decode jMd_findTokens.cc 22 = .ok (.getfield 30, 3) := by decide +kernel
theorem d_Md_findTokens_25 : decode jMd_findTokens.cc 25 = .ok (.iload_n 1, 1) := by decide +kernel
theorem d_Md_findTokens_26 : decode jMd_findTokens.cc 26 = .ok (.baload, 1) := by decide +kernel
theorem d_Md_findTokens_27 : decode jMd_findTokens.cc 27 = .ok (.bipush 32, 2) := by decide +kernel
theorem d_Md_findTokens_29 : decode jMd_findTokens.cc 29 = .ok (.if_icmp .eq 25, 3) := by decide +kernel
theorem d_Md_findTokens_32 : decode jMd_findTokens.cc 32 = .ok (.aload_n 0, 1) := by decide +kernel
theorem d_Md_findTokens_33 : decode jMd_findTokens.cc 33 = .ok (.getfield 30, 3) := by decide +kernel
theorem d_Md_findTokens_36 : decode jMd_findTokens.cc 36 = .ok (.iload_n 1, 1) := by decide +kernel
theorem d_Md_findTokens_37 : decode jMd_findTokens.cc 37 = .ok (.baload, 1) := by decide +kernel
theorem d_Md_findTokens_38 : decode jMd_findTokens.cc 38 = .ok (.bipush 10, 2) := by decide +kernel
theorem d_Md_findTokens_40 : decode jMd_findTokens.cc 40 = .ok (.if_icmp .eq 14, 3) := by decide +kernel
theorem d_Md_findTokens_43 : decode jMd_findTokens.cc 43 = .ok (.aload_n 0, 1) := by decide +kernel
theorem d_Md_findTokens_44 : decode jMd_findTokens.cc 44 = .ok (.getfield 30, 3) := by decide +kernel
theorem d_Md_findTokens_47 : decode jMd_findTokens.cc 47 = .ok (.iload_n 1, 1) := by decide +kernel
theorem d_Md_findTokens_48 : decode jMd_findTokens.cc 48 = .ok (.baload, 1) := by decide +kernel
theorem d_Md_findTokens_49 : decode jMd_findTokens.cc 49 = .ok (.bipush 35, 2) := by decide +kernel
theorem d_Md_findTokens_51 : decode jMd_findTokens.cc 51 = .ok (.if_icmp .ne 45, 3) := by decide +kernel
theorem d_Md_findTokens_54 : decode jMd_findTokens.cc 54 = .ok (.aload_n 0, 1) := by decide +kernel
theorem d_Md_findTokens_55 : decode jMd_findTokens.cc 55 = .ok (.getfield 30, 3) := by decide +kernel
theorem d_Md_findTokens_58 : decode jMd_findTokens.cc 58 = .ok (.iload_n 1, 1) := by decide +kernel
theorem d_Md_findTokens_59 : decode jMd_findTokens.cc 59 = .ok (.baload, 1) := by decide +kernel
theorem d_Md_findTokens_60 : decode jMd_findTokens.cc 60 = .ok (.bipush 35, 2) := by decide +kernel
theorem d_Md_findTokens_62 : decode jMd_findTokens.cc 62 = .ok (.if_icmp .ne 28, 3) := by decide +kernel
theorem d_Md_findTokens_65 : decode jMd_findTokens.cc 65 = .ok (.iload_n 1, 1) := by decide +kernel
theorem d_Md_findTokens_66 : decode jMd_findTokens.cc 66 = .ok (.aload_n 0, 1) := by decide +kernel
theorem d_Md_findTokens_67 : decode jMd_findTokens.cc 67 = .ok (.getfield 339, 3) := by decide +kernel
theorem d_Md_findTokens_70 : decode jMd_findTokens.cc 70 = .ok (.if_icmp .ge (-57), 3) := by decide +kernel
theorem d_Md_findTokens_73 : decode jMd_findTokens.cc 73 = .ok (.aload_n 0, 1) := by decide +kernel
theorem d_Md_findTokens_74 : decode jMd_findTokens.cc 74 = .ok (.getfield 30, 3) := by decide +kernel
theorem d_Md_findTokens_77 : decode jMd_findTokens.cc 77 = .ok (.iload_n 1, 1) := by decide +kernel
theorem d_Md_findTokens_78 : decode jMd_findTokens.cc 78 = .ok (.baload, 1) := by decide +kernel
theorem d_Md_findTokens_79 : decode jMd_findTokens.cc 79 = .ok (.bipush 10, 2) := by decide +kernel
theorem d_Md_findTokens_81 : decode jMd_findTokens.cc 81 = .ok (.if_icmp .eq (-68), 3) := by decide +kernel
theorem d_Md_findTokens_84 : decode jMd_findTokens.cc 84 = .ok (.iinc 1 1, 3) := by decide +kernel
theorem d_Md_findTokens_87 : decode jMd_findTokens.cc 87 = .ok (.goto (-22), 3) := by decide +kernel
theorem d_Md_findTokens_90 : decode jMd_findTokens.cc 90 = .ok (.iinc 1 1, 3) := by decide +kernel
theorem d_Md_findTokens_93 : decode jMd_findTokens.cc 93 = .ok (.goto (-80), 3) := by decide +kernel
theorem d_Md_findTokens_96 : decode jMd_findTokens.cc 96 = .ok (.iload_n 1, 1) := by decide +kernel
theorem d_Md_findTokens_97 : decode jMd_findTokens.cc 97 = .ok (.aload_n 0, 1) := by decide +kernel
theorem d_Md_findTokens_98 : decode jMd_findTokens.cc 98 = .ok (.getfield 339, 3) := by decide +kernel
theorem d_Md_findTokens_101 : decode jMd_findTokens.cc 101 = .ok (.if_icmp .ne 16, 3) := by decide +kernel
theorem d_Md_findTokens_104 : decode jMd_findTokens.cc 104 = .ok (.aload_n 0, 1) := by decide +kernel
theorem d_Md_findTokens_105 : decode jMd_findTokens.cc 105 = .ok (.iconst 4, 1) := by decide +kernel
theorem d_Md_findTokens_106 : decode jMd_findTokens.cc 106 = .ok (.iload_n 1, 1) := by decide +kernel
theorem d_Md_findTokens_107 : decode jMd_findTokens.cc 107 = .ok (.iconst 0, 1) := by decide +kernel
theorem d_Md_findTokens_108 : decode jMd_findTokens.cc 108 = .ok (.iconst 0, 1) := by decide +kernel
theorem d_Md_findTokens_109 : decode jMd_findTokens.cc 109 = .ok (.invokevirtual 342, 3) := by decide +kernel
theorem d_Md_findTokens_112 : decode jMd_findTokens.cc 112 = .ok (.iconst 0, 1) := by decide +kernel
theorem d_Md_findTokens_113 : decode jMd_findTokens.cc 113 = .ok (.istore_n 2, 1) := by decide +kernel
theorem d_Md_findTokens_114 : decode jMd_findTokens.cc 114 = .ok (.goto (-105), 3) := by decide +kernel
theorem d_Md_findTokens_117 : decode jMd_findTokens.cc 117 = .ok (.aload_n 0, 1) := by decide +kernel
theorem d_Md_findTokens_118 : decode jMd_findTokens.cc 118 = .ok (.getfield 30, 3) := by decide +kernel
theorem d_Md_findTokens_121 : decode jMd_findTokens.cc 121 = .ok (.iload_n 1, 1) := by decide +kernel
theorem d_Md_findTokens_122 : decode jMd_findTokens.cc 122 = .ok (.baload, 1) := by decide +kernel
theorem d_Md_findTokens_123 : decode jMd_findTokens.cc 123 = .ok (.invokestatic 346, 3) := by decide +kernel
theorem d_Md_findTokens_126 : decode jMd_findTokens.cc 126 = .ok (.ifCond .eq 138, 3) := by decide +kernel
theorem d_Md_findTokens_129 : decode jMd_findTokens.cc 129 = .ok (.iload_n 1, 1) := by decide +kernel
theorem d_Md_findTokens_130 : decode jMd_findTokens.cc 130 = .ok (.istore_n 3, 1) := by decide +kernel
theorem d_Md_findTokens_131 : decode jMd_findTokens.cc 131 = .ok (.iload_n 1, 1) := by decide +kernel
theorem d_Md_findTokens_132 : decode jMd_findTokens.cc 132 = .ok (.aload_n 0, 1) := by decide +kernel
theorem d_Md_findTokens_133 : decode jMd_findTokens.cc 133 = .ok (.getfield 339, 3) := by decide +kernel
theorem d_Md_findTokens_136 : decode jMd_findTokens.cc 136 = .ok (.if_icmp .ge 33, 3) := by decide +kernel
theorem d_Md_findTokens_139 : decode jMd_findTokens.cc 139 = .ok (.aload_n 0, 1) := by decide +kernel
theorem d_Md_findTokens_140 : decode jMd_findTokens.cc 140 = .ok (.getfield 30, 3) := by decide +kernel
theorem d_Md_findTokens_143 : decode jMd_findTokens.cc 143 = .ok (.iload_n 1, 1) := by decide +kernel
theorem d_Md_findTokens_144 : decode jMd_findTokens.cc 144 = .ok (.baload, 1) := by decide +kernel
theorem d_Md_findTokens_145 : decode jMd_findTokens.cc 145 = .ok (.invokestatic 346, 3) := by decide +kernel
theorem d_Md_findTokens_148 : decode jMd_findTokens.cc 148 = .ok (.ifCond .ne 15, 3) := by decide +kernel
theorem d_Md_findTokens_151 : decode jMd_findTokens.cc 151 = .ok (.aload_n 0, 1) := by decide +kernel
theorem d_Md_findTokens_152 : decode jMd_findTokens.cc 152 = .ok (.getfield 30, 3) := by decide +kernel
theorem d_Md_findTokens_155 : decode jMd_findTokens.cc 155 = .ok (.iload_n 1, 1) := by decide +kernel
theorem d_Md_findTokens_156 : decode jMd_findTokens.cc 156 = .ok (.baload, 1) := by decide +kernel
theorem d_Md_findTokens_157 : decode jMd_findTokens.cc 157 = .ok (.invokestatic 350, 3) := by decide +kernel
theorem d_Md_findTokens_160 : decode jMd_findTokens.cc 160 = .ok (.ifCond .eq 9, 3) := by decide +kernel
theorem d_Md_findTokens_163 : decode jMd_findTokens.cc 163 = .ok (.iinc 1 1, 3) := by decide +kernel
theorem d_Md_findTokens_166 : decode jMd_findTokens.cc 166 = .ok (.goto (-35), 3) := by decide +kernel
theorem d_Md_findTokens_169 : decode jMd_findTokens.cc 169 = .ok (.bipush (-2), 2) := by decide +kernel
theorem d_Md_findTokens_171 : decode jMd_findTokens.cc 171 = .ok (.istore 4, 2) := by decide +kernel
theorem d_Md_findTokens_173 : decode jMd_findTokens.cc 173 = .ok (.iconst 0, 1) := by decide +kernel
theorem d_Md_findTokens_174 : decode jMd_findTokens.cc 174 = .ok (.istore 5, 2) := by decide +kernel
theorem d_Md_findTokens_176 : decode jMd_findTokens.cc 176 = .ok (.iload 5, 2) := by decide +kernel
theorem d_Md_findTokens_178 : decode jMd_findTokens.cc 178 = .ok (.aload_n 0, 1) := by decide +kernel
theorem d_Md_findTokens_179 : decode jMd_findTokens.cc 179 = .ok (.getfield 114, 3) := by decide +kernel
theorem d_Md_findTokens_182 : decode jMd_findTokens.cc 182 = .ok (.arraylength, 1) := by decide +kernel
theorem d_Md_findTokens_183 : decode jMd_findTokens.cc 183 = .ok (.if_icmp .ge 36, 3) := by decide +kernel
theorem d_Md_findTokens_186 : decode jMd_findTokens.cc 186 = .ok (.aload_n 0, 1) := by decide +kernel
theorem d_Md_findTokens_187 : decode jMd_findTokens.cc 187 = .ok (.iload_n 3, 1) := by decide +kernel
theorem d_Md_findTokens_188 : decode jMd_findTokens.cc 188 = .ok (.iload_n 1, 1) := by decide +kernel
theorem d_Md_findTokens_189 : decode jMd_findTokens.cc 189 = .ok (.iload_n 3, 1) := by decide +kernel
theorem d_Md_findTokens_190 : decode jMd_findTokens.cc 190 = .ok (.isub, 1) := by decide +kernel
theorem d_Md_findTokens_191 : decode jMd_findTokens.cc 191 = .ok (.aload_n 0, 1) := by decide +kernel
theorem d_Md_findTokens_192 : decode jMd_findTokens.cc 192 = .ok (.getfield 114, 3) := by decide +kernel
theorem d_Md_findTokens_195 : decode jMd_findTokens.cc 195 = .ok (.iload 5, 2) := by decide +kernel
theorem d_Md_findTokens_197 : decode jMd_findTokens.cc 197 = .ok (.aaload, 1) := by decide +kernel
theorem d_Md_findTokens_198 : decode jMd_findTokens.cc 198 = .ok (.invokevirtual 353, 3) := by decide +kernel
theorem d_Md_findTokens_201 : decode jMd_findTokens.cc 201 = .ok (.ifCond .eq 8, 3) := by decide +kernel
theorem d_Md_findTokens_204 : decode jMd_findTokens.cc 204 = .ok (.iload 5, 2) := by decide +kernel
theorem d_Md_findTokens_206 : decode jMd_findTokens.cc 206 = .ok (.goto 5, 3) := by decide +kernel
theorem d_Md_findTokens_209 : decode jMd_findTokens.cc 209 = .ok (.iload 4, 2) := by decide +kernel
theorem d_Md_findTokens_211 : decode jMd_findTokens.cc 211 = .ok (.istore 4, 2) := by decide +kernel
theorem d_Md_findTokens_213 : decode jMd_findTokens.cc 213 = .ok (.iinc 5 1, 3) := by decide +kernel
theorem d_Md_findTokens_216 : decode jMd_findTokens.cc 216 = .ok (.goto (-40), 3) := by decide +kernel
theorem d_Md_findTokens_219 : decode jMd_findTokens.cc 219 = .ok (.iload_n 1, 1) := by decide +kernel
theorem d_Md_findTokens_220 : decode jMd_findTokens.cc 220 = .ok (.iload_n 3, 1) := by decide +kernel
theorem d_Md_findTokens_221 : decode jMd_findTokens.cc 221 = .ok (.isub, 1) := by decide +kernel
theorem d_Md_findTokens_222 : decode jMd_findTokens.cc 222 = .ok (.bipush 12, 2) := by decide +kernel
theorem d_Md_findTokens_224 : decode jMd_findTokens.cc 224 = .ok (.if_icmp .gt 7, 3) := by decide +kernel
theorem d_Md_findTokens_227 : decode jMd_findTokens.cc 227 = .ok (.iconst 1, 1) := by decide +kernel
theorem d_Md_findTokens_228 : decode jMd_findTokens.cc 228 = .ok (.goto 4, 3) := by decide +kernel
theorem d_Md_findTokens_231 : decode jMd_findTokens.cc 231 = .ok (.iconst 0, 1) := by decide +kernel
theorem d_Md_findTokens_232 : decode jMd_findTokens.cc 232 = .ok (.istore_n 2, 1) := by decide +kernel
theorem d_Md_findTokens_233 : decode jMd_findTokens.cc 233 = .ok (.aload_n 0, 1) := by decide +kernel
theorem d_Md_findTokens_234 : decode jMd_findTokens.cc 234 = .ok (.iload_n 2, 1) := by decide +kernel
theorem d_Md_findTokens_235 : decode jMd_findTokens.cc 235 = .ok (.ifCond .ne 7, 3) := by decide +kernel
theorem d_Md_findTokens_238 : decode jMd_findTokens.cc 238 = .ok (.iconst 5, 1) := by decide +kernel
theorem d_Md_findTokens_239 : decode jMd_findTokens.cc 239 = .ok (.goto 13, 3) := by decide +kernel
theorem d_Md_findTokens_242 : decode jMd_findTokens.cc 242 = .ok (.iload 4, 2) := by decide +kernel
theorem d_Md_findTokens_244 : decode jMd_findTokens.cc 244 = .ok (.ifCond .lt 7, 3) := by decide +kernel
theorem d_Md_findTokens_247 : decode jMd_findTokens.cc 247 = .ok (.iconst 3, 1) := by decide +kernel
theorem d_Md_findTokens_248 : decode jMd_findTokens.cc 248 = .ok (.goto 4, 3) := by decide +kernel
theorem d_Md_findTokens_251 : decode jMd_findTokens.cc 251 = .ok (.iconst 0, 1) := by decide +kernel
theorem d_Md_findTokens_252 : decode jMd_findTokens.cc 252 = .ok (.iload_n 3, 1) := by decide +kernel
theorem d_Md_findTokens_253 : decode jMd_findTokens.cc 253 = .ok (.iload_n 1, 1) := by decide +kernel
theorem d_Md_findTokens_254 : decode jMd_findTokens.cc 254 = .ok (.iload_n 3, 1) := by decide +kernel
theorem d_Md_findTokens_255 : decode jMd_findTokens.cc 255 = .ok (.isub, 1) := by decide +kernel
theorem d_Md_findTokens_256 : decode jMd_findTokens.cc 256 = .ok (.iload 4, 2) := by decide +kernel
theorem d_Md_findTokens_258 : decode jMd_findTokens.cc 258 = .ok (.invokevirtual 342, 3) := by decide +kernel
theorem d_Md_findTokens_261 : decode jMd_findTokens.cc 261 = .ok (.goto (-252), 3) := by decide +kernel
theorem d_Md_findTokens_264 : decode jMd_findTokens.cc 264 = .ok (.aload_n 0, 1) := by decide +kernel
theorem d_Md_findTokens_265 : decode jMd_findTokens.cc 265 = .ok (.getfield 30, 3) := by decide +kernel
theorem d_Md_findTokens_268 : decode jMd_findTokens.cc 268 = .ok (.iload_n 1, 1) := by decide +kernel
theorem d_Md_findTokens_269 : decode jMd_findTokens.cc 269 = .ok (.baload, 1) := by decide +kernel
theorem d_Md_findTokens_270 : decode jMd_findTokens.cc 270 = .ok (.invokestatic 350, 3) := by decide +kernel
theorem d_Md_findTokens_273 : decode jMd_findTokens.cc 273 = .ok (.ifCond .eq 106, 3) := by decide +kernel
theorem d_Md_findTokens_276 : decode jMd_findTokens.cc 276 = .ok (.iload_n 1, 1) := by decide +kernel
theorem d_Md_findTokens_277 : decode jMd_findTokens.cc 277 = .ok (.istore_n 3, 1) := by decide +kernel
theorem d_Md_findTokens_278 : decode jMd_findTokens.cc 278 = .ok (.lconst 0, 1) := by decide +kernel
theorem d_Md_findTokens_279 : decode jMd_findTokens.cc 279 = .ok (.lstore 4, 2) := by decide +kernel
theorem d_Md_findTokens_281 : decode jMd_findTokens.cc 281 = .ok (.iload_n 1, 1) := by decide +kernel
theorem d_Md_findTokens_282 : decode jMd_findTokens.cc 282 = .ok (.aload_n 0, 1) := by decide +kernel
theorem d_Md_findTokens_283 : decode jMd_findTokens.cc 283 = .ok (.getfield 339, 3) := by decide +kernel
theorem d_Md_findTokens_286 : decode jMd_findTokens.cc 286 = .ok (.if_icmp .ge 55, 3) := by decide +kernel
theorem d_Md_findTokens_289 : decode jMd_findTokens.cc 289 = .ok (.aload_n 0, 1) := by decide +kernel
theorem d_Md_findTokens_290 : decode jMd_findTokens.cc 290 = .ok (.getfield 30, 3) := by decide +kernel
theorem d_Md_findTokens_293 : decode jMd_findTokens.cc 293 = .ok (.iload_n 1, 1) := by decide +kernel
theorem d_Md_findTokens_294 : decode jMd_findTokens.cc 294 = .ok (.baload, 1) := by decide +kernel
theorem d_Md_findTokens_295 : decode jMd_findTokens.cc 295 = .ok (.invokestatic 350, 3) := by decide +kernel
theorem d_Md_findTokens_298 : decode jMd_findTokens.cc 298 = .ok (.ifCond .eq 43, 3) := by decide +kernel
theorem d_Md_findTokens_301 : decode jMd_findTokens.cc 301 = .ok (.lload 4, 2) := by decide +kernel
theorem d_Md_findTokens_303 : decode jMd_findTokens.cc 303 = .ok (.ldc2_w 357, 3) := by decide +kernel
theorem d_Md_findTokens_306 : decode jMd_findTokens.cc 306 = .ok (.lcmp, 1) := by decide +kernel
theorem d_Md_findTokens_307 : decode jMd_findTokens.cc 307 = .ok (.ifCond .le 8, 3) := by decide +kernel
theorem d_Md_findTokens_310 : decode jMd_findTokens.cc 310 = .ok (.lload 4, 2) := by decide +kernel
theorem d_Md_findTokens_312 : decode jMd_findTokens.cc 312 = .ok (.goto 21, 3) := by decide +kernel
theorem d_Md_findTokens_315 : decode jMd_findTokens.cc 315 = .ok (.ldc2_w 359, 3) := by decide +kernel
theorem d_Md_findTokens_318 : decode jMd_findTokens.cc 318 = .ok (.lload 4, 2) := by decide +kernel
theorem d_Md_findTokens_320 : decode jMd_findTokens.cc 320 = .ok (.lmul, 1) := by decide +kernel
theorem d_Md_findTokens_321 : decode jMd_findTokens.cc 321 = .ok (.aload_n 0, 1) := by decide +kernel
theorem d_Md_findTokens_322 : decode jMd_findTokens.cc 322 = .ok (.getfield 30, 3) := by decide +kernel
theorem d_Md_findTokens_325 : decode jMd_findTokens.cc 325 = .ok (.iload_n 1, 1) := by decide +kernel
theorem d_Md_findTokens_326 : decode jMd_findTokens.cc 326 = .ok (.baload, 1) := by decide +kernel
theorem d_Md_findTokens_327 : decode jMd_findTokens.cc 327 = .ok (.i2l, 1) := by decide +kernel
theorem d_Md_findTokens_328 : decode jMd_findTokens.cc 328 = .ok (.ladd, 1) := by decide +kernel
theorem d_Md_findTokens_329 : decode jMd_findTokens.cc 329 = .ok (.ldc2_w 324, 3) := by decide +kernel
theorem d_Md_findTokens_332 : decode jMd_findTokens.cc 332 = .ok (.lsub, 1) := by decide +kernel
theorem d_Md_findTokens_333 : decode jMd_findTokens.cc 333 = .ok (.lstore 4, 2) := by decide +kernel
theorem d_Md_findTokens_335 : decode jMd_findTokens.cc 335 = .ok (.iinc 1 1, 3) := by decide +kernel
theorem d_Md_findTokens_338 : decode jMd_findTokens.cc 338 = .ok (.goto (-57), 3) := by decide +kernel
theorem d_Md_findTokens_341 : decode jMd_findTokens.cc 341 = .ok (.lload 4, 2) := by decide +kernel
theorem d_Md_findTokens_343 : decode jMd_findTokens.cc 343 = .ok (.ldc2_w 361, 3) := by decide +kernel
theorem d_Md_findTokens_346 : decode jMd_findTokens.cc 346 = .ok (.lcmp, 1) := by decide +kernel
theorem d_Md_findTokens_347 : decode jMd_findTokens.cc 347 = .ok (.ifCond .gt 7, 3) := by decide +kernel
theorem d_Md_findTokens_350 : decode jMd_findTokens.cc 350 = .ok (.iconst 1, 1) := by decide +kernel
theorem d_Md_findTokens_351 : decode jMd_findTokens.cc 351 = .ok (.goto 4, 3) := by decide +kernel
theorem d_Md_findTokens_354 : decode jMd_findTokens.cc 354 = .ok (.iconst 0, 1) := by decide +kernel
theorem d_Md_findTokens_355 : decode jMd_findTokens.cc 355 = .ok (.istore_n 2, 1) := by decide +kernel
theorem d_Md_findTokens_356 : decode jMd_findTokens.cc 356 = .ok (.aload_n 0, 1) := by decide +kernel
theorem d_Md_findTokens_357 : decode jMd_findTokens.cc 357 = .ok (.iload_n 2, 1) := by decide +kernel
theorem d_Md_findTokens_358 : decode jMd_findTokens.cc 358 = .ok (.ifCond .eq 7, 3) := by decide +kernel
theorem d_Md_findTokens_361 : decode jMd_findTokens.cc 361 = .ok (.iconst 1, 1) := by decide +kernel
theorem d_Md_findTokens_362 : decode jMd_findTokens.cc 362 = .ok (.goto 4, 3) := by decide +kernel
theorem d_Md_findTokens_365 : decode jMd_findTokens.cc 365 = .ok (.iconst 5, 1) := by decide +kernel
theorem d_Md_findTokens_366 : decode jMd_findTokens.cc 366 = .ok (.iload_n 3, 1) := by decide +kernel
theorem d_Md_findTokens_367 : decode jMd_findTokens.cc 367 = .ok (.iload_n 1, 1) := by decide +kernel
theorem d_Md_findTokens_368 : decode jMd_findTokens.cc 368 = .ok (.iload_n 3, 1) := by decide +kernel
theorem d_Md_findTokens_369 : decode jMd_findTokens.cc 369 = .ok (.isub, 1) := by decide +kernel
theorem d_Md_findTokens_370 : decode jMd_findTokens.cc 370 = .ok (.lload 4, 2) := by decide +kernel
theorem d_Md_findTokens_372 : decode jMd_findTokens.cc 372 = .ok (.l2i, 1) := by decide +kernel
theorem d_Md_findTokens_373 : decode jMd_findTokens.cc 373 = .ok (.invokevirtual 342, 3) := by decide +kernel
theorem d_Md_findTokens_376 : decode jMd_findTokens.cc 376 = .ok (.goto (-367), 3) := by decide +kernel
theorem d_Md_findTokens_379 : decode jMd_findTokens.cc 379 = .ok (.bipush (-2), 2) := by decide +kernel
theorem d_Md_findTokens_381 : decode jMd_findTokens.cc 381 = .ok (.istore_n 3, 1) := by decide +kernel
theorem d_Md_findTokens_382 : decode jMd_findTokens.cc 382 = .ok (.aload_n 0, 1) := by decide +kernel
theorem d_Md_findTokens_383 : decode jMd_findTokens.cc 383 = .ok (.getfield 164, 3) := by decide +kernel
theorem d_Md_findTokens_386 : decode jMd_findTokens.cc 386 = .ok (.arraylength, 1) := by decide +kernel
theorem d_Md_findTokens_387 : decode jMd_findTokens.cc 387 = .ok (.iconst 1, 1) := by decide +kernel
theorem d_Md_findTokens_388 : decode jMd_findTokens.cc 388 = .ok (.isub, 1) := by decide +kernel
theorem d_Md_findTokens_389 : decode jMd_findTokens.cc 389 = .ok (.istore 4, 2) := by decide +kernel
theorem d_Md_findTokens_391 : decode jMd_findTokens.cc 391 = .ok (.iload 4, 2) := by decide +kernel
theorem d_Md_findTokens_393 : decode jMd_findTokens.cc 393 = .ok (.ifCond .lt 56, 3) := by decide +kernel
theorem d_Md_findTokens_396 : decode jMd_findTokens.cc 396 = .ok (.aload_n 0, 1) := by decide +kernel
theorem d_Md_findTokens_397 : decode jMd_findTokens.cc 397 = .ok (.getfield 164, 3) := by decide +kernel
theorem d_Md_findTokens_400 : decode jMd_findTokens.cc 400 = .ok (.iload 4, 2) := by decide +kernel
theorem d_Md_findTokens_402 : decode jMd_findTokens.cc 402 = .ok (.aaload, 1) := by decide +kernel
theorem d_Md_findTokens_403 : decode jMd_findTokens.cc 403 = .ok (.invokevirtual 328, 3) := by decide +kernel
theorem d_Md_findTokens_406 : decode jMd_findTokens.cc 406 = .ok (.istore 5, 2) := by decide +kernel
theorem d_Md_findTokens_408 : decode jMd_findTokens.cc 408 = .ok (.iload_n 1, 1) := by decide +kernel
theorem d_Md_findTokens_409 : decode jMd_findTokens.cc 409 = .ok (.iload 5, 2) := by decide +kernel
theorem d_Md_findTokens_411 : decode jMd_findTokens.cc 411 = .ok (.iadd, 1) := by decide +kernel
theorem d_Md_findTokens_412 : decode jMd_findTokens.cc 412 = .ok (.aload_n 0, 1) := by decide +kernel
theorem d_Md_findTokens_413 : decode jMd_findTokens.cc 413 = .ok (.getfield 339, 3) := by decide +kernel
theorem d_Md_findTokens_416 : decode jMd_findTokens.cc 416 = .ok (.if_icmp .gt 25, 3) := by decide +kernel
theorem d_Md_findTokens_419 : decode jMd_findTokens.cc 419 = .ok (.aload_n 0, 1) := by decide +kernel
theorem d_Md_findTokens_420 : decode jMd_findTokens.cc 420 = .ok (.iload_n 1, 1) := by decide +kernel
theorem d_Md_findTokens_421 : decode jMd_findTokens.cc 421 = .ok (.iload 5, 2) := by decide +kernel
theorem d_Md_findTokens_423 : decode jMd_findTokens.cc 423 = .ok (.aload_n 0, 1) := by decide +kernel
theorem d_Md_findTokens_424 : decode jMd_findTokens.cc 424 = .ok (.getfield 164, 3) := by decide +kernel
theorem d_Md_findTokens_427 : decode jMd_findTokens.cc 427 = .ok (.iload 4, 2) := by decide +kernel
theorem d_Md_findTokens_429 : decode jMd_findTokens.cc 429 = .ok (.aaload, 1) := by decide +kernel
theorem d_Md_findTokens_430 : decode jMd_findTokens.cc 430 = .ok (.invokevirtual 353, 3) := by decide +kernel
theorem d_Md_findTokens_433 : decode jMd_findTokens.cc 433 = .ok (.ifCond .eq 8, 3) := by decide +kernel
theorem d_Md_findTokens_436 : decode jMd_findTokens.cc 436 = .ok (.iload 4, 2) := by decide +kernel
theorem d_Md_findTokens_438 : decode jMd_findTokens.cc 438 = .ok (.goto 4, 3) := by decide +kernel
theorem d_Md_findTokens_441 : decode jMd_findTokens.cc 441 = .ok (.iload_n 3, 1) := by decide +kernel
theorem d_Md_findTokens_442 : decode jMd_findTokens.cc 442 = .ok (.istore_n 3, 1) := by decide +kernel
theorem d_Md_findTokens_443 : decode jMd_findTokens.cc 443 = .ok (.iinc 4 (-1), 3) := by decide +kernel
theorem d_Md_findTokens_446 : decode jMd_findTokens.cc 446 = .ok (.goto (-55), 3) := by decide +kernel
theorem d_Md_findTokens_449 : decode jMd_findTokens.cc 449 = .ok (.iload_n 3, 1) := by decide +kernel
theorem d_Md_findTokens_450 : decode jMd_findTokens.cc 450 = .ok (.ifCond .lt 7, 3) := by decide +kernel
theorem d_Md_findTokens_453 : decode jMd_findTokens.cc 453 = .ok (.iconst 1, 1) := by decide +kernel
theorem d_Md_findTokens_454 : decode jMd_findTokens.cc 454 = .ok (.goto 4, 3) := by decide +kernel
theorem d_Md_findTokens_457 : decode jMd_findTokens.cc 457 = .ok (.iconst 0, 1) := by decide +kernel
theorem d_Md_findTokens_458 : decode jMd_findTokens.cc 458 = .ok (.istore_n 2, 1) := by decide +kernel
theorem d_Md_findTokens_459 : decode jMd_findTokens.cc 459 = .ok (.aload_n 0, 1) := by decide +kernel
theorem d_Md_findTokens_460 : decode jMd_findTokens.cc 460 = .ok (.iload_n 2, 1) := by decide +kernel
theorem d_Md_findTokens_461 : decode jMd_findTokens.cc 461 = .ok (.ifCond .eq 7, 3) := by decide +kernel
theorem d_Md_findTokens_464 : decode jMd_findTokens.cc 464 = .ok (.iconst 2, 1) := by decide +kernel
theorem d_Md_findTokens_465 : decode jMd_findTokens.cc 465 = .ok (.goto 4, 3) := by decide +kernel
theorem d_Md_findTokens_468 : decode jMd_findTokens.cc 468 = .ok (.iconst 5, 1) := by decide +kernel
theorem d_Md_findTokens_469 : decode jMd_findTokens.cc 469 = .ok (.iload_n 1, 1) := by decide +kernel
theorem d_Md_findTokens_470 : decode jMd_findTokens.cc 470 = .ok (.iload_n 2, 1) := by decide +kernel
theorem d_Md_findTokens_471 : decode jMd_findTokens.cc 471 = .ok (.ifCond .eq 15, 3) := by decide +kernel
theorem d_Md_findTokens_474 : decode jMd_findTokens.cc 474 = .ok (.aload_n 0, 1) := by decide +kernel
theorem d_Md_findTokens_475 : decode jMd_findTokens.cc 475 = .ok (.getfield 164, 3) := by decide +kernel
theorem d_Md_findTokens_478 : decode jMd_findTokens.cc 478 = .ok (.iload_n 3, 1) := by decide +kernel
theorem d_Md_findTokens_479 : decode jMd_findTokens.cc 479 = .ok (.aaload, 1) := by decide +kernel
theorem d_Md_findTokens_480 : decode jMd_findTokens.cc 480 = .ok (.invokevirtual 328, 3) := by decide +kernel
theorem d_Md_findTokens_483 : decode jMd_findTokens.cc 483 = .ok (.goto 4, 3) := by decide +kernel
theorem d_Md_findTokens_486 : decode jMd_findTokens.cc 486 = .ok (.iconst 1, 1) := by decide +kernel
theorem d_Md_findTokens_487 : decode jMd_findTokens.cc 487 = .ok (.iload_n 3, 1) := by decide +kernel
theorem d_Md_findTokens_488 : decode jMd_findTokens.cc 488 = .ok (.invokevirtual 342, 3) := by decide +kernel
theorem d_Md_findTokens_491 : decode jMd_findTokens.cc 491 = .ok (.iload_n 1, 1) := by decide +kernel
theorem d_Md_findTokens_492 : decode jMd_findTokens.cc 492 = .ok (.aload_n 0, 1) := by decide +kernel
theorem d_Md_findTokens_493 : decode jMd_findTokens.cc 493 = .ok (.getfield 40, 3) := by decide +kernel
theorem d_Md_findTokens_496 : decode jMd_findTokens.cc 496 = .ok (.aload_n 0, 1) := by decide +kernel
theorem d_Md_findTokens_497 : decode jMd_findTokens.cc 497 = .ok (.getfield 336, 3) := by decide +kernel
theorem d_Md_findTokens_500 : decode jMd_findTokens.cc 500 = .ok (.iconst 1, 1) := by decide +kernel
theorem d_Md_findTokens_501 : decode jMd_findTokens.cc 501 = .ok (.isub, 1) := by decide +kernel
theorem d_Md_findTokens_502 : decode jMd_findTokens.cc 502 = .ok (.iaload, 1) := by decide +kernel
theorem d_Md_findTokens_503 : decode jMd_findTokens.cc 503 = .ok (.iadd, 1) := by decide +kernel
theorem d_Md_findTokens_504 : decode jMd_findTokens.cc 504 = .ok (.istore_n 1, 1) := by decide +kernel
theorem d_Md_findTokens_505 : decode jMd_findTokens.cc 505 = .ok (.goto (-496), 3) := by decide +kernel
theorem d_Md_findTokens_508 : decode jMd_findTokens.cc 508 = .ok (.return_, 1) := by decide +kernel
set_option maxHeartbeats 4000000 in
theorem s_Md_findTokens {g : Mg} {d : Nat} {K : Ou → Wd → Prop} {w : Wd} (h : V g LM jMd_findTokens (d + 1) K 9 [(0, vA 0), (1, vI 0), (2, vI 1)] [] (up w 0 10 0)) : V g LM jMd_findTokens (d + 1) K 0 [(0, vA 0)] [] w := by
  refine v_aload_n (pc := 0) d_Md_findTokens_0 rfl (.head _) ?_
  refine v_iconst (pc := 1) d_Md_findTokens_1 (by decide) ?_
  refine v_puti (pc := 2) d_Md_findTokens_2 fp_Md_336 cM_0.1 cM_0.2 (by decide) rfl ?_
  refine v_iconst (pc := 5) d_Md_findTokens_5 (by decide) ?_
  refine v_istore_n (pc := 6) (ls' := [(1, vI 0), (0, vA 0)]) d_Md_findTokens_6 rfl (by decide) rfl ?_
  refine v_iconst (pc := 7) d_Md_findTokens_7 (by decide) ?_
  refine v_istore_n (pc := 8) (ls' := [(2, vI 1), (1, vI 0), (0, vA 0)]) d_Md_findTokens_8 rfl (by decide) rfl ?_
  exact v_sub (List.forall_mem_cons.mpr ⟨(.tail _ (.tail _ (.head _))), (List.forall_mem_cons.mpr ⟨(.tail _ (.head _)), (List.forall_mem_cons.mpr ⟨(.head _), (fun _ z => absurd z List.not_mem_nil)⟩)⟩)⟩) h
set_option maxHeartbeats 4000000 in
theorem s_Md_findTokens_9 {g : Mg} {d : Nat} {K : Ou → Wd → Prop} {w : Wd} {x1_ : Int} {x2_ : Int} (h : (x2_ = 0 → (K (.inl none) w)) ∧ (¬ x2_ = 0 → (V g LM jMd_findTokens (d + 1) K 13 [(0, vA 0), (1, vI x1_)] [] w))) : V g LM jMd_findTokens (d + 1) K 9 [(0, vA 0), (1, vI x1_), (2, vI x2_)] [] w := by
  refine v_iload_n (pc := 9) d_Md_findTokens_9 rfl (.tail _ (.tail _ (.head _))) ?_
  refine v_ifeq (pc := 10) (tgt := 508) d_Md_findTokens_10 (by decide) (fun c => ?_) (fun c => ?_)
  · replace h := h.1 c
    exact v_vret (pc := 508) d_Md_findTokens_508 rfl h
  · replace h := h.2 c
    exact v_sub (List.forall_mem_cons.mpr ⟨(.head _), (List.forall_mem_cons.mpr ⟨(.tail _ (.head _)), (fun _ z => absurd z List.not_mem_nil)⟩)⟩) h
set_option maxHeartbeats 4000000 in
theorem s_Md_findTokens_13 {g : Mg} {d : Nat} {K : Ou → Wd → Prop} {w : Wd} {x1_ : Int} (h : ((w 0 5) ≤ x1_ → (V g LM jMd_findTokens (d + 1) K 96 [(0, vA 0), (1, vI x1_)] [] w)) ∧ (¬ (w 0 5) ≤ x1_ → ((0 ≤ x1_ ∧ x1_ < 4020) ∧ (((w 3 x1_.toNat) = 32 → (V g LM jMd_findTokens (d + 1) K 54 [(0, vA 0), (1, vI x1_)] [] w)) ∧ (¬ (w 3 x1_.toNat) = 32 → ((0 ≤ x1_ ∧ x1_ < 4020) ∧ (((w 3 x1_.toNat) = 10 → (V g LM jMd_findTokens (d + 1) K 54 [(0, vA 0), (1, vI x1_)] [] w)) ∧ (¬ (w 3 x1_.toNat) = 10 → ((0 ≤ x1_ ∧ x1_ < 4020) ∧ ((¬ (w 3 x1_.toNat) = 35 → (V g LM jMd_findTokens (d + 1) K 96 [(0, vA 0), (1, vI x1_)] [] w)) ∧ ((w 3 x1_.toNat) = 35 → (V g LM jMd_findTokens (d + 1) K 54 [(0, vA 0), (1, vI x1_)] [] w)))))))))))) : V g LM jMd_findTokens (d + 1) K 13 [(0, vA 0), (1, vI x1_)] [] w := by
  refine v_iload_n (pc := 13) d_Md_findTokens_13 rfl (.tail _ (.head _)) ?_
  refine v_aload_n (pc := 14) d_Md_findTokens_14 rfl (.head _) ?_
  refine v_geti (pc := 15) (x := (w 0 5)) d_Md_findTokens_15 fl_Md_339 cM_0.1 cM_0.2 (Or.inl rfl) rfl ?_
  refine v_icmpge (pc := 18) (tgt := 96) d_Md_findTokens_18 (by decide) (fun c => ?_) (fun c => ?_)
  · replace h := h.1 c
    exact v_sub (List.forall_mem_cons.mpr ⟨(.head _), (List.forall_mem_cons.mpr ⟨(.tail _ (.head _)), (fun _ z => absurd z List.not_mem_nil)⟩)⟩) h
  · replace h := h.2 c
    refine v_aload_n (pc := 21) d_Md_findTokens_21 rfl (.head _) ?_
    refine v_getr (C := "") (pc := 22) (r := 3) d_Md_findTokens_22 fl_Md_30 cM_0.1 cM_0.2 (Or.inr ⟨_, rfl⟩) rM_0_4 ?_
    refine v_iload_n (pc := 25) d_Md_findTokens_25 rfl (.tail _ (.head _)) ?_
    refine v_bald (pc := 26) (x := (w 3 x1_.toNat)) d_Md_findTokens_26 cM_3.1 cM_3.2 rfl h.1 ?_
    replace h := h.2
    refine v_bipush (pc := 27) d_Md_findTokens_27 (by decide) rfl ?_
    refine v_icmpeq (pc := 29) (tgt := 54) d_Md_findTokens_29 (by decide) (fun c => ?_) (fun c => ?_)
    · replace h := h.1 c
      exact v_sub (List.forall_mem_cons.mpr ⟨(.head _), (List.forall_mem_cons.mpr ⟨(.tail _ (.head _)), (fun _ z => absurd z List.not_mem_nil)⟩)⟩) h
    · replace h := h.2 c
      refine v_aload_n (pc := 32) d_Md_findTokens_32 rfl (.head _) ?_
      refine v_getr (C := "") (pc := 33) (r := 3) d_Md_findTokens_33 fl_Md_30 cM_0.1 cM_0.2 (Or.inr ⟨_, rfl⟩) rM_0_4 ?_
      refine v_iload_n (pc := 36) d_Md_findTokens_36 rfl (.tail _ (.head _)) ?_
      refine v_bald (pc := 37) (x := (w 3 x1_.toNat)) d_Md_findTokens_37 cM_3.1 cM_3.2 rfl h.1 ?_
      replace h := h.2
      refine v_bipush (pc := 38) d_Md_findTokens_38 (by decide) rfl ?_
      refine v_icmpeq (pc := 40) (tgt := 54) d_Md_findTokens_40 (by decide) (fun c => ?_) (fun c => ?_)
      · replace h := h.1 c
        exact v_sub (List.forall_mem_cons.mpr ⟨(.head _), (List.forall_mem_cons.mpr ⟨(.tail _ (.head _)), (fun _ z => absurd z List.not_mem_nil)⟩)⟩) h
      · replace h := h.2 c
        refine v_aload_n (pc := 43) d_Md_findTokens_43 rfl (.head _) ?_
        refine v_getr (C := "") (pc := 44) (r := 3) d_Md_findTokens_44 fl_Md_30 cM_0.1 cM_0.2 (Or.inr ⟨_, rfl⟩) rM_0_4 ?_
        refine v_iload_n (pc := 47) d_Md_findTokens_47 rfl (.tail _ (.head _)) ?_
        refine v_bald (pc := 48) (x := (w 3 x1_.toNat)) d_Md_findTokens_48 cM_3.1 cM_3.2 rfl h.1 ?_
        replace h := h.2
        refine v_bipush (pc := 49) d_Md_findTokens_49 (by decide) rfl ?_
        refine v_icmpne (pc := 51) (tgt := 96) d_Md_findTokens_51 (by decide) (fun c => ?_) (fun c => ?_)
        · replace h := h.1 c
          exact v_sub (List.forall_mem_cons.mpr ⟨(.head _), (List.forall_mem_cons.mpr ⟨(.tail _ (.head _)), (fun _ z => absurd z List.not_mem_nil)⟩)⟩) h
        · replace h := h.2 c
          exact v_sub (List.forall_mem_cons.mpr ⟨(.head _), (List.forall_mem_cons.mpr ⟨(.tail _ (.head _)), (fun _ z => absurd z List.not_mem_nil)⟩)⟩) h
set_option maxHeartbeats 4000000 in
theorem s_Md_findTokens_96 {g : Mg} {d : Nat} {K : Ou → Wd → Prop} {w : Wd} {x1_ : Int} (h : (¬ x1_ = (w 0 5) → ((0 ≤ x1_ ∧ x1_ < 4020) ∧ (Cal g LM jMd_isLetter d [vI (w 3 x1_.toNat)] w (fun o w1 => rIt o (fun b => K (.inr b) w1) (fun x2 => (x2 = 0 → ((0 ≤ x1_ ∧ x1_ < 4020) ∧ (Cal g LM jMd_isDigit d [vI (w1 3 x1_.toNat)] w1 (fun o w3 => rIt o (fun b => K (.inr b) w3) (fun x4 => (x4 = 0 → (V g LM jMd_findTokens (d + 1) K 391 [(0, vA 0), (1, vI x1_), (3, vI (-2)), (4, vI (wr (23 - 1)))] [] w3)) ∧ (¬ x4 = 0 → (V g LM jMd_findTokens (d + 1) K 281 [(0, vA 0), (1, vI x1_), (3, vI x1_), (4, vL 0)] [] w3))))))) ∧ (¬ x2 = 0 → (V g LM jMd_findTokens (d + 1) K 131 [(0, vA 0), (1, vI x1_), (3, vI x1_)] [] w1))))))) ∧ (x1_ = (w 0 5) → (Cal g LM jMd_token d [vA 0, vI 4, vI x1_, vI 0, vI 0] w (fun o w5 => rVt o (fun b => K (.inr b) w5) (V g LM jMd_findTokens (d + 1) K 9 [(0, vA 0), (1, vI x1_), (2, vI 0)] [] w5))))) : V g LM jMd_findTokens (d + 1) K 96 [(0, vA 0), (1, vI x1_)] [] w := by
  refine v_iload_n (pc := 96) d_Md_findTokens_96 rfl (.tail _ (.head _)) ?_
  refine v_aload_n (pc := 97) d_Md_findTokens_97 rfl (.head _) ?_
  refine v_geti (pc := 98) (x := (w 0 5)) d_Md_findTokens_98 fl_Md_339 cM_0.1 cM_0.2 (Or.inl rfl) rfl ?_
  refine v_icmpne (pc := 101) (tgt := 117) d_Md_findTokens_101 (by decide) (fun c => ?_) (fun c => ?_)
  · replace h := h.1 c
    refine v_aload_n (pc := 117) d_Md_findTokens_117 rfl (.head _) ?_
    refine v_getr (C := "") (pc := 118) (r := 3) d_Md_findTokens_118 fl_Md_30 cM_0.1 cM_0.2 (Or.inr ⟨_, rfl⟩) rM_0_4 ?_
    refine v_iload_n (pc := 121) d_Md_findTokens_121 rfl (.tail _ (.head _)) ?_
    refine v_bald (pc := 122) (x := (w 3 x1_.toNat)) d_Md_findTokens_122 cM_3.1 cM_3.2 rfl h.1 ?_
    replace h := h.2
    refine v_callS (pc := 123) (J' := jMd_isLetter) (d' := d) (As := [vI (w 3 x1_.toNat)]) d_Md_findTokens_123 ml_Md_346 rfl (Nat.le_of_ble_eq_true rfl) (Nat.le_refl _) rfl (Cal.weak h (fun o w1 h => ?_))
    rcases rIt_of h with ⟨x2, rfl, h⟩ | ⟨b, rfl, h⟩
    rotate_left
    · exact h
    refine v_ifeq (pc := 126) (tgt := 264) d_Md_findTokens_126 (by decide) (fun c => ?_) (fun c => ?_)
    · replace h := h.1 c
      refine v_aload_n (pc := 264) d_Md_findTokens_264 rfl (.head _) ?_
      refine v_getr (C := "") (pc := 265) (r := 3) d_Md_findTokens_265 fl_Md_30 cM_0.1 cM_0.2 (Or.inr ⟨_, rfl⟩) rM_0_4 ?_
      refine v_iload_n (pc := 268) d_Md_findTokens_268 rfl (.tail _ (.head _)) ?_
      refine v_bald (pc := 269) (x := (w1 3 x1_.toNat)) d_Md_findTokens_269 cM_3.1 cM_3.2 rfl h.1 ?_
      replace h := h.2
      refine v_callS (pc := 270) (J' := jMd_isDigit) (d' := d) (As := [vI (w1 3 x1_.toNat)]) d_Md_findTokens_270 ml_Md_350 rfl (Nat.le_of_ble_eq_true rfl) (Nat.le_refl _) rfl (Cal.weak h (fun o w3 h => ?_))
      rcases rIt_of h with ⟨x4, rfl, h⟩ | ⟨b, rfl, h⟩
      rotate_left
      · exact h
      refine v_ifeq (pc := 273) (tgt := 379) d_Md_findTokens_273 (by decide) (fun c => ?_) (fun c => ?_)
      · replace h := h.1 c
        refine v_bipush (pc := 379) d_Md_findTokens_379 (by decide) rfl ?_
        refine v_istore_n (pc := 381) (ls' := [(3, vI (-2)), (0, vA 0), (1, vI x1_)]) d_Md_findTokens_381 rfl (by decide) rfl ?_
        refine v_aload_n (pc := 382) d_Md_findTokens_382 rfl (.tail _ (.head _)) ?_
        refine v_getr (C := "") (pc := 383) (r := 9) d_Md_findTokens_383 fl_Md_164 cM_0.1 cM_0.2 (Or.inr ⟨_, rfl⟩) rM_0_13 ?_
        refine v_alen (pc := 386) (n := 23) d_Md_findTokens_386 cM_9.1 cM_9.2 (by decide) (by decide) ?_
        refine v_iconst (pc := 387) d_Md_findTokens_387 (by decide) ?_
        refine v_isub (pc := 388) d_Md_findTokens_388 ?_
        refine v_istore (pc := 389) (ls' := [(4, vI (wr (23 - 1))), (3, vI (-2)), (0, vA 0), (1, vI x1_)]) d_Md_findTokens_389 (by decide) rfl ?_
        exact v_sub (List.forall_mem_cons.mpr ⟨(.tail _ (.tail _ (.head _))), (List.forall_mem_cons.mpr ⟨(.tail _ (.tail _ (.tail _ (.head _)))), (List.forall_mem_cons.mpr ⟨(.tail _ (.head _)), (List.forall_mem_cons.mpr ⟨(.head _), (fun _ z => absurd z List.not_mem_nil)⟩)⟩)⟩)⟩) h
      · replace h := h.2 c
        refine v_iload_n (pc := 276) d_Md_findTokens_276 rfl (.tail _ (.head _)) ?_
        refine v_istore_n (pc := 277) (ls' := [(3, vI x1_), (0, vA 0), (1, vI x1_)]) d_Md_findTokens_277 rfl (by decide) rfl ?_
        refine v_lconst (pc := 278) (x := 0) d_Md_findTokens_278 (by decide) rfl ?_
        refine v_lstore (pc := 279) (ls' := [(4, vL 0), (3, vI x1_), (0, vA 0), (1, vI x1_)]) d_Md_findTokens_279 (by decide) rfl ?_
        exact v_sub (List.forall_mem_cons.mpr ⟨(.tail _ (.tail _ (.head _))), (List.forall_mem_cons.mpr ⟨(.tail _ (.tail _ (.tail _ (.head _)))), (List.forall_mem_cons.mpr ⟨(.tail _ (.head _)), (List.forall_mem_cons.mpr ⟨(.head _), (fun _ z => absurd z List.not_mem_nil)⟩)⟩)⟩)⟩) h
    · replace h := h.2 c
      refine v_iload_n (pc := 129) d_Md_findTokens_129 rfl (.tail _ (.head _)) ?_
      refine v_istore_n (pc := 130) (ls' := [(3, vI x1_), (0, vA 0), (1, vI x1_)]) d_Md_findTokens_130 rfl (by decide) rfl ?_
      exact v_sub (List.forall_mem_cons.mpr ⟨(.tail _ (.head _)), (List.forall_mem_cons.mpr ⟨(.tail _ (.tail _ (.head _))), (List.forall_mem_cons.mpr ⟨(.head _), (fun _ z => absurd z List.not_mem_nil)⟩)⟩)⟩) h
  · replace h := h.2 c
    refine v_aload_n (pc := 104) d_Md_findTokens_104 rfl (.head _) ?_
    refine v_iconst (pc := 105) d_Md_findTokens_105 (by decide) ?_
    refine v_iload_n (pc := 106) d_Md_findTokens_106 rfl (.tail _ (.head _)) ?_
    refine v_iconst (pc := 107) d_Md_findTokens_107 (by decide) ?_
    refine v_iconst (pc := 108) d_Md_findTokens_108 (by decide) ?_
    refine v_callV (pc := 109) (J' := jMd_token) (d' := d) (o := 0) (ci := 13) (N := 93) (T := cT13) (As := [vI 4, vI x1_, vI 0, vI 0]) d_Md_findTokens_109 ml_Md_342 cM_0.1 cM_0.2 (by decide) rfl rfl (Nat.le_of_ble_eq_true rfl) (Nat.le_refl _) rfl (Cal.weak h (fun o w5 h => ?_))
    rcases rVt_of h with ⟨rfl, h⟩ | ⟨b, rfl, h⟩
    rotate_left
    · exact h
    refine v_iconst (pc := 112) d_Md_findTokens_112 (by decide) ?_
    refine v_istore_n (pc := 113) (ls' := [(2, vI 0), (0, vA 0), (1, vI x1_)]) d_Md_findTokens_113 rfl (by decide) rfl ?_
    refine v_goto (pc := 114) (tgt := 9) d_Md_findTokens_114 (by decide) ?_
    exact v_sub (List.forall_mem_cons.mpr ⟨(.tail _ (.head _)), (List.forall_mem_cons.mpr ⟨(.tail _ (.tail _ (.head _))), (List.forall_mem_cons.mpr ⟨(.head _), (fun _ z => absurd z List.not_mem_nil)⟩)⟩)⟩) h
set_option maxHeartbeats 4000000 in
theorem s_Md_findTokens_54 {g : Mg} {d : Nat} {K : Ou → Wd → Prop} {w : Wd} {x1_ : Int} (h : (0 ≤ x1_ ∧ x1_ < 4020) ∧ ((¬ (w 3 x1_.toNat) = 35 → (V g LM jMd_findTokens (d + 1) K 13 [(0, vA 0), (1, vI (wr (x1_ + 1)))] [] w)) ∧ ((w 3 x1_.toNat) = 35 → (V g LM jMd_findTokens (d + 1) K 65 [(0, vA 0), (1, vI x1_)] [] w)))) : V g LM jMd_findTokens (d + 1) K 54 [(0, vA 0), (1, vI x1_)] [] w := by
  refine v_aload_n (pc := 54) d_Md_findTokens_54 rfl (.head _) ?_
  refine v_getr (C := "") (pc := 55) (r := 3) d_Md_findTokens_55 fl_Md_30 cM_0.1 cM_0.2 (Or.inr ⟨_, rfl⟩) rM_0_4 ?_
  refine v_iload_n (pc := 58) d_Md_findTokens_58 rfl (.tail _ (.head _)) ?_
  refine v_bald (pc := 59) (x := (w 3 x1_.toNat)) d_Md_findTokens_59 cM_3.1 cM_3.2 rfl h.1 ?_
  replace h := h.2
  refine v_bipush (pc := 60) d_Md_findTokens_60 (by decide) rfl ?_
  refine v_icmpne (pc := 62) (tgt := 90) d_Md_findTokens_62 (by decide) (fun c => ?_) (fun c => ?_)
  · replace h := h.1 c
    refine v_iinc (pc := 90) (ls' := [(1, vI (wr (x1_ + 1))), (0, vA 0)]) d_Md_findTokens_90 (.tail _ (.head _)) (by decide) rfl ?_
    refine v_goto (pc := 93) (tgt := 13) d_Md_findTokens_93 (by decide) ?_
    exact v_sub (List.forall_mem_cons.mpr ⟨(.tail _ (.head _)), (List.forall_mem_cons.mpr ⟨(.head _), (fun _ z => absurd z List.not_mem_nil)⟩)⟩) h
  · replace h := h.2 c
    exact v_sub (List.forall_mem_cons.mpr ⟨(.head _), (List.forall_mem_cons.mpr ⟨(.tail _ (.head _)), (fun _ z => absurd z List.not_mem_nil)⟩)⟩) h
set_option maxHeartbeats 4000000 in
theorem s_Md_findTokens_391 {g : Mg} {d : Nat} {K : Ou → Wd → Prop} {w : Wd} {x1_ : Int} {x3_ : Int} {x4_ : Int} (h : (x4_ < 0 → ((x3_ < 0 → (V g LM jMd_findTokens (d + 1) K 458 [(0, vA 0), (1, vI x1_), (3, vI x3_)] [vI 0] w)) ∧ (¬ x3_ < 0 → (V g LM jMd_findTokens (d + 1) K 458 [(0, vA 0), (1, vI x1_), (3, vI x3_)] [vI 1] w)))) ∧ (¬ x4_ < 0 → ((0 ≤ x4_ ∧ x4_ < 23) ∧ ((1001 ≤ (1037 + x4_.toNat) ∧ (1037 + x4_.toNat) < 1060) ∧ Cal g LM jSg_length d [vA (1037 + x4_.toNat)] w (fun o w1 => rI o (fun x2 => ((w1 0 5) < (wr (x1_ + x2)) → (V g LM jMd_findTokens (d + 1) K 441 [(0, vA 0), (1, vI x1_), (3, vI x3_), (4, vI x4_)] [] w1)) ∧ (¬ (w1 0 5) < (wr (x1_ + x2)) → ((0 ≤ x4_ ∧ x4_ < 23) ∧ (Cal g LM jMd_isText d [vA 0, vI x1_, vI x2, vA (1037 + x4_.toNat)] w1 (fun o w3 => rIt o (fun b => K (.inr b) w3) (fun x4 => (x4 = 0 → (V g LM jMd_findTokens (d + 1) K 441 [(0, vA 0), (1, vI x1_), (3, vI x3_), (4, vI x4_)] [] w3)) ∧ (¬ x4 = 0 → (V g LM jMd_findTokens (d + 1) K 442 [(0, vA 0), (1, vI x1_), (4, vI x4_)] [vI x4_] w3))))))))))))) : V g LM jMd_findTokens (d + 1) K 391 [(0, vA 0), (1, vI x1_), (3, vI x3_), (4, vI x4_)] [] w := by
  refine v_iload (pc := 391) d_Md_findTokens_391 (.tail _ (.tail _ (.tail _ (.head _)))) ?_
  refine v_iflt (pc := 393) (tgt := 449) d_Md_findTokens_393 (by decide) (fun c => ?_) (fun c => ?_)
  · replace h := h.1 c
    refine v_iload_n (pc := 449) d_Md_findTokens_449 rfl (.tail _ (.tail _ (.head _))) ?_
    refine v_iflt (pc := 450) (tgt := 457) d_Md_findTokens_450 (by decide) (fun c => ?_) (fun c => ?_)
    · replace h := h.1 c
      refine v_iconst (pc := 457) d_Md_findTokens_457 (by decide) ?_
      exact v_sub (List.forall_mem_cons.mpr ⟨(.head _), (List.forall_mem_cons.mpr ⟨(.tail _ (.head _)), (List.forall_mem_cons.mpr ⟨(.tail _ (.tail _ (.head _))), (fun _ z => absurd z List.not_mem_nil)⟩)⟩)⟩) h
    · replace h := h.2 c
      refine v_iconst (pc := 453) d_Md_findTokens_453 (by decide) ?_
      refine v_goto (pc := 454) (tgt := 458) d_Md_findTokens_454 (by decide) ?_
      exact v_sub (List.forall_mem_cons.mpr ⟨(.head _), (List.forall_mem_cons.mpr ⟨(.tail _ (.head _)), (List.forall_mem_cons.mpr ⟨(.tail _ (.tail _ (.head _))), (fun _ z => absurd z List.not_mem_nil)⟩)⟩)⟩) h
  · replace h := h.2 c
    refine v_aload_n (pc := 396) d_Md_findTokens_396 rfl (.head _) ?_
    refine v_getr (C := "") (pc := 397) (r := 9) d_Md_findTokens_397 fl_Md_164 cM_0.1 cM_0.2 (Or.inr ⟨_, rfl⟩) rM_0_13 ?_
    refine v_iload (pc := 400) d_Md_findTokens_400 (.tail _ (.tail _ (.tail _ (.head _)))) ?_
    have hb_ := h.1
    refine v_aald (pc := 402) (r := 1037 + x4_.toNat) d_Md_findTokens_402 cM_9.1 cM_9.2 (by decide) h.1 (rm_signs (by omega)) ?_
    replace h := h.2
    refine v_callG (pc := 403) (J' := jSg_length) (d' := d) (o := (1037 + x4_.toNat)) (As := []) d_Md_findTokens_403 ml_Md_328 rfl h.1 rfl (Nat.le_of_ble_eq_true rfl) (Nat.le_refl _) rfl (Cal.weak h.2 (fun o w1 h => ?_))
    rcases rI_of h with ⟨x2, rfl, h⟩
    refine v_istore (pc := 406) (ls' := [(5, vI x2), (0, vA 0), (1, vI x1_), (3, vI x3_), (4, vI x4_)]) d_Md_findTokens_406 (by decide) rfl ?_
    refine v_iload_n (pc := 408) d_Md_findTokens_408 rfl (.tail _ (.tail _ (.head _))) ?_
    refine v_iload (pc := 409) d_Md_findTokens_409 (.head _) ?_
    refine v_iadd (pc := 411) d_Md_findTokens_411 ?_
    refine v_aload_n (pc := 412) d_Md_findTokens_412 rfl (.tail _ (.head _)) ?_
    refine v_geti (pc := 413) (x := (w1 0 5)) d_Md_findTokens_413 fl_Md_339 cM_0.1 cM_0.2 (Or.inl rfl) rfl ?_
    refine v_icmpgt (pc := 416) (tgt := 441) d_Md_findTokens_416 (by decide) (fun c => ?_) (fun c => ?_)
    · replace h := h.1 c
      exact v_sub (List.forall_mem_cons.mpr ⟨(.tail _ (.head _)), (List.forall_mem_cons.mpr ⟨(.tail _ (.tail _ (.head _))), (List.forall_mem_cons.mpr ⟨(.tail _ (.tail _ (.tail _ (.head _)))), (List.forall_mem_cons.mpr ⟨(.tail _ (.tail _ (.tail _ (.tail _ (.head _))))), (fun _ z => absurd z List.not_mem_nil)⟩)⟩)⟩)⟩) h
    · replace h := h.2 c
      refine v_aload_n (pc := 419) d_Md_findTokens_419 rfl (.tail _ (.head _)) ?_
      refine v_iload_n (pc := 420) d_Md_findTokens_420 rfl (.tail _ (.tail _ (.head _))) ?_
      refine v_iload (pc := 421) d_Md_findTokens_421 (.head _) ?_
      refine v_aload_n (pc := 423) d_Md_findTokens_423 rfl (.tail _ (.head _)) ?_
      refine v_getr (C := "") (pc := 424) (r := 9) d_Md_findTokens_424 fl_Md_164 cM_0.1 cM_0.2 (Or.inr ⟨_, rfl⟩) rM_0_13 ?_
      refine v_iload (pc := 427) d_Md_findTokens_427 (.tail _ (.tail _ (.tail _ (.tail _ (.head _))))) ?_
      have hb_ := h.1
      refine v_aald (pc := 429) (r := 1037 + x4_.toNat) d_Md_findTokens_429 cM_9.1 cM_9.2 (by decide) h.1 (rm_signs (by omega)) ?_
      replace h := h.2
      refine v_callV (pc := 430) (J' := jMd_isText) (d' := d) (o := 0) (ci := 13) (N := 93) (T := cT13) (As := [vI x1_, vI x2, vA (1037 + x4_.toNat)]) d_Md_findTokens_430 ml_Md_353 cM_0.1 cM_0.2 (by decide) rfl rfl (Nat.le_of_ble_eq_true rfl) (Nat.le_refl _) rfl (Cal.weak h (fun o w3 h => ?_))
      rcases rIt_of h with ⟨x4, rfl, h⟩ | ⟨b, rfl, h⟩
      rotate_left
      · exact h
      refine v_ifeq (pc := 433) (tgt := 441) d_Md_findTokens_433 (by decide) (fun c => ?_) (fun c => ?_)
      · replace h := h.1 c
        exact v_sub (List.forall_mem_cons.mpr ⟨(.tail _ (.head _)), (List.forall_mem_cons.mpr ⟨(.tail _ (.tail _ (.head _))), (List.forall_mem_cons.mpr ⟨(.tail _ (.tail _ (.tail _ (.head _)))), (List.forall_mem_cons.mpr ⟨(.tail _ (.tail _ (.tail _ (.tail _ (.head _))))), (fun _ z => absurd z List.not_mem_nil)⟩)⟩)⟩)⟩) h
      · replace h := h.2 c
        refine v_iload (pc := 436) d_Md_findTokens_436 (.tail _ (.tail _ (.tail _ (.tail _ (.head _))))) ?_
        refine v_goto (pc := 438) (tgt := 442) d_Md_findTokens_438 (by decide) ?_
        exact v_sub (List.forall_mem_cons.mpr ⟨(.tail _ (.head _)), (List.forall_mem_cons.mpr ⟨(.tail _ (.tail _ (.head _))), (List.forall_mem_cons.mpr ⟨(.tail _ (.tail _ (.tail _ (.tail _ (.head _))))), (fun _ z => absurd z List.not_mem_nil)⟩)⟩)⟩) h
set_option maxHeartbeats 4000000 in
theorem s_Md_findTokens_281 {g : Mg} {d : Nat} {K : Ou → Wd → Prop} {w : Wd} {x1_ : Int} {x3_ : Int} {x4_ : Int} (h : ((w 0 5) ≤ x1_ → (V g LM jMd_findTokens (d + 1) K 341 [(0, vA 0), (1, vI x1_), (3, vI x3_), (4, vL x4_)] [] w)) ∧ (¬ (w 0 5) ≤ x1_ → ((0 ≤ x1_ ∧ x1_ < 4020) ∧ (Cal g LM jMd_isDigit d [vI (w 3 x1_.toNat)] w (fun o w1 => rIt o (fun b => K (.inr b) w1) (fun x2 => (x2 = 0 → (V g LM jMd_findTokens (d + 1) K 341 [(0, vA 0), (1, vI x1_), (3, vI x3_), (4, vL x4_)] [] w1)) ∧ (¬ x2 = 0 → (((lCmp x4_ 3000000000) ≤ 0 → ((0 ≤ x1_ ∧ x1_ < 4020) ∧ (V g LM jMd_findTokens (d + 1) K 333 [(0, vA 0), (1, vI x1_), (3, vI x3_)] [vL (lSub (lAdd (lMul 10 x4_) (w1 3 x1_.toNat)) 48)] w1))) ∧ (¬ (lCmp x4_ 3000000000) ≤ 0 → (V g LM jMd_findTokens (d + 1) K 333 [(0, vA 0), (1, vI x1_), (3, vI x3_)] [vL x4_] w1)))))))))) : V g LM jMd_findTokens (d + 1) K 281 [(0, vA 0), (1, vI x1_), (3, vI x3_), (4, vL x4_)] [] w := by
  refine v_iload_n (pc := 281) d_Md_findTokens_281 rfl (.tail _ (.head _)) ?_
  refine v_aload_n (pc := 282) d_Md_findTokens_282 rfl (.head _) ?_
  refine v_geti (pc := 283) (x := (w 0 5)) d_Md_findTokens_283 fl_Md_339 cM_0.1 cM_0.2 (Or.inl rfl) rfl ?_
  refine v_icmpge (pc := 286) (tgt := 341) d_Md_findTokens_286 (by decide) (fun c => ?_) (fun c => ?_)
  · replace h := h.1 c
    exact v_sub (List.forall_mem_cons.mpr ⟨(.head _), (List.forall_mem_cons.mpr ⟨(.tail _ (.head _)), (List.forall_mem_cons.mpr ⟨(.tail _ (.tail _ (.head _))), (List.forall_mem_cons.mpr ⟨(.tail _ (.tail _ (.tail _ (.head _)))), (fun _ z => absurd z List.not_mem_nil)⟩)⟩)⟩)⟩) h
  · replace h := h.2 c
    refine v_aload_n (pc := 289) d_Md_findTokens_289 rfl (.head _) ?_
    refine v_getr (C := "") (pc := 290) (r := 3) d_Md_findTokens_290 fl_Md_30 cM_0.1 cM_0.2 (Or.inr ⟨_, rfl⟩) rM_0_4 ?_
    refine v_iload_n (pc := 293) d_Md_findTokens_293 rfl (.tail _ (.head _)) ?_
    refine v_bald (pc := 294) (x := (w 3 x1_.toNat)) d_Md_findTokens_294 cM_3.1 cM_3.2 rfl h.1 ?_
    replace h := h.2
    refine v_callS (pc := 295) (J' := jMd_isDigit) (d' := d) (As := [vI (w 3 x1_.toNat)]) d_Md_findTokens_295 ml_Md_350 rfl (Nat.le_of_ble_eq_true rfl) (Nat.le_refl _) rfl (Cal.weak h (fun o w1 h => ?_))
    rcases rIt_of h with ⟨x2, rfl, h⟩ | ⟨b, rfl, h⟩
    rotate_left
    · exact h
    refine v_ifeq (pc := 298) (tgt := 341) d_Md_findTokens_298 (by decide) (fun c => ?_) (fun c => ?_)
    · replace h := h.1 c
      exact v_sub (List.forall_mem_cons.mpr ⟨(.head _), (List.forall_mem_cons.mpr ⟨(.tail _ (.head _)), (List.forall_mem_cons.mpr ⟨(.tail _ (.tail _ (.head _))), (List.forall_mem_cons.mpr ⟨(.tail _ (.tail _ (.tail _ (.head _)))), (fun _ z => absurd z List.not_mem_nil)⟩)⟩)⟩)⟩) h
    · replace h := h.2 c
      refine v_lload (pc := 301) d_Md_findTokens_301 (.tail _ (.tail _ (.tail _ (.head _)))) ?_
      refine v_ldc2 (pc := 303) (n := 3000000000) d_Md_findTokens_303 (by decide) (mt_8 46 rfl rfl) ?_
      refine v_lcmp (pc := 306) d_Md_findTokens_306 ?_
      refine v_ifle (pc := 307) (tgt := 315) d_Md_findTokens_307 (by decide) (fun c => ?_) (fun c => ?_)
      · replace h := h.1 c
        refine v_ldc2 (pc := 315) (n := 10) d_Md_findTokens_315 (by decide) (mt_8 47 rfl rfl) ?_
        refine v_lload (pc := 318) d_Md_findTokens_318 (.tail _ (.tail _ (.tail _ (.head _)))) ?_
        refine v_lmul (pc := 320) d_Md_findTokens_320 ?_
        refine v_aload_n (pc := 321) d_Md_findTokens_321 rfl (.head _) ?_
        refine v_getr (C := "") (pc := 322) (r := 3) d_Md_findTokens_322 fl_Md_30 cM_0.1 cM_0.2 (Or.inr ⟨_, rfl⟩) rM_0_4 ?_
        refine v_iload_n (pc := 325) d_Md_findTokens_325 rfl (.tail _ (.head _)) ?_
        refine v_bald (pc := 326) (x := (w1 3 x1_.toNat)) d_Md_findTokens_326 cM_3.1 cM_3.2 rfl h.1 ?_
        replace h := h.2
        refine v_i2l (pc := 327) d_Md_findTokens_327 ?_
        refine v_ladd (pc := 328) d_Md_findTokens_328 ?_
        refine v_ldc2 (pc := 329) (n := 48) d_Md_findTokens_329 (by decide) (mt_8 38 rfl rfl) ?_
        refine v_lsub (pc := 332) d_Md_findTokens_332 ?_
        exact v_sub (List.forall_mem_cons.mpr ⟨(.head _), (List.forall_mem_cons.mpr ⟨(.tail _ (.head _)), (List.forall_mem_cons.mpr ⟨(.tail _ (.tail _ (.head _))), (fun _ z => absurd z List.not_mem_nil)⟩)⟩)⟩) h
      · replace h := h.2 c
        refine v_lload (pc := 310) d_Md_findTokens_310 (.tail _ (.tail _ (.tail _ (.head _)))) ?_
        refine v_goto (pc := 312) (tgt := 333) d_Md_findTokens_312 (by decide) ?_
        exact v_sub (List.forall_mem_cons.mpr ⟨(.head _), (List.forall_mem_cons.mpr ⟨(.tail _ (.head _)), (List.forall_mem_cons.mpr ⟨(.tail _ (.tail _ (.head _))), (fun _ z => absurd z List.not_mem_nil)⟩)⟩)⟩) h
set_option maxHeartbeats 4000000 in
theorem s_Md_findTokens_131 {g : Mg} {d : Nat} {K : Ou → Wd → Prop} {w : Wd} {x1_ : Int} {x3_ : Int} (h : ((w 0 5) ≤ x1_ → (V g LM jMd_findTokens (d + 1) K 169 [(0, vA 0), (1, vI x1_), (3, vI x3_)] [] w)) ∧ (¬ (w 0 5) ≤ x1_ → ((0 ≤ x1_ ∧ x1_ < 4020) ∧ (Cal g LM jMd_isLetter d [vI (w 3 x1_.toNat)] w (fun o w1 => rIt o (fun b => K (.inr b) w1) (fun x2 => (¬ x2 = 0 → (V g LM jMd_findTokens (d + 1) K 163 [(0, vA 0), (1, vI x1_), (3, vI x3_)] [] w1)) ∧ (x2 = 0 → ((0 ≤ x1_ ∧ x1_ < 4020) ∧ (Cal g LM jMd_isDigit d [vI (w1 3 x1_.toNat)] w1 (fun o w3 => rIt o (fun b => K (.inr b) w3) (fun x4 => (x4 = 0 → (V g LM jMd_findTokens (d + 1) K 169 [(0, vA 0), (1, vI x1_), (3, vI x3_)] [] w3)) ∧ (¬ x4 = 0 → (V g LM jMd_findTokens (d + 1) K 163 [(0, vA 0), (1, vI x1_), (3, vI x3_)] [] w3))))))))))))) : V g LM jMd_findTokens (d + 1) K 131 [(0, vA 0), (1, vI x1_), (3, vI x3_)] [] w := by
  refine v_iload_n (pc := 131) d_Md_findTokens_131 rfl (.tail _ (.head _)) ?_
  refine v_aload_n (pc := 132) d_Md_findTokens_132 rfl (.head _) ?_
  refine v_geti (pc := 133) (x := (w 0 5)) d_Md_findTokens_133 fl_Md_339 cM_0.1 cM_0.2 (Or.inl rfl) rfl ?_
  refine v_icmpge (pc := 136) (tgt := 169) d_Md_findTokens_136 (by decide) (fun c => ?_) (fun c => ?_)
  · replace h := h.1 c
    exact v_sub (List.forall_mem_cons.mpr ⟨(.head _), (List.forall_mem_cons.mpr ⟨(.tail _ (.head _)), (List.forall_mem_cons.mpr ⟨(.tail _ (.tail _ (.head _))), (fun _ z => absurd z List.not_mem_nil)⟩)⟩)⟩) h
  · replace h := h.2 c
    refine v_aload_n (pc := 139) d_Md_findTokens_139 rfl (.head _) ?_
    refine v_getr (C := "") (pc := 140) (r := 3) d_Md_findTokens_140 fl_Md_30 cM_0.1 cM_0.2 (Or.inr ⟨_, rfl⟩) rM_0_4 ?_
    refine v_iload_n (pc := 143) d_Md_findTokens_143 rfl (.tail _ (.head _)) ?_
    refine v_bald (pc := 144) (x := (w 3 x1_.toNat)) d_Md_findTokens_144 cM_3.1 cM_3.2 rfl h.1 ?_
    replace h := h.2
    refine v_callS (pc := 145) (J' := jMd_isLetter) (d' := d) (As := [vI (w 3 x1_.toNat)]) d_Md_findTokens_145 ml_Md_346 rfl (Nat.le_of_ble_eq_true rfl) (Nat.le_refl _) rfl (Cal.weak h (fun o w1 h => ?_))
    rcases rIt_of h with ⟨x2, rfl, h⟩ | ⟨b, rfl, h⟩
    rotate_left
    · exact h
    refine v_ifne (pc := 148) (tgt := 163) d_Md_findTokens_148 (by decide) (fun c => ?_) (fun c => ?_)
    · replace h := h.1 c
      exact v_sub (List.forall_mem_cons.mpr ⟨(.head _), (List.forall_mem_cons.mpr ⟨(.tail _ (.head _)), (List.forall_mem_cons.mpr ⟨(.tail _ (.tail _ (.head _))), (fun _ z => absurd z List.not_mem_nil)⟩)⟩)⟩) h
    · replace h := h.2 c
      refine v_aload_n (pc := 151) d_Md_findTokens_151 rfl (.head _) ?_
      refine v_getr (C := "") (pc := 152) (r := 3) d_Md_findTokens_152 fl_Md_30 cM_0.1 cM_0.2 (Or.inr ⟨_, rfl⟩) rM_0_4 ?_
      refine v_iload_n (pc := 155) d_Md_findTokens_155 rfl (.tail _ (.head _)) ?_
      refine v_bald (pc := 156) (x := (w1 3 x1_.toNat)) d_Md_findTokens_156 cM_3.1 cM_3.2 rfl h.1 ?_
      replace h := h.2
      refine v_callS (pc := 157) (J' := jMd_isDigit) (d' := d) (As := [vI (w1 3 x1_.toNat)]) d_Md_findTokens_157 ml_Md_350 rfl (Nat.le_of_ble_eq_true rfl) (Nat.le_refl _) rfl (Cal.weak h (fun o w3 h => ?_))
      rcases rIt_of h with ⟨x4, rfl, h⟩ | ⟨b, rfl, h⟩
      rotate_left
      · exact h
      refine v_ifeq (pc := 160) (tgt := 169) d_Md_findTokens_160 (by decide) (fun c => ?_) (fun c => ?_)
      · replace h := h.1 c
        exact v_sub (List.forall_mem_cons.mpr ⟨(.head _), (List.forall_mem_cons.mpr ⟨(.tail _ (.head _)), (List.forall_mem_cons.mpr ⟨(.tail _ (.tail _ (.head _))), (fun _ z => absurd z List.not_mem_nil)⟩)⟩)⟩) h
      · replace h := h.2 c
        exact v_sub (List.forall_mem_cons.mpr ⟨(.head _), (List.forall_mem_cons.mpr ⟨(.tail _ (.head _)), (List.forall_mem_cons.mpr ⟨(.tail _ (.tail _ (.head _))), (fun _ z => absurd z List.not_mem_nil)⟩)⟩)⟩) h
set_option maxHeartbeats 4000000 in
theorem s_Md_findTokens_65 {g : Mg} {d : Nat} {K : Ou → Wd → Prop} {w : Wd} {x1_ : Int} (h : ((w 0 5) ≤ x1_ → (V g LM jMd_findTokens (d + 1) K 13 [(0, vA 0), (1, vI x1_)] [] w)) ∧ (¬ (w 0 5) ≤ x1_ → ((0 ≤ x1_ ∧ x1_ < 4020) ∧ (((w 3 x1_.toNat) = 10 → (V g LM jMd_findTokens (d + 1) K 13 [(0, vA 0), (1, vI x1_)] [] w)) ∧ (¬ (w 3 x1_.toNat) = 10 → (V g LM jMd_findTokens (d + 1) K 65 [(0, vA 0), (1, vI (wr (x1_ + 1)))] [] w)))))) : V g LM jMd_findTokens (d + 1) K 65 [(0, vA 0), (1, vI x1_)] [] w := by
  refine v_iload_n (pc := 65) d_Md_findTokens_65 rfl (.tail _ (.head _)) ?_
  refine v_aload_n (pc := 66) d_Md_findTokens_66 rfl (.head _) ?_
  refine v_geti (pc := 67) (x := (w 0 5)) d_Md_findTokens_67 fl_Md_339 cM_0.1 cM_0.2 (Or.inl rfl) rfl ?_
  refine v_icmpge (pc := 70) (tgt := 13) d_Md_findTokens_70 (by decide) (fun c => ?_) (fun c => ?_)
  · replace h := h.1 c
    exact v_sub (List.forall_mem_cons.mpr ⟨(.head _), (List.forall_mem_cons.mpr ⟨(.tail _ (.head _)), (fun _ z => absurd z List.not_mem_nil)⟩)⟩) h
  · replace h := h.2 c
    refine v_aload_n (pc := 73) d_Md_findTokens_73 rfl (.head _) ?_
    refine v_getr (C := "") (pc := 74) (r := 3) d_Md_findTokens_74 fl_Md_30 cM_0.1 cM_0.2 (Or.inr ⟨_, rfl⟩) rM_0_4 ?_
    refine v_iload_n (pc := 77) d_Md_findTokens_77 rfl (.tail _ (.head _)) ?_
    refine v_bald (pc := 78) (x := (w 3 x1_.toNat)) d_Md_findTokens_78 cM_3.1 cM_3.2 rfl h.1 ?_
    replace h := h.2
    refine v_bipush (pc := 79) d_Md_findTokens_79 (by decide) rfl ?_
    refine v_icmpeq (pc := 81) (tgt := 13) d_Md_findTokens_81 (by decide) (fun c => ?_) (fun c => ?_)
    · replace h := h.1 c
      exact v_sub (List.forall_mem_cons.mpr ⟨(.head _), (List.forall_mem_cons.mpr ⟨(.tail _ (.head _)), (fun _ z => absurd z List.not_mem_nil)⟩)⟩) h
    · replace h := h.2 c
      refine v_iinc (pc := 84) (ls' := [(1, vI (wr (x1_ + 1))), (0, vA 0)]) d_Md_findTokens_84 (.tail _ (.head _)) (by decide) rfl ?_
      refine v_goto (pc := 87) (tgt := 65) d_Md_findTokens_87 (by decide) ?_
      exact v_sub (List.forall_mem_cons.mpr ⟨(.tail _ (.head _)), (List.forall_mem_cons.mpr ⟨(.head _), (fun _ z => absurd z List.not_mem_nil)⟩)⟩) h
set_option maxHeartbeats 4000000 in
theorem s_Md_findTokens_458 {g : Mg} {d : Nat} {K : Ou → Wd → Prop} {w : Wd} {x1_ : Int} {x3_ : Int} {s0_ : Int} (h : (s0_ = 0 → (V g LM jMd_findTokens (d + 1) K 469 [(0, vA 0), (1, vI x1_), (2, vI s0_), (3, vI x3_)] [vI 5, vA 0] w)) ∧ (¬ s0_ = 0 → (V g LM jMd_findTokens (d + 1) K 469 [(0, vA 0), (1, vI x1_), (2, vI s0_), (3, vI x3_)] [vI 2, vA 0] w))) : V g LM jMd_findTokens (d + 1) K 458 [(0, vA 0), (1, vI x1_), (3, vI x3_)] [vI s0_] w := by
  refine v_istore_n (pc := 458) (ls' := [(2, vI s0_), (0, vA 0), (1, vI x1_), (3, vI x3_)]) d_Md_findTokens_458 rfl (by decide) rfl ?_
  refine v_aload_n (pc := 459) d_Md_findTokens_459 rfl (.tail _ (.head _)) ?_
  refine v_iload_n (pc := 460) d_Md_findTokens_460 rfl (.head _) ?_
  refine v_ifeq (pc := 461) (tgt := 468) d_Md_findTokens_461 (by decide) (fun c => ?_) (fun c => ?_)
  · replace h := h.1 c
    refine v_iconst (pc := 468) d_Md_findTokens_468 (by decide) ?_
    exact v_sub (List.forall_mem_cons.mpr ⟨(.tail _ (.head _)), (List.forall_mem_cons.mpr ⟨(.tail _ (.tail _ (.head _))), (List.forall_mem_cons.mpr ⟨(.head _), (List.forall_mem_cons.mpr ⟨(.tail _ (.tail _ (.tail _ (.head _)))), (fun _ z => absurd z List.not_mem_nil)⟩)⟩)⟩)⟩) h
  · replace h := h.2 c
    refine v_iconst (pc := 464) d_Md_findTokens_464 (by decide) ?_
    refine v_goto (pc := 465) (tgt := 469) d_Md_findTokens_465 (by decide) ?_
    exact v_sub (List.forall_mem_cons.mpr ⟨(.tail _ (.head _)), (List.forall_mem_cons.mpr ⟨(.tail _ (.tail _ (.head _))), (List.forall_mem_cons.mpr ⟨(.head _), (List.forall_mem_cons.mpr ⟨(.tail _ (.tail _ (.tail _ (.head _)))), (fun _ z => absurd z List.not_mem_nil)⟩)⟩)⟩)⟩) h
set_option maxHeartbeats 4000000 in
theorem s_Md_findTokens_441 {g : Mg} {d : Nat} {K : Ou → Wd → Prop} {w : Wd} {x1_ : Int} {x3_ : Int} {x4_ : Int} (h : V g LM jMd_findTokens (d + 1) K 442 [(0, vA 0), (1, vI x1_), (4, vI x4_)] [vI x3_] w) : V g LM jMd_findTokens (d + 1) K 441 [(0, vA 0), (1, vI x1_), (3, vI x3_), (4, vI x4_)] [] w := by
  refine v_iload_n (pc := 441) d_Md_findTokens_441 rfl (.tail _ (.tail _ (.head _))) ?_
  exact v_sub (List.forall_mem_cons.mpr ⟨(.head _), (List.forall_mem_cons.mpr ⟨(.tail _ (.head _)), (List.forall_mem_cons.mpr ⟨(.tail _ (.tail _ (.tail _ (.head _)))), (fun _ z => absurd z List.not_mem_nil)⟩)⟩)⟩) h
set_option maxHeartbeats 4000000 in
theorem s_Md_findTokens_442 {g : Mg} {d : Nat} {K : Ou → Wd → Prop} {w : Wd} {x1_ : Int} {x4_ : Int} {s0_ : Int} (h : V g LM jMd_findTokens (d + 1) K 391 [(0, vA 0), (1, vI x1_), (3, vI s0_), (4, vI (wr (x4_ + (-1))))] [] w) : V g LM jMd_findTokens (d + 1) K 442 [(0, vA 0), (1, vI x1_), (4, vI x4_)] [vI s0_] w := by
  refine v_istore_n (pc := 442) (ls' := [(3, vI s0_), (0, vA 0), (1, vI x1_), (4, vI x4_)]) d_Md_findTokens_442 rfl (by decide) rfl ?_
  refine v_iinc (pc := 443) (ls' := [(4, vI (wr (x4_ + (-1)))), (3, vI s0_), (0, vA 0), (1, vI x1_)]) d_Md_findTokens_443 (.tail _ (.tail _ (.tail _ (.head _)))) (by decide) rfl ?_
  refine v_goto (pc := 446) (tgt := 391) d_Md_findTokens_446 (by decide) ?_
  exact v_sub (List.forall_mem_cons.mpr ⟨(.tail _ (.tail _ (.head _))), (List.forall_mem_cons.mpr ⟨(.tail _ (.tail _ (.tail _ (.head _)))), (List.forall_mem_cons.mpr ⟨(.tail _ (.head _)), (List.forall_mem_cons.mpr ⟨(.head _), (fun _ z => absurd z List.not_mem_nil)⟩)⟩)⟩)⟩) h
set_option maxHeartbeats 4000000 in
theorem s_Md_findTokens_341 {g : Mg} {d : Nat} {K : Ou → Wd → Prop} {w : Wd} {x1_ : Int} {x3_ : Int} {x4_ : Int} (h : (0 < (lCmp x4_ 2147483647) → (V g LM jMd_findTokens (d + 1) K 355 [(0, vA 0), (1, vI x1_), (3, vI x3_), (4, vL x4_)] [vI 0] w)) ∧ (¬ 0 < (lCmp x4_ 2147483647) → (V g LM jMd_findTokens (d + 1) K 355 [(0, vA 0), (1, vI x1_), (3, vI x3_), (4, vL x4_)] [vI 1] w))) : V g LM jMd_findTokens (d + 1) K 341 [(0, vA 0), (1, vI x1_), (3, vI x3_), (4, vL x4_)] [] w := by
  refine v_lload (pc := 341) d_Md_findTokens_341 (.tail _ (.tail _ (.tail _ (.head _)))) ?_
  refine v_ldc2 (pc := 343) (n := 2147483647) d_Md_findTokens_343 (by decide) (mt_8 48 rfl rfl) ?_
  refine v_lcmp (pc := 346) d_Md_findTokens_346 ?_
  refine v_ifgt (pc := 347) (tgt := 354) d_Md_findTokens_347 (by decide) (fun c => ?_) (fun c => ?_)
  · replace h := h.1 c
    refine v_iconst (pc := 354) d_Md_findTokens_354 (by decide) ?_
    exact v_sub (List.forall_mem_cons.mpr ⟨(.head _), (List.forall_mem_cons.mpr ⟨(.tail _ (.head _)), (List.forall_mem_cons.mpr ⟨(.tail _ (.tail _ (.head _))), (List.forall_mem_cons.mpr ⟨(.tail _ (.tail _ (.tail _ (.head _)))), (fun _ z => absurd z List.not_mem_nil)⟩)⟩)⟩)⟩) h
  · replace h := h.2 c
    refine v_iconst (pc := 350) d_Md_findTokens_350 (by decide) ?_
    refine v_goto (pc := 351) (tgt := 355) d_Md_findTokens_351 (by decide) ?_
    exact v_sub (List.forall_mem_cons.mpr ⟨(.head _), (List.forall_mem_cons.mpr ⟨(.tail _ (.head _)), (List.forall_mem_cons.mpr ⟨(.tail _ (.tail _ (.head _))), (List.forall_mem_cons.mpr ⟨(.tail _ (.tail _ (.tail _ (.head _)))), (fun _ z => absurd z List.not_mem_nil)⟩)⟩)⟩)⟩) h
set_option maxHeartbeats 4000000 in
theorem s_Md_findTokens_333 {g : Mg} {d : Nat} {K : Ou → Wd → Prop} {w : Wd} {x1_ : Int} {x3_ : Int} {s0_ : Int} (h : V g LM jMd_findTokens (d + 1) K 281 [(0, vA 0), (1, vI (wr (x1_ + 1))), (3, vI x3_), (4, vL s0_)] [] w) : V g LM jMd_findTokens (d + 1) K 333 [(0, vA 0), (1, vI x1_), (3, vI x3_)] [vL s0_] w := by
  refine v_lstore (pc := 333) (ls' := [(4, vL s0_), (0, vA 0), (1, vI x1_), (3, vI x3_)]) d_Md_findTokens_333 (by decide) rfl ?_
  refine v_iinc (pc := 335) (ls' := [(1, vI (wr (x1_ + 1))), (4, vL s0_), (0, vA 0), (3, vI x3_)]) d_Md_findTokens_335 (.tail _ (.tail _ (.head _))) (by decide) rfl ?_
  refine v_goto (pc := 338) (tgt := 281) d_Md_findTokens_338 (by decide) ?_
  exact v_sub (List.forall_mem_cons.mpr ⟨(.tail _ (.tail _ (.head _))), (List.forall_mem_cons.mpr ⟨(.head _), (List.forall_mem_cons.mpr ⟨(.tail _ (.tail _ (.tail _ (.head _)))), (List.forall_mem_cons.mpr ⟨(.tail _ (.head _)), (fun _ z => absurd z List.not_mem_nil)⟩)⟩)⟩)⟩) h
set_option maxHeartbeats 4000000 in
theorem s_Md_findTokens_169 {g : Mg} {d : Nat} {K : Ou → Wd → Prop} {w : Wd} {x1_ : Int} {x3_ : Int} (h : V g LM jMd_findTokens (d + 1) K 176 [(0, vA 0), (1, vI x1_), (3, vI x3_), (4, vI (-2)), (5, vI 0)] [] w) : V g LM jMd_findTokens (d + 1) K 169 [(0, vA 0), (1, vI x1_), (3, vI x3_)] [] w := by
  refine v_bipush (pc := 169) d_Md_findTokens_169 (by decide) rfl ?_
  refine v_istore (pc := 171) (ls' := [(4, vI (-2)), (0, vA 0), (1, vI x1_), (3, vI x3_)]) d_Md_findTokens_171 (by decide) rfl ?_
  refine v_iconst (pc := 173) d_Md_findTokens_173 (by decide) ?_
  refine v_istore (pc := 174) (ls' := [(5, vI 0), (4, vI (-2)), (0, vA 0), (1, vI x1_), (3, vI x3_)]) d_Md_findTokens_174 (by decide) rfl ?_
  exact v_sub (List.forall_mem_cons.mpr ⟨(.tail _ (.tail _ (.head _))), (List.forall_mem_cons.mpr ⟨(.tail _ (.tail _ (.tail _ (.head _)))), (List.forall_mem_cons.mpr ⟨(.tail _ (.tail _ (.tail _ (.tail _ (.head _))))), (List.forall_mem_cons.mpr ⟨(.tail _ (.head _)), (List.forall_mem_cons.mpr ⟨(.head _), (fun _ z => absurd z List.not_mem_nil)⟩)⟩)⟩)⟩)⟩) h
set_option maxHeartbeats 4000000 in
theorem s_Md_findTokens_163 {g : Mg} {d : Nat} {K : Ou → Wd → Prop} {w : Wd} {x1_ : Int} {x3_ : Int} (h : V g LM jMd_findTokens (d + 1) K 131 [(0, vA 0), (1, vI (wr (x1_ + 1))), (3, vI x3_)] [] w) : V g LM jMd_findTokens (d + 1) K 163 [(0, vA 0), (1, vI x1_), (3, vI x3_)] [] w := by
  refine v_iinc (pc := 163) (ls' := [(1, vI (wr (x1_ + 1))), (0, vA 0), (3, vI x3_)]) d_Md_findTokens_163 (.tail _ (.head _)) (by decide) rfl ?_
  refine v_goto (pc := 166) (tgt := 131) d_Md_findTokens_166 (by decide) ?_
  exact v_sub (List.forall_mem_cons.mpr ⟨(.tail _ (.head _)), (List.forall_mem_cons.mpr ⟨(.head _), (List.forall_mem_cons.mpr ⟨(.tail _ (.tail _ (.head _))), (fun _ z => absurd z List.not_mem_nil)⟩)⟩)⟩) h
set_option maxHeartbeats 4000000 in
theorem s_Md_findTokens_469 {g : Mg} {d : Nat} {K : Ou → Wd → Prop} {w : Wd} {x1_ : Int} {x2_ : Int} {x3_ : Int} {s1_ : Int} (h : (x2_ = 0 → (V g LM jMd_findTokens (d + 1) K 487 [(0, vA 0), (1, vI x1_), (2, vI x2_), (3, vI x3_)] [vI 1, vI x1_, vI s1_, vA 0] w)) ∧ (¬ x2_ = 0 → ((0 ≤ x3_ ∧ x3_ < 23) ∧ ((1001 ≤ (1037 + x3_.toNat) ∧ (1037 + x3_.toNat) < 1060) ∧ Cal g LM jSg_length d [vA (1037 + x3_.toNat)] w (fun o w1 => rI o (fun x2 => V g LM jMd_findTokens (d + 1) K 487 [(0, vA 0), (1, vI x1_), (2, vI x2_), (3, vI x3_)] [vI x2, vI x1_, vI s1_, vA 0] w1)))))) : V g LM jMd_findTokens (d + 1) K 469 [(0, vA 0), (1, vI x1_), (2, vI x2_), (3, vI x3_)] [vI s1_, vA 0] w := by
  refine v_iload_n (pc := 469) d_Md_findTokens_469 rfl (.tail _ (.head _)) ?_
  refine v_iload_n (pc := 470) d_Md_findTokens_470 rfl (.tail _ (.tail _ (.head _))) ?_
  refine v_ifeq (pc := 471) (tgt := 486) d_Md_findTokens_471 (by decide) (fun c => ?_) (fun c => ?_)
  · replace h := h.1 c
    refine v_iconst (pc := 486) d_Md_findTokens_486 (by decide) ?_
    exact v_sub (List.forall_mem_cons.mpr ⟨(.head _), (List.forall_mem_cons.mpr ⟨(.tail _ (.head _)), (List.forall_mem_cons.mpr ⟨(.tail _ (.tail _ (.head _))), (List.forall_mem_cons.mpr ⟨(.tail _ (.tail _ (.tail _ (.head _)))), (fun _ z => absurd z List.not_mem_nil)⟩)⟩)⟩)⟩) h
  · replace h := h.2 c
    refine v_aload_n (pc := 474) d_Md_findTokens_474 rfl (.head _) ?_
    refine v_getr (C := "") (pc := 475) (r := 9) d_Md_findTokens_475 fl_Md_164 cM_0.1 cM_0.2 (Or.inr ⟨_, rfl⟩) rM_0_13 ?_
    refine v_iload_n (pc := 478) d_Md_findTokens_478 rfl (.tail _ (.tail _ (.tail _ (.head _)))) ?_
    have hb_ := h.1
    refine v_aald (pc := 479) (r := 1037 + x3_.toNat) d_Md_findTokens_479 cM_9.1 cM_9.2 (by decide) h.1 (rm_signs (by omega)) ?_
    replace h := h.2
    refine v_callG (pc := 480) (J' := jSg_length) (d' := d) (o := (1037 + x3_.toNat)) (As := []) d_Md_findTokens_480 ml_Md_328 rfl h.1 rfl (Nat.le_of_ble_eq_true rfl) (Nat.le_refl _) rfl (Cal.weak h.2 (fun o w1 h => ?_))
    rcases rI_of h with ⟨x2, rfl, h⟩
    refine v_goto (pc := 483) (tgt := 487) d_Md_findTokens_483 (by decide) ?_
    exact v_sub (List.forall_mem_cons.mpr ⟨(.head _), (List.forall_mem_cons.mpr ⟨(.tail _ (.head _)), (List.forall_mem_cons.mpr ⟨(.tail _ (.tail _ (.head _))), (List.forall_mem_cons.mpr ⟨(.tail _ (.tail _ (.tail _ (.head _)))), (fun _ z => absurd z List.not_mem_nil)⟩)⟩)⟩)⟩) h
set_option maxHeartbeats 4000000 in
theorem s_Md_findTokens_355 {g : Mg} {d : Nat} {K : Ou → Wd → Prop} {w : Wd} {x1_ : Int} {x3_ : Int} {x4_ : Int} {s0_ : Int} (h : (s0_ = 0 → (V g LM jMd_findTokens (d + 1) K 366 [(0, vA 0), (1, vI x1_), (2, vI s0_), (3, vI x3_), (4, vL x4_)] [vI 5, vA 0] w)) ∧ (¬ s0_ = 0 → (V g LM jMd_findTokens (d + 1) K 366 [(0, vA 0), (1, vI x1_), (2, vI s0_), (3, vI x3_), (4, vL x4_)] [vI 1, vA 0] w))) : V g LM jMd_findTokens (d + 1) K 355 [(0, vA 0), (1, vI x1_), (3, vI x3_), (4, vL x4_)] [vI s0_] w := by
  refine v_istore_n (pc := 355) (ls' := [(2, vI s0_), (0, vA 0), (1, vI x1_), (3, vI x3_), (4, vL x4_)]) d_Md_findTokens_355 rfl (by decide) rfl ?_
  refine v_aload_n (pc := 356) d_Md_findTokens_356 rfl (.tail _ (.head _)) ?_
  refine v_iload_n (pc := 357) d_Md_findTokens_357 rfl (.head _) ?_
  refine v_ifeq (pc := 358) (tgt := 365) d_Md_findTokens_358 (by decide) (fun c => ?_) (fun c => ?_)
  · replace h := h.1 c
    refine v_iconst (pc := 365) d_Md_findTokens_365 (by decide) ?_
    exact v_sub (List.forall_mem_cons.mpr ⟨(.tail _ (.head _)), (List.forall_mem_cons.mpr ⟨(.tail _ (.tail _ (.head _))), (List.forall_mem_cons.mpr ⟨(.head _), (List.forall_mem_cons.mpr ⟨(.tail _ (.tail _ (.tail _ (.head _)))), (List.forall_mem_cons.mpr ⟨(.tail _ (.tail _ (.tail _ (.tail _ (.head _))))), (fun _ z => absurd z List.not_mem_nil)⟩)⟩)⟩)⟩)⟩) h
  · replace h := h.2 c
    refine v_iconst (pc := 361) d_Md_findTokens_361 (by decide) ?_
    refine v_goto (pc := 362) (tgt := 366) d_Md_findTokens_362 (by decide) ?_
    exact v_sub (List.forall_mem_cons.mpr ⟨(.tail _ (.head _)), (List.forall_mem_cons.mpr ⟨(.tail _ (.tail _ (.head _))), (List.forall_mem_cons.mpr ⟨(.head _), (List.forall_mem_cons.mpr ⟨(.tail _ (.tail _ (.tail _ (.head _)))), (List.forall_mem_cons.mpr ⟨(.tail _ (.tail _ (.tail _ (.tail _ (.head _))))), (fun _ z => absurd z List.not_mem_nil)⟩)⟩)⟩)⟩)⟩) h
set_option maxHeartbeats 4000000 in
theorem s_Md_findTokens_176 {g : Mg} {d : Nat} {K : Ou → Wd → Prop} {w : Wd} {x1_ : Int} {x3_ : Int} {x4_ : Int} {x5_ : Int} (h : (33 ≤ x5_ → ((12 < (wr (x1_ - x3_)) → (V g LM jMd_findTokens (d + 1) K 232 [(0, vA 0), (1, vI x1_), (3, vI x3_), (4, vI x4_)] [vI 0] w)) ∧ (¬ 12 < (wr (x1_ - x3_)) → (V g LM jMd_findTokens (d + 1) K 232 [(0, vA 0), (1, vI x1_), (3, vI x3_), (4, vI x4_)] [vI 1] w)))) ∧ (¬ 33 ≤ x5_ → ((0 ≤ x5_ ∧ x5_ < 33) ∧ (Cal g LM jMd_isText d [vA 0, vI x3_, vI (wr (x1_ - x3_)), vA (1004 + x5_.toNat)] w (fun o w1 => rIt o (fun b => K (.inr b) w1) (fun x2 => (x2 = 0 → (V g LM jMd_findTokens (d + 1) K 211 [(0, vA 0), (1, vI x1_), (3, vI x3_), (5, vI x5_)] [vI x4_] w1)) ∧ (¬ x2 = 0 → (V g LM jMd_findTokens (d + 1) K 211 [(0, vA 0), (1, vI x1_), (3, vI x3_), (5, vI x5_)] [vI x5_] w1)))))))) : V g LM jMd_findTokens (d + 1) K 176 [(0, vA 0), (1, vI x1_), (3, vI x3_), (4, vI x4_), (5, vI x5_)] [] w := by
  refine v_iload (pc := 176) d_Md_findTokens_176 (.tail _ (.tail _ (.tail _ (.tail _ (.head _))))) ?_
  refine v_aload_n (pc := 178) d_Md_findTokens_178 rfl (.head _) ?_
  refine v_getr (C := "") (pc := 179) (r := 8) d_Md_findTokens_179 fl_Md_114 cM_0.1 cM_0.2 (Or.inr ⟨_, rfl⟩) rM_0_12 ?_
  refine v_alen (pc := 182) (n := 33) d_Md_findTokens_182 cM_8.1 cM_8.2 (by decide) (by decide) ?_
  refine v_icmpge (pc := 183) (tgt := 219) d_Md_findTokens_183 (by decide) (fun c => ?_) (fun c => ?_)
  · replace h := h.1 c
    refine v_iload_n (pc := 219) d_Md_findTokens_219 rfl (.tail _ (.head _)) ?_
    refine v_iload_n (pc := 220) d_Md_findTokens_220 rfl (.tail _ (.tail _ (.head _))) ?_
    refine v_isub (pc := 221) d_Md_findTokens_221 ?_
    refine v_bipush (pc := 222) d_Md_findTokens_222 (by decide) rfl ?_
    refine v_icmpgt (pc := 224) (tgt := 231) d_Md_findTokens_224 (by decide) (fun c => ?_) (fun c => ?_)
    · replace h := h.1 c
      refine v_iconst (pc := 231) d_Md_findTokens_231 (by decide) ?_
      exact v_sub (List.forall_mem_cons.mpr ⟨(.head _), (List.forall_mem_cons.mpr ⟨(.tail _ (.head _)), (List.forall_mem_cons.mpr ⟨(.tail _ (.tail _ (.head _))), (List.forall_mem_cons.mpr ⟨(.tail _ (.tail _ (.tail _ (.head _)))), (fun _ z => absurd z List.not_mem_nil)⟩)⟩)⟩)⟩) h
    · replace h := h.2 c
      refine v_iconst (pc := 227) d_Md_findTokens_227 (by decide) ?_
      refine v_goto (pc := 228) (tgt := 232) d_Md_findTokens_228 (by decide) ?_
      exact v_sub (List.forall_mem_cons.mpr ⟨(.head _), (List.forall_mem_cons.mpr ⟨(.tail _ (.head _)), (List.forall_mem_cons.mpr ⟨(.tail _ (.tail _ (.head _))), (List.forall_mem_cons.mpr ⟨(.tail _ (.tail _ (.tail _ (.head _)))), (fun _ z => absurd z List.not_mem_nil)⟩)⟩)⟩)⟩) h
  · replace h := h.2 c
    refine v_aload_n (pc := 186) d_Md_findTokens_186 rfl (.head _) ?_
    refine v_iload_n (pc := 187) d_Md_findTokens_187 rfl (.tail _ (.tail _ (.head _))) ?_
    refine v_iload_n (pc := 188) d_Md_findTokens_188 rfl (.tail _ (.head _)) ?_
    refine v_iload_n (pc := 189) d_Md_findTokens_189 rfl (.tail _ (.tail _ (.head _))) ?_
    refine v_isub (pc := 190) d_Md_findTokens_190 ?_
    refine v_aload_n (pc := 191) d_Md_findTokens_191 rfl (.head _) ?_
    refine v_getr (C := "") (pc := 192) (r := 8) d_Md_findTokens_192 fl_Md_114 cM_0.1 cM_0.2 (Or.inr ⟨_, rfl⟩) rM_0_12 ?_
    refine v_iload (pc := 195) d_Md_findTokens_195 (.tail _ (.tail _ (.tail _ (.tail _ (.head _))))) ?_
    have hb_ := h.1
    refine v_aald (pc := 197) (r := 1004 + x5_.toNat) d_Md_findTokens_197 cM_8.1 cM_8.2 (by decide) h.1 (rm_words (by omega)) ?_
    replace h := h.2
    refine v_callV (pc := 198) (J' := jMd_isText) (d' := d) (o := 0) (ci := 13) (N := 93) (T := cT13) (As := [vI x3_, vI (wr (x1_ - x3_)), vA (1004 + x5_.toNat)]) d_Md_findTokens_198 ml_Md_353 cM_0.1 cM_0.2 (by decide) rfl rfl (Nat.le_of_ble_eq_true rfl) (Nat.le_refl _) rfl (Cal.weak h (fun o w1 h => ?_))
    rcases rIt_of h with ⟨x2, rfl, h⟩ | ⟨b, rfl, h⟩
    rotate_left
    · exact h
    refine v_ifeq (pc := 201) (tgt := 209) d_Md_findTokens_201 (by decide) (fun c => ?_) (fun c => ?_)
    · replace h := h.1 c
      refine v_iload (pc := 209) d_Md_findTokens_209 (.tail _ (.tail _ (.tail _ (.head _)))) ?_
      exact v_sub (List.forall_mem_cons.mpr ⟨(.head _), (List.forall_mem_cons.mpr ⟨(.tail _ (.head _)), (List.forall_mem_cons.mpr ⟨(.tail _ (.tail _ (.head _))), (List.forall_mem_cons.mpr ⟨(.tail _ (.tail _ (.tail _ (.tail _ (.head _))))), (fun _ z => absurd z List.not_mem_nil)⟩)⟩)⟩)⟩) h
    · replace h := h.2 c
      refine v_iload (pc := 204) d_Md_findTokens_204 (.tail _ (.tail _ (.tail _ (.tail _ (.head _))))) ?_
      refine v_goto (pc := 206) (tgt := 211) d_Md_findTokens_206 (by decide) ?_
      exact v_sub (List.forall_mem_cons.mpr ⟨(.head _), (List.forall_mem_cons.mpr ⟨(.tail _ (.head _)), (List.forall_mem_cons.mpr ⟨(.tail _ (.tail _ (.head _))), (List.forall_mem_cons.mpr ⟨(.tail _ (.tail _ (.tail _ (.tail _ (.head _))))), (fun _ z => absurd z List.not_mem_nil)⟩)⟩)⟩)⟩) h
set_option maxHeartbeats 4000000 in
theorem s_Md_findTokens_487 {g : Mg} {d : Nat} {K : Ou → Wd → Prop} {w : Wd} {x1_ : Int} {x2_ : Int} {x3_ : Int} {s1_ : Int} {s2_ : Int} {s3_ : Int} (h : Cal g LM jMd_token d [vA 0, vI s1_, vI s2_, vI s3_, vI x3_] w (fun o w1 => rVt o (fun b => K (.inr b) w1) ((0 ≤ (wr ((w1 0 10) - 1)) ∧ (wr ((w1 0 10) - 1)) < 4022) ∧ (V g LM jMd_findTokens (d + 1) K 9 [(0, vA 0), (1, vI (wr (x1_ + (w1 6 ((wr ((w1 0 10) - 1)).toNat))))), (2, vI x2_)] [] w1)))) : V g LM jMd_findTokens (d + 1) K 487 [(0, vA 0), (1, vI x1_), (2, vI x2_), (3, vI x3_)] [vI s3_, vI s2_, vI s1_, vA 0] w := by
  refine v_iload_n (pc := 487) d_Md_findTokens_487 rfl (.tail _ (.tail _ (.tail _ (.head _)))) ?_
  refine v_callV (pc := 488) (J' := jMd_token) (d' := d) (o := 0) (ci := 13) (N := 93) (T := cT13) (As := [vI s1_, vI s2_, vI s3_, vI x3_]) d_Md_findTokens_488 ml_Md_342 cM_0.1 cM_0.2 (by decide) rfl rfl (Nat.le_of_ble_eq_true rfl) (Nat.le_refl _) rfl (Cal.weak h (fun o w1 h => ?_))
  rcases rVt_of h with ⟨rfl, h⟩ | ⟨b, rfl, h⟩
  rotate_left
  · exact h
  refine v_iload_n (pc := 491) d_Md_findTokens_491 rfl (.tail _ (.head _)) ?_
  refine v_aload_n (pc := 492) d_Md_findTokens_492 rfl (.head _) ?_
  refine v_getr (C := "") (pc := 493) (r := 6) d_Md_findTokens_493 fl_Md_40 cM_0.1 cM_0.2 (Or.inr ⟨_, rfl⟩) rM_0_8 ?_
  refine v_aload_n (pc := 496) d_Md_findTokens_496 rfl (.head _) ?_
  refine v_geti (pc := 497) (x := (w1 0 10)) d_Md_findTokens_497 fl_Md_336 cM_0.1 cM_0.2 (Or.inl rfl) rfl ?_
  refine v_iconst (pc := 500) d_Md_findTokens_500 (by decide) ?_
  refine v_isub (pc := 501) d_Md_findTokens_501 ?_
  refine v_iald (pc := 502) (x := (w1 6 ((wr ((w1 0 10) - 1)).toNat))) d_Md_findTokens_502 cM_6.1 cM_6.2 rfl h.1 ?_
  replace h := h.2
  refine v_iadd (pc := 503) d_Md_findTokens_503 ?_
  refine v_istore_n (pc := 504) (ls' := [(1, vI (wr (x1_ + (w1 6 ((wr ((w1 0 10) - 1)).toNat))))), (0, vA 0), (2, vI x2_), (3, vI x3_)]) d_Md_findTokens_504 rfl (by decide) rfl ?_
  refine v_goto (pc := 505) (tgt := 9) d_Md_findTokens_505 (by decide) ?_
  exact v_sub (List.forall_mem_cons.mpr ⟨(.tail _ (.head _)), (List.forall_mem_cons.mpr ⟨(.head _), (List.forall_mem_cons.mpr ⟨(.tail _ (.tail _ (.head _))), (fun _ z => absurd z List.not_mem_nil)⟩)⟩)⟩) h
set_option maxHeartbeats 4000000 in
theorem s_Md_findTokens_366 {g : Mg} {d : Nat} {K : Ou → Wd → Prop} {w : Wd} {x1_ : Int} {x2_ : Int} {x3_ : Int} {x4_ : Int} {s1_ : Int} (h : Cal g LM jMd_token d [vA 0, vI s1_, vI x3_, vI (wr (x1_ - x3_)), vI (l2iF x4_)] w (fun o w1 => rVt o (fun b => K (.inr b) w1) (V g LM jMd_findTokens (d + 1) K 9 [(0, vA 0), (1, vI x1_), (2, vI x2_)] [] w1))) : V g LM jMd_findTokens (d + 1) K 366 [(0, vA 0), (1, vI x1_), (2, vI x2_), (3, vI x3_), (4, vL x4_)] [vI s1_, vA 0] w := by
  refine v_iload_n (pc := 366) d_Md_findTokens_366 rfl (.tail _ (.tail _ (.tail _ (.head _)))) ?_
  refine v_iload_n (pc := 367) d_Md_findTokens_367 rfl (.tail _ (.head _)) ?_
  refine v_iload_n (pc := 368) d_Md_findTokens_368 rfl (.tail _ (.tail _ (.tail _ (.head _)))) ?_
  refine v_isub (pc := 369) d_Md_findTokens_369 ?_
  refine v_lload (pc := 370) d_Md_findTokens_370 (.tail _ (.tail _ (.tail _ (.tail _ (.head _))))) ?_
  refine v_l2i (pc := 372) d_Md_findTokens_372 ?_
  refine v_callV (pc := 373) (J' := jMd_token) (d' := d) (o := 0) (ci := 13) (N := 93) (T := cT13) (As := [vI s1_, vI x3_, vI (wr (x1_ - x3_)), vI (l2iF x4_)]) d_Md_findTokens_373 ml_Md_342 cM_0.1 cM_0.2 (by decide) rfl rfl (Nat.le_of_ble_eq_true rfl) (Nat.le_refl _) rfl (Cal.weak h (fun o w1 h => ?_))
  rcases rVt_of h with ⟨rfl, h⟩ | ⟨b, rfl, h⟩
  rotate_left
  · exact h
  refine v_goto (pc := 376) (tgt := 9) d_Md_findTokens_376 (by decide) ?_
  exact v_sub (List.forall_mem_cons.mpr ⟨(.head _), (List.forall_mem_cons.mpr ⟨(.tail _ (.head _)), (List.forall_mem_cons.mpr ⟨(.tail _ (.tail _ (.head _))), (fun _ z => absurd z List.not_mem_nil)⟩)⟩)⟩) h
set_option maxHeartbeats 4000000 in
theorem s_Md_findTokens_232 {g : Mg} {d : Nat} {K : Ou → Wd → Prop} {w : Wd} {x1_ : Int} {x3_ : Int} {x4_ : Int} {s0_ : Int} (h : (¬ s0_ = 0 → ((x4_ < 0 → (V g LM jMd_findTokens (d + 1) K 252 [(0, vA 0), (1, vI x1_), (2, vI s0_), (3, vI x3_), (4, vI x4_)] [vI 0, vA 0] w)) ∧ (¬ x4_ < 0 → (V g LM jMd_findTokens (d + 1) K 252 [(0, vA 0), (1, vI x1_), (2, vI s0_), (3, vI x3_), (4, vI x4_)] [vI 3, vA 0] w)))) ∧ (s0_ = 0 → (V g LM jMd_findTokens (d + 1) K 252 [(0, vA 0), (1, vI x1_), (2, vI s0_), (3, vI x3_), (4, vI x4_)] [vI 5, vA 0] w))) : V g LM jMd_findTokens (d + 1) K 232 [(0, vA 0), (1, vI x1_), (3, vI x3_), (4, vI x4_)] [vI s0_] w := by
  refine v_istore_n (pc := 232) (ls' := [(2, vI s0_), (0, vA 0), (1, vI x1_), (3, vI x3_), (4, vI x4_)]) d_Md_findTokens_232 rfl (by decide) rfl ?_
  refine v_aload_n (pc := 233) d_Md_findTokens_233 rfl (.tail _ (.head _)) ?_
  refine v_iload_n (pc := 234) d_Md_findTokens_234 rfl (.head _) ?_
  refine v_ifne (pc := 235) (tgt := 242) d_Md_findTokens_235 (by decide) (fun c => ?_) (fun c => ?_)
  · replace h := h.1 c
    refine v_iload (pc := 242) d_Md_findTokens_242 (.tail _ (.tail _ (.tail _ (.tail _ (.head _))))) ?_
    refine v_iflt (pc := 244) (tgt := 251) d_Md_findTokens_244 (by decide) (fun c => ?_) (fun c => ?_)
    · replace h := h.1 c
      refine v_iconst (pc := 251) d_Md_findTokens_251 (by decide) ?_
      exact v_sub (List.forall_mem_cons.mpr ⟨(.tail _ (.head _)), (List.forall_mem_cons.mpr ⟨(.tail _ (.tail _ (.head _))), (List.forall_mem_cons.mpr ⟨(.head _), (List.forall_mem_cons.mpr ⟨(.tail _ (.tail _ (.tail _ (.head _)))), (List.forall_mem_cons.mpr ⟨(.tail _ (.tail _ (.tail _ (.tail _ (.head _))))), (fun _ z => absurd z List.not_mem_nil)⟩)⟩)⟩)⟩)⟩) h
    · replace h := h.2 c
      refine v_iconst (pc := 247) d_Md_findTokens_247 (by decide) ?_
      refine v_goto (pc := 248) (tgt := 252) d_Md_findTokens_248 (by decide) ?_
      exact v_sub (List.forall_mem_cons.mpr ⟨(.tail _ (.head _)), (List.forall_mem_cons.mpr ⟨(.tail _ (.tail _ (.head _))), (List.forall_mem_cons.mpr ⟨(.head _), (List.forall_mem_cons.mpr ⟨(.tail _ (.tail _ (.tail _ (.head _)))), (List.forall_mem_cons.mpr ⟨(.tail _ (.tail _ (.tail _ (.tail _ (.head _))))), (fun _ z => absurd z List.not_mem_nil)⟩)⟩)⟩)⟩)⟩) h
  · replace h := h.2 c
    refine v_iconst (pc := 238) d_Md_findTokens_238 (by decide) ?_
    refine v_goto (pc := 239) (tgt := 252) d_Md_findTokens_239 (by decide) ?_
    exact v_sub (List.forall_mem_cons.mpr ⟨(.tail _ (.head _)), (List.forall_mem_cons.mpr ⟨(.tail _ (.tail _ (.head _))), (List.forall_mem_cons.mpr ⟨(.head _), (List.forall_mem_cons.mpr ⟨(.tail _ (.tail _ (.tail _ (.head _)))), (List.forall_mem_cons.mpr ⟨(.tail _ (.tail _ (.tail _ (.tail _ (.head _))))), (fun _ z => absurd z List.not_mem_nil)⟩)⟩)⟩)⟩)⟩) h
set_option maxHeartbeats 4000000 in
theorem s_Md_findTokens_211 {g : Mg} {d : Nat} {K : Ou → Wd → Prop} {w : Wd} {x1_ : Int} {x3_ : Int} {x5_ : Int} {s0_ : Int} (h : V g LM jMd_findTokens (d + 1) K 176 [(0, vA 0), (1, vI x1_), (3, vI x3_), (4, vI s0_), (5, vI (wr (x5_ + 1)))] [] w) : V g LM jMd_findTokens (d + 1) K 211 [(0, vA 0), (1, vI x1_), (3, vI x3_), (5, vI x5_)] [vI s0_] w := by
  refine v_istore (pc := 211) (ls' := [(4, vI s0_), (0, vA 0), (1, vI x1_), (3, vI x3_), (5, vI x5_)]) d_Md_findTokens_211 (by decide) rfl ?_
  refine v_iinc (pc := 213) (ls' := [(5, vI (wr (x5_ + 1))), (4, vI s0_), (0, vA 0), (1, vI x1_), (3, vI x3_)]) d_Md_findTokens_213 (.tail _ (.tail _ (.tail _ (.tail _ (.head _))))) (by decide) rfl ?_
  refine v_goto (pc := 216) (tgt := 176) d_Md_findTokens_216 (by decide) ?_
  exact v_sub (List.forall_mem_cons.mpr ⟨(.tail _ (.tail _ (.head _))), (List.forall_mem_cons.mpr ⟨(.tail _ (.tail _ (.tail _ (.head _)))), (List.forall_mem_cons.mpr ⟨(.tail _ (.tail _ (.tail _ (.tail _ (.head _))))), (List.forall_mem_cons.mpr ⟨(.tail _ (.head _)), (List.forall_mem_cons.mpr ⟨(.head _), (fun _ z => absurd z List.not_mem_nil)⟩)⟩)⟩)⟩)⟩) h
set_option maxHeartbeats 4000000 in
theorem s_Md_findTokens_252 {g : Mg} {d : Nat} {K : Ou → Wd → Prop} {w : Wd} {x1_ : Int} {x2_ : Int} {x3_ : Int} {x4_ : Int} {s1_ : Int} (h : Cal g LM jMd_token d [vA 0, vI s1_, vI x3_, vI (wr (x1_ - x3_)), vI x4_] w (fun o w1 => rVt o (fun b => K (.inr b) w1) (V g LM jMd_findTokens (d + 1) K 9 [(0, vA 0), (1, vI x1_), (2, vI x2_)] [] w1))) : V g LM jMd_findTokens (d + 1) K 252 [(0, vA 0), (1, vI x1_), (2, vI x2_), (3, vI x3_), (4, vI x4_)] [vI s1_, vA 0] w := by
  refine v_iload_n (pc := 252) d_Md_findTokens_252 rfl (.tail _ (.tail _ (.tail _ (.head _)))) ?_
  refine v_iload_n (pc := 253) d_Md_findTokens_253 rfl (.tail _ (.head _)) ?_
  refine v_iload_n (pc := 254) d_Md_findTokens_254 rfl (.tail _ (.tail _ (.tail _ (.head _)))) ?_
  refine v_isub (pc := 255) d_Md_findTokens_255 ?_
  refine v_iload (pc := 256) d_Md_findTokens_256 (.tail _ (.tail _ (.tail _ (.tail _ (.head _))))) ?_
  refine v_callV (pc := 258) (J' := jMd_token) (d' := d) (o := 0) (ci := 13) (N := 93) (T := cT13) (As := [vI s1_, vI x3_, vI (wr (x1_ - x3_)), vI x4_]) d_Md_findTokens_258 ml_Md_342 cM_0.1 cM_0.2 (by decide) rfl rfl (Nat.le_of_ble_eq_true rfl) (Nat.le_refl _) rfl (Cal.weak h (fun o w1 h => ?_))
  rcases rVt_of h with ⟨rfl, h⟩ | ⟨b, rfl, h⟩
  rotate_left
  · exact h
  refine v_goto (pc := 261) (tgt := 9) d_Md_findTokens_261 (by decide) ?_
  exact v_sub (List.forall_mem_cons.mpr ⟨(.head _), (List.forall_mem_cons.mpr ⟨(.tail _ (.head _)), (List.forall_mem_cons.mpr ⟨(.tail _ (.tail _ (.head _))), (fun _ z => absurd z List.not_mem_nil)⟩)⟩)⟩) h
theorem d_Md_placeOf_0 : decode jMd_placeOf.cc 0 = .ok (.aload_n 0, 1) := by decide +kernel
theorem d_Md_placeOf_1 : decode jMd_placeOf.cc 1 = .ok (.getfield 37, 3) := by decide +kernel
theorem d_Md_placeOf_4 : decode jMd_placeOf.cc 4 = .ok (.iload_n 1, 1) := by decide +kernel
theorem d_Md_placeOf_5 : decode jMd_placeOf.cc 5 = .ok (.iaload, 1) := by decide +kernel
theorem d_Md_placeOf_6 : decode jMd_placeOf.cc 6 = .ok (.ireturn, 1) := by decide +kernel
set_option maxHeartbeats 4000000 in
theorem s_Md_placeOf {g : Mg} {d : Nat} {K : Ou → Wd → Prop} {w : Wd} {p1 : Int} (h : (0 ≤ p1 ∧ p1 < 4022) ∧ (K (.inl (some (vI (w 5 p1.toNat)))) w)) : V g LM jMd_placeOf d K 0 [(0, vA 0), (1, vI p1)] [] w := by
  refine v_aload_n (pc := 0) d_Md_placeOf_0 rfl (.head _) ?_
  refine v_getr (C := "") (pc := 1) (r := 5) d_Md_placeOf_1 fl_Md_37 cM_0.1 cM_0.2 (Or.inr ⟨_, rfl⟩) rM_0_7 ?_
  refine v_iload_n (pc := 4) d_Md_placeOf_4 rfl (.tail _ (.head _)) ?_
  refine v_iald (pc := 5) (x := (w 5 p1.toNat)) d_Md_placeOf_5 cM_5.1 cM_5.2 rfl h.1 ?_
  replace h := h.2
  exact v_iret (pc := 6) d_Md_placeOf_6 rfl h
theorem d_Md_is_0 : decode jMd_is.cc 0 = .ok (.aload_n 0, 1) := by decide +kernel
theorem d_Md_is_1 : decode jMd_is.cc 1 = .ok (.getfield 33, 3) := by decide +kernel
theorem d_Md_is_4 : decode jMd_is.cc 4 = .ok (.aload_n 0, 1) := by decide +kernel
theorem d_Md_is_5 : decode jMd_is.cc 5 = .ok (.getfield 363, 3) := by decide +kernel
theorem d_Md_is_8 : decode jMd_is.cc 8 = .ok (.iaload, 1) := by decide +kernel
theorem d_Md_is_9 : decode jMd_is.cc 9 = .ok (.istore_n 2, 1) := by decide +kernel
theorem d_Md_is_10 : decode jMd_is.cc 10 = .ok (.iload_n 2, 1) := by decide +kernel
theorem d_Md_is_11 : decode jMd_is.cc 11 = .ok (.iconst 3, 1) := by decide +kernel
theorem d_Md_is_12 : decode jMd_is.cc 12 = .ok (.if_icmp .eq 8, 3) := by decide +kernel
theorem d_Md_is_15 : decode jMd_is.cc 15 = .ok (.iload_n 2, 1) := by decide +kernel
theorem d_Md_is_16 : decode jMd_is.cc 16 = .ok (.iconst 2, 1) := by decide +kernel
theorem d_Md_is_17 : decode jMd_is.cc 17 = .ok (.if_icmp .ne 33, 3) := by decide +kernel
theorem d_Md_is_20 : decode jMd_is.cc 20 = .ok (.aload_n 0, 1) := by decide +kernel
theorem d_Md_is_21 : decode jMd_is.cc 21 = .ok (.aload_n 0, 1) := by decide +kernel
theorem d_Md_is_22 : decode jMd_is.cc 22 = .ok (.getfield 37, 3) := by decide +kernel
theorem d_Md_is_25 : decode jMd_is.cc 25 = .ok (.aload_n 0, 1) := by decide +kernel
theorem d_Md_is_26 : decode jMd_is.cc 26 = .ok (.getfield 363, 3) := by decide +kernel
theorem d_Md_is_29 : decode jMd_is.cc 29 = .ok (.iaload, 1) := by decide +kernel
theorem d_Md_is_30 : decode jMd_is.cc 30 = .ok (.aload_n 0, 1) := by decide +kernel
theorem d_Md_is_31 : decode jMd_is.cc 31 = .ok (.getfield 40, 3) := by decide +kernel
theorem d_Md_is_34 : decode jMd_is.cc 34 = .ok (.aload_n 0, 1) := by decide +kernel
theorem d_Md_is_35 : decode jMd_is.cc 35 = .ok (.getfield 363, 3) := by decide +kernel
theorem d_Md_is_38 : decode jMd_is.cc 38 = .ok (.iaload, 1) := by decide +kernel
theorem d_Md_is_39 : decode jMd_is.cc 39 = .ok (.aload_n 1, 1) := by decide +kernel
theorem d_Md_is_40 : decode jMd_is.cc 40 = .ok (.invokevirtual 353, 3) := by decide +kernel
theorem d_Md_is_43 : decode jMd_is.cc 43 = .ok (.ifCond .eq 7, 3) := by decide +kernel
theorem d_Md_is_46 : decode jMd_is.cc 46 = .ok (.iconst 1, 1) := by decide +kernel
theorem d_Md_is_47 : decode jMd_is.cc 47 = .ok (.goto 4, 3) := by decide +kernel
theorem d_Md_is_50 : decode jMd_is.cc 50 = .ok (.iconst 0, 1) := by decide +kernel
theorem d_Md_is_51 : decode jMd_is.cc 51 = .ok (.ireturn, 1) := by decide +kernel
set_option maxHeartbeats 4000000 in
theorem s_Md_is {g : Mg} {d : Nat} {K : Ou → Wd → Prop} {w : Wd} {p1 : Nat} (h : (0 ≤ (w 0 11) ∧ (w 0 11) < 4022) ∧ (((w 4 ((w 0 11).toNat)) = 3 → ((0 ≤ (w 0 11) ∧ (w 0 11) < 4022) ∧ ((0 ≤ (w 0 11) ∧ (w 0 11) < 4022) ∧ (Cal g LM jMd_isText d [vA 0, vI (w 5 ((w 0 11).toNat)), vI (w 6 ((w 0 11).toNat)), vA p1] w (fun o w1 => rIt o (fun b => K (.inr b) w1) (fun x2 => (x2 = 0 → (K (.inl (some (vI 0))) w1)) ∧ (¬ x2 = 0 → (K (.inl (some (vI 1))) w1)))))))) ∧ (¬ (w 4 ((w 0 11).toNat)) = 3 → ((¬ (w 4 ((w 0 11).toNat)) = 2 → (K (.inl (some (vI 0))) w)) ∧ ((w 4 ((w 0 11).toNat)) = 2 → ((0 ≤ (w 0 11) ∧ (w 0 11) < 4022) ∧ ((0 ≤ (w 0 11) ∧ (w 0 11) < 4022) ∧ (Cal g LM jMd_isText d [vA 0, vI (w 5 ((w 0 11).toNat)), vI (w 6 ((w 0 11).toNat)), vA p1] w (fun o w3 => rIt o (fun b => K (.inr b) w3) (fun x4 => (x4 = 0 → (K (.inl (some (vI 0))) w3)) ∧ (¬ x4 = 0 → (K (.inl (some (vI 1))) w3)))))))))))) : V g LM jMd_is (d + 1) K 0 [(0, vA 0), (1, vA p1)] [] w := by
  refine v_aload_n (pc := 0) d_Md_is_0 rfl (.head _) ?_
  refine v_getr (C := "") (pc := 1) (r := 4) d_Md_is_1 fl_Md_33 cM_0.1 cM_0.2 (Or.inr ⟨_, rfl⟩) rM_0_6 ?_
  refine v_aload_n (pc := 4) d_Md_is_4 rfl (.head _) ?_
  refine v_geti (pc := 5) (x := (w 0 11)) d_Md_is_5 fl_Md_363 cM_0.1 cM_0.2 (Or.inl rfl) rfl ?_
  refine v_iald (pc := 8) (x := (w 4 ((w 0 11).toNat))) d_Md_is_8 cM_4.1 cM_4.2 rfl h.1 ?_
  replace h := h.2
  refine v_istore_n (pc := 9) (ls' := [(2, vI (w 4 ((w 0 11).toNat))), (0, vA 0), (1, vA p1)]) d_Md_is_9 rfl (by decide) rfl ?_
  refine v_iload_n (pc := 10) d_Md_is_10 rfl (.head _) ?_
  refine v_iconst (pc := 11) d_Md_is_11 (by decide) ?_
  refine v_icmpeq (pc := 12) (tgt := 20) d_Md_is_12 (by decide) (fun c => ?_) (fun c => ?_)
  · replace h := h.1 c
    refine v_aload_n (pc := 20) d_Md_is_20 rfl (.tail _ (.head _)) ?_
    refine v_aload_n (pc := 21) d_Md_is_21 rfl (.tail _ (.head _)) ?_
    refine v_getr (C := "") (pc := 22) (r := 5) d_Md_is_22 fl_Md_37 cM_0.1 cM_0.2 (Or.inr ⟨_, rfl⟩) rM_0_7 ?_
    refine v_aload_n (pc := 25) d_Md_is_25 rfl (.tail _ (.head _)) ?_
    refine v_geti (pc := 26) (x := (w 0 11)) d_Md_is_26 fl_Md_363 cM_0.1 cM_0.2 (Or.inl rfl) rfl ?_
    refine v_iald (pc := 29) (x := (w 5 ((w 0 11).toNat))) d_Md_is_29 cM_5.1 cM_5.2 rfl h.1 ?_
    replace h := h.2
    refine v_aload_n (pc := 30) d_Md_is_30 rfl (.tail _ (.head _)) ?_
    refine v_getr (C := "") (pc := 31) (r := 6) d_Md_is_31 fl_Md_40 cM_0.1 cM_0.2 (Or.inr ⟨_, rfl⟩) rM_0_8 ?_
    refine v_aload_n (pc := 34) d_Md_is_34 rfl (.tail _ (.head _)) ?_
    refine v_geti (pc := 35) (x := (w 0 11)) d_Md_is_35 fl_Md_363 cM_0.1 cM_0.2 (Or.inl rfl) rfl ?_
    refine v_iald (pc := 38) (x := (w 6 ((w 0 11).toNat))) d_Md_is_38 cM_6.1 cM_6.2 rfl h.1 ?_
    replace h := h.2
    refine v_aload_n (pc := 39) d_Md_is_39 rfl (.tail _ (.tail _ (.head _))) ?_
    refine v_callV (pc := 40) (J' := jMd_isText) (d' := d) (o := 0) (ci := 13) (N := 93) (T := cT13) (As := [vI (w 5 ((w 0 11).toNat)), vI (w 6 ((w 0 11).toNat)), vA p1]) d_Md_is_40 ml_Md_353 cM_0.1 cM_0.2 (by decide) rfl rfl (Nat.le_of_ble_eq_true rfl) (Nat.le_refl _) rfl (Cal.weak h (fun o w1 h => ?_))
    rcases rIt_of h with ⟨x2, rfl, h⟩ | ⟨b, rfl, h⟩
    rotate_left
    · exact h
    refine v_ifeq (pc := 43) (tgt := 50) d_Md_is_43 (by decide) (fun c => ?_) (fun c => ?_)
    · replace h := h.1 c
      refine v_iconst (pc := 50) d_Md_is_50 (by decide) ?_
      exact v_zret (pc := 51) d_Md_is_51 rfl (by decide) h
    · replace h := h.2 c
      refine v_iconst (pc := 46) d_Md_is_46 (by decide) ?_
      refine v_goto (pc := 47) (tgt := 51) d_Md_is_47 (by decide) ?_
      exact v_zret (pc := 51) d_Md_is_51 rfl (by decide) h
  · replace h := h.2 c
    refine v_iload_n (pc := 15) d_Md_is_15 rfl (.head _) ?_
    refine v_iconst (pc := 16) d_Md_is_16 (by decide) ?_
    refine v_icmpne (pc := 17) (tgt := 50) d_Md_is_17 (by decide) (fun c => ?_) (fun c => ?_)
    · replace h := h.1 c
      refine v_iconst (pc := 50) d_Md_is_50 (by decide) ?_
      exact v_zret (pc := 51) d_Md_is_51 rfl (by decide) h
    · replace h := h.2 c
      refine v_aload_n (pc := 20) d_Md_is_20 rfl (.tail _ (.head _)) ?_
      refine v_aload_n (pc := 21) d_Md_is_21 rfl (.tail _ (.head _)) ?_
      refine v_getr (C := "") (pc := 22) (r := 5) d_Md_is_22 fl_Md_37 cM_0.1 cM_0.2 (Or.inr ⟨_, rfl⟩) rM_0_7 ?_
      refine v_aload_n (pc := 25) d_Md_is_25 rfl (.tail _ (.head _)) ?_
      refine v_geti (pc := 26) (x := (w 0 11)) d_Md_is_26 fl_Md_363 cM_0.1 cM_0.2 (Or.inl rfl) rfl ?_
      refine v_iald (pc := 29) (x := (w 5 ((w 0 11).toNat))) d_Md_is_29 cM_5.1 cM_5.2 rfl h.1 ?_
      replace h := h.2
      refine v_aload_n (pc := 30) d_Md_is_30 rfl (.tail _ (.head _)) ?_
      refine v_getr (C := "") (pc := 31) (r := 6) d_Md_is_31 fl_Md_40 cM_0.1 cM_0.2 (Or.inr ⟨_, rfl⟩) rM_0_8 ?_
      refine v_aload_n (pc := 34) d_Md_is_34 rfl (.tail _ (.head _)) ?_
      refine v_geti (pc := 35) (x := (w 0 11)) d_Md_is_35 fl_Md_363 cM_0.1 cM_0.2 (Or.inl rfl) rfl ?_
      refine v_iald (pc := 38) (x := (w 6 ((w 0 11).toNat))) d_Md_is_38 cM_6.1 cM_6.2 rfl h.1 ?_
      replace h := h.2
      refine v_aload_n (pc := 39) d_Md_is_39 rfl (.tail _ (.tail _ (.head _))) ?_
      refine v_callV (pc := 40) (J' := jMd_isText) (d' := d) (o := 0) (ci := 13) (N := 93) (T := cT13) (As := [vI (w 5 ((w 0 11).toNat)), vI (w 6 ((w 0 11).toNat)), vA p1]) d_Md_is_40 ml_Md_353 cM_0.1 cM_0.2 (by decide) rfl rfl (Nat.le_of_ble_eq_true rfl) (Nat.le_refl _) rfl (Cal.weak h (fun o w3 h => ?_))
      rcases rIt_of h with ⟨x4, rfl, h⟩ | ⟨b, rfl, h⟩
      rotate_left
      · exact h
      refine v_ifeq (pc := 43) (tgt := 50) d_Md_is_43 (by decide) (fun c => ?_) (fun c => ?_)
      · replace h := h.1 c
        refine v_iconst (pc := 50) d_Md_is_50 (by decide) ?_
        exact v_zret (pc := 51) d_Md_is_51 rfl (by decide) h
      · replace h := h.2 c
        refine v_iconst (pc := 46) d_Md_is_46 (by decide) ?_
        refine v_goto (pc := 47) (tgt := 51) d_Md_is_47 (by decide) ?_
        exact v_zret (pc := 51) d_Md_is_51 rfl (by decide) h
theorem d_Md_pass_0 : decode jMd_pass.cc 0 = .ok (.aload_n 0, 1) := by decide +kernel
theorem d_Md_pass_1 : decode jMd_pass.cc 1 = .ok (.getfield 363, 3) := by decide +kernel
theorem d_Md_pass_4 : decode jMd_pass.cc 4 = .ok (.sipush 1000, 3) := by decide +kernel
theorem d_Md_pass_7 : decode jMd_pass.cc 7 = .ok (.if_icmp .ne 16, 3) := by decide +kernel
theorem d_Md_pass_10 : decode jMd_pass.cc 10 = .ok (.aload_n 0, 1) := by decide +kernel
theorem d_Md_pass_11 : decode jMd_pass.cc 11 = .ok (.iconst 2, 1) := by decide +kernel
theorem d_Md_pass_12 : decode jMd_pass.cc 12 = .ok (.aload_n 0, 1) := by decide +kernel
theorem d_Md_pass_13 : decode jMd_pass.cc 13 = .ok (.aload_n 0, 1) := by decide +kernel
theorem d_Md_pass_14 : decode jMd_pass.cc 14 = .ok (.getfield 363, 3) := by decide +kernel
theorem d_Md_pass_17 : decode jMd_pass.cc 17 = .ok (.invokevirtual 366, 3) := by decide +kernel
theorem d_Md_pass_20 : decode jMd_pass.cc 20 = .ok (.invokevirtual 370, 3) := by decide +kernel
theorem d_Md_pass_23 : decode jMd_pass.cc 23 = .ok (.aload_n 0, 1) := by decide +kernel
theorem d_Md_pass_24 : decode jMd_pass.cc 24 = .ok (.dup, 1) := by decide +kernel
theorem d_Md_pass_25 : decode jMd_pass.cc 25 = .ok (.getfield 363, 3) := by decide +kernel
theorem d_Md_pass_28 : decode jMd_pass.cc 28 = .ok (.iconst 1, 1) := by decide +kernel
theorem d_Md_pass_29 : decode jMd_pass.cc 29 = .ok (.iadd, 1) := by decide +kernel
theorem d_Md_pass_30 : decode jMd_pass.cc 30 = .ok (.putfield 363, 3) := by decide +kernel
theorem d_Md_pass_33 : decode jMd_pass.cc 33 = .ok (.aload_n 0, 1) := by decide +kernel
theorem d_Md_pass_34 : decode jMd_pass.cc 34 = .ok (.getfield 363, 3) := by decide +kernel
theorem d_Md_pass_37 : decode jMd_pass.cc 37 = .ok (.iconst 1, 1) := by decide +kernel
theorem d_Md_pass_38 : decode jMd_pass.cc 38 = .ok (.isub, 1) := by decide +kernel
theorem d_Md_pass_39 : decode jMd_pass.cc 39 = .ok (.ireturn, 1) := by decide +kernel
set_option maxHeartbeats 4000000 in
theorem s_Md_pass {g : Mg} {d : Nat} {K : Ou → Wd → Prop} {w : Wd} (h : (¬ (w 0 11) = 1000 → (K (.inl (some (vI (wr ((wr ((w 0 11) + 1)) - 1))))) (up w 0 11 (wr ((w 0 11) + 1))))) ∧ ((w 0 11) = 1000 → (Cal g LM jMd_placeOf d [vA 0, vI (w 0 11)] w (fun o w1 => rIt o (fun b => K (.inr b) w1) (fun x2 => Cal g LM jMd_fail d [vA 0, vI 2, vI x2] w1 (fun o w3 => rVt o (fun b => K (.inr b) w3) (K (.inl (some (vI (wr ((wr ((w3 0 11) + 1)) - 1))))) (up w3 0 11 (wr ((w3 0 11) + 1)))))))))) : V g LM jMd_pass (d + 1) K 0 [(0, vA 0)] [] w := by
  refine v_aload_n (pc := 0) d_Md_pass_0 rfl (.head _) ?_
  refine v_geti (pc := 1) (x := (w 0 11)) d_Md_pass_1 fl_Md_363 cM_0.1 cM_0.2 (Or.inl rfl) rfl ?_
  refine v_sipush (pc := 4) d_Md_pass_4 (by decide) rfl ?_
  refine v_icmpne (pc := 7) (tgt := 23) d_Md_pass_7 (by decide) (fun c => ?_) (fun c => ?_)
  · replace h := h.1 c
    refine v_aload_n (pc := 23) d_Md_pass_23 rfl (.head _) ?_
    refine v_dup (pc := 24) d_Md_pass_24 rfl ?_
    refine v_geti (pc := 25) (x := (w 0 11)) d_Md_pass_25 fl_Md_363 cM_0.1 cM_0.2 (Or.inl rfl) rfl ?_
    refine v_iconst (pc := 28) d_Md_pass_28 (by decide) ?_
    refine v_iadd (pc := 29) d_Md_pass_29 ?_
    refine v_puti (pc := 30) d_Md_pass_30 fp_Md_363 cM_0.1 cM_0.2 (by decide) rfl ?_
    refine v_aload_n (pc := 33) d_Md_pass_33 rfl (.head _) ?_
    refine v_geti (pc := 34) (x := (wr ((w 0 11) + 1))) d_Md_pass_34 fl_Md_363 cM_0.1 cM_0.2 (Or.inl rfl) rfl ?_
    refine v_iconst (pc := 37) d_Md_pass_37 (by decide) ?_
    refine v_isub (pc := 38) d_Md_pass_38 ?_
    exact v_iret (pc := 39) d_Md_pass_39 rfl h
  · replace h := h.2 c
    refine v_aload_n (pc := 10) d_Md_pass_10 rfl (.head _) ?_
    refine v_iconst (pc := 11) d_Md_pass_11 (by decide) ?_
    refine v_aload_n (pc := 12) d_Md_pass_12 rfl (.head _) ?_
    refine v_aload_n (pc := 13) d_Md_pass_13 rfl (.head _) ?_
    refine v_geti (pc := 14) (x := (w 0 11)) d_Md_pass_14 fl_Md_363 cM_0.1 cM_0.2 (Or.inl rfl) rfl ?_
    refine v_callV (pc := 17) (J' := jMd_placeOf) (d' := d) (o := 0) (ci := 13) (N := 93) (T := cT13) (As := [vI (w 0 11)]) d_Md_pass_17 ml_Md_366 cM_0.1 cM_0.2 (by decide) rfl rfl (Nat.le_of_ble_eq_true rfl) (Nat.le_refl _) rfl (Cal.weak h (fun o w1 h => ?_))
    rcases rIt_of h with ⟨x2, rfl, h⟩ | ⟨b, rfl, h⟩
    rotate_left
    · exact h
    refine v_callV (pc := 20) (J' := jMd_fail) (d' := d) (o := 0) (ci := 13) (N := 93) (T := cT13) (As := [vI 2, vI x2]) d_Md_pass_20 ml_Md_370 cM_0.1 cM_0.2 (by decide) rfl rfl (Nat.le_of_ble_eq_true rfl) (Nat.le_refl _) rfl (Cal.weak h (fun o w3 h => ?_))
    rcases rVt_of h with ⟨rfl, h⟩ | ⟨b, rfl, h⟩
    rotate_left
    · exact h
    refine v_aload_n (pc := 23) d_Md_pass_23 rfl (.head _) ?_
    refine v_dup (pc := 24) d_Md_pass_24 rfl ?_
    refine v_geti (pc := 25) (x := (w3 0 11)) d_Md_pass_25 fl_Md_363 cM_0.1 cM_0.2 (Or.inl rfl) rfl ?_
    refine v_iconst (pc := 28) d_Md_pass_28 (by decide) ?_
    refine v_iadd (pc := 29) d_Md_pass_29 ?_
    refine v_puti (pc := 30) d_Md_pass_30 fp_Md_363 cM_0.1 cM_0.2 (by decide) rfl ?_
    refine v_aload_n (pc := 33) d_Md_pass_33 rfl (.head _) ?_
    refine v_geti (pc := 34) (x := (wr ((w3 0 11) + 1))) d_Md_pass_34 fl_Md_363 cM_0.1 cM_0.2 (Or.inl rfl) rfl ?_
    refine v_iconst (pc := 37) d_Md_pass_37 (by decide) ?_
    refine v_isub (pc := 38) d_Md_pass_38 ?_
    exact v_iret (pc := 39) d_Md_pass_39 rfl h
theorem d_Md_must_0 : decode jMd_must.cc 0 = .ok (.aload_n 0, 1) := by decide +kernel
theorem d_Md_must_1 : decode jMd_must.cc 1 = .ok (.aload_n 1, 1) := by decide +kernel
theorem d_Md_must_2 : decode jMd_must.cc 2 = .ok (.invokevirtual 374, 3) := by decide +kernel
theorem d_Md_must_5 : decode jMd_must.cc 5 = .ok (.ifCond .ne 16, 3) := by decide +kernel
theorem d_Md_must_8 : decode jMd_must.cc 8 = .ok (.aload_n 0, 1) := by decide +kernel
theorem d_Md_must_9 : decode jMd_must.cc 9 = .ok (.iconst 1, 1) := by decide +kernel
theorem d_Md_must_10 : decode jMd_must.cc 10 = .ok (.aload_n 0, 1) := by decide +kernel
theorem d_Md_must_11 : decode jMd_must.cc 11 = .ok (.aload_n 0, 1) := by decide +kernel
theorem d_Md_must_12 : decode jMd_must.cc 12 = .ok (.getfield 363, 3) := by decide +kernel
theorem d_Md_must_15 : decode jMd_must.cc 15 = .ok (.invokevirtual 366, 3) := by decide +kernel
theorem d_Md_must_18 : decode jMd_must.cc 18 = .ok (.invokevirtual 370, 3) := by decide +kernel
theorem d_Md_must_21 : decode jMd_must.cc 21 = .ok (.aload_n 0, 1) := by decide +kernel
theorem d_Md_must_22 : decode jMd_must.cc 22 = .ok (.invokevirtual 378, 3) := by decide +kernel
theorem d_Md_must_25 : decode jMd_must.cc 25 = .ok (.ireturn, 1) := by decide +kernel
set_option maxHeartbeats 4000000 in
theorem s_Md_must {g : Mg} {d : Nat} {K : Ou → Wd → Prop} {w : Wd} {p1 : Nat} (h : Cal g LM jMd_is d [vA 0, vA p1] w (fun o w1 => rIt o (fun b => K (.inr b) w1) (fun x2 => (¬ x2 = 0 → (Cal g LM jMd_pass d [vA 0] w1 (fun o w3 => rIt o (fun b => K (.inr b) w3) (fun x4 => K (.inl (some (vI x4))) w3)))) ∧ (x2 = 0 → (Cal g LM jMd_placeOf d [vA 0, vI (w1 0 11)] w1 (fun o w5 => rIt o (fun b => K (.inr b) w5) (fun x6 => Cal g LM jMd_fail d [vA 0, vI 1, vI x6] w5 (fun o w7 => rVt o (fun b => K (.inr b) w7) (Cal g LM jMd_pass d [vA 0] w7 (fun o w8 => rIt o (fun b => K (.inr b) w8) (fun x9 => K (.inl (some (vI x9))) w8))))))))))) : V g LM jMd_must (d + 1) K 0 [(0, vA 0), (1, vA p1)] [] w := by
  refine v_aload_n (pc := 0) d_Md_must_0 rfl (.head _) ?_
  refine v_aload_n (pc := 1) d_Md_must_1 rfl (.tail _ (.head _)) ?_
  refine v_callV (pc := 2) (J' := jMd_is) (d' := d) (o := 0) (ci := 13) (N := 93) (T := cT13) (As := [vA p1]) d_Md_must_2 ml_Md_374 cM_0.1 cM_0.2 (by decide) rfl rfl (Nat.le_of_ble_eq_true rfl) (Nat.le_refl _) rfl (Cal.weak h (fun o w1 h => ?_))
  rcases rIt_of h with ⟨x2, rfl, h⟩ | ⟨b, rfl, h⟩
  rotate_left
  · exact h
  refine v_ifne (pc := 5) (tgt := 21) d_Md_must_5 (by decide) (fun c => ?_) (fun c => ?_)
  · replace h := h.1 c
    refine v_aload_n (pc := 21) d_Md_must_21 rfl (.head _) ?_
    refine v_callV (pc := 22) (J' := jMd_pass) (d' := d) (o := 0) (ci := 13) (N := 93) (T := cT13) (As := []) d_Md_must_22 ml_Md_378 cM_0.1 cM_0.2 (by decide) rfl rfl (Nat.le_of_ble_eq_true rfl) (Nat.le_refl _) rfl (Cal.weak h (fun o w3 h => ?_))
    rcases rIt_of h with ⟨x4, rfl, h⟩ | ⟨b, rfl, h⟩
    rotate_left
    · exact h
    exact v_iret (pc := 25) d_Md_must_25 rfl h
  · replace h := h.2 c
    refine v_aload_n (pc := 8) d_Md_must_8 rfl (.head _) ?_
    refine v_iconst (pc := 9) d_Md_must_9 (by decide) ?_
    refine v_aload_n (pc := 10) d_Md_must_10 rfl (.head _) ?_
    refine v_aload_n (pc := 11) d_Md_must_11 rfl (.head _) ?_
    refine v_geti (pc := 12) (x := (w1 0 11)) d_Md_must_12 fl_Md_363 cM_0.1 cM_0.2 (Or.inl rfl) rfl ?_
    refine v_callV (pc := 15) (J' := jMd_placeOf) (d' := d) (o := 0) (ci := 13) (N := 93) (T := cT13) (As := [vI (w1 0 11)]) d_Md_must_15 ml_Md_366 cM_0.1 cM_0.2 (by decide) rfl rfl (Nat.le_of_ble_eq_true rfl) (Nat.le_refl _) rfl (Cal.weak h (fun o w5 h => ?_))
    rcases rIt_of h with ⟨x6, rfl, h⟩ | ⟨b, rfl, h⟩
    rotate_left
    · exact h
    refine v_callV (pc := 18) (J' := jMd_fail) (d' := d) (o := 0) (ci := 13) (N := 93) (T := cT13) (As := [vI 1, vI x6]) d_Md_must_18 ml_Md_370 cM_0.1 cM_0.2 (by decide) rfl rfl (Nat.le_of_ble_eq_true rfl) (Nat.le_refl _) rfl (Cal.weak h (fun o w7 h => ?_))
    rcases rVt_of h with ⟨rfl, h⟩ | ⟨b, rfl, h⟩
    rotate_left
    · exact h
    refine v_aload_n (pc := 21) d_Md_must_21 rfl (.head _) ?_
    refine v_callV (pc := 22) (J' := jMd_pass) (d' := d) (o := 0) (ci := 13) (N := 93) (T := cT13) (As := []) d_Md_must_22 ml_Md_378 cM_0.1 cM_0.2 (by decide) rfl rfl (Nat.le_of_ble_eq_true rfl) (Nat.le_refl _) rfl (Cal.weak h (fun o w8 h => ?_))
    rcases rIt_of h with ⟨x9, rfl, h⟩ | ⟨b, rfl, h⟩
    rotate_left
    · exact h
    exact v_iret (pc := 25) d_Md_must_25 rfl h
theorem d_Md_mustName_0 : decode jMd_mustName.cc 0 = .ok (.aload_n 0, 1) := by decide +kernel
theorem d_Md_mustName_1 : decode jMd_mustName.cc 1 = .ok (.getfield 33, 3) := by decide +kernel
theorem d_Md_mustName_4 : decode jMd_mustName.cc 4 = .ok (.aload_n 0, 1) := by decide +kernel
theorem d_Md_mustName_5 : decode jMd_mustName.cc 5 = .ok (.getfield 363, 3) := by decide +kernel
theorem d_Md_mustName_8 : decode jMd_mustName.cc 8 = .ok (.iaload, 1) := by decide +kernel
theorem d_Md_mustName_9 : decode jMd_mustName.cc 9 = .ok (.ifCond .eq 16, 3) := by decide +kernel
theorem d_Md_mustName_12 : decode jMd_mustName.cc 12 = .ok (.aload_n 0, 1) := by decide +kernel
theorem d_Md_mustName_13 : decode jMd_mustName.cc 13 = .ok (.iconst 1, 1) := by decide +kernel
theorem d_Md_mustName_14 : decode jMd_mustName.cc 14 = .ok (.aload_n 0, 1) := by decide +kernel
theorem d_Md_mustName_15 : decode jMd_mustName.cc 15 = .ok (.aload_n 0, 1) := by decide +kernel
theorem d_Md_mustName_16 : decode jMd_mustName.cc 16 = .ok (.getfield 363, 3) := by decide +kernel
theorem d_Md_mustName_19 : decode jMd_mustName.cc 19 = .ok (.invokevirtual 366, 3) := by decide +kernel
theorem d_Md_mustName_22 : decode jMd_mustName.cc 22 = .ok (.invokevirtual 370, 3) := by decide +kernel
theorem d_Md_mustName_25 : decode jMd_mustName.cc 25 = .ok (.aload_n 0, 1) := by decide +kernel
theorem d_Md_mustName_26 : decode jMd_mustName.cc 26 = .ok (.getfield 363, 3) := by decide +kernel
theorem d_Md_mustName_29 : decode jMd_mustName.cc 29 = .ok (.ireturn, 1) := by decide +kernel
set_option maxHeartbeats 4000000 in
theorem s_Md_mustName {g : Mg} {d : Nat} {K : Ou → Wd → Prop} {w : Wd} (h : (0 ≤ (w 0 11) ∧ (w 0 11) < 4022) ∧ (((w 4 ((w 0 11).toNat)) = 0 → (K (.inl (some (vI (w 0 11)))) w)) ∧ (¬ (w 4 ((w 0 11).toNat)) = 0 → (Cal g LM jMd_placeOf d [vA 0, vI (w 0 11)] w (fun o w1 => rIt o (fun b => K (.inr b) w1) (fun x2 => Cal g LM jMd_fail d [vA 0, vI 1, vI x2] w1 (fun o w3 => rVt o (fun b => K (.inr b) w3) (K (.inl (some (vI (w3 0 11)))) w3)))))))) : V g LM jMd_mustName (d + 1) K 0 [(0, vA 0)] [] w := by
  refine v_aload_n (pc := 0) d_Md_mustName_0 rfl (.head _) ?_
  refine v_getr (C := "") (pc := 1) (r := 4) d_Md_mustName_1 fl_Md_33 cM_0.1 cM_0.2 (Or.inr ⟨_, rfl⟩) rM_0_6 ?_
  refine v_aload_n (pc := 4) d_Md_mustName_4 rfl (.head _) ?_
  refine v_geti (pc := 5) (x := (w 0 11)) d_Md_mustName_5 fl_Md_363 cM_0.1 cM_0.2 (Or.inl rfl) rfl ?_
  refine v_iald (pc := 8) (x := (w 4 ((w 0 11).toNat))) d_Md_mustName_8 cM_4.1 cM_4.2 rfl h.1 ?_
  replace h := h.2
  refine v_ifeq (pc := 9) (tgt := 25) d_Md_mustName_9 (by decide) (fun c => ?_) (fun c => ?_)
  · replace h := h.1 c
    refine v_aload_n (pc := 25) d_Md_mustName_25 rfl (.head _) ?_
    refine v_geti (pc := 26) (x := (w 0 11)) d_Md_mustName_26 fl_Md_363 cM_0.1 cM_0.2 (Or.inl rfl) rfl ?_
    exact v_iret (pc := 29) d_Md_mustName_29 rfl h
  · replace h := h.2 c
    refine v_aload_n (pc := 12) d_Md_mustName_12 rfl (.head _) ?_
    refine v_iconst (pc := 13) d_Md_mustName_13 (by decide) ?_
    refine v_aload_n (pc := 14) d_Md_mustName_14 rfl (.head _) ?_
    refine v_aload_n (pc := 15) d_Md_mustName_15 rfl (.head _) ?_
    refine v_geti (pc := 16) (x := (w 0 11)) d_Md_mustName_16 fl_Md_363 cM_0.1 cM_0.2 (Or.inl rfl) rfl ?_
    refine v_callV (pc := 19) (J' := jMd_placeOf) (d' := d) (o := 0) (ci := 13) (N := 93) (T := cT13) (As := [vI (w 0 11)]) d_Md_mustName_19 ml_Md_366 cM_0.1 cM_0.2 (by decide) rfl rfl (Nat.le_of_ble_eq_true rfl) (Nat.le_refl _) rfl (Cal.weak h (fun o w1 h => ?_))
    rcases rIt_of h with ⟨x2, rfl, h⟩ | ⟨b, rfl, h⟩
    rotate_left
    · exact h
    refine v_callV (pc := 22) (J' := jMd_fail) (d' := d) (o := 0) (ci := 13) (N := 93) (T := cT13) (As := [vI 1, vI x2]) d_Md_mustName_22 ml_Md_370 cM_0.1 cM_0.2 (by decide) rfl rfl (Nat.le_of_ble_eq_true rfl) (Nat.le_refl _) rfl (Cal.weak h (fun o w3 h => ?_))
    rcases rVt_of h with ⟨rfl, h⟩ | ⟨b, rfl, h⟩
    rotate_left
    · exact h
    refine v_aload_n (pc := 25) d_Md_mustName_25 rfl (.head _) ?_
    refine v_geti (pc := 26) (x := (w3 0 11)) d_Md_mustName_26 fl_Md_363 cM_0.1 cM_0.2 (Or.inl rfl) rfl ?_
    exact v_iret (pc := 29) d_Md_mustName_29 rfl h
theorem d_Md_exp_0 : decode jMd_exp.cc 0 = .ok (.aload_n 0, 1) := by decide +kernel
theorem d_Md_exp_1 : decode jMd_exp.cc 1 = .ok (.getfield 381, 3) := by decide +kernel
theorem d_Md_exp_4 : decode jMd_exp.cc 4 = .ok (.istore 6, 2) := by decide +kernel
theorem d_Md_exp_6 : decode jMd_exp.cc 6 = .ok (.aload_n 0, 1) := by decide +kernel
theorem d_Md_exp_7 : decode jMd_exp.cc 7 = .ok (.getfield 216, 3) := by decide +kernel
theorem d_Md_exp_10 : decode jMd_exp.cc 10 = .ok (.iload 6, 2) := by decide +kernel
theorem d_Md_exp_12 : decode jMd_exp.cc 12 = .ok (.iload_n 1, 1) := by decide +kernel
theorem d_Md_exp_13 : decode jMd_exp.cc 13 = .ok (.iastore, 1) := by decide +kernel
theorem d_Md_exp_14 : decode jMd_exp.cc 14 = .ok (.aload_n 0, 1) := by decide +kernel
theorem d_Md_exp_15 : decode jMd_exp.cc 15 = .ok (.getfield 219, 3) := by decide +kernel
theorem d_Md_exp_18 : decode jMd_exp.cc 18 = .ok (.iload 6, 2) := by decide +kernel
theorem d_Md_exp_20 : decode jMd_exp.cc 20 = .ok (.iload_n 2, 1) := by decide +kernel
theorem d_Md_exp_21 : decode jMd_exp.cc 21 = .ok (.iastore, 1) := by decide +kernel
theorem d_Md_exp_22 : decode jMd_exp.cc 22 = .ok (.aload_n 0, 1) := by decide +kernel
theorem d_Md_exp_23 : decode jMd_exp.cc 23 = .ok (.getfield 222, 3) := by decide +kernel
theorem d_Md_exp_26 : decode jMd_exp.cc 26 = .ok (.iload 6, 2) := by decide +kernel
theorem d_Md_exp_28 : decode jMd_exp.cc 28 = .ok (.iload_n 3, 1) := by decide +kernel
theorem d_Md_exp_29 : decode jMd_exp.cc 29 = .ok (.iastore, 1) := by decide +kernel
theorem d_Md_exp_30 : decode jMd_exp.cc 30 = .ok (.aload_n 0, 1) := by decide +kernel
theorem d_Md_exp_31 : decode jMd_exp.cc 31 = .ok (.getfield 225, 3) := by decide +kernel
theorem d_Md_exp_34 : decode jMd_exp.cc 34 = .ok (.iload 6, 2) := by decide +kernel
theorem d_Md_exp_36 : decode jMd_exp.cc 36 = .ok (.iload 4, 2) := by decide +kernel
theorem d_Md_exp_38 : decode jMd_exp.cc 38 = .ok (.iastore, 1) := by decide +kernel
theorem d_Md_exp_39 : decode jMd_exp.cc 39 = .ok (.aload_n 0, 1) := by decide +kernel
theorem d_Md_exp_40 : decode jMd_exp.cc 40 = .ok (.getfield 228, 3) := by decide +kernel
theorem d_Md_exp_43 : decode jMd_exp.cc 43 = .ok (.iload 6, 2) := by decide +kernel
theorem d_Md_exp_45 : decode jMd_exp.cc 45 = .ok (.iload 5, 2) := by decide +kernel
theorem d_Md_exp_47 : decode jMd_exp.cc 47 = .ok (.iastore, 1) := by decide +kernel
theorem d_Md_exp_48 : decode jMd_exp.cc 48 = .ok (.aload_n 0, 1) := by decide +kernel
theorem d_Md_exp_49 : decode jMd_exp.cc 49 = .ok (.getfield 231, 3) := by decide +kernel
theorem d_Md_exp_52 : decode jMd_exp.cc 52 = .ok (.iload 6, 2) := by decide +kernel
theorem d_Md_exp_54 : decode jMd_exp.cc 54 = .ok (.bipush (-2), 2) := by decide +kernel
theorem d_Md_exp_56 : decode jMd_exp.cc 56 = .ok (.iastore, 1) := by decide +kernel
theorem d_Md_exp_57 : decode jMd_exp.cc 57 = .ok (.aload_n 0, 1) := by decide +kernel
theorem d_Md_exp_58 : decode jMd_exp.cc 58 = .ok (.getfield 234, 3) := by decide +kernel
theorem d_Md_exp_61 : decode jMd_exp.cc 61 = .ok (.iload 6, 2) := by decide +kernel
theorem d_Md_exp_63 : decode jMd_exp.cc 63 = .ok (.bipush (-2), 2) := by decide +kernel
theorem d_Md_exp_65 : decode jMd_exp.cc 65 = .ok (.iastore, 1) := by decide +kernel
theorem d_Md_exp_66 : decode jMd_exp.cc 66 = .ok (.aload_n 0, 1) := by decide +kernel
theorem d_Md_exp_67 : decode jMd_exp.cc 67 = .ok (.getfield 237, 3) := by decide +kernel
theorem d_Md_exp_70 : decode jMd_exp.cc 70 = .ok (.iload 6, 2) := by decide +kernel
theorem d_Md_exp_72 : decode jMd_exp.cc 72 = .ok (.bipush (-2), 2) := by decide +kernel
theorem d_Md_exp_74 : decode jMd_exp.cc 74 = .ok (.iastore, 1) := by decide +kernel
theorem d_Md_exp_75 : decode jMd_exp.cc 75 = .ok (.aload_n 0, 1) := by decide +kernel
theorem d_Md_exp_76 : decode jMd_exp.cc 76 = .ok (.dup, 1) := by decide +kernel
theorem d_Md_exp_77 : decode jMd_exp.cc 77 = .ok (.getfield 381, 3) := by decide +kernel
theorem d_Md_exp_80 : decode jMd_exp.cc 80 = .ok (.iconst 1, 1) := by decide +kernel
theorem d_Md_exp_81 : decode jMd_exp.cc 81 = .ok (.iadd, 1) := by decide +kernel
theorem d_Md_exp_82 : decode jMd_exp.cc 82 = .ok (.putfield 381, 3) := by decide +kernel
theorem d_Md_exp_85 : decode jMd_exp.cc 85 = .ok (.iload 6, 2) := by decide +kernel
theorem d_Md_exp_87 : decode jMd_exp.cc 87 = .ok (.ireturn, 1) := by decide +kernel
set_option maxHeartbeats 4000000 in
theorem s_Md_exp {g : Mg} {d : Nat} {K : Ou → Wd → Prop} {w : Wd} {p1 : Int} {p2 : Int} {p3 : Int} {p4 : Int} {p5 : Int} (h : (0 ≤ (w 0 40) ∧ (w 0 40) < 2000) ∧ ((0 ≤ (w 0 40) ∧ (w 0 40) < 2000) ∧ ((0 ≤ (w 0 40) ∧ (w 0 40) < 2000) ∧ ((0 ≤ (w 0 40) ∧ (w 0 40) < 2000) ∧ ((0 ≤ (w 0 40) ∧ (w 0 40) < 2000) ∧ ((0 ≤ (w 0 40) ∧ (w 0 40) < 2000) ∧ ((0 ≤ (w 0 40) ∧ (w 0 40) < 2000) ∧ ((0 ≤ (w 0 40) ∧ (w 0 40) < 2000) ∧ (K (.inl (some (vI (w 0 40)))) (up (up (up (up (up (up (up (up (up w 26 ((w 0 40).toNat) p1) 27 ((w 0 40).toNat) p2) 28 ((w 0 40).toNat) p3) 29 ((w 0 40).toNat) p4) 30 ((w 0 40).toNat) p5) 31 ((w 0 40).toNat) (-2)) 32 ((w 0 40).toNat) (-2)) 33 ((w 0 40).toNat) (-2)) 0 40 (wr ((w 0 40) + 1)))))))))))) : V g LM jMd_exp d K 0 [(0, vA 0), (1, vI p1), (2, vI p2), (3, vI p3), (4, vI p4), (5, vI p5)] [] w := by
  refine v_aload_n (pc := 0) d_Md_exp_0 rfl (.head _) ?_
  refine v_geti (pc := 1) (x := (w 0 40)) d_Md_exp_1 fl_Md_381 cM_0.1 cM_0.2 (Or.inl rfl) rfl ?_
  refine v_istore (pc := 4) (ls' := [(6, vI (w 0 40)), (0, vA 0), (1, vI p1), (2, vI p2), (3, vI p3), (4, vI p4), (5, vI p5)]) d_Md_exp_4 (by decide) rfl ?_
  refine v_aload_n (pc := 6) d_Md_exp_6 rfl (.tail _ (.head _)) ?_
  refine v_getr (C := "") (pc := 7) (r := 26) d_Md_exp_7 fl_Md_216 cM_0.1 cM_0.2 (Or.inr ⟨_, rfl⟩) rM_0_32 ?_
  refine v_iload (pc := 10) d_Md_exp_10 (.head _) ?_
  refine v_iload_n (pc := 12) d_Md_exp_12 rfl (.tail _ (.tail _ (.head _))) ?_
  refine v_iast (pc := 13) d_Md_exp_13 cM_26.1 cM_26.2 (aM_26 _) h.1 ?_
  replace h := h.2
  refine v_aload_n (pc := 14) d_Md_exp_14 rfl (.tail _ (.head _)) ?_
  refine v_getr (C := "") (pc := 15) (r := 27) d_Md_exp_15 fl_Md_219 cM_0.1 cM_0.2 (Or.inr ⟨_, rfl⟩) rM_0_33 ?_
  refine v_iload (pc := 18) d_Md_exp_18 (.head _) ?_
  refine v_iload_n (pc := 20) d_Md_exp_20 rfl (.tail _ (.tail _ (.tail _ (.head _)))) ?_
  refine v_iast (pc := 21) d_Md_exp_21 cM_27.1 cM_27.2 (aM_27 _) h.1 ?_
  replace h := h.2
  refine v_aload_n (pc := 22) d_Md_exp_22 rfl (.tail _ (.head _)) ?_
  refine v_getr (C := "") (pc := 23) (r := 28) d_Md_exp_23 fl_Md_222 cM_0.1 cM_0.2 (Or.inr ⟨_, rfl⟩) rM_0_34 ?_
  refine v_iload (pc := 26) d_Md_exp_26 (.head _) ?_
  refine v_iload_n (pc := 28) d_Md_exp_28 rfl (.tail _ (.tail _ (.tail _ (.tail _ (.head _))))) ?_
  refine v_iast (pc := 29) d_Md_exp_29 cM_28.1 cM_28.2 (aM_28 _) h.1 ?_
  replace h := h.2
  refine v_aload_n (pc := 30) d_Md_exp_30 rfl (.tail _ (.head _)) ?_
  refine v_getr (C := "") (pc := 31) (r := 29) d_Md_exp_31 fl_Md_225 cM_0.1 cM_0.2 (Or.inr ⟨_, rfl⟩) rM_0_35 ?_
  refine v_iload (pc := 34) d_Md_exp_34 (.head _) ?_
  refine v_iload (pc := 36) d_Md_exp_36 (.tail _ (.tail _ (.tail _ (.tail _ (.tail _ (.head _)))))) ?_
  refine v_iast (pc := 38) d_Md_exp_38 cM_29.1 cM_29.2 (aM_29 _) h.1 ?_
  replace h := h.2
  refine v_aload_n (pc := 39) d_Md_exp_39 rfl (.tail _ (.head _)) ?_
  refine v_getr (C := "") (pc := 40) (r := 30) d_Md_exp_40 fl_Md_228 cM_0.1 cM_0.2 (Or.inr ⟨_, rfl⟩) rM_0_36 ?_
  refine v_iload (pc := 43) d_Md_exp_43 (.head _) ?_
  refine v_iload (pc := 45) d_Md_exp_45 (.tail _ (.tail _ (.tail _ (.tail _ (.tail _ (.tail _ (.head _))))))) ?_
  refine v_iast (pc := 47) d_Md_exp_47 cM_30.1 cM_30.2 (aM_30 _) h.1 ?_
  replace h := h.2
  refine v_aload_n (pc := 48) d_Md_exp_48 rfl (.tail _ (.head _)) ?_
  refine v_getr (C := "") (pc := 49) (r := 31) d_Md_exp_49 fl_Md_231 cM_0.1 cM_0.2 (Or.inr ⟨_, rfl⟩) rM_0_37 ?_
  refine v_iload (pc := 52) d_Md_exp_52 (.head _) ?_
  refine v_bipush (pc := 54) d_Md_exp_54 (by decide) rfl ?_
  refine v_iast (pc := 56) d_Md_exp_56 cM_31.1 cM_31.2 (aM_31 _) h.1 ?_
  replace h := h.2
  refine v_aload_n (pc := 57) d_Md_exp_57 rfl (.tail _ (.head _)) ?_
  refine v_getr (C := "") (pc := 58) (r := 32) d_Md_exp_58 fl_Md_234 cM_0.1 cM_0.2 (Or.inr ⟨_, rfl⟩) rM_0_38 ?_
  refine v_iload (pc := 61) d_Md_exp_61 (.head _) ?_
  refine v_bipush (pc := 63) d_Md_exp_63 (by decide) rfl ?_
  refine v_iast (pc := 65) d_Md_exp_65 cM_32.1 cM_32.2 (aM_32 _) h.1 ?_
  replace h := h.2
  refine v_aload_n (pc := 66) d_Md_exp_66 rfl (.tail _ (.head _)) ?_
  refine v_getr (C := "") (pc := 67) (r := 33) d_Md_exp_67 fl_Md_237 cM_0.1 cM_0.2 (Or.inr ⟨_, rfl⟩) rM_0_39 ?_
  refine v_iload (pc := 70) d_Md_exp_70 (.head _) ?_
  refine v_bipush (pc := 72) d_Md_exp_72 (by decide) rfl ?_
  refine v_iast (pc := 74) d_Md_exp_74 cM_33.1 cM_33.2 (aM_33 _) h.1 ?_
  replace h := h.2
  refine v_aload_n (pc := 75) d_Md_exp_75 rfl (.tail _ (.head _)) ?_
  refine v_dup (pc := 76) d_Md_exp_76 rfl ?_
  refine v_geti (pc := 77) (x := (w 0 40)) d_Md_exp_77 fl_Md_381 cM_0.1 cM_0.2 (Or.inl rfl) rfl ?_
  refine v_iconst (pc := 80) d_Md_exp_80 (by decide) ?_
  refine v_iadd (pc := 81) d_Md_exp_81 ?_
  refine v_puti (pc := 82) d_Md_exp_82 fp_Md_381 cM_0.1 cM_0.2 (by decide) rfl ?_
  refine v_iload (pc := 85) d_Md_exp_85 (.head _) ?_
  exact v_iret (pc := 87) d_Md_exp_87 rfl h
