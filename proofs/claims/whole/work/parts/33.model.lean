theorem d_Md_show_0 : decode jMd_show.cc 0 = .ok (.aload_n 0, 1) := by decide +kernel
theorem d_Md_show_1 : decode jMd_show.cc 1 = .ok (.getfield 525, 3) := by decide +kernel
theorem d_Md_show_4 : decode jMd_show.cc 4 = .ok (.ifCond .le 24, 3) := by decide +kernel
theorem d_Md_show_7 : decode jMd_show.cc 7 = .ok (.aload_n 0, 1) := by decide +kernel
theorem d_Md_show_8 : decode jMd_show.cc 8 = .ok (.getfield 255, 3) := by decide +kernel
theorem d_Md_show_11 : decode jMd_show.cc 11 = .ok (.aload_n 0, 1) := by decide +kernel
theorem d_Md_show_12 : decode jMd_show.cc 12 = .ok (.getfield 525, 3) := by decide +kernel
theorem d_Md_show_15 : decode jMd_show.cc 15 = .ok (.bipush 32, 2) := by decide +kernel
theorem d_Md_show_17 : decode jMd_show.cc 17 = .ok (.bastore, 1) := by decide +kernel
theorem d_Md_show_18 : decode jMd_show.cc 18 = .ok (.aload_n 0, 1) := by decide +kernel
theorem d_Md_show_19 : decode jMd_show.cc 19 = .ok (.dup, 1) := by decide +kernel
theorem d_Md_show_20 : decode jMd_show.cc 20 = .ok (.getfield 525, 3) := by decide +kernel
theorem d_Md_show_23 : decode jMd_show.cc 23 = .ok (.iconst 1, 1) := by decide +kernel
theorem d_Md_show_24 : decode jMd_show.cc 24 = .ok (.iadd, 1) := by decide +kernel
theorem d_Md_show_25 : decode jMd_show.cc 25 = .ok (.putfield 525, 3) := by decide +kernel
theorem d_Md_show_28 : decode jMd_show.cc 28 = .ok (.iconst 0, 1) := by decide +kernel
theorem d_Md_show_29 : decode jMd_show.cc 29 = .ok (.istore_n 2, 1) := by decide +kernel
theorem d_Md_show_30 : decode jMd_show.cc 30 = .ok (.iload_n 2, 1) := by decide +kernel
theorem d_Md_show_31 : decode jMd_show.cc 31 = .ok (.aload_n 0, 1) := by decide +kernel
theorem d_Md_show_32 : decode jMd_show.cc 32 = .ok (.getfield 40, 3) := by decide +kernel
theorem d_Md_show_35 : decode jMd_show.cc 35 = .ok (.iload_n 1, 1) := by decide +kernel
theorem d_Md_show_36 : decode jMd_show.cc 36 = .ok (.iaload, 1) := by decide +kernel
theorem d_Md_show_37 : decode jMd_show.cc 37 = .ok (.if_icmp .ge 41, 3) := by decide +kernel
theorem d_Md_show_40 : decode jMd_show.cc 40 = .ok (.aload_n 0, 1) := by decide +kernel
theorem d_Md_show_41 : decode jMd_show.cc 41 = .ok (.getfield 255, 3) := by decide +kernel
theorem d_Md_show_44 : decode jMd_show.cc 44 = .ok (.aload_n 0, 1) := by decide +kernel
theorem d_Md_show_45 : decode jMd_show.cc 45 = .ok (.getfield 525, 3) := by decide +kernel
theorem d_Md_show_48 : decode jMd_show.cc 48 = .ok (.aload_n 0, 1) := by decide +kernel
theorem d_Md_show_49 : decode jMd_show.cc 49 = .ok (.getfield 30, 3) := by decide +kernel
theorem d_Md_show_52 : decode jMd_show.cc 52 = .ok (.aload_n 0, 1) := by decide +kernel
theorem d_Md_show_53 : decode jMd_show.cc 53 = .ok (.getfield 37, 3) := by decide +kernel
theorem d_Md_show_56 : decode jMd_show.cc 56 = .ok (.iload_n 1, 1) := by decide +kernel
theorem d_Md_show_57 : decode jMd_show.cc 57 = .ok (.iaload, 1) := by decide +kernel
theorem d_Md_show_58 : decode jMd_show.cc 58 = .ok (.iload_n 2, 1) := by decide +kernel
theorem d_Md_show_59 : decode jMd_show.cc 59 = .ok (.iadd, 1) := by decide +kernel
theorem d_Md_show_60 : decode jMd_show.cc 60 = .ok (.baload, 1) := by decide +kernel
theorem d_Md_show_61 : decode jMd_show.cc 61 = .ok (.bastore, 1) := by decide +kernel
theorem d_Md_show_62 : decode jMd_show.cc 62 = .ok (.aload_n 0, 1) := by decide +kernel
theorem d_Md_show_63 : decode jMd_show.cc 63 = .ok (.dup, 1) := by decide +kernel
theorem d_Md_show_64 : decode jMd_show.cc 64 = .ok (.getfield 525, 3) := by decide +kernel
theorem d_Md_show_67 : decode jMd_show.cc 67 = .ok (.iconst 1, 1) := by decide +kernel
theorem d_Md_show_68 : decode jMd_show.cc 68 = .ok (.iadd, 1) := by decide +kernel
theorem d_Md_show_69 : decode jMd_show.cc 69 = .ok (.putfield 525, 3) := by decide +kernel
theorem d_Md_show_72 : decode jMd_show.cc 72 = .ok (.iinc 2 1, 3) := by decide +kernel
theorem d_Md_show_75 : decode jMd_show.cc 75 = .ok (.goto (-45), 3) := by decide +kernel
theorem d_Md_show_78 : decode jMd_show.cc 78 = .ok (.return_, 1) := by decide +kernel
set_option maxHeartbeats 4000000 in
theorem s_Md_show {g : Mg} {d : Nat} {K : Ou → Wd → Prop} {w : Wd} {p1 : Int} (h : ((w 0 58) ≤ 0 → (V g LM jMd_show d K 30 [(0, vA 0), (1, vI p1), (2, vI 0)] [] w)) ∧ (¬ (w 0 58) ≤ 0 → ((0 ≤ (w 0 58) ∧ (w 0 58) < 12000) ∧ (V g LM jMd_show d K 30 [(0, vA 0), (1, vI p1), (2, vI 0)] [] (up (up w 37 ((w 0 58).toNat) (i2bF 32)) 0 58 (wr ((w 0 58) + 1))))))) : V g LM jMd_show d K 0 [(0, vA 0), (1, vI p1)] [] w := by
  refine v_aload_n (pc := 0) d_Md_show_0 rfl (.head _) ?_
  refine v_geti (pc := 1) (x := (w 0 58)) d_Md_show_1 fl_Md_525 cM_0.1 cM_0.2 (Or.inl rfl) rfl ?_
  refine v_ifle (pc := 4) (tgt := 28) d_Md_show_4 (by decide) (fun c => ?_) (fun c => ?_)
  · replace h := h.1 c
    refine v_iconst (pc := 28) d_Md_show_28 (by decide) ?_
    refine v_istore_n (pc := 29) (ls' := [(2, vI 0), (0, vA 0), (1, vI p1)]) d_Md_show_29 rfl (by decide) rfl ?_
    exact v_sub (List.forall_mem_cons.mpr ⟨(.tail _ (.head _)), (List.forall_mem_cons.mpr ⟨(.tail _ (.tail _ (.head _))), (List.forall_mem_cons.mpr ⟨(.head _), (fun _ z => absurd z List.not_mem_nil)⟩)⟩)⟩) h
  · replace h := h.2 c
    refine v_aload_n (pc := 7) d_Md_show_7 rfl (.head _) ?_
    refine v_getr (C := "") (pc := 8) (r := 37) d_Md_show_8 fl_Md_255 cM_0.1 cM_0.2 (Or.inr ⟨_, rfl⟩) rM_0_57 ?_
    refine v_aload_n (pc := 11) d_Md_show_11 rfl (.head _) ?_
    refine v_geti (pc := 12) (x := (w 0 58)) d_Md_show_12 fl_Md_525 cM_0.1 cM_0.2 (Or.inl rfl) rfl ?_
    refine v_bipush (pc := 15) d_Md_show_15 (by decide) rfl ?_
    refine v_bast (pc := 17) d_Md_show_17 cM_37.1 cM_37.2 (aM_37 _) h.1 ?_
    replace h := h.2
    refine v_aload_n (pc := 18) d_Md_show_18 rfl (.head _) ?_
    refine v_dup (pc := 19) d_Md_show_19 rfl ?_
    refine v_geti (pc := 20) (x := (w 0 58)) d_Md_show_20 fl_Md_525 cM_0.1 cM_0.2 (Or.inl rfl) rfl ?_
    refine v_iconst (pc := 23) d_Md_show_23 (by decide) ?_
    refine v_iadd (pc := 24) d_Md_show_24 ?_
    refine v_puti (pc := 25) d_Md_show_25 fp_Md_525 cM_0.1 cM_0.2 (by decide) rfl ?_
    refine v_iconst (pc := 28) d_Md_show_28 (by decide) ?_
    refine v_istore_n (pc := 29) (ls' := [(2, vI 0), (0, vA 0), (1, vI p1)]) d_Md_show_29 rfl (by decide) rfl ?_
    exact v_sub (List.forall_mem_cons.mpr ⟨(.tail _ (.head _)), (List.forall_mem_cons.mpr ⟨(.tail _ (.tail _ (.head _))), (List.forall_mem_cons.mpr ⟨(.head _), (fun _ z => absurd z List.not_mem_nil)⟩)⟩)⟩) h
set_option maxHeartbeats 4000000 in
theorem s_Md_show_30 {g : Mg} {d : Nat} {K : Ou → Wd → Prop} {w : Wd} {x1_ : Int} {x2_ : Int} (h : (0 ≤ x1_ ∧ x1_ < 4022) ∧ (((w 6 x1_.toNat) ≤ x2_ → (K (.inl none) w)) ∧ (¬ (w 6 x1_.toNat) ≤ x2_ → ((0 ≤ x1_ ∧ x1_ < 4022) ∧ ((0 ≤ (wr ((w 5 x1_.toNat) + x2_)) ∧ (wr ((w 5 x1_.toNat) + x2_)) < 4020) ∧ ((0 ≤ (w 0 58) ∧ (w 0 58) < 12000) ∧ (V g LM jMd_show d K 30 [(0, vA 0), (1, vI x1_), (2, vI (wr (x2_ + 1)))] [] (up (up w 37 ((w 0 58).toNat) (i2bF (w 3 ((wr ((w 5 x1_.toNat) + x2_)).toNat)))) 0 58 (wr ((w 0 58) + 1)))))))))) : V g LM jMd_show d K 30 [(0, vA 0), (1, vI x1_), (2, vI x2_)] [] w := by
  refine v_iload_n (pc := 30) d_Md_show_30 rfl (.tail _ (.tail _ (.head _))) ?_
  refine v_aload_n (pc := 31) d_Md_show_31 rfl (.head _) ?_
  refine v_getr (C := "") (pc := 32) (r := 6) d_Md_show_32 fl_Md_40 cM_0.1 cM_0.2 (Or.inr ⟨_, rfl⟩) rM_0_8 ?_
  refine v_iload_n (pc := 35) d_Md_show_35 rfl (.tail _ (.head _)) ?_
  refine v_iald (pc := 36) (x := (w 6 x1_.toNat)) d_Md_show_36 cM_6.1 cM_6.2 rfl h.1 ?_
  replace h := h.2
  refine v_icmpge (pc := 37) (tgt := 78) d_Md_show_37 (by decide) (fun c => ?_) (fun c => ?_)
  · replace h := h.1 c
    exact v_vret (pc := 78) d_Md_show_78 rfl h
  · replace h := h.2 c
    refine v_aload_n (pc := 40) d_Md_show_40 rfl (.head _) ?_
    refine v_getr (C := "") (pc := 41) (r := 37) d_Md_show_41 fl_Md_255 cM_0.1 cM_0.2 (Or.inr ⟨_, rfl⟩) rM_0_57 ?_
    refine v_aload_n (pc := 44) d_Md_show_44 rfl (.head _) ?_
    refine v_geti (pc := 45) (x := (w 0 58)) d_Md_show_45 fl_Md_525 cM_0.1 cM_0.2 (Or.inl rfl) rfl ?_
    refine v_aload_n (pc := 48) d_Md_show_48 rfl (.head _) ?_
    refine v_getr (C := "") (pc := 49) (r := 3) d_Md_show_49 fl_Md_30 cM_0.1 cM_0.2 (Or.inr ⟨_, rfl⟩) rM_0_4 ?_
    refine v_aload_n (pc := 52) d_Md_show_52 rfl (.head _) ?_
    refine v_getr (C := "") (pc := 53) (r := 5) d_Md_show_53 fl_Md_37 cM_0.1 cM_0.2 (Or.inr ⟨_, rfl⟩) rM_0_7 ?_
    refine v_iload_n (pc := 56) d_Md_show_56 rfl (.tail _ (.head _)) ?_
    refine v_iald (pc := 57) (x := (w 5 x1_.toNat)) d_Md_show_57 cM_5.1 cM_5.2 rfl h.1 ?_
    replace h := h.2
    refine v_iload_n (pc := 58) d_Md_show_58 rfl (.tail _ (.tail _ (.head _))) ?_
    refine v_iadd (pc := 59) d_Md_show_59 ?_
    refine v_bald (pc := 60) (x := (w 3 ((wr ((w 5 x1_.toNat) + x2_)).toNat))) d_Md_show_60 cM_3.1 cM_3.2 rfl h.1 ?_
    replace h := h.2
    refine v_bast (pc := 61) d_Md_show_61 cM_37.1 cM_37.2 (aM_37 _) h.1 ?_
    replace h := h.2
    refine v_aload_n (pc := 62) d_Md_show_62 rfl (.head _) ?_
    refine v_dup (pc := 63) d_Md_show_63 rfl ?_
    refine v_geti (pc := 64) (x := (w 0 58)) d_Md_show_64 fl_Md_525 cM_0.1 cM_0.2 (Or.inl rfl) rfl ?_
    refine v_iconst (pc := 67) d_Md_show_67 (by decide) ?_
    refine v_iadd (pc := 68) d_Md_show_68 ?_
    refine v_puti (pc := 69) d_Md_show_69 fp_Md_525 cM_0.1 cM_0.2 (by decide) rfl ?_
    refine v_iinc (pc := 72) (ls' := [(2, vI (wr (x2_ + 1))), (0, vA 0), (1, vI x1_)]) d_Md_show_72 (.tail _ (.tail _ (.head _))) (by decide) rfl ?_
    refine v_goto (pc := 75) (tgt := 30) d_Md_show_75 (by decide) ?_
    exact v_sub (List.forall_mem_cons.mpr ⟨(.tail _ (.head _)), (List.forall_mem_cons.mpr ⟨(.tail _ (.tail _ (.head _))), (List.forall_mem_cons.mpr ⟨(.head _), (fun _ z => absurd z List.not_mem_nil)⟩)⟩)⟩) h
theorem d_Md_showText_0 : decode jMd_showText.cc 0 = .ok (.aload_n 0, 1) := by decide +kernel
theorem d_Md_showText_1 : decode jMd_showText.cc 1 = .ok (.getfield 525, 3) := by decide +kernel
theorem d_Md_showText_4 : decode jMd_showText.cc 4 = .ok (.ifCond .le 24, 3) := by decide +kernel
theorem d_Md_showText_7 : decode jMd_showText.cc 7 = .ok (.aload_n 0, 1) := by decide +kernel
theorem d_Md_showText_8 : decode jMd_showText.cc 8 = .ok (.getfield 255, 3) := by decide +kernel
theorem d_Md_showText_11 : decode jMd_showText.cc 11 = .ok (.aload_n 0, 1) := by decide +kernel
theorem d_Md_showText_12 : decode jMd_showText.cc 12 = .ok (.getfield 525, 3) := by decide +kernel
theorem d_Md_showText_15 : decode jMd_showText.cc 15 = .ok (.bipush 32, 2) := by decide +kernel
theorem d_Md_showText_17 : decode jMd_showText.cc 17 = .ok (.bastore, 1) := by decide +kernel
theorem d_Md_showText_18 : decode jMd_showText.cc 18 = .ok (.aload_n 0, 1) := by decide +kernel
theorem d_Md_showText_19 : decode jMd_showText.cc 19 = .ok (.dup, 1) := by decide +kernel
theorem d_Md_showText_20 : decode jMd_showText.cc 20 = .ok (.getfield 525, 3) := by decide +kernel
theorem d_Md_showText_23 : decode jMd_showText.cc 23 = .ok (.iconst 1, 1) := by decide +kernel
theorem d_Md_showText_24 : decode jMd_showText.cc 24 = .ok (.iadd, 1) := by decide +kernel
theorem d_Md_showText_25 : decode jMd_showText.cc 25 = .ok (.putfield 525, 3) := by decide +kernel
theorem d_Md_showText_28 : decode jMd_showText.cc 28 = .ok (.iconst 0, 1) := by decide +kernel
theorem d_Md_showText_29 : decode jMd_showText.cc 29 = .ok (.istore_n 2, 1) := by decide +kernel
theorem d_Md_showText_30 : decode jMd_showText.cc 30 = .ok (.iload_n 2, 1) := by decide +kernel
theorem d_Md_showText_31 : decode jMd_showText.cc 31 = .ok (.aload_n 1, 1) := by decide +kernel
theorem d_Md_showText_32 : decode jMd_showText.cc 32 = .ok (.invokevirtual 328, 3) := by decide +kernel
theorem d_Md_showText_35 : decode jMd_showText.cc 35 = .ok (.if_icmp .ge 34, 3) := by decide +kernel
theorem d_Md_showText_38 : decode jMd_showText.cc 38 = .ok (.aload_n 0, 1) := by decide +kernel
theorem d_Md_showText_39 : decode jMd_showText.cc 39 = .ok (.getfield 255, 3) := by decide +kernel
theorem d_Md_showText_42 : decode jMd_showText.cc 42 = .ok (.aload_n 0, 1) := by decide +kernel
theorem d_Md_showText_43 : decode jMd_showText.cc 43 = .ok (.getfield 525, 3) := by decide +kernel
theorem d_Md_showText_46 : decode jMd_showText.cc 46 = .ok (.aload_n 1, 1) := by decide +kernel
theorem d_Md_showText_47 : decode jMd_showText.cc 47 = .ok (.iload_n 2, 1) := by decide +kernel
theorem d_Md_showText_48 : decode jMd_showText.cc 48 = .ok (.invokevirtual 332, 3) := by decide +kernel
theorem d_Md_showText_51 : decode jMd_showText.cc 51 = .ok (.i2b, 1) := by decide +kernel
theorem d_Md_showText_52 : decode jMd_showText.cc 52 = .ok (.bastore, 1) := by decide +kernel
theorem d_Md_showText_53 : decode jMd_showText.cc 53 = .ok (.aload_n 0, 1) := by decide +kernel
theorem d_Md_showText_54 : decode jMd_showText.cc 54 = .ok (.dup, 1) := by decide +kernel
theorem d_Md_showText_55 : decode jMd_showText.cc 55 = .ok (.getfield 525, 3) := by decide +kernel
theorem d_Md_showText_58 : decode jMd_showText.cc 58 = .ok (.iconst 1, 1) := by decide +kernel
theorem d_Md_showText_59 : decode jMd_showText.cc 59 = .ok (.iadd, 1) := by decide +kernel
theorem d_Md_showText_60 : decode jMd_showText.cc 60 = .ok (.putfield 525, 3) := by decide +kernel
theorem d_Md_showText_63 : decode jMd_showText.cc 63 = .ok (.iinc 2 1, 3) := by decide +kernel
theorem d_Md_showText_66 : decode jMd_showText.cc 66 = .ok (.goto (-36), 3) := by decide +kernel
theorem d_Md_showText_69 : decode jMd_showText.cc 69 = .ok (.return_, 1) := by decide +kernel
set_option maxHeartbeats 4000000 in
theorem s_Md_showText {g : Mg} {d : Nat} {K : Ou → Wd → Prop} {w : Wd} {p1 : Nat} (h : ((w 0 58) ≤ 0 → (V g LM jMd_showText (d + 1) K 30 [(0, vA 0), (1, vA p1), (2, vI 0)] [] w)) ∧ (¬ (w 0 58) ≤ 0 → ((0 ≤ (w 0 58) ∧ (w 0 58) < 12000) ∧ (V g LM jMd_showText (d + 1) K 30 [(0, vA 0), (1, vA p1), (2, vI 0)] [] (up (up w 37 ((w 0 58).toNat) (i2bF 32)) 0 58 (wr ((w 0 58) + 1))))))) : V g LM jMd_showText (d + 1) K 0 [(0, vA 0), (1, vA p1)] [] w := by
  refine v_aload_n (pc := 0) d_Md_showText_0 rfl (.head _) ?_
  refine v_geti (pc := 1) (x := (w 0 58)) d_Md_showText_1 fl_Md_525 cM_0.1 cM_0.2 (Or.inl rfl) rfl ?_
  refine v_ifle (pc := 4) (tgt := 28) d_Md_showText_4 (by decide) (fun c => ?_) (fun c => ?_)
  · replace h := h.1 c
    refine v_iconst (pc := 28) d_Md_showText_28 (by decide) ?_
    refine v_istore_n (pc := 29) (ls' := [(2, vI 0), (0, vA 0), (1, vA p1)]) d_Md_showText_29 rfl (by decide) rfl ?_
    exact v_sub (List.forall_mem_cons.mpr ⟨(.tail _ (.head _)), (List.forall_mem_cons.mpr ⟨(.tail _ (.tail _ (.head _))), (List.forall_mem_cons.mpr ⟨(.head _), (fun _ z => absurd z List.not_mem_nil)⟩)⟩)⟩) h
  · replace h := h.2 c
    refine v_aload_n (pc := 7) d_Md_showText_7 rfl (.head _) ?_
    refine v_getr (C := "") (pc := 8) (r := 37) d_Md_showText_8 fl_Md_255 cM_0.1 cM_0.2 (Or.inr ⟨_, rfl⟩) rM_0_57 ?_
    refine v_aload_n (pc := 11) d_Md_showText_11 rfl (.head _) ?_
    refine v_geti (pc := 12) (x := (w 0 58)) d_Md_showText_12 fl_Md_525 cM_0.1 cM_0.2 (Or.inl rfl) rfl ?_
    refine v_bipush (pc := 15) d_Md_showText_15 (by decide) rfl ?_
    refine v_bast (pc := 17) d_Md_showText_17 cM_37.1 cM_37.2 (aM_37 _) h.1 ?_
    replace h := h.2
    refine v_aload_n (pc := 18) d_Md_showText_18 rfl (.head _) ?_
    refine v_dup (pc := 19) d_Md_showText_19 rfl ?_
    refine v_geti (pc := 20) (x := (w 0 58)) d_Md_showText_20 fl_Md_525 cM_0.1 cM_0.2 (Or.inl rfl) rfl ?_
    refine v_iconst (pc := 23) d_Md_showText_23 (by decide) ?_
    refine v_iadd (pc := 24) d_Md_showText_24 ?_
    refine v_puti (pc := 25) d_Md_showText_25 fp_Md_525 cM_0.1 cM_0.2 (by decide) rfl ?_
    refine v_iconst (pc := 28) d_Md_showText_28 (by decide) ?_
    refine v_istore_n (pc := 29) (ls' := [(2, vI 0), (0, vA 0), (1, vA p1)]) d_Md_showText_29 rfl (by decide) rfl ?_
    exact v_sub (List.forall_mem_cons.mpr ⟨(.tail _ (.head _)), (List.forall_mem_cons.mpr ⟨(.tail _ (.tail _ (.head _))), (List.forall_mem_cons.mpr ⟨(.head _), (fun _ z => absurd z List.not_mem_nil)⟩)⟩)⟩) h
set_option maxHeartbeats 4000000 in
theorem s_Md_showText_30 {g : Mg} {d : Nat} {K : Ou → Wd → Prop} {w : Wd} {a1 : Nat} {x2_ : Int} (h : (1001 ≤ a1 ∧ a1 < 1060) ∧ Cal g LM jSg_length d [vA a1] w (fun o w1 => rI o (fun x2 => (x2 ≤ x2_ → (K (.inl none) w1)) ∧ (¬ x2 ≤ x2_ → ((1001 ≤ a1 ∧ a1 < 1060) ∧ Cal g LM jSg_charAt d [vA a1, vI x2_] w1 (fun o w3 => rI o (fun x4 => (0 ≤ (w1 0 58) ∧ (w1 0 58) < 12000) ∧ (V g LM jMd_showText (d + 1) K 30 [(0, vA 0), (1, vA a1), (2, vI (wr (x2_ + 1)))] [] (up (up w3 37 ((w1 0 58).toNat) (i2bF (i2bF x4))) 0 58 (wr ((w3 0 58) + 1))))))))))) : V g LM jMd_showText (d + 1) K 30 [(0, vA 0), (1, vA a1), (2, vI x2_)] [] w := by
  refine v_iload_n (pc := 30) d_Md_showText_30 rfl (.tail _ (.tail _ (.head _))) ?_
  refine v_aload_n (pc := 31) d_Md_showText_31 rfl (.tail _ (.head _)) ?_
  refine v_callG (pc := 32) (J' := jSg_length) (d' := d) (o := a1) (As := []) d_Md_showText_32 ml_Md_328 rfl h.1 rfl (Nat.le_of_ble_eq_true rfl) (Nat.le_refl _) rfl (Cal.weak h.2 (fun o w1 h => ?_))
  rcases rI_of h with ⟨x2, rfl, h⟩
  refine v_icmpge (pc := 35) (tgt := 69) d_Md_showText_35 (by decide) (fun c => ?_) (fun c => ?_)
  · replace h := h.1 c
    exact v_vret (pc := 69) d_Md_showText_69 rfl h
  · replace h := h.2 c
    refine v_aload_n (pc := 38) d_Md_showText_38 rfl (.head _) ?_
    refine v_getr (C := "") (pc := 39) (r := 37) d_Md_showText_39 fl_Md_255 cM_0.1 cM_0.2 (Or.inr ⟨_, rfl⟩) rM_0_57 ?_
    refine v_aload_n (pc := 42) d_Md_showText_42 rfl (.head _) ?_
    refine v_geti (pc := 43) (x := (w1 0 58)) d_Md_showText_43 fl_Md_525 cM_0.1 cM_0.2 (Or.inl rfl) rfl ?_
    refine v_aload_n (pc := 46) d_Md_showText_46 rfl (.tail _ (.head _)) ?_
    refine v_iload_n (pc := 47) d_Md_showText_47 rfl (.tail _ (.tail _ (.head _))) ?_
    refine v_callG (pc := 48) (J' := jSg_charAt) (d' := d) (o := a1) (As := [vI x2_]) d_Md_showText_48 ml_Md_332 rfl h.1 rfl (Nat.le_of_ble_eq_true rfl) (Nat.le_refl _) rfl (Cal.weak h.2 (fun o w3 h => ?_))
    rcases rI_of h with ⟨x4, rfl, h⟩
    refine v_i2b (pc := 51) d_Md_showText_51 ?_
    refine v_bast (pc := 52) d_Md_showText_52 cM_37.1 cM_37.2 (aM_37 _) h.1 ?_
    replace h := h.2
    refine v_aload_n (pc := 53) d_Md_showText_53 rfl (.head _) ?_
    refine v_dup (pc := 54) d_Md_showText_54 rfl ?_
    refine v_geti (pc := 55) (x := (w3 0 58)) d_Md_showText_55 fl_Md_525 cM_0.1 cM_0.2 (Or.inl rfl) rfl ?_
    refine v_iconst (pc := 58) d_Md_showText_58 (by decide) ?_
    refine v_iadd (pc := 59) d_Md_showText_59 ?_
    refine v_puti (pc := 60) d_Md_showText_60 fp_Md_525 cM_0.1 cM_0.2 (by decide) rfl ?_
    refine v_iinc (pc := 63) (ls' := [(2, vI (wr (x2_ + 1))), (0, vA 0), (1, vA a1)]) d_Md_showText_63 (.tail _ (.tail _ (.head _))) (by decide) rfl ?_
    refine v_goto (pc := 66) (tgt := 30) d_Md_showText_66 (by decide) ?_
    exact v_sub (List.forall_mem_cons.mpr ⟨(.tail _ (.head _)), (List.forall_mem_cons.mpr ⟨(.tail _ (.tail _ (.head _))), (List.forall_mem_cons.mpr ⟨(.head _), (fun _ z => absurd z List.not_mem_nil)⟩)⟩)⟩) h
theorem d_Md_line_0 : decode jMd_line.cc 0 = .ok (.aload_n 0, 1) := by decide +kernel
theorem d_Md_line_1 : decode jMd_line.cc 1 = .ok (.getfield 216, 3) := by decide +kernel
theorem d_Md_line_4 : decode jMd_line.cc 4 = .ok (.iload_n 1, 1) := by decide +kernel
theorem d_Md_line_5 : decode jMd_line.cc 5 = .ok (.iaload, 1) := by decide +kernel
theorem d_Md_line_6 : decode jMd_line.cc 6 = .ok (.bipush 9, 2) := by decide +kernel
theorem d_Md_line_8 : decode jMd_line.cc 8 = .ok (.if_icmp .eq 14, 3) := by decide +kernel
theorem d_Md_line_11 : decode jMd_line.cc 11 = .ok (.aload_n 0, 1) := by decide +kernel
theorem d_Md_line_12 : decode jMd_line.cc 12 = .ok (.getfield 216, 3) := by decide +kernel
theorem d_Md_line_15 : decode jMd_line.cc 15 = .ok (.iload_n 1, 1) := by decide +kernel
theorem d_Md_line_16 : decode jMd_line.cc 16 = .ok (.iaload, 1) := by decide +kernel
theorem d_Md_line_17 : decode jMd_line.cc 17 = .ok (.bipush 10, 2) := by decide +kernel
theorem d_Md_line_19 : decode jMd_line.cc 19 = .ok (.if_icmp .ne 6, 3) := by decide +kernel
theorem d_Md_line_22 : decode jMd_line.cc 22 = .ok (.bipush 6, 2) := by decide +kernel
theorem d_Md_line_24 : decode jMd_line.cc 24 = .ok (.ireturn, 1) := by decide +kernel
theorem d_Md_line_25 : decode jMd_line.cc 25 = .ok (.aload_n 0, 1) := by decide +kernel
theorem d_Md_line_26 : decode jMd_line.cc 26 = .ok (.getfield 216, 3) := by decide +kernel
theorem d_Md_line_29 : decode jMd_line.cc 29 = .ok (.iload_n 1, 1) := by decide +kernel
theorem d_Md_line_30 : decode jMd_line.cc 30 = .ok (.iaload, 1) := by decide +kernel
theorem d_Md_line_31 : decode jMd_line.cc 31 = .ok (.bipush 11, 2) := by decide +kernel
theorem d_Md_line_33 : decode jMd_line.cc 33 = .ok (.if_icmp .eq 6, 3) := by decide +kernel
theorem d_Md_line_36 : decode jMd_line.cc 36 = .ok (.bipush 7, 2) := by decide +kernel
theorem d_Md_line_38 : decode jMd_line.cc 38 = .ok (.ireturn, 1) := by decide +kernel
theorem d_Md_line_39 : decode jMd_line.cc 39 = .ok (.aload_n 0, 1) := by decide +kernel
theorem d_Md_line_40 : decode jMd_line.cc 40 = .ok (.getfield 219, 3) := by decide +kernel
theorem d_Md_line_43 : decode jMd_line.cc 43 = .ok (.iload_n 1, 1) := by decide +kernel
theorem d_Md_line_44 : decode jMd_line.cc 44 = .ok (.iaload, 1) := by decide +kernel
theorem d_Md_line_45 : decode jMd_line.cc 45 = .ok (.istore_n 2, 1) := by decide +kernel
theorem d_Md_line_46 : decode jMd_line.cc 46 = .ok (.aload_n 0, 1) := by decide +kernel
theorem d_Md_line_47 : decode jMd_line.cc 47 = .ok (.iload_n 2, 1) := by decide +kernel
theorem d_Md_line_48 : decode jMd_line.cc 48 = .ok (.ldc 152, 2) := by decide +kernel
theorem d_Md_line_50 : decode jMd_line.cc 50 = .ok (.invokevirtual 498, 3) := by decide +kernel
theorem d_Md_line_53 : decode jMd_line.cc 53 = .ok (.ifCond .ne 13, 3) := by decide +kernel
theorem d_Md_line_56 : decode jMd_line.cc 56 = .ok (.aload_n 0, 1) := by decide +kernel
theorem d_Md_line_57 : decode jMd_line.cc 57 = .ok (.iload_n 2, 1) := by decide +kernel
theorem d_Md_line_58 : decode jMd_line.cc 58 = .ok (.ldc 154, 2) := by decide +kernel
theorem d_Md_line_60 : decode jMd_line.cc 60 = .ok (.invokevirtual 498, 3) := by decide +kernel
theorem d_Md_line_63 : decode jMd_line.cc 63 = .ok (.ifCond .eq 7, 3) := by decide +kernel
theorem d_Md_line_66 : decode jMd_line.cc 66 = .ok (.iconst 1, 1) := by decide +kernel
theorem d_Md_line_67 : decode jMd_line.cc 67 = .ok (.goto 4, 3) := by decide +kernel
theorem d_Md_line_70 : decode jMd_line.cc 70 = .ok (.iconst 0, 1) := by decide +kernel
theorem d_Md_line_71 : decode jMd_line.cc 71 = .ok (.istore_n 3, 1) := by decide +kernel
theorem d_Md_line_72 : decode jMd_line.cc 72 = .ok (.aload_n 0, 1) := by decide +kernel
theorem d_Md_line_73 : decode jMd_line.cc 73 = .ok (.iload_n 2, 1) := by decide +kernel
theorem d_Md_line_74 : decode jMd_line.cc 74 = .ok (.ldc 156, 2) := by decide +kernel
theorem d_Md_line_76 : decode jMd_line.cc 76 = .ok (.invokevirtual 498, 3) := by decide +kernel
theorem d_Md_line_79 : decode jMd_line.cc 79 = .ok (.ifCond .ne 23, 3) := by decide +kernel
theorem d_Md_line_82 : decode jMd_line.cc 82 = .ok (.aload_n 0, 1) := by decide +kernel
theorem d_Md_line_83 : decode jMd_line.cc 83 = .ok (.iload_n 2, 1) := by decide +kernel
theorem d_Md_line_84 : decode jMd_line.cc 84 = .ok (.ldc 158, 2) := by decide +kernel
theorem d_Md_line_86 : decode jMd_line.cc 86 = .ok (.invokevirtual 498, 3) := by decide +kernel
theorem d_Md_line_89 : decode jMd_line.cc 89 = .ok (.ifCond .ne 13, 3) := by decide +kernel
theorem d_Md_line_92 : decode jMd_line.cc 92 = .ok (.aload_n 0, 1) := by decide +kernel
theorem d_Md_line_93 : decode jMd_line.cc 93 = .ok (.iload_n 2, 1) := by decide +kernel
theorem d_Md_line_94 : decode jMd_line.cc 94 = .ok (.ldc 160, 2) := by decide +kernel
theorem d_Md_line_96 : decode jMd_line.cc 96 = .ok (.invokevirtual 498, 3) := by decide +kernel
theorem d_Md_line_99 : decode jMd_line.cc 99 = .ok (.ifCond .eq 7, 3) := by decide +kernel
theorem d_Md_line_102 : decode jMd_line.cc 102 = .ok (.iconst 1, 1) := by decide +kernel
theorem d_Md_line_103 : decode jMd_line.cc 103 = .ok (.goto 4, 3) := by decide +kernel
theorem d_Md_line_106 : decode jMd_line.cc 106 = .ok (.iconst 0, 1) := by decide +kernel
theorem d_Md_line_107 : decode jMd_line.cc 107 = .ok (.istore 4, 2) := by decide +kernel
theorem d_Md_line_109 : decode jMd_line.cc 109 = .ok (.aload_n 0, 1) := by decide +kernel
theorem d_Md_line_110 : decode jMd_line.cc 110 = .ok (.iload_n 2, 1) := by decide +kernel
theorem d_Md_line_111 : decode jMd_line.cc 111 = .ok (.ldc 128, 2) := by decide +kernel
theorem d_Md_line_113 : decode jMd_line.cc 113 = .ok (.invokevirtual 498, 3) := by decide +kernel
theorem d_Md_line_116 : decode jMd_line.cc 116 = .ok (.ifCond .eq 7, 3) := by decide +kernel
theorem d_Md_line_119 : decode jMd_line.cc 119 = .ok (.iconst 1, 1) := by decide +kernel
theorem d_Md_line_120 : decode jMd_line.cc 120 = .ok (.goto 35, 3) := by decide +kernel
theorem d_Md_line_123 : decode jMd_line.cc 123 = .ok (.aload_n 0, 1) := by decide +kernel
theorem d_Md_line_124 : decode jMd_line.cc 124 = .ok (.iload_n 2, 1) := by decide +kernel
theorem d_Md_line_125 : decode jMd_line.cc 125 = .ok (.ldc 126, 2) := by decide +kernel
theorem d_Md_line_127 : decode jMd_line.cc 127 = .ok (.invokevirtual 498, 3) := by decide +kernel
theorem d_Md_line_130 : decode jMd_line.cc 130 = .ok (.ifCond .eq 7, 3) := by decide +kernel
theorem d_Md_line_133 : decode jMd_line.cc 133 = .ok (.iconst 2, 1) := by decide +kernel
theorem d_Md_line_134 : decode jMd_line.cc 134 = .ok (.goto 21, 3) := by decide +kernel
theorem d_Md_line_137 : decode jMd_line.cc 137 = .ok (.iload_n 3, 1) := by decide +kernel
theorem d_Md_line_138 : decode jMd_line.cc 138 = .ok (.ifCond .eq 7, 3) := by decide +kernel
theorem d_Md_line_141 : decode jMd_line.cc 141 = .ok (.iconst 4, 1) := by decide +kernel
theorem d_Md_line_142 : decode jMd_line.cc 142 = .ok (.goto 13, 3) := by decide +kernel
theorem d_Md_line_145 : decode jMd_line.cc 145 = .ok (.iload 4, 2) := by decide +kernel
theorem d_Md_line_147 : decode jMd_line.cc 147 = .ok (.ifCond .eq 7, 3) := by decide +kernel
theorem d_Md_line_150 : decode jMd_line.cc 150 = .ok (.iconst 5, 1) := by decide +kernel
theorem d_Md_line_151 : decode jMd_line.cc 151 = .ok (.goto 4, 3) := by decide +kernel
theorem d_Md_line_154 : decode jMd_line.cc 154 = .ok (.iconst 3, 1) := by decide +kernel
theorem d_Md_line_155 : decode jMd_line.cc 155 = .ok (.ireturn, 1) := by decide +kernel
set_option maxHeartbeats 4000000 in
theorem s_Md_line {g : Mg} {d : Nat} {K : Ou → Wd → Prop} {w : Wd} {p1 : Int} (h : (0 ≤ p1 ∧ p1 < 2000) ∧ (((w 26 p1.toNat) = 9 → (V g LM jMd_line (d + 1) K 22 [] [] w)) ∧ (¬ (w 26 p1.toNat) = 9 → ((0 ≤ p1 ∧ p1 < 2000) ∧ ((¬ (w 26 p1.toNat) = 10 → ((0 ≤ p1 ∧ p1 < 2000) ∧ (((w 26 p1.toNat) = 11 → ((0 ≤ p1 ∧ p1 < 2000) ∧ (Cal g LM jMd_isSign d [vA 0, vI (w 27 p1.toNat), vA 1054] w (fun o w1 => rIt o (fun b => K (.inr b) w1) (fun x2 => (¬ x2 = 0 → (V g LM jMd_line (d + 1) K 66 [(0, vA 0), (2, vI (w 27 p1.toNat))] [] w1)) ∧ (x2 = 0 → (Cal g LM jMd_isSign d [vA 0, vI (w 27 p1.toNat), vA 1055] w1 (fun o w3 => rIt o (fun b => K (.inr b) w3) (fun x4 => (x4 = 0 → (V g LM jMd_line (d + 1) K 71 [(0, vA 0), (2, vI (w 27 p1.toNat))] [vI 0] w3)) ∧ (¬ x4 = 0 → (V g LM jMd_line (d + 1) K 66 [(0, vA 0), (2, vI (w 27 p1.toNat))] [] w3))))))))))) ∧ (¬ (w 26 p1.toNat) = 11 → (K (.inl (some (vI 7))) w))))) ∧ ((w 26 p1.toNat) = 10 → (V g LM jMd_line (d + 1) K 22 [] [] w))))))) : V g LM jMd_line (d + 1) K 0 [(0, vA 0), (1, vI p1)] [] w := by
  refine v_aload_n (pc := 0) d_Md_line_0 rfl (.head _) ?_
  refine v_getr (C := "") (pc := 1) (r := 26) d_Md_line_1 fl_Md_216 cM_0.1 cM_0.2 (Or.inr ⟨_, rfl⟩) rM_0_32 ?_
  refine v_iload_n (pc := 4) d_Md_line_4 rfl (.tail _ (.head _)) ?_
  refine v_iald (pc := 5) (x := (w 26 p1.toNat)) d_Md_line_5 cM_26.1 cM_26.2 rfl h.1 ?_
  replace h := h.2
  refine v_bipush (pc := 6) d_Md_line_6 (by decide) rfl ?_
  refine v_icmpeq (pc := 8) (tgt := 22) d_Md_line_8 (by decide) (fun c => ?_) (fun c => ?_)
  · replace h := h.1 c
    exact v_sub (fun _ z => absurd z List.not_mem_nil) h
  · replace h := h.2 c
    refine v_aload_n (pc := 11) d_Md_line_11 rfl (.head _) ?_
    refine v_getr (C := "") (pc := 12) (r := 26) d_Md_line_12 fl_Md_216 cM_0.1 cM_0.2 (Or.inr ⟨_, rfl⟩) rM_0_32 ?_
    refine v_iload_n (pc := 15) d_Md_line_15 rfl (.tail _ (.head _)) ?_
    refine v_iald (pc := 16) (x := (w 26 p1.toNat)) d_Md_line_16 cM_26.1 cM_26.2 rfl h.1 ?_
    replace h := h.2
    refine v_bipush (pc := 17) d_Md_line_17 (by decide) rfl ?_
    refine v_icmpne (pc := 19) (tgt := 25) d_Md_line_19 (by decide) (fun c => ?_) (fun c => ?_)
    · replace h := h.1 c
      refine v_aload_n (pc := 25) d_Md_line_25 rfl (.head _) ?_
      refine v_getr (C := "") (pc := 26) (r := 26) d_Md_line_26 fl_Md_216 cM_0.1 cM_0.2 (Or.inr ⟨_, rfl⟩) rM_0_32 ?_
      refine v_iload_n (pc := 29) d_Md_line_29 rfl (.tail _ (.head _)) ?_
      refine v_iald (pc := 30) (x := (w 26 p1.toNat)) d_Md_line_30 cM_26.1 cM_26.2 rfl h.1 ?_
      replace h := h.2
      refine v_bipush (pc := 31) d_Md_line_31 (by decide) rfl ?_
      refine v_icmpeq (pc := 33) (tgt := 39) d_Md_line_33 (by decide) (fun c => ?_) (fun c => ?_)
      · replace h := h.1 c
        refine v_aload_n (pc := 39) d_Md_line_39 rfl (.head _) ?_
        refine v_getr (C := "") (pc := 40) (r := 27) d_Md_line_40 fl_Md_219 cM_0.1 cM_0.2 (Or.inr ⟨_, rfl⟩) rM_0_33 ?_
        refine v_iload_n (pc := 43) d_Md_line_43 rfl (.tail _ (.head _)) ?_
        refine v_iald (pc := 44) (x := (w 27 p1.toNat)) d_Md_line_44 cM_27.1 cM_27.2 rfl h.1 ?_
        replace h := h.2
        refine v_istore_n (pc := 45) (ls' := [(2, vI (w 27 p1.toNat)), (0, vA 0), (1, vI p1)]) d_Md_line_45 rfl (by decide) rfl ?_
        refine v_aload_n (pc := 46) d_Md_line_46 rfl (.tail _ (.head _)) ?_
        refine v_iload_n (pc := 47) d_Md_line_47 rfl (.head _) ?_
        refine v_ldcs (pc := 48) (n := 53) (tx := "+") d_Md_line_48 (by decide +kernel) ?_
        refine v_callV (pc := 50) (J' := jMd_isSign) (d' := d) (o := 0) (ci := 13) (N := 93) (T := cT13) (As := [vI (w 27 p1.toNat), vA 1054]) d_Md_line_50 ml_Md_498 cM_0.1 cM_0.2 (by decide) rfl rfl (Nat.le_of_ble_eq_true rfl) (Nat.le_refl _) rfl (Cal.weak h (fun o w1 h => ?_))
        rcases rIt_of h with ⟨x2, rfl, h⟩ | ⟨b, rfl, h⟩
        rotate_left
        · exact h
        refine v_ifne (pc := 53) (tgt := 66) d_Md_line_53 (by decide) (fun c => ?_) (fun c => ?_)
        · replace h := h.1 c
          exact v_sub (List.forall_mem_cons.mpr ⟨(.tail _ (.head _)), (List.forall_mem_cons.mpr ⟨(.head _), (fun _ z => absurd z List.not_mem_nil)⟩)⟩) h
        · replace h := h.2 c
          refine v_aload_n (pc := 56) d_Md_line_56 rfl (.tail _ (.head _)) ?_
          refine v_iload_n (pc := 57) d_Md_line_57 rfl (.head _) ?_
          refine v_ldcs (pc := 58) (n := 54) (tx := "-") d_Md_line_58 (by decide +kernel) ?_
          refine v_callV (pc := 60) (J' := jMd_isSign) (d' := d) (o := 0) (ci := 13) (N := 93) (T := cT13) (As := [vI (w 27 p1.toNat), vA 1055]) d_Md_line_60 ml_Md_498 cM_0.1 cM_0.2 (by decide) rfl rfl (Nat.le_of_ble_eq_true rfl) (Nat.le_refl _) rfl (Cal.weak h (fun o w3 h => ?_))
          rcases rIt_of h with ⟨x4, rfl, h⟩ | ⟨b, rfl, h⟩
          rotate_left
          · exact h
          refine v_ifeq (pc := 63) (tgt := 70) d_Md_line_63 (by decide) (fun c => ?_) (fun c => ?_)
          · replace h := h.1 c
            refine v_iconst (pc := 70) d_Md_line_70 (by decide) ?_
            exact v_sub (List.forall_mem_cons.mpr ⟨(.tail _ (.head _)), (List.forall_mem_cons.mpr ⟨(.head _), (fun _ z => absurd z List.not_mem_nil)⟩)⟩) h
          · replace h := h.2 c
            exact v_sub (List.forall_mem_cons.mpr ⟨(.tail _ (.head _)), (List.forall_mem_cons.mpr ⟨(.head _), (fun _ z => absurd z List.not_mem_nil)⟩)⟩) h
      · replace h := h.2 c
        refine v_bipush (pc := 36) d_Md_line_36 (by decide) rfl ?_
        exact v_iret (pc := 38) d_Md_line_38 rfl h
    · replace h := h.2 c
      exact v_sub (fun _ z => absurd z List.not_mem_nil) h
set_option maxHeartbeats 4000000 in
theorem s_Md_line_22 {g : Mg} {d : Nat} {K : Ou → Wd → Prop} {w : Wd} (h : K (.inl (some (vI 6))) w) : V g LM jMd_line (d + 1) K 22 [] [] w := by
  refine v_bipush (pc := 22) d_Md_line_22 (by decide) rfl ?_
  exact v_iret (pc := 24) d_Md_line_24 rfl h
set_option maxHeartbeats 4000000 in
theorem s_Md_line_66 {g : Mg} {d : Nat} {K : Ou → Wd → Prop} {w : Wd} {x2_ : Int} (h : V g LM jMd_line (d + 1) K 71 [(0, vA 0), (2, vI x2_)] [vI 1] w) : V g LM jMd_line (d + 1) K 66 [(0, vA 0), (2, vI x2_)] [] w := by
  refine v_iconst (pc := 66) d_Md_line_66 (by decide) ?_
  refine v_goto (pc := 67) (tgt := 71) d_Md_line_67 (by decide) ?_
  exact v_sub (List.forall_mem_cons.mpr ⟨(.head _), (List.forall_mem_cons.mpr ⟨(.tail _ (.head _)), (fun _ z => absurd z List.not_mem_nil)⟩)⟩) h
set_option maxHeartbeats 4000000 in
theorem s_Md_line_71 {g : Mg} {d : Nat} {K : Ou → Wd → Prop} {w : Wd} {x2_ : Int} {s0_ : Int} (h : Cal g LM jMd_isSign d [vA 0, vI x2_, vA 1056] w (fun o w1 => rIt o (fun b => K (.inr b) w1) (fun x2 => (¬ x2 = 0 → (V g LM jMd_line (d + 1) K 102 [(0, vA 0), (2, vI x2_), (3, vI s0_)] [] w1)) ∧ (x2 = 0 → (Cal g LM jMd_isSign d [vA 0, vI x2_, vA 1057] w1 (fun o w3 => rIt o (fun b => K (.inr b) w3) (fun x4 => (¬ x4 = 0 → (V g LM jMd_line (d + 1) K 102 [(0, vA 0), (2, vI x2_), (3, vI s0_)] [] w3)) ∧ (x4 = 0 → (Cal g LM jMd_isSign d [vA 0, vI x2_, vA 1058] w3 (fun o w5 => rIt o (fun b => K (.inr b) w5) (fun x6 => (x6 = 0 → (V g LM jMd_line (d + 1) K 107 [(0, vA 0), (2, vI x2_), (3, vI s0_)] [vI 0] w5)) ∧ (¬ x6 = 0 → (V g LM jMd_line (d + 1) K 102 [(0, vA 0), (2, vI x2_), (3, vI s0_)] [] w5))))))))))))) : V g LM jMd_line (d + 1) K 71 [(0, vA 0), (2, vI x2_)] [vI s0_] w := by
  refine v_istore_n (pc := 71) (ls' := [(3, vI s0_), (0, vA 0), (2, vI x2_)]) d_Md_line_71 rfl (by decide) rfl ?_
  refine v_aload_n (pc := 72) d_Md_line_72 rfl (.tail _ (.head _)) ?_
  refine v_iload_n (pc := 73) d_Md_line_73 rfl (.tail _ (.tail _ (.head _))) ?_
  refine v_ldcs (pc := 74) (n := 55) (tx := "*") d_Md_line_74 (by decide +kernel) ?_
  refine v_callV (pc := 76) (J' := jMd_isSign) (d' := d) (o := 0) (ci := 13) (N := 93) (T := cT13) (As := [vI x2_, vA 1056]) d_Md_line_76 ml_Md_498 cM_0.1 cM_0.2 (by decide) rfl rfl (Nat.le_of_ble_eq_true rfl) (Nat.le_refl _) rfl (Cal.weak h (fun o w1 h => ?_))
  rcases rIt_of h with ⟨x2, rfl, h⟩ | ⟨b, rfl, h⟩
  rotate_left
  · exact h
  refine v_ifne (pc := 79) (tgt := 102) d_Md_line_79 (by decide) (fun c => ?_) (fun c => ?_)
  · replace h := h.1 c
    exact v_sub (List.forall_mem_cons.mpr ⟨(.tail _ (.head _)), (List.forall_mem_cons.mpr ⟨(.tail _ (.tail _ (.head _))), (List.forall_mem_cons.mpr ⟨(.head _), (fun _ z => absurd z List.not_mem_nil)⟩)⟩)⟩) h
  · replace h := h.2 c
    refine v_aload_n (pc := 82) d_Md_line_82 rfl (.tail _ (.head _)) ?_
    refine v_iload_n (pc := 83) d_Md_line_83 rfl (.tail _ (.tail _ (.head _))) ?_
    refine v_ldcs (pc := 84) (n := 56) (tx := "/") d_Md_line_84 (by decide +kernel) ?_
    refine v_callV (pc := 86) (J' := jMd_isSign) (d' := d) (o := 0) (ci := 13) (N := 93) (T := cT13) (As := [vI x2_, vA 1057]) d_Md_line_86 ml_Md_498 cM_0.1 cM_0.2 (by decide) rfl rfl (Nat.le_of_ble_eq_true rfl) (Nat.le_refl _) rfl (Cal.weak h (fun o w3 h => ?_))
    rcases rIt_of h with ⟨x4, rfl, h⟩ | ⟨b, rfl, h⟩
    rotate_left
    · exact h
    refine v_ifne (pc := 89) (tgt := 102) d_Md_line_89 (by decide) (fun c => ?_) (fun c => ?_)
    · replace h := h.1 c
      exact v_sub (List.forall_mem_cons.mpr ⟨(.tail _ (.head _)), (List.forall_mem_cons.mpr ⟨(.tail _ (.tail _ (.head _))), (List.forall_mem_cons.mpr ⟨(.head _), (fun _ z => absurd z List.not_mem_nil)⟩)⟩)⟩) h
    · replace h := h.2 c
      refine v_aload_n (pc := 92) d_Md_line_92 rfl (.tail _ (.head _)) ?_
      refine v_iload_n (pc := 93) d_Md_line_93 rfl (.tail _ (.tail _ (.head _))) ?_
      refine v_ldcs (pc := 94) (n := 57) (tx := "%") d_Md_line_94 (by decide +kernel) ?_
      refine v_callV (pc := 96) (J' := jMd_isSign) (d' := d) (o := 0) (ci := 13) (N := 93) (T := cT13) (As := [vI x2_, vA 1058]) d_Md_line_96 ml_Md_498 cM_0.1 cM_0.2 (by decide) rfl rfl (Nat.le_of_ble_eq_true rfl) (Nat.le_refl _) rfl (Cal.weak h (fun o w5 h => ?_))
      rcases rIt_of h with ⟨x6, rfl, h⟩ | ⟨b, rfl, h⟩
      rotate_left
      · exact h
      refine v_ifeq (pc := 99) (tgt := 106) d_Md_line_99 (by decide) (fun c => ?_) (fun c => ?_)
      · replace h := h.1 c
        refine v_iconst (pc := 106) d_Md_line_106 (by decide) ?_
        exact v_sub (List.forall_mem_cons.mpr ⟨(.tail _ (.head _)), (List.forall_mem_cons.mpr ⟨(.tail _ (.tail _ (.head _))), (List.forall_mem_cons.mpr ⟨(.head _), (fun _ z => absurd z List.not_mem_nil)⟩)⟩)⟩) h
      · replace h := h.2 c
        exact v_sub (List.forall_mem_cons.mpr ⟨(.tail _ (.head _)), (List.forall_mem_cons.mpr ⟨(.tail _ (.tail _ (.head _))), (List.forall_mem_cons.mpr ⟨(.head _), (fun _ z => absurd z List.not_mem_nil)⟩)⟩)⟩) h
set_option maxHeartbeats 4000000 in
theorem s_Md_line_102 {g : Mg} {d : Nat} {K : Ou → Wd → Prop} {w : Wd} {x2_ : Int} {x3_ : Int} (h : V g LM jMd_line (d + 1) K 107 [(0, vA 0), (2, vI x2_), (3, vI x3_)] [vI 1] w) : V g LM jMd_line (d + 1) K 102 [(0, vA 0), (2, vI x2_), (3, vI x3_)] [] w := by
  refine v_iconst (pc := 102) d_Md_line_102 (by decide) ?_
  refine v_goto (pc := 103) (tgt := 107) d_Md_line_103 (by decide) ?_
  exact v_sub (List.forall_mem_cons.mpr ⟨(.head _), (List.forall_mem_cons.mpr ⟨(.tail _ (.head _)), (List.forall_mem_cons.mpr ⟨(.tail _ (.tail _ (.head _))), (fun _ z => absurd z List.not_mem_nil)⟩)⟩)⟩) h
set_option maxHeartbeats 4000000 in
theorem s_Md_line_107 {g : Mg} {d : Nat} {K : Ou → Wd → Prop} {w : Wd} {x2_ : Int} {x3_ : Int} {s0_ : Int} (h : Cal g LM jMd_isSign d [vA 0, vI x2_, vA 1042] w (fun o w1 => rIt o (fun b => K (.inr b) w1) (fun x2 => (x2 = 0 → (Cal g LM jMd_isSign d [vA 0, vI x2_, vA 1041] w1 (fun o w3 => rIt o (fun b => K (.inr b) w3) (fun x4 => (x4 = 0 → ((x3_ = 0 → ((s0_ = 0 → (V g LM jMd_line (d + 1) K 155 [] [vI 3] w3)) ∧ (¬ s0_ = 0 → (V g LM jMd_line (d + 1) K 155 [] [vI 5] w3)))) ∧ (¬ x3_ = 0 → (V g LM jMd_line (d + 1) K 155 [] [vI 4] w3)))) ∧ (¬ x4 = 0 → (V g LM jMd_line (d + 1) K 155 [] [vI 2] w3)))))) ∧ (¬ x2 = 0 → (V g LM jMd_line (d + 1) K 155 [] [vI 1] w1))))) : V g LM jMd_line (d + 1) K 107 [(0, vA 0), (2, vI x2_), (3, vI x3_)] [vI s0_] w := by
  refine v_istore (pc := 107) (ls' := [(4, vI s0_), (0, vA 0), (2, vI x2_), (3, vI x3_)]) d_Md_line_107 (by decide) rfl ?_
  refine v_aload_n (pc := 109) d_Md_line_109 rfl (.tail _ (.head _)) ?_
  refine v_iload_n (pc := 110) d_Md_line_110 rfl (.tail _ (.tail _ (.head _))) ?_
  refine v_ldcs (pc := 111) (n := 41) (tx := "||") d_Md_line_111 (by decide +kernel) ?_
  refine v_callV (pc := 113) (J' := jMd_isSign) (d' := d) (o := 0) (ci := 13) (N := 93) (T := cT13) (As := [vI x2_, vA 1042]) d_Md_line_113 ml_Md_498 cM_0.1 cM_0.2 (by decide) rfl rfl (Nat.le_of_ble_eq_true rfl) (Nat.le_refl _) rfl (Cal.weak h (fun o w1 h => ?_))
  rcases rIt_of h with ⟨x2, rfl, h⟩ | ⟨b, rfl, h⟩
  rotate_left
  · exact h
  refine v_ifeq (pc := 116) (tgt := 123) d_Md_line_116 (by decide) (fun c => ?_) (fun c => ?_)
  · replace h := h.1 c
    refine v_aload_n (pc := 123) d_Md_line_123 rfl (.tail _ (.head _)) ?_
    refine v_iload_n (pc := 124) d_Md_line_124 rfl (.tail _ (.tail _ (.head _))) ?_
    refine v_ldcs (pc := 125) (n := 40) (tx := "&&") d_Md_line_125 (by decide +kernel) ?_
    refine v_callV (pc := 127) (J' := jMd_isSign) (d' := d) (o := 0) (ci := 13) (N := 93) (T := cT13) (As := [vI x2_, vA 1041]) d_Md_line_127 ml_Md_498 cM_0.1 cM_0.2 (by decide) rfl rfl (Nat.le_of_ble_eq_true rfl) (Nat.le_refl _) rfl (Cal.weak h (fun o w3 h => ?_))
    rcases rIt_of h with ⟨x4, rfl, h⟩ | ⟨b, rfl, h⟩
    rotate_left
    · exact h
    refine v_ifeq (pc := 130) (tgt := 137) d_Md_line_130 (by decide) (fun c => ?_) (fun c => ?_)
    · replace h := h.1 c
      refine v_iload_n (pc := 137) d_Md_line_137 rfl (.tail _ (.tail _ (.tail _ (.head _)))) ?_
      refine v_ifeq (pc := 138) (tgt := 145) d_Md_line_138 (by decide) (fun c => ?_) (fun c => ?_)
      · replace h := h.1 c
        refine v_iload (pc := 145) d_Md_line_145 (.head _) ?_
        refine v_ifeq (pc := 147) (tgt := 154) d_Md_line_147 (by decide) (fun c => ?_) (fun c => ?_)
        · replace h := h.1 c
          refine v_iconst (pc := 154) d_Md_line_154 (by decide) ?_
          exact v_sub (fun _ z => absurd z List.not_mem_nil) h
        · replace h := h.2 c
          refine v_iconst (pc := 150) d_Md_line_150 (by decide) ?_
          refine v_goto (pc := 151) (tgt := 155) d_Md_line_151 (by decide) ?_
          exact v_sub (fun _ z => absurd z List.not_mem_nil) h
      · replace h := h.2 c
        refine v_iconst (pc := 141) d_Md_line_141 (by decide) ?_
        refine v_goto (pc := 142) (tgt := 155) d_Md_line_142 (by decide) ?_
        exact v_sub (fun _ z => absurd z List.not_mem_nil) h
    · replace h := h.2 c
      refine v_iconst (pc := 133) d_Md_line_133 (by decide) ?_
      refine v_goto (pc := 134) (tgt := 155) d_Md_line_134 (by decide) ?_
      exact v_sub (fun _ z => absurd z List.not_mem_nil) h
  · replace h := h.2 c
    refine v_iconst (pc := 119) d_Md_line_119 (by decide) ?_
    refine v_goto (pc := 120) (tgt := 155) d_Md_line_120 (by decide) ?_
    exact v_sub (fun _ z => absurd z List.not_mem_nil) h
set_option maxHeartbeats 4000000 in
theorem s_Md_line_155 {g : Mg} {d : Nat} {K : Ou → Wd → Prop} {w : Wd} {s0_ : Int} (h : K (.inl (some (vI s0_))) w) : V g LM jMd_line (d + 1) K 155 [] [vI s0_] w := by
  exact v_iret (pc := 155) d_Md_line_155 rfl h
theorem d_Md_showExp_0 : decode jMd_showExp.cc 0 = .ok (.aload_n 0, 1) := by decide +kernel
theorem d_Md_showExp_1 : decode jMd_showExp.cc 1 = .ok (.iload_n 1, 1) := by decide +kernel
theorem d_Md_showExp_2 : decode jMd_showExp.cc 2 = .ok (.invokevirtual 528, 3) := by decide +kernel
theorem d_Md_showExp_5 : decode jMd_showExp.cc 5 = .ok (.istore_n 3, 1) := by decide +kernel
theorem d_Md_showExp_6 : decode jMd_showExp.cc 6 = .ok (.iload_n 3, 1) := by decide +kernel
theorem d_Md_showExp_7 : decode jMd_showExp.cc 7 = .ok (.iload_n 2, 1) := by decide +kernel
theorem d_Md_showExp_8 : decode jMd_showExp.cc 8 = .ok (.if_icmp .ge 22, 3) := by decide +kernel
theorem d_Md_showExp_11 : decode jMd_showExp.cc 11 = .ok (.aload_n 0, 1) := by decide +kernel
theorem d_Md_showExp_12 : decode jMd_showExp.cc 12 = .ok (.ldc 136, 2) := by decide +kernel
theorem d_Md_showExp_14 : decode jMd_showExp.cc 14 = .ok (.invokevirtual 531, 3) := by decide +kernel
theorem d_Md_showExp_17 : decode jMd_showExp.cc 17 = .ok (.aload_n 0, 1) := by decide +kernel
theorem d_Md_showExp_18 : decode jMd_showExp.cc 18 = .ok (.iload_n 1, 1) := by decide +kernel
theorem d_Md_showExp_19 : decode jMd_showExp.cc 19 = .ok (.iconst 1, 1) := by decide +kernel
theorem d_Md_showExp_20 : decode jMd_showExp.cc 20 = .ok (.invokestatic 535, 3) := by decide +kernel
theorem d_Md_showExp_23 : decode jMd_showExp.cc 23 = .ok (.aload_n 0, 1) := by decide +kernel
theorem d_Md_showExp_24 : decode jMd_showExp.cc 24 = .ok (.ldc 138, 2) := by decide +kernel
theorem d_Md_showExp_26 : decode jMd_showExp.cc 26 = .ok (.invokevirtual 531, 3) := by decide +kernel
theorem d_Md_showExp_29 : decode jMd_showExp.cc 29 = .ok (.return_, 1) := by decide +kernel
theorem d_Md_showExp_30 : decode jMd_showExp.cc 30 = .ok (.aload_n 0, 1) := by decide +kernel
theorem d_Md_showExp_31 : decode jMd_showExp.cc 31 = .ok (.getfield 216, 3) := by decide +kernel
theorem d_Md_showExp_34 : decode jMd_showExp.cc 34 = .ok (.iload_n 1, 1) := by decide +kernel
theorem d_Md_showExp_35 : decode jMd_showExp.cc 35 = .ok (.iaload, 1) := by decide +kernel
theorem d_Md_showExp_36 : decode jMd_showExp.cc 36 = .ok (.tableswitch 269 4 11 #[225, 250, 269, 119, 155, 94, 94, 48], 48) := by decide +kernel
theorem d_Md_showExp_84 : decode jMd_showExp.cc 84 = .ok (.aload_n 0, 1) := by decide +kernel
theorem d_Md_showExp_85 : decode jMd_showExp.cc 85 = .ok (.aload_n 0, 1) := by decide +kernel
theorem d_Md_showExp_86 : decode jMd_showExp.cc 86 = .ok (.getfield 225, 3) := by decide +kernel
theorem d_Md_showExp_89 : decode jMd_showExp.cc 89 = .ok (.iload_n 1, 1) := by decide +kernel
theorem d_Md_showExp_90 : decode jMd_showExp.cc 90 = .ok (.iaload, 1) := by decide +kernel
theorem d_Md_showExp_91 : decode jMd_showExp.cc 91 = .ok (.iload_n 3, 1) := by decide +kernel
theorem d_Md_showExp_92 : decode jMd_showExp.cc 92 = .ok (.iconst 3, 1) := by decide +kernel
theorem d_Md_showExp_93 : decode jMd_showExp.cc 93 = .ok (.if_icmp .ne 7, 3) := by decide +kernel
theorem d_Md_showExp_96 : decode jMd_showExp.cc 96 = .ok (.iconst 4, 1) := by decide +kernel
theorem d_Md_showExp_97 : decode jMd_showExp.cc 97 = .ok (.goto 4, 3) := by decide +kernel
theorem d_Md_showExp_100 : decode jMd_showExp.cc 100 = .ok (.iload_n 3, 1) := by decide +kernel
theorem d_Md_showExp_101 : decode jMd_showExp.cc 101 = .ok (.invokestatic 535, 3) := by decide +kernel
theorem d_Md_showExp_104 : decode jMd_showExp.cc 104 = .ok (.aload_n 0, 1) := by decide +kernel
theorem d_Md_showExp_105 : decode jMd_showExp.cc 105 = .ok (.aload_n 0, 1) := by decide +kernel
theorem d_Md_showExp_106 : decode jMd_showExp.cc 106 = .ok (.getfield 219, 3) := by decide +kernel
theorem d_Md_showExp_109 : decode jMd_showExp.cc 109 = .ok (.iload_n 1, 1) := by decide +kernel
theorem d_Md_showExp_110 : decode jMd_showExp.cc 110 = .ok (.iaload, 1) := by decide +kernel
theorem d_Md_showExp_111 : decode jMd_showExp.cc 111 = .ok (.invokevirtual 539, 3) := by decide +kernel
theorem d_Md_showExp_114 : decode jMd_showExp.cc 114 = .ok (.aload_n 0, 1) := by decide +kernel
theorem d_Md_showExp_115 : decode jMd_showExp.cc 115 = .ok (.aload_n 0, 1) := by decide +kernel
theorem d_Md_showExp_116 : decode jMd_showExp.cc 116 = .ok (.getfield 228, 3) := by decide +kernel
theorem d_Md_showExp_119 : decode jMd_showExp.cc 119 = .ok (.iload_n 1, 1) := by decide +kernel
theorem d_Md_showExp_120 : decode jMd_showExp.cc 120 = .ok (.iaload, 1) := by decide +kernel
theorem d_Md_showExp_121 : decode jMd_showExp.cc 121 = .ok (.iload_n 3, 1) := by decide +kernel
theorem d_Md_showExp_122 : decode jMd_showExp.cc 122 = .ok (.iconst 1, 1) := by decide +kernel
theorem d_Md_showExp_123 : decode jMd_showExp.cc 123 = .ok (.iadd, 1) := by decide +kernel
theorem d_Md_showExp_124 : decode jMd_showExp.cc 124 = .ok (.invokestatic 535, 3) := by decide +kernel
theorem d_Md_showExp_127 : decode jMd_showExp.cc 127 = .ok (.goto 188, 3) := by decide +kernel
theorem d_Md_showExp_130 : decode jMd_showExp.cc 130 = .ok (.aload_n 0, 1) := by decide +kernel
theorem d_Md_showExp_131 : decode jMd_showExp.cc 131 = .ok (.aload_n 0, 1) := by decide +kernel
theorem d_Md_showExp_132 : decode jMd_showExp.cc 132 = .ok (.getfield 219, 3) := by decide +kernel
theorem d_Md_showExp_135 : decode jMd_showExp.cc 135 = .ok (.iload_n 1, 1) := by decide +kernel
theorem d_Md_showExp_136 : decode jMd_showExp.cc 136 = .ok (.iaload, 1) := by decide +kernel
theorem d_Md_showExp_137 : decode jMd_showExp.cc 137 = .ok (.invokevirtual 539, 3) := by decide +kernel
theorem d_Md_showExp_140 : decode jMd_showExp.cc 140 = .ok (.aload_n 0, 1) := by decide +kernel
theorem d_Md_showExp_141 : decode jMd_showExp.cc 141 = .ok (.aload_n 0, 1) := by decide +kernel
theorem d_Md_showExp_142 : decode jMd_showExp.cc 142 = .ok (.getfield 225, 3) := by decide +kernel
theorem d_Md_showExp_145 : decode jMd_showExp.cc 145 = .ok (.iload_n 1, 1) := by decide +kernel
theorem d_Md_showExp_146 : decode jMd_showExp.cc 146 = .ok (.iaload, 1) := by decide +kernel
theorem d_Md_showExp_147 : decode jMd_showExp.cc 147 = .ok (.bipush 6, 2) := by decide +kernel
theorem d_Md_showExp_149 : decode jMd_showExp.cc 149 = .ok (.invokestatic 535, 3) := by decide +kernel
theorem d_Md_showExp_152 : decode jMd_showExp.cc 152 = .ok (.goto 163, 3) := by decide +kernel
theorem d_Md_showExp_155 : decode jMd_showExp.cc 155 = .ok (.aload_n 0, 1) := by decide +kernel
theorem d_Md_showExp_156 : decode jMd_showExp.cc 156 = .ok (.aload_n 0, 1) := by decide +kernel
theorem d_Md_showExp_157 : decode jMd_showExp.cc 157 = .ok (.getfield 219, 3) := by decide +kernel
theorem d_Md_showExp_160 : decode jMd_showExp.cc 160 = .ok (.iload_n 1, 1) := by decide +kernel
theorem d_Md_showExp_161 : decode jMd_showExp.cc 161 = .ok (.iaload, 1) := by decide +kernel
theorem d_Md_showExp_162 : decode jMd_showExp.cc 162 = .ok (.invokevirtual 539, 3) := by decide +kernel
theorem d_Md_showExp_165 : decode jMd_showExp.cc 165 = .ok (.aload_n 0, 1) := by decide +kernel
theorem d_Md_showExp_166 : decode jMd_showExp.cc 166 = .ok (.ldc 136, 2) := by decide +kernel
theorem d_Md_showExp_168 : decode jMd_showExp.cc 168 = .ok (.invokevirtual 531, 3) := by decide +kernel
theorem d_Md_showExp_171 : decode jMd_showExp.cc 171 = .ok (.aload_n 0, 1) := by decide +kernel
theorem d_Md_showExp_172 : decode jMd_showExp.cc 172 = .ok (.aload_n 0, 1) := by decide +kernel
theorem d_Md_showExp_173 : decode jMd_showExp.cc 173 = .ok (.getfield 225, 3) := by decide +kernel
theorem d_Md_showExp_176 : decode jMd_showExp.cc 176 = .ok (.iload_n 1, 1) := by decide +kernel
theorem d_Md_showExp_177 : decode jMd_showExp.cc 177 = .ok (.iaload, 1) := by decide +kernel
theorem d_Md_showExp_178 : decode jMd_showExp.cc 178 = .ok (.iconst 1, 1) := by decide +kernel
theorem d_Md_showExp_179 : decode jMd_showExp.cc 179 = .ok (.invokestatic 535, 3) := by decide +kernel
theorem d_Md_showExp_182 : decode jMd_showExp.cc 182 = .ok (.aload_n 0, 1) := by decide +kernel
theorem d_Md_showExp_183 : decode jMd_showExp.cc 183 = .ok (.ldc 138, 2) := by decide +kernel
theorem d_Md_showExp_185 : decode jMd_showExp.cc 185 = .ok (.invokevirtual 531, 3) := by decide +kernel
theorem d_Md_showExp_188 : decode jMd_showExp.cc 188 = .ok (.goto 127, 3) := by decide +kernel
theorem d_Md_showExp_191 : decode jMd_showExp.cc 191 = .ok (.aload_n 0, 1) := by decide +kernel
theorem d_Md_showExp_192 : decode jMd_showExp.cc 192 = .ok (.aload_n 0, 1) := by decide +kernel
theorem d_Md_showExp_193 : decode jMd_showExp.cc 193 = .ok (.getfield 219, 3) := by decide +kernel
theorem d_Md_showExp_196 : decode jMd_showExp.cc 196 = .ok (.iload_n 1, 1) := by decide +kernel
theorem d_Md_showExp_197 : decode jMd_showExp.cc 197 = .ok (.iaload, 1) := by decide +kernel
theorem d_Md_showExp_198 : decode jMd_showExp.cc 198 = .ok (.invokevirtual 539, 3) := by decide +kernel
theorem d_Md_showExp_201 : decode jMd_showExp.cc 201 = .ok (.aload_n 0, 1) := by decide +kernel
theorem d_Md_showExp_202 : decode jMd_showExp.cc 202 = .ok (.ldc 136, 2) := by decide +kernel
theorem d_Md_showExp_204 : decode jMd_showExp.cc 204 = .ok (.invokevirtual 531, 3) := by decide +kernel
theorem d_Md_showExp_207 : decode jMd_showExp.cc 207 = .ok (.aload_n 0, 1) := by decide +kernel
theorem d_Md_showExp_208 : decode jMd_showExp.cc 208 = .ok (.aload_n 0, 1) := by decide +kernel
theorem d_Md_showExp_209 : decode jMd_showExp.cc 209 = .ok (.getfield 225, 3) := by decide +kernel
theorem d_Md_showExp_212 : decode jMd_showExp.cc 212 = .ok (.iload_n 1, 1) := by decide +kernel
theorem d_Md_showExp_213 : decode jMd_showExp.cc 213 = .ok (.iaload, 1) := by decide +kernel
theorem d_Md_showExp_214 : decode jMd_showExp.cc 214 = .ok (.iconst 1, 1) := by decide +kernel
theorem d_Md_showExp_215 : decode jMd_showExp.cc 215 = .ok (.invokestatic 535, 3) := by decide +kernel
theorem d_Md_showExp_218 : decode jMd_showExp.cc 218 = .ok (.aload_n 0, 1) := by decide +kernel
theorem d_Md_showExp_219 : decode jMd_showExp.cc 219 = .ok (.ldc 140, 2) := by decide +kernel
theorem d_Md_showExp_221 : decode jMd_showExp.cc 221 = .ok (.invokevirtual 531, 3) := by decide +kernel
theorem d_Md_showExp_224 : decode jMd_showExp.cc 224 = .ok (.aload_n 0, 1) := by decide +kernel
theorem d_Md_showExp_225 : decode jMd_showExp.cc 225 = .ok (.aload_n 0, 1) := by decide +kernel
theorem d_Md_showExp_226 : decode jMd_showExp.cc 226 = .ok (.getfield 228, 3) := by decide +kernel
theorem d_Md_showExp_229 : decode jMd_showExp.cc 229 = .ok (.iload_n 1, 1) := by decide +kernel
theorem d_Md_showExp_230 : decode jMd_showExp.cc 230 = .ok (.iaload, 1) := by decide +kernel
theorem d_Md_showExp_231 : decode jMd_showExp.cc 231 = .ok (.iconst 1, 1) := by decide +kernel
theorem d_Md_showExp_232 : decode jMd_showExp.cc 232 = .ok (.invokestatic 535, 3) := by decide +kernel
theorem d_Md_showExp_235 : decode jMd_showExp.cc 235 = .ok (.aload_n 0, 1) := by decide +kernel
theorem d_Md_showExp_236 : decode jMd_showExp.cc 236 = .ok (.ldc 140, 2) := by decide +kernel
theorem d_Md_showExp_238 : decode jMd_showExp.cc 238 = .ok (.invokevirtual 531, 3) := by decide +kernel
theorem d_Md_showExp_241 : decode jMd_showExp.cc 241 = .ok (.aload_n 0, 1) := by decide +kernel
theorem d_Md_showExp_242 : decode jMd_showExp.cc 242 = .ok (.aload_n 0, 1) := by decide +kernel
theorem d_Md_showExp_243 : decode jMd_showExp.cc 243 = .ok (.getfield 231, 3) := by decide +kernel
theorem d_Md_showExp_246 : decode jMd_showExp.cc 246 = .ok (.iload_n 1, 1) := by decide +kernel
theorem d_Md_showExp_247 : decode jMd_showExp.cc 247 = .ok (.iaload, 1) := by decide +kernel
theorem d_Md_showExp_248 : decode jMd_showExp.cc 248 = .ok (.iconst 1, 1) := by decide +kernel
theorem d_Md_showExp_249 : decode jMd_showExp.cc 249 = .ok (.invokestatic 535, 3) := by decide +kernel
theorem d_Md_showExp_252 : decode jMd_showExp.cc 252 = .ok (.aload_n 0, 1) := by decide +kernel
theorem d_Md_showExp_253 : decode jMd_showExp.cc 253 = .ok (.ldc 138, 2) := by decide +kernel
theorem d_Md_showExp_255 : decode jMd_showExp.cc 255 = .ok (.invokevirtual 531, 3) := by decide +kernel
theorem d_Md_showExp_258 : decode jMd_showExp.cc 258 = .ok (.goto 57, 3) := by decide +kernel
theorem d_Md_showExp_261 : decode jMd_showExp.cc 261 = .ok (.aload_n 0, 1) := by decide +kernel
theorem d_Md_showExp_262 : decode jMd_showExp.cc 262 = .ok (.ldc 98, 2) := by decide +kernel
theorem d_Md_showExp_264 : decode jMd_showExp.cc 264 = .ok (.invokevirtual 531, 3) := by decide +kernel
theorem d_Md_showExp_267 : decode jMd_showExp.cc 267 = .ok (.aload_n 0, 1) := by decide +kernel
theorem d_Md_showExp_268 : decode jMd_showExp.cc 268 = .ok (.ldc 142, 2) := by decide +kernel
theorem d_Md_showExp_270 : decode jMd_showExp.cc 270 = .ok (.invokevirtual 531, 3) := by decide +kernel
theorem d_Md_showExp_273 : decode jMd_showExp.cc 273 = .ok (.aload_n 0, 1) := by decide +kernel
theorem d_Md_showExp_274 : decode jMd_showExp.cc 274 = .ok (.aload_n 0, 1) := by decide +kernel
theorem d_Md_showExp_275 : decode jMd_showExp.cc 275 = .ok (.getfield 219, 3) := by decide +kernel
theorem d_Md_showExp_278 : decode jMd_showExp.cc 278 = .ok (.iload_n 1, 1) := by decide +kernel
theorem d_Md_showExp_279 : decode jMd_showExp.cc 279 = .ok (.iaload, 1) := by decide +kernel
theorem d_Md_showExp_280 : decode jMd_showExp.cc 280 = .ok (.invokevirtual 539, 3) := by decide +kernel
theorem d_Md_showExp_283 : decode jMd_showExp.cc 283 = .ok (.goto 32, 3) := by decide +kernel
theorem d_Md_showExp_286 : decode jMd_showExp.cc 286 = .ok (.aload_n 0, 1) := by decide +kernel
theorem d_Md_showExp_287 : decode jMd_showExp.cc 287 = .ok (.ldc 100, 2) := by decide +kernel
theorem d_Md_showExp_289 : decode jMd_showExp.cc 289 = .ok (.invokevirtual 531, 3) := by decide +kernel
theorem d_Md_showExp_292 : decode jMd_showExp.cc 292 = .ok (.aload_n 0, 1) := by decide +kernel
theorem d_Md_showExp_293 : decode jMd_showExp.cc 293 = .ok (.aload_n 0, 1) := by decide +kernel
theorem d_Md_showExp_294 : decode jMd_showExp.cc 294 = .ok (.getfield 219, 3) := by decide +kernel
theorem d_Md_showExp_297 : decode jMd_showExp.cc 297 = .ok (.iload_n 1, 1) := by decide +kernel
theorem d_Md_showExp_298 : decode jMd_showExp.cc 298 = .ok (.iaload, 1) := by decide +kernel
theorem d_Md_showExp_299 : decode jMd_showExp.cc 299 = .ok (.invokevirtual 539, 3) := by decide +kernel
theorem d_Md_showExp_302 : decode jMd_showExp.cc 302 = .ok (.goto 13, 3) := by decide +kernel
theorem d_Md_showExp_305 : decode jMd_showExp.cc 305 = .ok (.aload_n 0, 1) := by decide +kernel
theorem d_Md_showExp_306 : decode jMd_showExp.cc 306 = .ok (.aload_n 0, 1) := by decide +kernel
theorem d_Md_showExp_307 : decode jMd_showExp.cc 307 = .ok (.getfield 219, 3) := by decide +kernel
theorem d_Md_showExp_310 : decode jMd_showExp.cc 310 = .ok (.iload_n 1, 1) := by decide +kernel
theorem d_Md_showExp_311 : decode jMd_showExp.cc 311 = .ok (.iaload, 1) := by decide +kernel
theorem d_Md_showExp_312 : decode jMd_showExp.cc 312 = .ok (.invokevirtual 539, 3) := by decide +kernel
theorem d_Md_showExp_315 : decode jMd_showExp.cc 315 = .ok (.return_, 1) := by decide +kernel
set_option maxHeartbeats 4000000 in
theorem s_Md_showExp {g : Mg} {d : Nat} {K : Ou → Wd → Prop} {w : Wd} {p1 : Int} {p2 : Int} (h : Cal g LM jMd_line d [vA 0, vI p1] w (fun o w1 => rIt o (fun b => K (.inr b) w1) (fun x2 => (p2 ≤ x2 → ((0 ≤ p1 ∧ p1 < 2000) ∧ ((((w1 26 p1.toNat) < 4 ∨ 11 < (w1 26 p1.toNat)) → ((0 ≤ p1 ∧ p1 < 2000) ∧ (Cal g LM jMd_show d [vA 0, vI (w1 27 p1.toNat)] w1 (fun o w3 => rVt o (fun b => K (.inr b) w3) (K (.inl none) w3))))) ∧ ((w1 26 p1.toNat) = 4 → (Cal g LM jMd_showText d [vA 0, vA 1029] w1 (fun o w4 => rVt o (fun b => K (.inr b) w4) (Cal g LM jMd_showText d [vA 0, vA 1049] w4 (fun o w5 => rVt o (fun b => K (.inr b) w5) ((0 ≤ p1 ∧ p1 < 2000) ∧ (Cal g LM jMd_show d [vA 0, vI (w5 27 p1.toNat)] w5 (fun o w6 => rVt o (fun b => K (.inr b) w6) (K (.inl none) w6))))))))) ∧ ((w1 26 p1.toNat) = 5 → (Cal g LM jMd_showText d [vA 0, vA 1030] w1 (fun o w7 => rVt o (fun b => K (.inr b) w7) ((0 ≤ p1 ∧ p1 < 2000) ∧ (Cal g LM jMd_show d [vA 0, vI (w7 27 p1.toNat)] w7 (fun o w8 => rVt o (fun b => K (.inr b) w8) (K (.inl none) w8))))))) ∧ ((w1 26 p1.toNat) = 6 → ((0 ≤ p1 ∧ p1 < 2000) ∧ (Cal g LM jMd_show d [vA 0, vI (w1 27 p1.toNat)] w1 (fun o w9 => rVt o (fun b => K (.inr b) w9) (K (.inl none) w9))))) ∧ ((w1 26 p1.toNat) = 7 → ((0 ≤ p1 ∧ p1 < 2000) ∧ (Cal g LM jMd_show d [vA 0, vI (w1 27 p1.toNat)] w1 (fun o w10 => rVt o (fun b => K (.inr b) w10) (Cal g LM jMd_showText d [vA 0, vA 1046] w10 (fun o w11 => rVt o (fun b => K (.inr b) w11) ((0 ≤ p1 ∧ p1 < 2000) ∧ (Cal g LM jMd_showExp d [vA 0, vI (w11 29 p1.toNat), vI 1] w11 (fun o w12 => rVt o (fun b => K (.inr b) w12) (Cal g LM jMd_showText d [vA 0, vA 1047] w12 (fun o w13 => rVt o (fun b => K (.inr b) w13) (K (.inl none) w13)))))))))))) ∧ ((w1 26 p1.toNat) = 8 → ((0 ≤ p1 ∧ p1 < 2000) ∧ (Cal g LM jMd_show d [vA 0, vI (w1 27 p1.toNat)] w1 (fun o w14 => rVt o (fun b => K (.inr b) w14) (Cal g LM jMd_showText d [vA 0, vA 1046] w14 (fun o w15 => rVt o (fun b => K (.inr b) w15) ((0 ≤ p1 ∧ p1 < 2000) ∧ (Cal g LM jMd_showExp d [vA 0, vI (w15 29 p1.toNat), vI 1] w15 (fun o w16 => rVt o (fun b => K (.inr b) w16) (Cal g LM jMd_showText d [vA 0, vA 1048] w16 (fun o w17 => rVt o (fun b => K (.inr b) w17) ((0 ≤ p1 ∧ p1 < 2000) ∧ (Cal g LM jMd_showExp d [vA 0, vI (w17 30 p1.toNat), vI 1] w17 (fun o w18 => rVt o (fun b => K (.inr b) w18) (Cal g LM jMd_showText d [vA 0, vA 1048] w18 (fun o w19 => rVt o (fun b => K (.inr b) w19) ((0 ≤ p1 ∧ p1 < 2000) ∧ (Cal g LM jMd_showExp d [vA 0, vI (w19 31 p1.toNat), vI 1] w19 (fun o w20 => rVt o (fun b => K (.inr b) w20) (Cal g LM jMd_showText d [vA 0, vA 1047] w20 (fun o w21 => rVt o (fun b => K (.inr b) w21) (K (.inl none) w21)))))))))))))))))))))) ∧ ((w1 26 p1.toNat) = 9 → ((0 ≤ p1 ∧ p1 < 2000) ∧ (Cal g LM jMd_show d [vA 0, vI (w1 27 p1.toNat)] w1 (fun o w22 => rVt o (fun b => K (.inr b) w22) ((0 ≤ p1 ∧ p1 < 2000) ∧ (Cal g LM jMd_showExp d [vA 0, vI (w22 29 p1.toNat), vI 6] w22 (fun o w23 => rVt o (fun b => K (.inr b) w23) (K (.inl none) w23)))))))) ∧ ((w1 26 p1.toNat) = 10 → ((0 ≤ p1 ∧ p1 < 2000) ∧ (Cal g LM jMd_show d [vA 0, vI (w1 27 p1.toNat)] w1 (fun o w24 => rVt o (fun b => K (.inr b) w24) ((0 ≤ p1 ∧ p1 < 2000) ∧ (Cal g LM jMd_showExp d [vA 0, vI (w24 29 p1.toNat), vI 6] w24 (fun o w25 => rVt o (fun b => K (.inr b) w25) (K (.inl none) w25)))))))) ∧ ((w1 26 p1.toNat) = 11 → ((0 ≤ p1 ∧ p1 < 2000) ∧ ((¬ x2 = 3 → (Cal g LM jMd_showExp d [vA 0, vI (w1 29 p1.toNat), vI x2] w1 (fun o w26 => rVt o (fun b => K (.inr b) w26) ((0 ≤ p1 ∧ p1 < 2000) ∧ (Cal g LM jMd_show d [vA 0, vI (w26 27 p1.toNat)] w26 (fun o w27 => rVt o (fun b => K (.inr b) w27) ((0 ≤ p1 ∧ p1 < 2000) ∧ (Cal g LM jMd_showExp d [vA 0, vI (w27 30 p1.toNat), vI (wr (x2 + 1))] w27 (fun o w28 => rVt o (fun b => K (.inr b) w28) (K (.inl none) w28)))))))))) ∧ (x2 = 3 → (Cal g LM jMd_showExp d [vA 0, vI (w1 29 p1.toNat), vI 4] w1 (fun o w29 => rVt o (fun b => K (.inr b) w29) ((0 ≤ p1 ∧ p1 < 2000) ∧ (Cal g LM jMd_show d [vA 0, vI (w29 27 p1.toNat)] w29 (fun o w30 => rVt o (fun b => K (.inr b) w30) ((0 ≤ p1 ∧ p1 < 2000) ∧ (Cal g LM jMd_showExp d [vA 0, vI (w30 30 p1.toNat), vI (wr (x2 + 1))] w30 (fun o w31 => rVt o (fun b => K (.inr b) w31) (K (.inl none) w31)))))))))))))))) ∧ (¬ p2 ≤ x2 → (Cal g LM jMd_showText d [vA 0, vA 1046] w1 (fun o w32 => rVt o (fun b => K (.inr b) w32) (Cal g LM jMd_showExp d [vA 0, vI p1, vI 1] w32 (fun o w33 => rVt o (fun b => K (.inr b) w33) (Cal g LM jMd_showText d [vA 0, vA 1047] w33 (fun o w34 => rVt o (fun b => K (.inr b) w34) (K (.inl none) w34))))))))))) : V g LM jMd_showExp (d + 1) K 0 [(0, vA 0), (1, vI p1), (2, vI p2)] [] w := by
  refine v_aload_n (pc := 0) d_Md_showExp_0 rfl (.head _) ?_
  refine v_iload_n (pc := 1) d_Md_showExp_1 rfl (.tail _ (.head _)) ?_
  refine v_callV (pc := 2) (J' := jMd_line) (d' := d) (o := 0) (ci := 13) (N := 93) (T := cT13) (As := [vI p1]) d_Md_showExp_2 ml_Md_528 cM_0.1 cM_0.2 (by decide) rfl rfl (Nat.le_of_ble_eq_true rfl) (Nat.le_refl _) rfl (Cal.weak h (fun o w1 h => ?_))
  rcases rIt_of h with ⟨x2, rfl, h⟩ | ⟨b, rfl, h⟩
  rotate_left
  · exact h
  refine v_istore_n (pc := 5) (ls' := [(3, vI x2), (0, vA 0), (1, vI p1), (2, vI p2)]) d_Md_showExp_5 rfl (by decide) rfl ?_
  refine v_iload_n (pc := 6) d_Md_showExp_6 rfl (.head _) ?_
  refine v_iload_n (pc := 7) d_Md_showExp_7 rfl (.tail _ (.tail _ (.tail _ (.head _)))) ?_
  refine v_icmpge (pc := 8) (tgt := 30) d_Md_showExp_8 (by decide) (fun c => ?_) (fun c => ?_)
  · replace h := h.1 c
    refine v_aload_n (pc := 30) d_Md_showExp_30 rfl (.tail _ (.head _)) ?_
    refine v_getr (C := "") (pc := 31) (r := 26) d_Md_showExp_31 fl_Md_216 cM_0.1 cM_0.2 (Or.inr ⟨_, rfl⟩) rM_0_32 ?_
    refine v_iload_n (pc := 34) d_Md_showExp_34 rfl (.tail _ (.tail _ (.head _))) ?_
    refine v_iald (pc := 35) (x := (w1 26 p1.toNat)) d_Md_showExp_35 cM_26.1 cM_26.2 rfl h.1 ?_
    replace h := h.2
    refine v_table (pc := 36) (tgd := 305) (tgs := [261, 286, 305, 155, 191, 130, 130, 84]) d_Md_showExp_36 (by decide) (by decide) (by decide) (fun c => ?_) ⟨fun c => ?_, fun c => ?_, fun c => ?_, fun c => ?_, fun c => ?_, fun c => ?_, fun c => ?_, fun c => ?_, trivial⟩
    · replace h := h.1 c
      refine v_aload_n (pc := 305) d_Md_showExp_305 rfl (.tail _ (.head _)) ?_
      refine v_aload_n (pc := 306) d_Md_showExp_306 rfl (.tail _ (.head _)) ?_
      refine v_getr (C := "") (pc := 307) (r := 27) d_Md_showExp_307 fl_Md_219 cM_0.1 cM_0.2 (Or.inr ⟨_, rfl⟩) rM_0_33 ?_
      refine v_iload_n (pc := 310) d_Md_showExp_310 rfl (.tail _ (.tail _ (.head _))) ?_
      refine v_iald (pc := 311) (x := (w1 27 p1.toNat)) d_Md_showExp_311 cM_27.1 cM_27.2 rfl h.1 ?_
      replace h := h.2
      refine v_callV (pc := 312) (J' := jMd_show) (d' := d) (o := 0) (ci := 13) (N := 93) (T := cT13) (As := [vI (w1 27 p1.toNat)]) d_Md_showExp_312 ml_Md_539 cM_0.1 cM_0.2 (by decide) rfl rfl (Nat.le_of_ble_eq_true rfl) (Nat.le_refl _) rfl (Cal.weak h (fun o w3 h => ?_))
      rcases rVt_of h with ⟨rfl, h⟩ | ⟨b, rfl, h⟩
      rotate_left
      · exact h
      exact v_vret (pc := 315) d_Md_showExp_315 rfl h
    · replace h := h.2.1 c
      refine v_aload_n (pc := 261) d_Md_showExp_261 rfl (.tail _ (.head _)) ?_
      refine v_ldcs (pc := 262) (n := 28) (tx := "arc") d_Md_showExp_262 (by decide +kernel) ?_
      refine v_callV (pc := 264) (J' := jMd_showText) (d' := d) (o := 0) (ci := 13) (N := 93) (T := cT13) (As := [vA 1029]) d_Md_showExp_264 ml_Md_531 cM_0.1 cM_0.2 (by decide) rfl rfl (Nat.le_of_ble_eq_true rfl) (Nat.le_refl _) rfl (Cal.weak h (fun o w4 h => ?_))
      rcases rVt_of h with ⟨rfl, h⟩ | ⟨b, rfl, h⟩
      rotate_left
      · exact h
      refine v_aload_n (pc := 267) d_Md_showExp_267 rfl (.tail _ (.head _)) ?_
      refine v_ldcs (pc := 268) (n := 48) (tx := ".") d_Md_showExp_268 (by decide +kernel) ?_
      refine v_callV (pc := 270) (J' := jMd_showText) (d' := d) (o := 0) (ci := 13) (N := 93) (T := cT13) (As := [vA 1049]) d_Md_showExp_270 ml_Md_531 cM_0.1 cM_0.2 (by decide) rfl rfl (Nat.le_of_ble_eq_true rfl) (Nat.le_refl _) rfl (Cal.weak h (fun o w5 h => ?_))
      rcases rVt_of h with ⟨rfl, h⟩ | ⟨b, rfl, h⟩
      rotate_left
      · exact h
      refine v_aload_n (pc := 273) d_Md_showExp_273 rfl (.tail _ (.head _)) ?_
      refine v_aload_n (pc := 274) d_Md_showExp_274 rfl (.tail _ (.head _)) ?_
      refine v_getr (C := "") (pc := 275) (r := 27) d_Md_showExp_275 fl_Md_219 cM_0.1 cM_0.2 (Or.inr ⟨_, rfl⟩) rM_0_33 ?_
      refine v_iload_n (pc := 278) d_Md_showExp_278 rfl (.tail _ (.tail _ (.head _))) ?_
      refine v_iald (pc := 279) (x := (w5 27 p1.toNat)) d_Md_showExp_279 cM_27.1 cM_27.2 rfl h.1 ?_
      replace h := h.2
      refine v_callV (pc := 280) (J' := jMd_show) (d' := d) (o := 0) (ci := 13) (N := 93) (T := cT13) (As := [vI (w5 27 p1.toNat)]) d_Md_showExp_280 ml_Md_539 cM_0.1 cM_0.2 (by decide) rfl rfl (Nat.le_of_ble_eq_true rfl) (Nat.le_refl _) rfl (Cal.weak h (fun o w6 h => ?_))
      rcases rVt_of h with ⟨rfl, h⟩ | ⟨b, rfl, h⟩
      rotate_left
      · exact h
      refine v_goto (pc := 283) (tgt := 315) d_Md_showExp_283 (by decide) ?_
      exact v_vret (pc := 315) d_Md_showExp_315 rfl h
    · replace h := h.2.2.1 c
      refine v_aload_n (pc := 286) d_Md_showExp_286 rfl (.tail _ (.head _)) ?_
      refine v_ldcs (pc := 287) (n := 29) (tx := "has") d_Md_showExp_287 (by decide +kernel) ?_
      refine v_callV (pc := 289) (J' := jMd_showText) (d' := d) (o := 0) (ci := 13) (N := 93) (T := cT13) (As := [vA 1030]) d_Md_showExp_289 ml_Md_531 cM_0.1 cM_0.2 (by decide) rfl rfl (Nat.le_of_ble_eq_true rfl) (Nat.le_refl _) rfl (Cal.weak h (fun o w7 h => ?_))
      rcases rVt_of h with ⟨rfl, h⟩ | ⟨b, rfl, h⟩
      rotate_left
      · exact h
      refine v_aload_n (pc := 292) d_Md_showExp_292 rfl (.tail _ (.head _)) ?_
      refine v_aload_n (pc := 293) d_Md_showExp_293 rfl (.tail _ (.head _)) ?_
      refine v_getr (C := "") (pc := 294) (r := 27) d_Md_showExp_294 fl_Md_219 cM_0.1 cM_0.2 (Or.inr ⟨_, rfl⟩) rM_0_33 ?_
      refine v_iload_n (pc := 297) d_Md_showExp_297 rfl (.tail _ (.tail _ (.head _))) ?_
      refine v_iald (pc := 298) (x := (w7 27 p1.toNat)) d_Md_showExp_298 cM_27.1 cM_27.2 rfl h.1 ?_
      replace h := h.2
      refine v_callV (pc := 299) (J' := jMd_show) (d' := d) (o := 0) (ci := 13) (N := 93) (T := cT13) (As := [vI (w7 27 p1.toNat)]) d_Md_showExp_299 ml_Md_539 cM_0.1 cM_0.2 (by decide) rfl rfl (Nat.le_of_ble_eq_true rfl) (Nat.le_refl _) rfl (Cal.weak h (fun o w8 h => ?_))
      rcases rVt_of h with ⟨rfl, h⟩ | ⟨b, rfl, h⟩
      rotate_left
      · exact h
      refine v_goto (pc := 302) (tgt := 315) d_Md_showExp_302 (by decide) ?_
      exact v_vret (pc := 315) d_Md_showExp_315 rfl h
    · replace h := h.2.2.2.1 c
      refine v_aload_n (pc := 305) d_Md_showExp_305 rfl (.tail _ (.head _)) ?_
      refine v_aload_n (pc := 306) d_Md_showExp_306 rfl (.tail _ (.head _)) ?_
      refine v_getr (C := "") (pc := 307) (r := 27) d_Md_showExp_307 fl_Md_219 cM_0.1 cM_0.2 (Or.inr ⟨_, rfl⟩) rM_0_33 ?_
      refine v_iload_n (pc := 310) d_Md_showExp_310 rfl (.tail _ (.tail _ (.head _))) ?_
      refine v_iald (pc := 311) (x := (w1 27 p1.toNat)) d_Md_showExp_311 cM_27.1 cM_27.2 rfl h.1 ?_
      replace h := h.2
      refine v_callV (pc := 312) (J' := jMd_show) (d' := d) (o := 0) (ci := 13) (N := 93) (T := cT13) (As := [vI (w1 27 p1.toNat)]) d_Md_showExp_312 ml_Md_539 cM_0.1 cM_0.2 (by decide) rfl rfl (Nat.le_of_ble_eq_true rfl) (Nat.le_refl _) rfl (Cal.weak h (fun o w9 h => ?_))
      rcases rVt_of h with ⟨rfl, h⟩ | ⟨b, rfl, h⟩
      rotate_left
      · exact h
      exact v_vret (pc := 315) d_Md_showExp_315 rfl h
    · replace h := h.2.2.2.2.1 c
      refine v_aload_n (pc := 155) d_Md_showExp_155 rfl (.tail _ (.head _)) ?_
      refine v_aload_n (pc := 156) d_Md_showExp_156 rfl (.tail _ (.head _)) ?_
      refine v_getr (C := "") (pc := 157) (r := 27) d_Md_showExp_157 fl_Md_219 cM_0.1 cM_0.2 (Or.inr ⟨_, rfl⟩) rM_0_33 ?_
      refine v_iload_n (pc := 160) d_Md_showExp_160 rfl (.tail _ (.tail _ (.head _))) ?_
      refine v_iald (pc := 161) (x := (w1 27 p1.toNat)) d_Md_showExp_161 cM_27.1 cM_27.2 rfl h.1 ?_
      replace h := h.2
      refine v_callV (pc := 162) (J' := jMd_show) (d' := d) (o := 0) (ci := 13) (N := 93) (T := cT13) (As := [vI (w1 27 p1.toNat)]) d_Md_showExp_162 ml_Md_539 cM_0.1 cM_0.2 (by decide) rfl rfl (Nat.le_of_ble_eq_true rfl) (Nat.le_refl _) rfl (Cal.weak h (fun o w10 h => ?_))
      rcases rVt_of h with ⟨rfl, h⟩ | ⟨b, rfl, h⟩
      rotate_left
      · exact h
      refine v_aload_n (pc := 165) d_Md_showExp_165 rfl (.tail _ (.head _)) ?_
      refine v_ldcs (pc := 166) (n := 45) (tx := "(") d_Md_showExp_166 (by decide +kernel) ?_
      refine v_callV (pc := 168) (J' := jMd_showText) (d' := d) (o := 0) (ci := 13) (N := 93) (T := cT13) (As := [vA 1046]) d_Md_showExp_168 ml_Md_531 cM_0.1 cM_0.2 (by decide) rfl rfl (Nat.le_of_ble_eq_true rfl) (Nat.le_refl _) rfl (Cal.weak h (fun o w11 h => ?_))
      rcases rVt_of h with ⟨rfl, h⟩ | ⟨b, rfl, h⟩
      rotate_left
      · exact h
      refine v_aload_n (pc := 171) d_Md_showExp_171 rfl (.tail _ (.head _)) ?_
      refine v_aload_n (pc := 172) d_Md_showExp_172 rfl (.tail _ (.head _)) ?_
      refine v_getr (C := "") (pc := 173) (r := 29) d_Md_showExp_173 fl_Md_225 cM_0.1 cM_0.2 (Or.inr ⟨_, rfl⟩) rM_0_35 ?_
      refine v_iload_n (pc := 176) d_Md_showExp_176 rfl (.tail _ (.tail _ (.head _))) ?_
      refine v_iald (pc := 177) (x := (w11 29 p1.toNat)) d_Md_showExp_177 cM_29.1 cM_29.2 rfl h.1 ?_
      replace h := h.2
      refine v_iconst (pc := 178) d_Md_showExp_178 (by decide) ?_
      refine v_callS (pc := 179) (J' := jMd_showExp) (d' := d) (As := [vA 0, vI (w11 29 p1.toNat), vI 1]) d_Md_showExp_179 ml_Md_535 rfl (Nat.le_of_ble_eq_true rfl) (Nat.le_refl _) rfl (Cal.weak h (fun o w12 h => ?_))
      rcases rVt_of h with ⟨rfl, h⟩ | ⟨b, rfl, h⟩
      rotate_left
      · exact h
      refine v_aload_n (pc := 182) d_Md_showExp_182 rfl (.tail _ (.head _)) ?_
      refine v_ldcs (pc := 183) (n := 46) (tx := ")") d_Md_showExp_183 (by decide +kernel) ?_
      refine v_callV (pc := 185) (J' := jMd_showText) (d' := d) (o := 0) (ci := 13) (N := 93) (T := cT13) (As := [vA 1047]) d_Md_showExp_185 ml_Md_531 cM_0.1 cM_0.2 (by decide) rfl rfl (Nat.le_of_ble_eq_true rfl) (Nat.le_refl _) rfl (Cal.weak h (fun o w13 h => ?_))
      rcases rVt_of h with ⟨rfl, h⟩ | ⟨b, rfl, h⟩
      rotate_left
      · exact h
      refine v_goto (pc := 188) (tgt := 315) d_Md_showExp_188 (by decide) ?_
      exact v_vret (pc := 315) d_Md_showExp_315 rfl h
    · replace h := h.2.2.2.2.2.1 c
      refine v_aload_n (pc := 191) d_Md_showExp_191 rfl (.tail _ (.head _)) ?_
      refine v_aload_n (pc := 192) d_Md_showExp_192 rfl (.tail _ (.head _)) ?_
      refine v_getr (C := "") (pc := 193) (r := 27) d_Md_showExp_193 fl_Md_219 cM_0.1 cM_0.2 (Or.inr ⟨_, rfl⟩) rM_0_33 ?_
      refine v_iload_n (pc := 196) d_Md_showExp_196 rfl (.tail _ (.tail _ (.head _))) ?_
      refine v_iald (pc := 197) (x := (w1 27 p1.toNat)) d_Md_showExp_197 cM_27.1 cM_27.2 rfl h.1 ?_
      replace h := h.2
      refine v_callV (pc := 198) (J' := jMd_show) (d' := d) (o := 0) (ci := 13) (N := 93) (T := cT13) (As := [vI (w1 27 p1.toNat)]) d_Md_showExp_198 ml_Md_539 cM_0.1 cM_0.2 (by decide) rfl rfl (Nat.le_of_ble_eq_true rfl) (Nat.le_refl _) rfl (Cal.weak h (fun o w14 h => ?_))
      rcases rVt_of h with ⟨rfl, h⟩ | ⟨b, rfl, h⟩
      rotate_left
      · exact h
      refine v_aload_n (pc := 201) d_Md_showExp_201 rfl (.tail _ (.head _)) ?_
      refine v_ldcs (pc := 202) (n := 45) (tx := "(") d_Md_showExp_202 (by decide +kernel) ?_
      refine v_callV (pc := 204) (J' := jMd_showText) (d' := d) (o := 0) (ci := 13) (N := 93) (T := cT13) (As := [vA 1046]) d_Md_showExp_204 ml_Md_531 cM_0.1 cM_0.2 (by decide) rfl rfl (Nat.le_of_ble_eq_true rfl) (Nat.le_refl _) rfl (Cal.weak h (fun o w15 h => ?_))
      rcases rVt_of h with ⟨rfl, h⟩ | ⟨b, rfl, h⟩
      rotate_left
      · exact h
      refine v_aload_n (pc := 207) d_Md_showExp_207 rfl (.tail _ (.head _)) ?_
      refine v_aload_n (pc := 208) d_Md_showExp_208 rfl (.tail _ (.head _)) ?_
      refine v_getr (C := "") (pc := 209) (r := 29) d_Md_showExp_209 fl_Md_225 cM_0.1 cM_0.2 (Or.inr ⟨_, rfl⟩) rM_0_35 ?_
      refine v_iload_n (pc := 212) d_Md_showExp_212 rfl (.tail _ (.tail _ (.head _))) ?_
      refine v_iald (pc := 213) (x := (w15 29 p1.toNat)) d_Md_showExp_213 cM_29.1 cM_29.2 rfl h.1 ?_
      replace h := h.2
      refine v_iconst (pc := 214) d_Md_showExp_214 (by decide) ?_
      refine v_callS (pc := 215) (J' := jMd_showExp) (d' := d) (As := [vA 0, vI (w15 29 p1.toNat), vI 1]) d_Md_showExp_215 ml_Md_535 rfl (Nat.le_of_ble_eq_true rfl) (Nat.le_refl _) rfl (Cal.weak h (fun o w16 h => ?_))
      rcases rVt_of h with ⟨rfl, h⟩ | ⟨b, rfl, h⟩
      rotate_left
      · exact h
      refine v_aload_n (pc := 218) d_Md_showExp_218 rfl (.tail _ (.head _)) ?_
      refine v_ldcs (pc := 219) (n := 47) (tx := ",") d_Md_showExp_219 (by decide +kernel) ?_
      refine v_callV (pc := 221) (J' := jMd_showText) (d' := d) (o := 0) (ci := 13) (N := 93) (T := cT13) (As := [vA 1048]) d_Md_showExp_221 ml_Md_531 cM_0.1 cM_0.2 (by decide) rfl rfl (Nat.le_of_ble_eq_true rfl) (Nat.le_refl _) rfl (Cal.weak h (fun o w17 h => ?_))
      rcases rVt_of h with ⟨rfl, h⟩ | ⟨b, rfl, h⟩
      rotate_left
      · exact h
      refine v_aload_n (pc := 224) d_Md_showExp_224 rfl (.tail _ (.head _)) ?_
      refine v_aload_n (pc := 225) d_Md_showExp_225 rfl (.tail _ (.head _)) ?_
      refine v_getr (C := "") (pc := 226) (r := 30) d_Md_showExp_226 fl_Md_228 cM_0.1 cM_0.2 (Or.inr ⟨_, rfl⟩) rM_0_36 ?_
      refine v_iload_n (pc := 229) d_Md_showExp_229 rfl (.tail _ (.tail _ (.head _))) ?_
      refine v_iald (pc := 230) (x := (w17 30 p1.toNat)) d_Md_showExp_230 cM_30.1 cM_30.2 rfl h.1 ?_
      replace h := h.2
      refine v_iconst (pc := 231) d_Md_showExp_231 (by decide) ?_
      refine v_callS (pc := 232) (J' := jMd_showExp) (d' := d) (As := [vA 0, vI (w17 30 p1.toNat), vI 1]) d_Md_showExp_232 ml_Md_535 rfl (Nat.le_of_ble_eq_true rfl) (Nat.le_refl _) rfl (Cal.weak h (fun o w18 h => ?_))
      rcases rVt_of h with ⟨rfl, h⟩ | ⟨b, rfl, h⟩
      rotate_left
      · exact h
      refine v_aload_n (pc := 235) d_Md_showExp_235 rfl (.tail _ (.head _)) ?_
      refine v_ldcs (pc := 236) (n := 47) (tx := ",") d_Md_showExp_236 (by decide +kernel) ?_
      refine v_callV (pc := 238) (J' := jMd_showText) (d' := d) (o := 0) (ci := 13) (N := 93) (T := cT13) (As := [vA 1048]) d_Md_showExp_238 ml_Md_531 cM_0.1 cM_0.2 (by decide) rfl rfl (Nat.le_of_ble_eq_true rfl) (Nat.le_refl _) rfl (Cal.weak h (fun o w19 h => ?_))
      rcases rVt_of h with ⟨rfl, h⟩ | ⟨b, rfl, h⟩
      rotate_left
      · exact h
      refine v_aload_n (pc := 241) d_Md_showExp_241 rfl (.tail _ (.head _)) ?_
      refine v_aload_n (pc := 242) d_Md_showExp_242 rfl (.tail _ (.head _)) ?_
      refine v_getr (C := "") (pc := 243) (r := 31) d_Md_showExp_243 fl_Md_231 cM_0.1 cM_0.2 (Or.inr ⟨_, rfl⟩) rM_0_37 ?_
      refine v_iload_n (pc := 246) d_Md_showExp_246 rfl (.tail _ (.tail _ (.head _))) ?_
      refine v_iald (pc := 247) (x := (w19 31 p1.toNat)) d_Md_showExp_247 cM_31.1 cM_31.2 rfl h.1 ?_
      replace h := h.2
      refine v_iconst (pc := 248) d_Md_showExp_248 (by decide) ?_
      refine v_callS (pc := 249) (J' := jMd_showExp) (d' := d) (As := [vA 0, vI (w19 31 p1.toNat), vI 1]) d_Md_showExp_249 ml_Md_535 rfl (Nat.le_of_ble_eq_true rfl) (Nat.le_refl _) rfl (Cal.weak h (fun o w20 h => ?_))
      rcases rVt_of h with ⟨rfl, h⟩ | ⟨b, rfl, h⟩
      rotate_left
      · exact h
      refine v_aload_n (pc := 252) d_Md_showExp_252 rfl (.tail _ (.head _)) ?_
      refine v_ldcs (pc := 253) (n := 46) (tx := ")") d_Md_showExp_253 (by decide +kernel) ?_
      refine v_callV (pc := 255) (J' := jMd_showText) (d' := d) (o := 0) (ci := 13) (N := 93) (T := cT13) (As := [vA 1047]) d_Md_showExp_255 ml_Md_531 cM_0.1 cM_0.2 (by decide) rfl rfl (Nat.le_of_ble_eq_true rfl) (Nat.le_refl _) rfl (Cal.weak h (fun o w21 h => ?_))
      rcases rVt_of h with ⟨rfl, h⟩ | ⟨b, rfl, h⟩
      rotate_left
      · exact h
      refine v_goto (pc := 258) (tgt := 315) d_Md_showExp_258 (by decide) ?_
      exact v_vret (pc := 315) d_Md_showExp_315 rfl h
    · replace h := h.2.2.2.2.2.2.1 c
      refine v_aload_n (pc := 130) d_Md_showExp_130 rfl (.tail _ (.head _)) ?_
      refine v_aload_n (pc := 131) d_Md_showExp_131 rfl (.tail _ (.head _)) ?_
      refine v_getr (C := "") (pc := 132) (r := 27) d_Md_showExp_132 fl_Md_219 cM_0.1 cM_0.2 (Or.inr ⟨_, rfl⟩) rM_0_33 ?_
      refine v_iload_n (pc := 135) d_Md_showExp_135 rfl (.tail _ (.tail _ (.head _))) ?_
      refine v_iald (pc := 136) (x := (w1 27 p1.toNat)) d_Md_showExp_136 cM_27.1 cM_27.2 rfl h.1 ?_
      replace h := h.2
      refine v_callV (pc := 137) (J' := jMd_show) (d' := d) (o := 0) (ci := 13) (N := 93) (T := cT13) (As := [vI (w1 27 p1.toNat)]) d_Md_showExp_137 ml_Md_539 cM_0.1 cM_0.2 (by decide) rfl rfl (Nat.le_of_ble_eq_true rfl) (Nat.le_refl _) rfl (Cal.weak h (fun o w22 h => ?_))
      rcases rVt_of h with ⟨rfl, h⟩ | ⟨b, rfl, h⟩
      rotate_left
      · exact h
      refine v_aload_n (pc := 140) d_Md_showExp_140 rfl (.tail _ (.head _)) ?_
      refine v_aload_n (pc := 141) d_Md_showExp_141 rfl (.tail _ (.head _)) ?_
      refine v_getr (C := "") (pc := 142) (r := 29) d_Md_showExp_142 fl_Md_225 cM_0.1 cM_0.2 (Or.inr ⟨_, rfl⟩) rM_0_35 ?_
      refine v_iload_n (pc := 145) d_Md_showExp_145 rfl (.tail _ (.tail _ (.head _))) ?_
      refine v_iald (pc := 146) (x := (w22 29 p1.toNat)) d_Md_showExp_146 cM_29.1 cM_29.2 rfl h.1 ?_
      replace h := h.2
      refine v_bipush (pc := 147) d_Md_showExp_147 (by decide) rfl ?_
      refine v_callS (pc := 149) (J' := jMd_showExp) (d' := d) (As := [vA 0, vI (w22 29 p1.toNat), vI 6]) d_Md_showExp_149 ml_Md_535 rfl (Nat.le_of_ble_eq_true rfl) (Nat.le_refl _) rfl (Cal.weak h (fun o w23 h => ?_))
      rcases rVt_of h with ⟨rfl, h⟩ | ⟨b, rfl, h⟩
      rotate_left
      · exact h
      refine v_goto (pc := 152) (tgt := 315) d_Md_showExp_152 (by decide) ?_
      exact v_vret (pc := 315) d_Md_showExp_315 rfl h
    · replace h := h.2.2.2.2.2.2.2.1 c
      refine v_aload_n (pc := 130) d_Md_showExp_130 rfl (.tail _ (.head _)) ?_
      refine v_aload_n (pc := 131) d_Md_showExp_131 rfl (.tail _ (.head _)) ?_
      refine v_getr (C := "") (pc := 132) (r := 27) d_Md_showExp_132 fl_Md_219 cM_0.1 cM_0.2 (Or.inr ⟨_, rfl⟩) rM_0_33 ?_
      refine v_iload_n (pc := 135) d_Md_showExp_135 rfl (.tail _ (.tail _ (.head _))) ?_
      refine v_iald (pc := 136) (x := (w1 27 p1.toNat)) d_Md_showExp_136 cM_27.1 cM_27.2 rfl h.1 ?_
      replace h := h.2
      refine v_callV (pc := 137) (J' := jMd_show) (d' := d) (o := 0) (ci := 13) (N := 93) (T := cT13) (As := [vI (w1 27 p1.toNat)]) d_Md_showExp_137 ml_Md_539 cM_0.1 cM_0.2 (by decide) rfl rfl (Nat.le_of_ble_eq_true rfl) (Nat.le_refl _) rfl (Cal.weak h (fun o w24 h => ?_))
      rcases rVt_of h with ⟨rfl, h⟩ | ⟨b, rfl, h⟩
      rotate_left
      · exact h
      refine v_aload_n (pc := 140) d_Md_showExp_140 rfl (.tail _ (.head _)) ?_
      refine v_aload_n (pc := 141) d_Md_showExp_141 rfl (.tail _ (.head _)) ?_
      refine v_getr (C := "") (pc := 142) (r := 29) d_Md_showExp_142 fl_Md_225 cM_0.1 cM_0.2 (Or.inr ⟨_, rfl⟩) rM_0_35 ?_
      refine v_iload_n (pc := 145) d_Md_showExp_145 rfl (.tail _ (.tail _ (.head _))) ?_
      refine v_iald (pc := 146) (x := (w24 29 p1.toNat)) d_Md_showExp_146 cM_29.1 cM_29.2 rfl h.1 ?_
      replace h := h.2
      refine v_bipush (pc := 147) d_Md_showExp_147 (by decide) rfl ?_
      refine v_callS (pc := 149) (J' := jMd_showExp) (d' := d) (As := [vA 0, vI (w24 29 p1.toNat), vI 6]) d_Md_showExp_149 ml_Md_535 rfl (Nat.le_of_ble_eq_true rfl) (Nat.le_refl _) rfl (Cal.weak h (fun o w25 h => ?_))
      rcases rVt_of h with ⟨rfl, h⟩ | ⟨b, rfl, h⟩
      rotate_left
      · exact h
      refine v_goto (pc := 152) (tgt := 315) d_Md_showExp_152 (by decide) ?_
      exact v_vret (pc := 315) d_Md_showExp_315 rfl h
    · replace h := h.2.2.2.2.2.2.2.2 c
      refine v_aload_n (pc := 84) d_Md_showExp_84 rfl (.tail _ (.head _)) ?_
      refine v_aload_n (pc := 85) d_Md_showExp_85 rfl (.tail _ (.head _)) ?_
      refine v_getr (C := "") (pc := 86) (r := 29) d_Md_showExp_86 fl_Md_225 cM_0.1 cM_0.2 (Or.inr ⟨_, rfl⟩) rM_0_35 ?_
      refine v_iload_n (pc := 89) d_Md_showExp_89 rfl (.tail _ (.tail _ (.head _))) ?_
      refine v_iald (pc := 90) (x := (w1 29 p1.toNat)) d_Md_showExp_90 cM_29.1 cM_29.2 rfl h.1 ?_
      replace h := h.2
      refine v_iload_n (pc := 91) d_Md_showExp_91 rfl (.head _) ?_
      refine v_iconst (pc := 92) d_Md_showExp_92 (by decide) ?_
      refine v_icmpne (pc := 93) (tgt := 100) d_Md_showExp_93 (by decide) (fun c => ?_) (fun c => ?_)
      · replace h := h.1 c
        refine v_iload_n (pc := 100) d_Md_showExp_100 rfl (.head _) ?_
        refine v_callS (pc := 101) (J' := jMd_showExp) (d' := d) (As := [vA 0, vI (w1 29 p1.toNat), vI x2]) d_Md_showExp_101 ml_Md_535 rfl (Nat.le_of_ble_eq_true rfl) (Nat.le_refl _) rfl (Cal.weak h (fun o w26 h => ?_))
        rcases rVt_of h with ⟨rfl, h⟩ | ⟨b, rfl, h⟩
        rotate_left
        · exact h
        refine v_aload_n (pc := 104) d_Md_showExp_104 rfl (.tail _ (.head _)) ?_
        refine v_aload_n (pc := 105) d_Md_showExp_105 rfl (.tail _ (.head _)) ?_
        refine v_getr (C := "") (pc := 106) (r := 27) d_Md_showExp_106 fl_Md_219 cM_0.1 cM_0.2 (Or.inr ⟨_, rfl⟩) rM_0_33 ?_
        refine v_iload_n (pc := 109) d_Md_showExp_109 rfl (.tail _ (.tail _ (.head _))) ?_
        refine v_iald (pc := 110) (x := (w26 27 p1.toNat)) d_Md_showExp_110 cM_27.1 cM_27.2 rfl h.1 ?_
        replace h := h.2
        refine v_callV (pc := 111) (J' := jMd_show) (d' := d) (o := 0) (ci := 13) (N := 93) (T := cT13) (As := [vI (w26 27 p1.toNat)]) d_Md_showExp_111 ml_Md_539 cM_0.1 cM_0.2 (by decide) rfl rfl (Nat.le_of_ble_eq_true rfl) (Nat.le_refl _) rfl (Cal.weak h (fun o w27 h => ?_))
        rcases rVt_of h with ⟨rfl, h⟩ | ⟨b, rfl, h⟩
        rotate_left
        · exact h
        refine v_aload_n (pc := 114) d_Md_showExp_114 rfl (.tail _ (.head _)) ?_
        refine v_aload_n (pc := 115) d_Md_showExp_115 rfl (.tail _ (.head _)) ?_
        refine v_getr (C := "") (pc := 116) (r := 30) d_Md_showExp_116 fl_Md_228 cM_0.1 cM_0.2 (Or.inr ⟨_, rfl⟩) rM_0_36 ?_
        refine v_iload_n (pc := 119) d_Md_showExp_119 rfl (.tail _ (.tail _ (.head _))) ?_
        refine v_iald (pc := 120) (x := (w27 30 p1.toNat)) d_Md_showExp_120 cM_30.1 cM_30.2 rfl h.1 ?_
        replace h := h.2
        refine v_iload_n (pc := 121) d_Md_showExp_121 rfl (.head _) ?_
        refine v_iconst (pc := 122) d_Md_showExp_122 (by decide) ?_
        refine v_iadd (pc := 123) d_Md_showExp_123 ?_
        refine v_callS (pc := 124) (J' := jMd_showExp) (d' := d) (As := [vA 0, vI (w27 30 p1.toNat), vI (wr (x2 + 1))]) d_Md_showExp_124 ml_Md_535 rfl (Nat.le_of_ble_eq_true rfl) (Nat.le_refl _) rfl (Cal.weak h (fun o w28 h => ?_))
        rcases rVt_of h with ⟨rfl, h⟩ | ⟨b, rfl, h⟩
        rotate_left
        · exact h
        refine v_goto (pc := 127) (tgt := 315) d_Md_showExp_127 (by decide) ?_
        exact v_vret (pc := 315) d_Md_showExp_315 rfl h
      · replace h := h.2 c
        refine v_iconst (pc := 96) d_Md_showExp_96 (by decide) ?_
        refine v_goto (pc := 97) (tgt := 101) d_Md_showExp_97 (by decide) ?_
        refine v_callS (pc := 101) (J' := jMd_showExp) (d' := d) (As := [vA 0, vI (w1 29 p1.toNat), vI 4]) d_Md_showExp_101 ml_Md_535 rfl (Nat.le_of_ble_eq_true rfl) (Nat.le_refl _) rfl (Cal.weak h (fun o w29 h => ?_))
        rcases rVt_of h with ⟨rfl, h⟩ | ⟨b, rfl, h⟩
        rotate_left
        · exact h
        refine v_aload_n (pc := 104) d_Md_showExp_104 rfl (.tail _ (.head _)) ?_
        refine v_aload_n (pc := 105) d_Md_showExp_105 rfl (.tail _ (.head _)) ?_
        refine v_getr (C := "") (pc := 106) (r := 27) d_Md_showExp_106 fl_Md_219 cM_0.1 cM_0.2 (Or.inr ⟨_, rfl⟩) rM_0_33 ?_
        refine v_iload_n (pc := 109) d_Md_showExp_109 rfl (.tail _ (.tail _ (.head _))) ?_
        refine v_iald (pc := 110) (x := (w29 27 p1.toNat)) d_Md_showExp_110 cM_27.1 cM_27.2 rfl h.1 ?_
        replace h := h.2
        refine v_callV (pc := 111) (J' := jMd_show) (d' := d) (o := 0) (ci := 13) (N := 93) (T := cT13) (As := [vI (w29 27 p1.toNat)]) d_Md_showExp_111 ml_Md_539 cM_0.1 cM_0.2 (by decide) rfl rfl (Nat.le_of_ble_eq_true rfl) (Nat.le_refl _) rfl (Cal.weak h (fun o w30 h => ?_))
        rcases rVt_of h with ⟨rfl, h⟩ | ⟨b, rfl, h⟩
        rotate_left
        · exact h
        refine v_aload_n (pc := 114) d_Md_showExp_114 rfl (.tail _ (.head _)) ?_
        refine v_aload_n (pc := 115) d_Md_showExp_115 rfl (.tail _ (.head _)) ?_
        refine v_getr (C := "") (pc := 116) (r := 30) d_Md_showExp_116 fl_Md_228 cM_0.1 cM_0.2 (Or.inr ⟨_, rfl⟩) rM_0_36 ?_
        refine v_iload_n (pc := 119) d_Md_showExp_119 rfl (.tail _ (.tail _ (.head _))) ?_
        refine v_iald (pc := 120) (x := (w30 30 p1.toNat)) d_Md_showExp_120 cM_30.1 cM_30.2 rfl h.1 ?_
        replace h := h.2
        refine v_iload_n (pc := 121) d_Md_showExp_121 rfl (.head _) ?_
        refine v_iconst (pc := 122) d_Md_showExp_122 (by decide) ?_
        refine v_iadd (pc := 123) d_Md_showExp_123 ?_
        refine v_callS (pc := 124) (J' := jMd_showExp) (d' := d) (As := [vA 0, vI (w30 30 p1.toNat), vI (wr (x2 + 1))]) d_Md_showExp_124 ml_Md_535 rfl (Nat.le_of_ble_eq_true rfl) (Nat.le_refl _) rfl (Cal.weak h (fun o w31 h => ?_))
        rcases rVt_of h with ⟨rfl, h⟩ | ⟨b, rfl, h⟩
        rotate_left
        · exact h
        refine v_goto (pc := 127) (tgt := 315) d_Md_showExp_127 (by decide) ?_
        exact v_vret (pc := 315) d_Md_showExp_315 rfl h
  · replace h := h.2 c
    refine v_aload_n (pc := 11) d_Md_showExp_11 rfl (.tail _ (.head _)) ?_
    refine v_ldcs (pc := 12) (n := 45) (tx := "(") d_Md_showExp_12 (by decide +kernel) ?_
    refine v_callV (pc := 14) (J' := jMd_showText) (d' := d) (o := 0) (ci := 13) (N := 93) (T := cT13) (As := [vA 1046]) d_Md_showExp_14 ml_Md_531 cM_0.1 cM_0.2 (by decide) rfl rfl (Nat.le_of_ble_eq_true rfl) (Nat.le_refl _) rfl (Cal.weak h (fun o w32 h => ?_))
    rcases rVt_of h with ⟨rfl, h⟩ | ⟨b, rfl, h⟩
    rotate_left
    · exact h
    refine v_aload_n (pc := 17) d_Md_showExp_17 rfl (.tail _ (.head _)) ?_
    refine v_iload_n (pc := 18) d_Md_showExp_18 rfl (.tail _ (.tail _ (.head _))) ?_
    refine v_iconst (pc := 19) d_Md_showExp_19 (by decide) ?_
    refine v_callS (pc := 20) (J' := jMd_showExp) (d' := d) (As := [vA 0, vI p1, vI 1]) d_Md_showExp_20 ml_Md_535 rfl (Nat.le_of_ble_eq_true rfl) (Nat.le_refl _) rfl (Cal.weak h (fun o w33 h => ?_))
    rcases rVt_of h with ⟨rfl, h⟩ | ⟨b, rfl, h⟩
    rotate_left
    · exact h
    refine v_aload_n (pc := 23) d_Md_showExp_23 rfl (.tail _ (.head _)) ?_
    refine v_ldcs (pc := 24) (n := 46) (tx := ")") d_Md_showExp_24 (by decide +kernel) ?_
    refine v_callV (pc := 26) (J' := jMd_showText) (d' := d) (o := 0) (ci := 13) (N := 93) (T := cT13) (As := [vA 1047]) d_Md_showExp_26 ml_Md_531 cM_0.1 cM_0.2 (by decide) rfl rfl (Nat.le_of_ble_eq_true rfl) (Nat.le_refl _) rfl (Cal.weak h (fun o w34 h => ?_))
    rcases rVt_of h with ⟨rfl, h⟩ | ⟨b, rfl, h⟩
    rotate_left
    · exact h
    exact v_vret (pc := 29) d_Md_showExp_29 rfl h
theorem d_Md_showBlock_0 : decode jMd_showBlock.cc 0 = .ok (.aload_n 0, 1) := by decide +kernel
theorem d_Md_showBlock_1 : decode jMd_showBlock.cc 1 = .ok (.ldc 132, 2) := by decide +kernel
theorem d_Md_showBlock_3 : decode jMd_showBlock.cc 3 = .ok (.invokevirtual 531, 3) := by decide +kernel
theorem d_Md_showBlock_6 : decode jMd_showBlock.cc 6 = .ok (.iload_n 1, 1) := by decide +kernel
theorem d_Md_showBlock_7 : decode jMd_showBlock.cc 7 = .ok (.istore_n 2, 1) := by decide +kernel
theorem d_Md_showBlock_8 : decode jMd_showBlock.cc 8 = .ok (.iload_n 2, 1) := by decide +kernel
theorem d_Md_showBlock_9 : decode jMd_showBlock.cc 9 = .ok (.ifCond .lt 324, 3) := by decide +kernel
theorem d_Md_showBlock_12 : decode jMd_showBlock.cc 12 = .ok (.aload_n 0, 1) := by decide +kernel
theorem d_Md_showBlock_13 : decode jMd_showBlock.cc 13 = .ok (.getfield 188, 3) := by decide +kernel
theorem d_Md_showBlock_16 : decode jMd_showBlock.cc 16 = .ok (.iload_n 2, 1) := by decide +kernel
theorem d_Md_showBlock_17 : decode jMd_showBlock.cc 17 = .ok (.iaload, 1) := by decide +kernel
theorem d_Md_showBlock_18 : decode jMd_showBlock.cc 18 = .ok (.tableswitch 293 0 5 #[38, 74, 116, 172, 208, 264], 38) := by decide +kernel
theorem d_Md_showBlock_56 : decode jMd_showBlock.cc 56 = .ok (.aload_n 0, 1) := by decide +kernel
theorem d_Md_showBlock_57 : decode jMd_showBlock.cc 57 = .ok (.aload_n 0, 1) := by decide +kernel
theorem d_Md_showBlock_58 : decode jMd_showBlock.cc 58 = .ok (.getfield 194, 3) := by decide +kernel
theorem d_Md_showBlock_61 : decode jMd_showBlock.cc 61 = .ok (.iload_n 2, 1) := by decide +kernel
theorem d_Md_showBlock_62 : decode jMd_showBlock.cc 62 = .ok (.iaload, 1) := by decide +kernel
theorem d_Md_showBlock_63 : decode jMd_showBlock.cc 63 = .ok (.invokevirtual 539, 3) := by decide +kernel
theorem d_Md_showBlock_66 : decode jMd_showBlock.cc 66 = .ok (.aload_n 0, 1) := by decide +kernel
theorem d_Md_showBlock_67 : decode jMd_showBlock.cc 67 = .ok (.ldc 146, 2) := by decide +kernel
theorem d_Md_showBlock_69 : decode jMd_showBlock.cc 69 = .ok (.invokevirtual 531, 3) := by decide +kernel
theorem d_Md_showBlock_72 : decode jMd_showBlock.cc 72 = .ok (.aload_n 0, 1) := by decide +kernel
theorem d_Md_showBlock_73 : decode jMd_showBlock.cc 73 = .ok (.aload_n 0, 1) := by decide +kernel
theorem d_Md_showBlock_74 : decode jMd_showBlock.cc 74 = .ok (.getfield 197, 3) := by decide +kernel
theorem d_Md_showBlock_77 : decode jMd_showBlock.cc 77 = .ok (.iload_n 2, 1) := by decide +kernel
theorem d_Md_showBlock_78 : decode jMd_showBlock.cc 78 = .ok (.iaload, 1) := by decide +kernel
theorem d_Md_showBlock_79 : decode jMd_showBlock.cc 79 = .ok (.iconst 1, 1) := by decide +kernel
theorem d_Md_showBlock_80 : decode jMd_showBlock.cc 80 = .ok (.invokestatic 535, 3) := by decide +kernel
theorem d_Md_showBlock_83 : decode jMd_showBlock.cc 83 = .ok (.aload_n 0, 1) := by decide +kernel
theorem d_Md_showBlock_84 : decode jMd_showBlock.cc 84 = .ok (.ldc 130, 2) := by decide +kernel
theorem d_Md_showBlock_86 : decode jMd_showBlock.cc 86 = .ok (.invokevirtual 531, 3) := by decide +kernel
theorem d_Md_showBlock_89 : decode jMd_showBlock.cc 89 = .ok (.goto 234, 3) := by decide +kernel
theorem d_Md_showBlock_92 : decode jMd_showBlock.cc 92 = .ok (.aload_n 0, 1) := by decide +kernel
theorem d_Md_showBlock_93 : decode jMd_showBlock.cc 93 = .ok (.ldc 80, 2) := by decide +kernel
theorem d_Md_showBlock_95 : decode jMd_showBlock.cc 95 = .ok (.invokevirtual 531, 3) := by decide +kernel
theorem d_Md_showBlock_98 : decode jMd_showBlock.cc 98 = .ok (.aload_n 0, 1) := by decide +kernel
theorem d_Md_showBlock_99 : decode jMd_showBlock.cc 99 = .ok (.aload_n 0, 1) := by decide +kernel
theorem d_Md_showBlock_100 : decode jMd_showBlock.cc 100 = .ok (.getfield 194, 3) := by decide +kernel
theorem d_Md_showBlock_103 : decode jMd_showBlock.cc 103 = .ok (.iload_n 2, 1) := by decide +kernel
theorem d_Md_showBlock_104 : decode jMd_showBlock.cc 104 = .ok (.iaload, 1) := by decide +kernel
theorem d_Md_showBlock_105 : decode jMd_showBlock.cc 105 = .ok (.invokevirtual 539, 3) := by decide +kernel
theorem d_Md_showBlock_108 : decode jMd_showBlock.cc 108 = .ok (.aload_n 0, 1) := by decide +kernel
theorem d_Md_showBlock_109 : decode jMd_showBlock.cc 109 = .ok (.ldc 146, 2) := by decide +kernel
theorem d_Md_showBlock_111 : decode jMd_showBlock.cc 111 = .ok (.invokevirtual 531, 3) := by decide +kernel
theorem d_Md_showBlock_114 : decode jMd_showBlock.cc 114 = .ok (.aload_n 0, 1) := by decide +kernel
theorem d_Md_showBlock_115 : decode jMd_showBlock.cc 115 = .ok (.aload_n 0, 1) := by decide +kernel
theorem d_Md_showBlock_116 : decode jMd_showBlock.cc 116 = .ok (.getfield 197, 3) := by decide +kernel
theorem d_Md_showBlock_119 : decode jMd_showBlock.cc 119 = .ok (.iload_n 2, 1) := by decide +kernel
theorem d_Md_showBlock_120 : decode jMd_showBlock.cc 120 = .ok (.iaload, 1) := by decide +kernel
theorem d_Md_showBlock_121 : decode jMd_showBlock.cc 121 = .ok (.iconst 1, 1) := by decide +kernel
theorem d_Md_showBlock_122 : decode jMd_showBlock.cc 122 = .ok (.invokestatic 535, 3) := by decide +kernel
theorem d_Md_showBlock_125 : decode jMd_showBlock.cc 125 = .ok (.aload_n 0, 1) := by decide +kernel
theorem d_Md_showBlock_126 : decode jMd_showBlock.cc 126 = .ok (.ldc 130, 2) := by decide +kernel
theorem d_Md_showBlock_128 : decode jMd_showBlock.cc 128 = .ok (.invokevirtual 531, 3) := by decide +kernel
theorem d_Md_showBlock_131 : decode jMd_showBlock.cc 131 = .ok (.goto 192, 3) := by decide +kernel
theorem d_Md_showBlock_134 : decode jMd_showBlock.cc 134 = .ok (.aload_n 0, 1) := by decide +kernel
theorem d_Md_showBlock_135 : decode jMd_showBlock.cc 135 = .ok (.ldc 82, 2) := by decide +kernel
theorem d_Md_showBlock_137 : decode jMd_showBlock.cc 137 = .ok (.invokevirtual 531, 3) := by decide +kernel
theorem d_Md_showBlock_140 : decode jMd_showBlock.cc 140 = .ok (.aload_n 0, 1) := by decide +kernel
theorem d_Md_showBlock_141 : decode jMd_showBlock.cc 141 = .ok (.aload_n 0, 1) := by decide +kernel
theorem d_Md_showBlock_142 : decode jMd_showBlock.cc 142 = .ok (.getfield 194, 3) := by decide +kernel
theorem d_Md_showBlock_145 : decode jMd_showBlock.cc 145 = .ok (.iload_n 2, 1) := by decide +kernel
theorem d_Md_showBlock_146 : decode jMd_showBlock.cc 146 = .ok (.iaload, 1) := by decide +kernel
theorem d_Md_showBlock_147 : decode jMd_showBlock.cc 147 = .ok (.invokevirtual 539, 3) := by decide +kernel
theorem d_Md_showBlock_150 : decode jMd_showBlock.cc 150 = .ok (.aload_n 0, 1) := by decide +kernel
theorem d_Md_showBlock_151 : decode jMd_showBlock.cc 151 = .ok (.aload_n 0, 1) := by decide +kernel
theorem d_Md_showBlock_152 : decode jMd_showBlock.cc 152 = .ok (.getfield 197, 3) := by decide +kernel
theorem d_Md_showBlock_155 : decode jMd_showBlock.cc 155 = .ok (.iload_n 2, 1) := by decide +kernel
theorem d_Md_showBlock_156 : decode jMd_showBlock.cc 156 = .ok (.iaload, 1) := by decide +kernel
theorem d_Md_showBlock_157 : decode jMd_showBlock.cc 157 = .ok (.iconst 1, 1) := by decide +kernel
theorem d_Md_showBlock_158 : decode jMd_showBlock.cc 158 = .ok (.invokestatic 535, 3) := by decide +kernel
theorem d_Md_showBlock_161 : decode jMd_showBlock.cc 161 = .ok (.aload_n 0, 1) := by decide +kernel
theorem d_Md_showBlock_162 : decode jMd_showBlock.cc 162 = .ok (.aload_n 0, 1) := by decide +kernel
theorem d_Md_showBlock_163 : decode jMd_showBlock.cc 163 = .ok (.getfield 212, 3) := by decide +kernel
theorem d_Md_showBlock_166 : decode jMd_showBlock.cc 166 = .ok (.iload_n 2, 1) := by decide +kernel
theorem d_Md_showBlock_167 : decode jMd_showBlock.cc 167 = .ok (.baload, 1) := by decide +kernel
theorem d_Md_showBlock_168 : decode jMd_showBlock.cc 168 = .ok (.ifCond .eq 8, 3) := by decide +kernel
theorem d_Md_showBlock_171 : decode jMd_showBlock.cc 171 = .ok (.ldc 84, 2) := by decide +kernel
theorem d_Md_showBlock_173 : decode jMd_showBlock.cc 173 = .ok (.goto 5, 3) := by decide +kernel
theorem d_Md_showBlock_176 : decode jMd_showBlock.cc 176 = .ok (.ldc 86, 2) := by decide +kernel
theorem d_Md_showBlock_178 : decode jMd_showBlock.cc 178 = .ok (.invokevirtual 531, 3) := by decide +kernel
theorem d_Md_showBlock_181 : decode jMd_showBlock.cc 181 = .ok (.aload_n 0, 1) := by decide +kernel
theorem d_Md_showBlock_182 : decode jMd_showBlock.cc 182 = .ok (.ldc 130, 2) := by decide +kernel
theorem d_Md_showBlock_184 : decode jMd_showBlock.cc 184 = .ok (.invokevirtual 531, 3) := by decide +kernel
theorem d_Md_showBlock_187 : decode jMd_showBlock.cc 187 = .ok (.goto 136, 3) := by decide +kernel
theorem d_Md_showBlock_190 : decode jMd_showBlock.cc 190 = .ok (.aload_n 0, 1) := by decide +kernel
theorem d_Md_showBlock_191 : decode jMd_showBlock.cc 191 = .ok (.ldc 88, 2) := by decide +kernel
theorem d_Md_showBlock_193 : decode jMd_showBlock.cc 193 = .ok (.invokevirtual 531, 3) := by decide +kernel
theorem d_Md_showBlock_196 : decode jMd_showBlock.cc 196 = .ok (.aload_n 0, 1) := by decide +kernel
theorem d_Md_showBlock_197 : decode jMd_showBlock.cc 197 = .ok (.aload_n 0, 1) := by decide +kernel
theorem d_Md_showBlock_198 : decode jMd_showBlock.cc 198 = .ok (.getfield 194, 3) := by decide +kernel
theorem d_Md_showBlock_201 : decode jMd_showBlock.cc 201 = .ok (.iload_n 2, 1) := by decide +kernel
theorem d_Md_showBlock_202 : decode jMd_showBlock.cc 202 = .ok (.iaload, 1) := by decide +kernel
theorem d_Md_showBlock_203 : decode jMd_showBlock.cc 203 = .ok (.invokevirtual 539, 3) := by decide +kernel
theorem d_Md_showBlock_206 : decode jMd_showBlock.cc 206 = .ok (.aload_n 0, 1) := by decide +kernel
theorem d_Md_showBlock_207 : decode jMd_showBlock.cc 207 = .ok (.aload_n 0, 1) := by decide +kernel
theorem d_Md_showBlock_208 : decode jMd_showBlock.cc 208 = .ok (.getfield 197, 3) := by decide +kernel
theorem d_Md_showBlock_211 : decode jMd_showBlock.cc 211 = .ok (.iload_n 2, 1) := by decide +kernel
theorem d_Md_showBlock_212 : decode jMd_showBlock.cc 212 = .ok (.iaload, 1) := by decide +kernel
theorem d_Md_showBlock_213 : decode jMd_showBlock.cc 213 = .ok (.iconst 1, 1) := by decide +kernel
theorem d_Md_showBlock_214 : decode jMd_showBlock.cc 214 = .ok (.invokestatic 535, 3) := by decide +kernel
theorem d_Md_showBlock_217 : decode jMd_showBlock.cc 217 = .ok (.aload_n 0, 1) := by decide +kernel
theorem d_Md_showBlock_218 : decode jMd_showBlock.cc 218 = .ok (.ldc 130, 2) := by decide +kernel
theorem d_Md_showBlock_220 : decode jMd_showBlock.cc 220 = .ok (.invokevirtual 531, 3) := by decide +kernel
theorem d_Md_showBlock_223 : decode jMd_showBlock.cc 223 = .ok (.goto 100, 3) := by decide +kernel
theorem d_Md_showBlock_226 : decode jMd_showBlock.cc 226 = .ok (.aload_n 0, 1) := by decide +kernel
theorem d_Md_showBlock_227 : decode jMd_showBlock.cc 227 = .ok (.ldc 90, 2) := by decide +kernel
theorem d_Md_showBlock_229 : decode jMd_showBlock.cc 229 = .ok (.invokevirtual 531, 3) := by decide +kernel
theorem d_Md_showBlock_232 : decode jMd_showBlock.cc 232 = .ok (.aload_n 0, 1) := by decide +kernel
theorem d_Md_showBlock_233 : decode jMd_showBlock.cc 233 = .ok (.aload_n 0, 1) := by decide +kernel
theorem d_Md_showBlock_234 : decode jMd_showBlock.cc 234 = .ok (.getfield 197, 3) := by decide +kernel
theorem d_Md_showBlock_237 : decode jMd_showBlock.cc 237 = .ok (.iload_n 2, 1) := by decide +kernel
theorem d_Md_showBlock_238 : decode jMd_showBlock.cc 238 = .ok (.iaload, 1) := by decide +kernel
theorem d_Md_showBlock_239 : decode jMd_showBlock.cc 239 = .ok (.iconst 1, 1) := by decide +kernel
theorem d_Md_showBlock_240 : decode jMd_showBlock.cc 240 = .ok (.invokestatic 535, 3) := by decide +kernel
theorem d_Md_showBlock_243 : decode jMd_showBlock.cc 243 = .ok (.aload_n 0, 1) := by decide +kernel
theorem d_Md_showBlock_244 : decode jMd_showBlock.cc 244 = .ok (.aload_n 0, 1) := by decide +kernel
theorem d_Md_showBlock_245 : decode jMd_showBlock.cc 245 = .ok (.getfield 200, 3) := by decide +kernel
theorem d_Md_showBlock_248 : decode jMd_showBlock.cc 248 = .ok (.iload_n 2, 1) := by decide +kernel
theorem d_Md_showBlock_249 : decode jMd_showBlock.cc 249 = .ok (.iaload, 1) := by decide +kernel
theorem d_Md_showBlock_250 : decode jMd_showBlock.cc 250 = .ok (.invokestatic 543, 3) := by decide +kernel
theorem d_Md_showBlock_253 : decode jMd_showBlock.cc 253 = .ok (.aload_n 0, 1) := by decide +kernel
theorem d_Md_showBlock_254 : decode jMd_showBlock.cc 254 = .ok (.getfield 209, 3) := by decide +kernel
theorem d_Md_showBlock_257 : decode jMd_showBlock.cc 257 = .ok (.iload_n 2, 1) := by decide +kernel
theorem d_Md_showBlock_258 : decode jMd_showBlock.cc 258 = .ok (.iaload, 1) := by decide +kernel
theorem d_Md_showBlock_259 : decode jMd_showBlock.cc 259 = .ok (.iconst 1, 1) := by decide +kernel
theorem d_Md_showBlock_260 : decode jMd_showBlock.cc 260 = .ok (.if_icmp .ne 63, 3) := by decide +kernel
theorem d_Md_showBlock_263 : decode jMd_showBlock.cc 263 = .ok (.aload_n 0, 1) := by decide +kernel
theorem d_Md_showBlock_264 : decode jMd_showBlock.cc 264 = .ok (.ldc 92, 2) := by decide +kernel
theorem d_Md_showBlock_266 : decode jMd_showBlock.cc 266 = .ok (.invokevirtual 531, 3) := by decide +kernel
theorem d_Md_showBlock_269 : decode jMd_showBlock.cc 269 = .ok (.aload_n 0, 1) := by decide +kernel
theorem d_Md_showBlock_270 : decode jMd_showBlock.cc 270 = .ok (.aload_n 0, 1) := by decide +kernel
theorem d_Md_showBlock_271 : decode jMd_showBlock.cc 271 = .ok (.getfield 203, 3) := by decide +kernel
theorem d_Md_showBlock_274 : decode jMd_showBlock.cc 274 = .ok (.iload_n 2, 1) := by decide +kernel
theorem d_Md_showBlock_275 : decode jMd_showBlock.cc 275 = .ok (.iaload, 1) := by decide +kernel
theorem d_Md_showBlock_276 : decode jMd_showBlock.cc 276 = .ok (.invokestatic 543, 3) := by decide +kernel
theorem d_Md_showBlock_279 : decode jMd_showBlock.cc 279 = .ok (.goto 44, 3) := by decide +kernel
theorem d_Md_showBlock_282 : decode jMd_showBlock.cc 282 = .ok (.aload_n 0, 1) := by decide +kernel
theorem d_Md_showBlock_283 : decode jMd_showBlock.cc 283 = .ok (.ldc 94, 2) := by decide +kernel
theorem d_Md_showBlock_285 : decode jMd_showBlock.cc 285 = .ok (.invokevirtual 531, 3) := by decide +kernel
theorem d_Md_showBlock_288 : decode jMd_showBlock.cc 288 = .ok (.aload_n 0, 1) := by decide +kernel
theorem d_Md_showBlock_289 : decode jMd_showBlock.cc 289 = .ok (.aload_n 0, 1) := by decide +kernel
theorem d_Md_showBlock_290 : decode jMd_showBlock.cc 290 = .ok (.getfield 194, 3) := by decide +kernel
theorem d_Md_showBlock_293 : decode jMd_showBlock.cc 293 = .ok (.iload_n 2, 1) := by decide +kernel
theorem d_Md_showBlock_294 : decode jMd_showBlock.cc 294 = .ok (.iaload, 1) := by decide +kernel
theorem d_Md_showBlock_295 : decode jMd_showBlock.cc 295 = .ok (.invokevirtual 539, 3) := by decide +kernel
theorem d_Md_showBlock_298 : decode jMd_showBlock.cc 298 = .ok (.aload_n 0, 1) := by decide +kernel
theorem d_Md_showBlock_299 : decode jMd_showBlock.cc 299 = .ok (.aload_n 0, 1) := by decide +kernel
theorem d_Md_showBlock_300 : decode jMd_showBlock.cc 300 = .ok (.getfield 200, 3) := by decide +kernel
theorem d_Md_showBlock_303 : decode jMd_showBlock.cc 303 = .ok (.iload_n 2, 1) := by decide +kernel
theorem d_Md_showBlock_304 : decode jMd_showBlock.cc 304 = .ok (.iaload, 1) := by decide +kernel
theorem d_Md_showBlock_305 : decode jMd_showBlock.cc 305 = .ok (.invokestatic 543, 3) := by decide +kernel
theorem d_Md_showBlock_308 : decode jMd_showBlock.cc 308 = .ok (.goto 15, 3) := by decide +kernel
theorem d_Md_showBlock_311 : decode jMd_showBlock.cc 311 = .ok (.aload_n 0, 1) := by decide +kernel
theorem d_Md_showBlock_312 : decode jMd_showBlock.cc 312 = .ok (.ldc 96, 2) := by decide +kernel
theorem d_Md_showBlock_314 : decode jMd_showBlock.cc 314 = .ok (.invokevirtual 531, 3) := by decide +kernel
theorem d_Md_showBlock_317 : decode jMd_showBlock.cc 317 = .ok (.aload_n 0, 1) := by decide +kernel
theorem d_Md_showBlock_318 : decode jMd_showBlock.cc 318 = .ok (.ldc 130, 2) := by decide +kernel
theorem d_Md_showBlock_320 : decode jMd_showBlock.cc 320 = .ok (.invokevirtual 531, 3) := by decide +kernel
theorem d_Md_showBlock_323 : decode jMd_showBlock.cc 323 = .ok (.aload_n 0, 1) := by decide +kernel
theorem d_Md_showBlock_324 : decode jMd_showBlock.cc 324 = .ok (.getfield 206, 3) := by decide +kernel
theorem d_Md_showBlock_327 : decode jMd_showBlock.cc 327 = .ok (.iload_n 2, 1) := by decide +kernel
theorem d_Md_showBlock_328 : decode jMd_showBlock.cc 328 = .ok (.iaload, 1) := by decide +kernel
theorem d_Md_showBlock_329 : decode jMd_showBlock.cc 329 = .ok (.istore_n 2, 1) := by decide +kernel
theorem d_Md_showBlock_330 : decode jMd_showBlock.cc 330 = .ok (.goto (-322), 3) := by decide +kernel
theorem d_Md_showBlock_333 : decode jMd_showBlock.cc 333 = .ok (.aload_n 0, 1) := by decide +kernel
theorem d_Md_showBlock_334 : decode jMd_showBlock.cc 334 = .ok (.ldc 134, 2) := by decide +kernel
theorem d_Md_showBlock_336 : decode jMd_showBlock.cc 336 = .ok (.invokevirtual 531, 3) := by decide +kernel
theorem d_Md_showBlock_339 : decode jMd_showBlock.cc 339 = .ok (.return_, 1) := by decide +kernel
set_option maxHeartbeats 4000000 in
theorem s_Md_showBlock {g : Mg} {d : Nat} {K : Ou → Wd → Prop} {w : Wd} {p1 : Int} (h : Cal g LM jMd_showText d [vA 0, vA 1044] w (fun o w1 => rVt o (fun b => K (.inr b) w1) (V g LM jMd_showBlock (d + 1) K 8 [(0, vA 0), (2, vI p1)] [] w1))) : V g LM jMd_showBlock (d + 1) K 0 [(0, vA 0), (1, vI p1)] [] w := by
  refine v_aload_n (pc := 0) d_Md_showBlock_0 rfl (.head _) ?_
  refine v_ldcs (pc := 1) (n := 43) (tx := "{") d_Md_showBlock_1 (by decide +kernel) ?_
  refine v_callV (pc := 3) (J' := jMd_showText) (d' := d) (o := 0) (ci := 13) (N := 93) (T := cT13) (As := [vA 1044]) d_Md_showBlock_3 ml_Md_531 cM_0.1 cM_0.2 (by decide) rfl rfl (Nat.le_of_ble_eq_true rfl) (Nat.le_refl _) rfl (Cal.weak h (fun o w1 h => ?_))
  rcases rVt_of h with ⟨rfl, h⟩ | ⟨b, rfl, h⟩
  rotate_left
  · exact h
  refine v_iload_n (pc := 6) d_Md_showBlock_6 rfl (.tail _ (.head _)) ?_
  refine v_istore_n (pc := 7) (ls' := [(2, vI p1), (0, vA 0), (1, vI p1)]) d_Md_showBlock_7 rfl (by decide) rfl ?_
  exact v_sub (List.forall_mem_cons.mpr ⟨(.tail _ (.head _)), (List.forall_mem_cons.mpr ⟨(.head _), (fun _ z => absurd z List.not_mem_nil)⟩)⟩) h
set_option maxHeartbeats 4000000 in
theorem s_Md_showBlock_8 {g : Mg} {d : Nat} {K : Ou → Wd → Prop} {w : Wd} {x2_ : Int} (h : (x2_ < 0 → (Cal g LM jMd_showText d [vA 0, vA 1045] w (fun o w1 => rVt o (fun b => K (.inr b) w1) (K (.inl none) w1)))) ∧ (¬ x2_ < 0 → ((0 ≤ x2_ ∧ x2_ < 130) ∧ ((((w 17 x2_.toNat) < 0 ∨ 5 < (w 17 x2_.toNat)) → (Cal g LM jMd_showText d [vA 0, vA 1028] w (fun o w2 => rVt o (fun b => K (.inr b) w2) (Cal g LM jMd_showText d [vA 0, vA 1043] w2 (fun o w3 => rVt o (fun b => K (.inr b) w3) ((0 ≤ x2_ ∧ x2_ < 130) ∧ (V g LM jMd_showBlock (d + 1) K 8 [(0, vA 0), (2, vI (w3 23 x2_.toNat))] [] w3))))))) ∧ ((w 17 x2_.toNat) = 0 → ((0 ≤ x2_ ∧ x2_ < 130) ∧ (Cal g LM jMd_show d [vA 0, vI (w 19 x2_.toNat)] w (fun o w4 => rVt o (fun b => K (.inr b) w4) (Cal g LM jMd_showText d [vA 0, vA 1051] w4 (fun o w5 => rVt o (fun b => K (.inr b) w5) ((0 ≤ x2_ ∧ x2_ < 130) ∧ (Cal g LM jMd_showExp d [vA 0, vI (w5 20 x2_.toNat), vI 1] w5 (fun o w6 => rVt o (fun b => K (.inr b) w6) (Cal g LM jMd_showText d [vA 0, vA 1043] w6 (fun o w7 => rVt o (fun b => K (.inr b) w7) ((0 ≤ x2_ ∧ x2_ < 130) ∧ (V g LM jMd_showBlock (d + 1) K 8 [(0, vA 0), (2, vI (w7 23 x2_.toNat))] [] w7))))))))))))) ∧ ((w 17 x2_.toNat) = 1 → (Cal g LM jMd_showText d [vA 0, vA 1020] w (fun o w8 => rVt o (fun b => K (.inr b) w8) ((0 ≤ x2_ ∧ x2_ < 130) ∧ (Cal g LM jMd_show d [vA 0, vI (w8 19 x2_.toNat)] w8 (fun o w9 => rVt o (fun b => K (.inr b) w9) (Cal g LM jMd_showText d [vA 0, vA 1051] w9 (fun o w10 => rVt o (fun b => K (.inr b) w10) ((0 ≤ x2_ ∧ x2_ < 130) ∧ (Cal g LM jMd_showExp d [vA 0, vI (w10 20 x2_.toNat), vI 1] w10 (fun o w11 => rVt o (fun b => K (.inr b) w11) (Cal g LM jMd_showText d [vA 0, vA 1043] w11 (fun o w12 => rVt o (fun b => K (.inr b) w12) ((0 ≤ x2_ ∧ x2_ < 130) ∧ (V g LM jMd_showBlock (d + 1) K 8 [(0, vA 0), (2, vI (w12 23 x2_.toNat))] [] w12))))))))))))))) ∧ ((w 17 x2_.toNat) = 2 → (Cal g LM jMd_showText d [vA 0, vA 1021] w (fun o w13 => rVt o (fun b => K (.inr b) w13) ((0 ≤ x2_ ∧ x2_ < 130) ∧ (Cal g LM jMd_show d [vA 0, vI (w13 19 x2_.toNat)] w13 (fun o w14 => rVt o (fun b => K (.inr b) w14) ((0 ≤ x2_ ∧ x2_ < 130) ∧ (Cal g LM jMd_showExp d [vA 0, vI (w14 20 x2_.toNat), vI 1] w14 (fun o w15 => rVt o (fun b => K (.inr b) w15) ((0 ≤ x2_ ∧ x2_ < 130) ∧ (((w15 25 x2_.toNat) = 0 → (Cal g LM jMd_showText d [vA 0, vA 1023] w15 (fun o w16 => rVt o (fun b => K (.inr b) w16) (Cal g LM jMd_showText d [vA 0, vA 1043] w16 (fun o w17 => rVt o (fun b => K (.inr b) w17) ((0 ≤ x2_ ∧ x2_ < 130) ∧ (V g LM jMd_showBlock (d + 1) K 8 [(0, vA 0), (2, vI (w17 23 x2_.toNat))] [] w17))))))) ∧ (¬ (w15 25 x2_.toNat) = 0 → (Cal g LM jMd_showText d [vA 0, vA 1022] w15 (fun o w18 => rVt o (fun b => K (.inr b) w18) (Cal g LM jMd_showText d [vA 0, vA 1043] w18 (fun o w19 => rVt o (fun b => K (.inr b) w19) ((0 ≤ x2_ ∧ x2_ < 130) ∧ (V g LM jMd_showBlock (d + 1) K 8 [(0, vA 0), (2, vI (w19 23 x2_.toNat))] [] w19)))))))))))))))))) ∧ ((w 17 x2_.toNat) = 3 → (Cal g LM jMd_showText d [vA 0, vA 1024] w (fun o w20 => rVt o (fun b => K (.inr b) w20) ((0 ≤ x2_ ∧ x2_ < 130) ∧ (Cal g LM jMd_show d [vA 0, vI (w20 19 x2_.toNat)] w20 (fun o w21 => rVt o (fun b => K (.inr b) w21) ((0 ≤ x2_ ∧ x2_ < 130) ∧ (Cal g LM jMd_showExp d [vA 0, vI (w21 20 x2_.toNat), vI 1] w21 (fun o w22 => rVt o (fun b => K (.inr b) w22) (Cal g LM jMd_showText d [vA 0, vA 1043] w22 (fun o w23 => rVt o (fun b => K (.inr b) w23) ((0 ≤ x2_ ∧ x2_ < 130) ∧ (V g LM jMd_showBlock (d + 1) K 8 [(0, vA 0), (2, vI (w23 23 x2_.toNat))] [] w23))))))))))))) ∧ ((w 17 x2_.toNat) = 4 → (Cal g LM jMd_showText d [vA 0, vA 1025] w (fun o w24 => rVt o (fun b => K (.inr b) w24) ((0 ≤ x2_ ∧ x2_ < 130) ∧ (Cal g LM jMd_showExp d [vA 0, vI (w24 20 x2_.toNat), vI 1] w24 (fun o w25 => rVt o (fun b => K (.inr b) w25) ((0 ≤ x2_ ∧ x2_ < 130) ∧ (Cal g LM jMd_showBlock d [vA 0, vI (w25 21 x2_.toNat)] w25 (fun o w26 => rVt o (fun b => K (.inr b) w26) ((0 ≤ x2_ ∧ x2_ < 130) ∧ ((¬ (w26 24 x2_.toNat) = 1 → ((0 ≤ x2_ ∧ x2_ < 130) ∧ (V g LM jMd_showBlock (d + 1) K 8 [(0, vA 0), (2, vI (w26 23 x2_.toNat))] [] w26))) ∧ ((w26 24 x2_.toNat) = 1 → (Cal g LM jMd_showText d [vA 0, vA 1026] w26 (fun o w27 => rVt o (fun b => K (.inr b) w27) ((0 ≤ x2_ ∧ x2_ < 130) ∧ (Cal g LM jMd_showBlock d [vA 0, vI (w27 22 x2_.toNat)] w27 (fun o w28 => rVt o (fun b => K (.inr b) w28) ((0 ≤ x2_ ∧ x2_ < 130) ∧ (V g LM jMd_showBlock (d + 1) K 8 [(0, vA 0), (2, vI (w28 23 x2_.toNat))] [] w28))))))))))))))))))) ∧ ((w 17 x2_.toNat) = 5 → (Cal g LM jMd_showText d [vA 0, vA 1027] w (fun o w29 => rVt o (fun b => K (.inr b) w29) ((0 ≤ x2_ ∧ x2_ < 130) ∧ (Cal g LM jMd_show d [vA 0, vI (w29 19 x2_.toNat)] w29 (fun o w30 => rVt o (fun b => K (.inr b) w30) ((0 ≤ x2_ ∧ x2_ < 130) ∧ (Cal g LM jMd_showBlock d [vA 0, vI (w30 21 x2_.toNat)] w30 (fun o w31 => rVt o (fun b => K (.inr b) w31) ((0 ≤ x2_ ∧ x2_ < 130) ∧ (V g LM jMd_showBlock (d + 1) K 8 [(0, vA 0), (2, vI (w31 23 x2_.toNat))] [] w31))))))))))))))) : V g LM jMd_showBlock (d + 1) K 8 [(0, vA 0), (2, vI x2_)] [] w := by
  refine v_iload_n (pc := 8) d_Md_showBlock_8 rfl (.tail _ (.head _)) ?_
  refine v_iflt (pc := 9) (tgt := 333) d_Md_showBlock_9 (by decide) (fun c => ?_) (fun c => ?_)
  · replace h := h.1 c
    refine v_aload_n (pc := 333) d_Md_showBlock_333 rfl (.head _) ?_
    refine v_ldcs (pc := 334) (n := 44) (tx := "}") d_Md_showBlock_334 (by decide +kernel) ?_
    refine v_callV (pc := 336) (J' := jMd_showText) (d' := d) (o := 0) (ci := 13) (N := 93) (T := cT13) (As := [vA 1045]) d_Md_showBlock_336 ml_Md_531 cM_0.1 cM_0.2 (by decide) rfl rfl (Nat.le_of_ble_eq_true rfl) (Nat.le_refl _) rfl (Cal.weak h (fun o w1 h => ?_))
    rcases rVt_of h with ⟨rfl, h⟩ | ⟨b, rfl, h⟩
    rotate_left
    · exact h
    exact v_vret (pc := 339) d_Md_showBlock_339 rfl h
  · replace h := h.2 c
    refine v_aload_n (pc := 12) d_Md_showBlock_12 rfl (.head _) ?_
    refine v_getr (C := "") (pc := 13) (r := 17) d_Md_showBlock_13 fl_Md_188 cM_0.1 cM_0.2 (Or.inr ⟨_, rfl⟩) rM_0_22 ?_
    refine v_iload_n (pc := 16) d_Md_showBlock_16 rfl (.tail _ (.head _)) ?_
    refine v_iald (pc := 17) (x := (w 17 x2_.toNat)) d_Md_showBlock_17 cM_17.1 cM_17.2 rfl h.1 ?_
    replace h := h.2
    refine v_table (pc := 18) (tgd := 311) (tgs := [56, 92, 134, 190, 226, 282]) d_Md_showBlock_18 (by decide) (by decide) (by decide) (fun c => ?_) ⟨fun c => ?_, fun c => ?_, fun c => ?_, fun c => ?_, fun c => ?_, fun c => ?_, trivial⟩
    · replace h := h.1 c
      refine v_aload_n (pc := 311) d_Md_showBlock_311 rfl (.head _) ?_
      refine v_ldcs (pc := 312) (n := 27) (tx := "halt") d_Md_showBlock_312 (by decide +kernel) ?_
      refine v_callV (pc := 314) (J' := jMd_showText) (d' := d) (o := 0) (ci := 13) (N := 93) (T := cT13) (As := [vA 1028]) d_Md_showBlock_314 ml_Md_531 cM_0.1 cM_0.2 (by decide) rfl rfl (Nat.le_of_ble_eq_true rfl) (Nat.le_refl _) rfl (Cal.weak h (fun o w2 h => ?_))
      rcases rVt_of h with ⟨rfl, h⟩ | ⟨b, rfl, h⟩
      rotate_left
      · exact h
      refine v_aload_n (pc := 317) d_Md_showBlock_317 rfl (.head _) ?_
      refine v_ldcs (pc := 318) (n := 42) (tx := ";") d_Md_showBlock_318 (by decide +kernel) ?_
      refine v_callV (pc := 320) (J' := jMd_showText) (d' := d) (o := 0) (ci := 13) (N := 93) (T := cT13) (As := [vA 1043]) d_Md_showBlock_320 ml_Md_531 cM_0.1 cM_0.2 (by decide) rfl rfl (Nat.le_of_ble_eq_true rfl) (Nat.le_refl _) rfl (Cal.weak h (fun o w3 h => ?_))
      rcases rVt_of h with ⟨rfl, h⟩ | ⟨b, rfl, h⟩
      rotate_left
      · exact h
      refine v_aload_n (pc := 323) d_Md_showBlock_323 rfl (.head _) ?_
      refine v_getr (C := "") (pc := 324) (r := 23) d_Md_showBlock_324 fl_Md_206 cM_0.1 cM_0.2 (Or.inr ⟨_, rfl⟩) rM_0_28 ?_
      refine v_iload_n (pc := 327) d_Md_showBlock_327 rfl (.tail _ (.head _)) ?_
      refine v_iald (pc := 328) (x := (w3 23 x2_.toNat)) d_Md_showBlock_328 cM_23.1 cM_23.2 rfl h.1 ?_
      replace h := h.2
      refine v_istore_n (pc := 329) (ls' := [(2, vI (w3 23 x2_.toNat)), (0, vA 0)]) d_Md_showBlock_329 rfl (by decide) rfl ?_
      refine v_goto (pc := 330) (tgt := 8) d_Md_showBlock_330 (by decide) ?_
      exact v_sub (List.forall_mem_cons.mpr ⟨(.tail _ (.head _)), (List.forall_mem_cons.mpr ⟨(.head _), (fun _ z => absurd z List.not_mem_nil)⟩)⟩) h
    · replace h := h.2.1 c
      refine v_aload_n (pc := 56) d_Md_showBlock_56 rfl (.head _) ?_
      refine v_aload_n (pc := 57) d_Md_showBlock_57 rfl (.head _) ?_
      refine v_getr (C := "") (pc := 58) (r := 19) d_Md_showBlock_58 fl_Md_194 cM_0.1 cM_0.2 (Or.inr ⟨_, rfl⟩) rM_0_24 ?_
      refine v_iload_n (pc := 61) d_Md_showBlock_61 rfl (.tail _ (.head _)) ?_
      refine v_iald (pc := 62) (x := (w 19 x2_.toNat)) d_Md_showBlock_62 cM_19.1 cM_19.2 rfl h.1 ?_
      replace h := h.2
      refine v_callV (pc := 63) (J' := jMd_show) (d' := d) (o := 0) (ci := 13) (N := 93) (T := cT13) (As := [vI (w 19 x2_.toNat)]) d_Md_showBlock_63 ml_Md_539 cM_0.1 cM_0.2 (by decide) rfl rfl (Nat.le_of_ble_eq_true rfl) (Nat.le_refl _) rfl (Cal.weak h (fun o w4 h => ?_))
      rcases rVt_of h with ⟨rfl, h⟩ | ⟨b, rfl, h⟩
      rotate_left
      · exact h
      refine v_aload_n (pc := 66) d_Md_showBlock_66 rfl (.head _) ?_
      refine v_ldcs (pc := 67) (n := 50) (tx := "=") d_Md_showBlock_67 (by decide +kernel) ?_
      refine v_callV (pc := 69) (J' := jMd_showText) (d' := d) (o := 0) (ci := 13) (N := 93) (T := cT13) (As := [vA 1051]) d_Md_showBlock_69 ml_Md_531 cM_0.1 cM_0.2 (by decide) rfl rfl (Nat.le_of_ble_eq_true rfl) (Nat.le_refl _) rfl (Cal.weak h (fun o w5 h => ?_))
      rcases rVt_of h with ⟨rfl, h⟩ | ⟨b, rfl, h⟩
      rotate_left
      · exact h
      refine v_aload_n (pc := 72) d_Md_showBlock_72 rfl (.head _) ?_
      refine v_aload_n (pc := 73) d_Md_showBlock_73 rfl (.head _) ?_
      refine v_getr (C := "") (pc := 74) (r := 20) d_Md_showBlock_74 fl_Md_197 cM_0.1 cM_0.2 (Or.inr ⟨_, rfl⟩) rM_0_25 ?_
      refine v_iload_n (pc := 77) d_Md_showBlock_77 rfl (.tail _ (.head _)) ?_
      refine v_iald (pc := 78) (x := (w5 20 x2_.toNat)) d_Md_showBlock_78 cM_20.1 cM_20.2 rfl h.1 ?_
      replace h := h.2
      refine v_iconst (pc := 79) d_Md_showBlock_79 (by decide) ?_
      refine v_callS (pc := 80) (J' := jMd_showExp) (d' := d) (As := [vA 0, vI (w5 20 x2_.toNat), vI 1]) d_Md_showBlock_80 ml_Md_535 rfl (Nat.le_of_ble_eq_true rfl) (Nat.le_refl _) rfl (Cal.weak h (fun o w6 h => ?_))
      rcases rVt_of h with ⟨rfl, h⟩ | ⟨b, rfl, h⟩
      rotate_left
      · exact h
      refine v_aload_n (pc := 83) d_Md_showBlock_83 rfl (.head _) ?_
      refine v_ldcs (pc := 84) (n := 42) (tx := ";") d_Md_showBlock_84 (by decide +kernel) ?_
      refine v_callV (pc := 86) (J' := jMd_showText) (d' := d) (o := 0) (ci := 13) (N := 93) (T := cT13) (As := [vA 1043]) d_Md_showBlock_86 ml_Md_531 cM_0.1 cM_0.2 (by decide) rfl rfl (Nat.le_of_ble_eq_true rfl) (Nat.le_refl _) rfl (Cal.weak h (fun o w7 h => ?_))
      rcases rVt_of h with ⟨rfl, h⟩ | ⟨b, rfl, h⟩
      rotate_left
      · exact h
      refine v_goto (pc := 89) (tgt := 323) d_Md_showBlock_89 (by decide) ?_
      refine v_aload_n (pc := 323) d_Md_showBlock_323 rfl (.head _) ?_
      refine v_getr (C := "") (pc := 324) (r := 23) d_Md_showBlock_324 fl_Md_206 cM_0.1 cM_0.2 (Or.inr ⟨_, rfl⟩) rM_0_28 ?_
      refine v_iload_n (pc := 327) d_Md_showBlock_327 rfl (.tail _ (.head _)) ?_
      refine v_iald (pc := 328) (x := (w7 23 x2_.toNat)) d_Md_showBlock_328 cM_23.1 cM_23.2 rfl h.1 ?_
      replace h := h.2
      refine v_istore_n (pc := 329) (ls' := [(2, vI (w7 23 x2_.toNat)), (0, vA 0)]) d_Md_showBlock_329 rfl (by decide) rfl ?_
      refine v_goto (pc := 330) (tgt := 8) d_Md_showBlock_330 (by decide) ?_
      exact v_sub (List.forall_mem_cons.mpr ⟨(.tail _ (.head _)), (List.forall_mem_cons.mpr ⟨(.head _), (fun _ z => absurd z List.not_mem_nil)⟩)⟩) h
    · replace h := h.2.2.1 c
      refine v_aload_n (pc := 92) d_Md_showBlock_92 rfl (.head _) ?_
      refine v_ldcs (pc := 93) (n := 19) (tx := "let") d_Md_showBlock_93 (by decide +kernel) ?_
      refine v_callV (pc := 95) (J' := jMd_showText) (d' := d) (o := 0) (ci := 13) (N := 93) (T := cT13) (As := [vA 1020]) d_Md_showBlock_95 ml_Md_531 cM_0.1 cM_0.2 (by decide) rfl rfl (Nat.le_of_ble_eq_true rfl) (Nat.le_refl _) rfl (Cal.weak h (fun o w8 h => ?_))
      rcases rVt_of h with ⟨rfl, h⟩ | ⟨b, rfl, h⟩
      rotate_left
      · exact h
      refine v_aload_n (pc := 98) d_Md_showBlock_98 rfl (.head _) ?_
      refine v_aload_n (pc := 99) d_Md_showBlock_99 rfl (.head _) ?_
      refine v_getr (C := "") (pc := 100) (r := 19) d_Md_showBlock_100 fl_Md_194 cM_0.1 cM_0.2 (Or.inr ⟨_, rfl⟩) rM_0_24 ?_
      refine v_iload_n (pc := 103) d_Md_showBlock_103 rfl (.tail _ (.head _)) ?_
      refine v_iald (pc := 104) (x := (w8 19 x2_.toNat)) d_Md_showBlock_104 cM_19.1 cM_19.2 rfl h.1 ?_
      replace h := h.2
      refine v_callV (pc := 105) (J' := jMd_show) (d' := d) (o := 0) (ci := 13) (N := 93) (T := cT13) (As := [vI (w8 19 x2_.toNat)]) d_Md_showBlock_105 ml_Md_539 cM_0.1 cM_0.2 (by decide) rfl rfl (Nat.le_of_ble_eq_true rfl) (Nat.le_refl _) rfl (Cal.weak h (fun o w9 h => ?_))
      rcases rVt_of h with ⟨rfl, h⟩ | ⟨b, rfl, h⟩
      rotate_left
      · exact h
      refine v_aload_n (pc := 108) d_Md_showBlock_108 rfl (.head _) ?_
      refine v_ldcs (pc := 109) (n := 50) (tx := "=") d_Md_showBlock_109 (by decide +kernel) ?_
      refine v_callV (pc := 111) (J' := jMd_showText) (d' := d) (o := 0) (ci := 13) (N := 93) (T := cT13) (As := [vA 1051]) d_Md_showBlock_111 ml_Md_531 cM_0.1 cM_0.2 (by decide) rfl rfl (Nat.le_of_ble_eq_true rfl) (Nat.le_refl _) rfl (Cal.weak h (fun o w10 h => ?_))
      rcases rVt_of h with ⟨rfl, h⟩ | ⟨b, rfl, h⟩
      rotate_left
      · exact h
      refine v_aload_n (pc := 114) d_Md_showBlock_114 rfl (.head _) ?_
      refine v_aload_n (pc := 115) d_Md_showBlock_115 rfl (.head _) ?_
      refine v_getr (C := "") (pc := 116) (r := 20) d_Md_showBlock_116 fl_Md_197 cM_0.1 cM_0.2 (Or.inr ⟨_, rfl⟩) rM_0_25 ?_
      refine v_iload_n (pc := 119) d_Md_showBlock_119 rfl (.tail _ (.head _)) ?_
      refine v_iald (pc := 120) (x := (w10 20 x2_.toNat)) d_Md_showBlock_120 cM_20.1 cM_20.2 rfl h.1 ?_
      replace h := h.2
      refine v_iconst (pc := 121) d_Md_showBlock_121 (by decide) ?_
      refine v_callS (pc := 122) (J' := jMd_showExp) (d' := d) (As := [vA 0, vI (w10 20 x2_.toNat), vI 1]) d_Md_showBlock_122 ml_Md_535 rfl (Nat.le_of_ble_eq_true rfl) (Nat.le_refl _) rfl (Cal.weak h (fun o w11 h => ?_))
      rcases rVt_of h with ⟨rfl, h⟩ | ⟨b, rfl, h⟩
      rotate_left
      · exact h
      refine v_aload_n (pc := 125) d_Md_showBlock_125 rfl (.head _) ?_
      refine v_ldcs (pc := 126) (n := 42) (tx := ";") d_Md_showBlock_126 (by decide +kernel) ?_
      refine v_callV (pc := 128) (J' := jMd_showText) (d' := d) (o := 0) (ci := 13) (N := 93) (T := cT13) (As := [vA 1043]) d_Md_showBlock_128 ml_Md_531 cM_0.1 cM_0.2 (by decide) rfl rfl (Nat.le_of_ble_eq_true rfl) (Nat.le_refl _) rfl (Cal.weak h (fun o w12 h => ?_))
      rcases rVt_of h with ⟨rfl, h⟩ | ⟨b, rfl, h⟩
      rotate_left
      · exact h
      refine v_goto (pc := 131) (tgt := 323) d_Md_showBlock_131 (by decide) ?_
      refine v_aload_n (pc := 323) d_Md_showBlock_323 rfl (.head _) ?_
      refine v_getr (C := "") (pc := 324) (r := 23) d_Md_showBlock_324 fl_Md_206 cM_0.1 cM_0.2 (Or.inr ⟨_, rfl⟩) rM_0_28 ?_
      refine v_iload_n (pc := 327) d_Md_showBlock_327 rfl (.tail _ (.head _)) ?_
      refine v_iald (pc := 328) (x := (w12 23 x2_.toNat)) d_Md_showBlock_328 cM_23.1 cM_23.2 rfl h.1 ?_
      replace h := h.2
      refine v_istore_n (pc := 329) (ls' := [(2, vI (w12 23 x2_.toNat)), (0, vA 0)]) d_Md_showBlock_329 rfl (by decide) rfl ?_
      refine v_goto (pc := 330) (tgt := 8) d_Md_showBlock_330 (by decide) ?_
      exact v_sub (List.forall_mem_cons.mpr ⟨(.tail _ (.head _)), (List.forall_mem_cons.mpr ⟨(.head _), (fun _ z => absurd z List.not_mem_nil)⟩)⟩) h
    · replace h := h.2.2.2.1 c
      refine v_aload_n (pc := 134) d_Md_showBlock_134 rfl (.head _) ?_
      refine v_ldcs (pc := 135) (n := 20) (tx := "send") d_Md_showBlock_135 (by decide +kernel) ?_
      refine v_callV (pc := 137) (J' := jMd_showText) (d' := d) (o := 0) (ci := 13) (N := 93) (T := cT13) (As := [vA 1021]) d_Md_showBlock_137 ml_Md_531 cM_0.1 cM_0.2 (by decide) rfl rfl (Nat.le_of_ble_eq_true rfl) (Nat.le_refl _) rfl (Cal.weak h (fun o w13 h => ?_))
      rcases rVt_of h with ⟨rfl, h⟩ | ⟨b, rfl, h⟩
      rotate_left
      · exact h
      refine v_aload_n (pc := 140) d_Md_showBlock_140 rfl (.head _) ?_
      refine v_aload_n (pc := 141) d_Md_showBlock_141 rfl (.head _) ?_
      refine v_getr (C := "") (pc := 142) (r := 19) d_Md_showBlock_142 fl_Md_194 cM_0.1 cM_0.2 (Or.inr ⟨_, rfl⟩) rM_0_24 ?_
      refine v_iload_n (pc := 145) d_Md_showBlock_145 rfl (.tail _ (.head _)) ?_
      refine v_iald (pc := 146) (x := (w13 19 x2_.toNat)) d_Md_showBlock_146 cM_19.1 cM_19.2 rfl h.1 ?_
      replace h := h.2
      refine v_callV (pc := 147) (J' := jMd_show) (d' := d) (o := 0) (ci := 13) (N := 93) (T := cT13) (As := [vI (w13 19 x2_.toNat)]) d_Md_showBlock_147 ml_Md_539 cM_0.1 cM_0.2 (by decide) rfl rfl (Nat.le_of_ble_eq_true rfl) (Nat.le_refl _) rfl (Cal.weak h (fun o w14 h => ?_))
      rcases rVt_of h with ⟨rfl, h⟩ | ⟨b, rfl, h⟩
      rotate_left
      · exact h
      refine v_aload_n (pc := 150) d_Md_showBlock_150 rfl (.head _) ?_
      refine v_aload_n (pc := 151) d_Md_showBlock_151 rfl (.head _) ?_
      refine v_getr (C := "") (pc := 152) (r := 20) d_Md_showBlock_152 fl_Md_197 cM_0.1 cM_0.2 (Or.inr ⟨_, rfl⟩) rM_0_25 ?_
      refine v_iload_n (pc := 155) d_Md_showBlock_155 rfl (.tail _ (.head _)) ?_
      refine v_iald (pc := 156) (x := (w14 20 x2_.toNat)) d_Md_showBlock_156 cM_20.1 cM_20.2 rfl h.1 ?_
      replace h := h.2
      refine v_iconst (pc := 157) d_Md_showBlock_157 (by decide) ?_
      refine v_callS (pc := 158) (J' := jMd_showExp) (d' := d) (As := [vA 0, vI (w14 20 x2_.toNat), vI 1]) d_Md_showBlock_158 ml_Md_535 rfl (Nat.le_of_ble_eq_true rfl) (Nat.le_refl _) rfl (Cal.weak h (fun o w15 h => ?_))
      rcases rVt_of h with ⟨rfl, h⟩ | ⟨b, rfl, h⟩
      rotate_left
      · exact h
      refine v_aload_n (pc := 161) d_Md_showBlock_161 rfl (.head _) ?_
      refine v_aload_n (pc := 162) d_Md_showBlock_162 rfl (.head _) ?_
      refine v_getr (C := "") (pc := 163) (r := 25) d_Md_showBlock_163 fl_Md_212 cM_0.1 cM_0.2 (Or.inr ⟨_, rfl⟩) rM_0_30 ?_
      refine v_iload_n (pc := 166) d_Md_showBlock_166 rfl (.tail _ (.head _)) ?_
      refine v_zald (pc := 167) (x := (w15 25 x2_.toNat)) d_Md_showBlock_167 cM_25.1 cM_25.2 rfl h.1 ?_
      replace h := h.2
      refine v_ifeq (pc := 168) (tgt := 176) d_Md_showBlock_168 (by decide) (fun c => ?_) (fun c => ?_)
      · replace h := h.1 c
        refine v_ldcs (pc := 176) (n := 22) (tx := "against") d_Md_showBlock_176 (by decide +kernel) ?_
        refine v_callV (pc := 178) (J' := jMd_showText) (d' := d) (o := 0) (ci := 13) (N := 93) (T := cT13) (As := [vA 1023]) d_Md_showBlock_178 ml_Md_531 cM_0.1 cM_0.2 (by decide) rfl rfl (Nat.le_of_ble_eq_true rfl) (Nat.le_refl _) rfl (Cal.weak h (fun o w16 h => ?_))
        rcases rVt_of h with ⟨rfl, h⟩ | ⟨b, rfl, h⟩
        rotate_left
        · exact h
        refine v_aload_n (pc := 181) d_Md_showBlock_181 rfl (.head _) ?_
        refine v_ldcs (pc := 182) (n := 42) (tx := ";") d_Md_showBlock_182 (by decide +kernel) ?_
        refine v_callV (pc := 184) (J' := jMd_showText) (d' := d) (o := 0) (ci := 13) (N := 93) (T := cT13) (As := [vA 1043]) d_Md_showBlock_184 ml_Md_531 cM_0.1 cM_0.2 (by decide) rfl rfl (Nat.le_of_ble_eq_true rfl) (Nat.le_refl _) rfl (Cal.weak h (fun o w17 h => ?_))
        rcases rVt_of h with ⟨rfl, h⟩ | ⟨b, rfl, h⟩
        rotate_left
        · exact h
        refine v_goto (pc := 187) (tgt := 323) d_Md_showBlock_187 (by decide) ?_
        refine v_aload_n (pc := 323) d_Md_showBlock_323 rfl (.head _) ?_
        refine v_getr (C := "") (pc := 324) (r := 23) d_Md_showBlock_324 fl_Md_206 cM_0.1 cM_0.2 (Or.inr ⟨_, rfl⟩) rM_0_28 ?_
        refine v_iload_n (pc := 327) d_Md_showBlock_327 rfl (.tail _ (.head _)) ?_
        refine v_iald (pc := 328) (x := (w17 23 x2_.toNat)) d_Md_showBlock_328 cM_23.1 cM_23.2 rfl h.1 ?_
        replace h := h.2
        refine v_istore_n (pc := 329) (ls' := [(2, vI (w17 23 x2_.toNat)), (0, vA 0)]) d_Md_showBlock_329 rfl (by decide) rfl ?_
        refine v_goto (pc := 330) (tgt := 8) d_Md_showBlock_330 (by decide) ?_
        exact v_sub (List.forall_mem_cons.mpr ⟨(.tail _ (.head _)), (List.forall_mem_cons.mpr ⟨(.head _), (fun _ z => absurd z List.not_mem_nil)⟩)⟩) h
      · replace h := h.2 c
        refine v_ldcs (pc := 171) (n := 21) (tx := "along") d_Md_showBlock_171 (by decide +kernel) ?_
        refine v_goto (pc := 173) (tgt := 178) d_Md_showBlock_173 (by decide) ?_
        refine v_callV (pc := 178) (J' := jMd_showText) (d' := d) (o := 0) (ci := 13) (N := 93) (T := cT13) (As := [vA 1022]) d_Md_showBlock_178 ml_Md_531 cM_0.1 cM_0.2 (by decide) rfl rfl (Nat.le_of_ble_eq_true rfl) (Nat.le_refl _) rfl (Cal.weak h (fun o w18 h => ?_))
        rcases rVt_of h with ⟨rfl, h⟩ | ⟨b, rfl, h⟩
        rotate_left
        · exact h
        refine v_aload_n (pc := 181) d_Md_showBlock_181 rfl (.head _) ?_
        refine v_ldcs (pc := 182) (n := 42) (tx := ";") d_Md_showBlock_182 (by decide +kernel) ?_
        refine v_callV (pc := 184) (J' := jMd_showText) (d' := d) (o := 0) (ci := 13) (N := 93) (T := cT13) (As := [vA 1043]) d_Md_showBlock_184 ml_Md_531 cM_0.1 cM_0.2 (by decide) rfl rfl (Nat.le_of_ble_eq_true rfl) (Nat.le_refl _) rfl (Cal.weak h (fun o w19 h => ?_))
        rcases rVt_of h with ⟨rfl, h⟩ | ⟨b, rfl, h⟩
        rotate_left
        · exact h
        refine v_goto (pc := 187) (tgt := 323) d_Md_showBlock_187 (by decide) ?_
        refine v_aload_n (pc := 323) d_Md_showBlock_323 rfl (.head _) ?_
        refine v_getr (C := "") (pc := 324) (r := 23) d_Md_showBlock_324 fl_Md_206 cM_0.1 cM_0.2 (Or.inr ⟨_, rfl⟩) rM_0_28 ?_
        refine v_iload_n (pc := 327) d_Md_showBlock_327 rfl (.tail _ (.head _)) ?_
        refine v_iald (pc := 328) (x := (w19 23 x2_.toNat)) d_Md_showBlock_328 cM_23.1 cM_23.2 rfl h.1 ?_
        replace h := h.2
        refine v_istore_n (pc := 329) (ls' := [(2, vI (w19 23 x2_.toNat)), (0, vA 0)]) d_Md_showBlock_329 rfl (by decide) rfl ?_
        refine v_goto (pc := 330) (tgt := 8) d_Md_showBlock_330 (by decide) ?_
        exact v_sub (List.forall_mem_cons.mpr ⟨(.tail _ (.head _)), (List.forall_mem_cons.mpr ⟨(.head _), (fun _ z => absurd z List.not_mem_nil)⟩)⟩) h
    · replace h := h.2.2.2.2.1 c
      refine v_aload_n (pc := 190) d_Md_showBlock_190 rfl (.head _) ?_
      refine v_ldcs (pc := 191) (n := 23) (tx := "give") d_Md_showBlock_191 (by decide +kernel) ?_
      refine v_callV (pc := 193) (J' := jMd_showText) (d' := d) (o := 0) (ci := 13) (N := 93) (T := cT13) (As := [vA 1024]) d_Md_showBlock_193 ml_Md_531 cM_0.1 cM_0.2 (by decide) rfl rfl (Nat.le_of_ble_eq_true rfl) (Nat.le_refl _) rfl (Cal.weak h (fun o w20 h => ?_))
      rcases rVt_of h with ⟨rfl, h⟩ | ⟨b, rfl, h⟩
      rotate_left
      · exact h
      refine v_aload_n (pc := 196) d_Md_showBlock_196 rfl (.head _) ?_
      refine v_aload_n (pc := 197) d_Md_showBlock_197 rfl (.head _) ?_
      refine v_getr (C := "") (pc := 198) (r := 19) d_Md_showBlock_198 fl_Md_194 cM_0.1 cM_0.2 (Or.inr ⟨_, rfl⟩) rM_0_24 ?_
      refine v_iload_n (pc := 201) d_Md_showBlock_201 rfl (.tail _ (.head _)) ?_
      refine v_iald (pc := 202) (x := (w20 19 x2_.toNat)) d_Md_showBlock_202 cM_19.1 cM_19.2 rfl h.1 ?_
      replace h := h.2
      refine v_callV (pc := 203) (J' := jMd_show) (d' := d) (o := 0) (ci := 13) (N := 93) (T := cT13) (As := [vI (w20 19 x2_.toNat)]) d_Md_showBlock_203 ml_Md_539 cM_0.1 cM_0.2 (by decide) rfl rfl (Nat.le_of_ble_eq_true rfl) (Nat.le_refl _) rfl (Cal.weak h (fun o w21 h => ?_))
      rcases rVt_of h with ⟨rfl, h⟩ | ⟨b, rfl, h⟩
      rotate_left
      · exact h
      refine v_aload_n (pc := 206) d_Md_showBlock_206 rfl (.head _) ?_
      refine v_aload_n (pc := 207) d_Md_showBlock_207 rfl (.head _) ?_
      refine v_getr (C := "") (pc := 208) (r := 20) d_Md_showBlock_208 fl_Md_197 cM_0.1 cM_0.2 (Or.inr ⟨_, rfl⟩) rM_0_25 ?_
      refine v_iload_n (pc := 211) d_Md_showBlock_211 rfl (.tail _ (.head _)) ?_
      refine v_iald (pc := 212) (x := (w21 20 x2_.toNat)) d_Md_showBlock_212 cM_20.1 cM_20.2 rfl h.1 ?_
      replace h := h.2
      refine v_iconst (pc := 213) d_Md_showBlock_213 (by decide) ?_
      refine v_callS (pc := 214) (J' := jMd_showExp) (d' := d) (As := [vA 0, vI (w21 20 x2_.toNat), vI 1]) d_Md_showBlock_214 ml_Md_535 rfl (Nat.le_of_ble_eq_true rfl) (Nat.le_refl _) rfl (Cal.weak h (fun o w22 h => ?_))
      rcases rVt_of h with ⟨rfl, h⟩ | ⟨b, rfl, h⟩
      rotate_left
      · exact h
      refine v_aload_n (pc := 217) d_Md_showBlock_217 rfl (.head _) ?_
      refine v_ldcs (pc := 218) (n := 42) (tx := ";") d_Md_showBlock_218 (by decide +kernel) ?_
      refine v_callV (pc := 220) (J' := jMd_showText) (d' := d) (o := 0) (ci := 13) (N := 93) (T := cT13) (As := [vA 1043]) d_Md_showBlock_220 ml_Md_531 cM_0.1 cM_0.2 (by decide) rfl rfl (Nat.le_of_ble_eq_true rfl) (Nat.le_refl _) rfl (Cal.weak h (fun o w23 h => ?_))
      rcases rVt_of h with ⟨rfl, h⟩ | ⟨b, rfl, h⟩
      rotate_left
      · exact h
      refine v_goto (pc := 223) (tgt := 323) d_Md_showBlock_223 (by decide) ?_
      refine v_aload_n (pc := 323) d_Md_showBlock_323 rfl (.head _) ?_
      refine v_getr (C := "") (pc := 324) (r := 23) d_Md_showBlock_324 fl_Md_206 cM_0.1 cM_0.2 (Or.inr ⟨_, rfl⟩) rM_0_28 ?_
      refine v_iload_n (pc := 327) d_Md_showBlock_327 rfl (.tail _ (.head _)) ?_
      refine v_iald (pc := 328) (x := (w23 23 x2_.toNat)) d_Md_showBlock_328 cM_23.1 cM_23.2 rfl h.1 ?_
      replace h := h.2
      refine v_istore_n (pc := 329) (ls' := [(2, vI (w23 23 x2_.toNat)), (0, vA 0)]) d_Md_showBlock_329 rfl (by decide) rfl ?_
      refine v_goto (pc := 330) (tgt := 8) d_Md_showBlock_330 (by decide) ?_
      exact v_sub (List.forall_mem_cons.mpr ⟨(.tail _ (.head _)), (List.forall_mem_cons.mpr ⟨(.head _), (fun _ z => absurd z List.not_mem_nil)⟩)⟩) h
    · replace h := h.2.2.2.2.2.1 c
      refine v_aload_n (pc := 226) d_Md_showBlock_226 rfl (.head _) ?_
      refine v_ldcs (pc := 227) (n := 24) (tx := "if") d_Md_showBlock_227 (by decide +kernel) ?_
      refine v_callV (pc := 229) (J' := jMd_showText) (d' := d) (o := 0) (ci := 13) (N := 93) (T := cT13) (As := [vA 1025]) d_Md_showBlock_229 ml_Md_531 cM_0.1 cM_0.2 (by decide) rfl rfl (Nat.le_of_ble_eq_true rfl) (Nat.le_refl _) rfl (Cal.weak h (fun o w24 h => ?_))
      rcases rVt_of h with ⟨rfl, h⟩ | ⟨b, rfl, h⟩
      rotate_left
      · exact h
      refine v_aload_n (pc := 232) d_Md_showBlock_232 rfl (.head _) ?_
      refine v_aload_n (pc := 233) d_Md_showBlock_233 rfl (.head _) ?_
      refine v_getr (C := "") (pc := 234) (r := 20) d_Md_showBlock_234 fl_Md_197 cM_0.1 cM_0.2 (Or.inr ⟨_, rfl⟩) rM_0_25 ?_
      refine v_iload_n (pc := 237) d_Md_showBlock_237 rfl (.tail _ (.head _)) ?_
      refine v_iald (pc := 238) (x := (w24 20 x2_.toNat)) d_Md_showBlock_238 cM_20.1 cM_20.2 rfl h.1 ?_
      replace h := h.2
      refine v_iconst (pc := 239) d_Md_showBlock_239 (by decide) ?_
      refine v_callS (pc := 240) (J' := jMd_showExp) (d' := d) (As := [vA 0, vI (w24 20 x2_.toNat), vI 1]) d_Md_showBlock_240 ml_Md_535 rfl (Nat.le_of_ble_eq_true rfl) (Nat.le_refl _) rfl (Cal.weak h (fun o w25 h => ?_))
      rcases rVt_of h with ⟨rfl, h⟩ | ⟨b, rfl, h⟩
      rotate_left
      · exact h
      refine v_aload_n (pc := 243) d_Md_showBlock_243 rfl (.head _) ?_
      refine v_aload_n (pc := 244) d_Md_showBlock_244 rfl (.head _) ?_
      refine v_getr (C := "") (pc := 245) (r := 21) d_Md_showBlock_245 fl_Md_200 cM_0.1 cM_0.2 (Or.inr ⟨_, rfl⟩) rM_0_26 ?_
      refine v_iload_n (pc := 248) d_Md_showBlock_248 rfl (.tail _ (.head _)) ?_
      refine v_iald (pc := 249) (x := (w25 21 x2_.toNat)) d_Md_showBlock_249 cM_21.1 cM_21.2 rfl h.1 ?_
      replace h := h.2
      refine v_callS (pc := 250) (J' := jMd_showBlock) (d' := d) (As := [vA 0, vI (w25 21 x2_.toNat)]) d_Md_showBlock_250 ml_Md_543 rfl (Nat.le_of_ble_eq_true rfl) (Nat.le_refl _) rfl (Cal.weak h (fun o w26 h => ?_))
      rcases rVt_of h with ⟨rfl, h⟩ | ⟨b, rfl, h⟩
      rotate_left
      · exact h
      refine v_aload_n (pc := 253) d_Md_showBlock_253 rfl (.head _) ?_
      refine v_getr (C := "") (pc := 254) (r := 24) d_Md_showBlock_254 fl_Md_209 cM_0.1 cM_0.2 (Or.inr ⟨_, rfl⟩) rM_0_29 ?_
      refine v_iload_n (pc := 257) d_Md_showBlock_257 rfl (.tail _ (.head _)) ?_
      refine v_iald (pc := 258) (x := (w26 24 x2_.toNat)) d_Md_showBlock_258 cM_24.1 cM_24.2 rfl h.1 ?_
      replace h := h.2
      refine v_iconst (pc := 259) d_Md_showBlock_259 (by decide) ?_
      refine v_icmpne (pc := 260) (tgt := 323) d_Md_showBlock_260 (by decide) (fun c => ?_) (fun c => ?_)
      · replace h := h.1 c
        refine v_aload_n (pc := 323) d_Md_showBlock_323 rfl (.head _) ?_
        refine v_getr (C := "") (pc := 324) (r := 23) d_Md_showBlock_324 fl_Md_206 cM_0.1 cM_0.2 (Or.inr ⟨_, rfl⟩) rM_0_28 ?_
        refine v_iload_n (pc := 327) d_Md_showBlock_327 rfl (.tail _ (.head _)) ?_
        refine v_iald (pc := 328) (x := (w26 23 x2_.toNat)) d_Md_showBlock_328 cM_23.1 cM_23.2 rfl h.1 ?_
        replace h := h.2
        refine v_istore_n (pc := 329) (ls' := [(2, vI (w26 23 x2_.toNat)), (0, vA 0)]) d_Md_showBlock_329 rfl (by decide) rfl ?_
        refine v_goto (pc := 330) (tgt := 8) d_Md_showBlock_330 (by decide) ?_
        exact v_sub (List.forall_mem_cons.mpr ⟨(.tail _ (.head _)), (List.forall_mem_cons.mpr ⟨(.head _), (fun _ z => absurd z List.not_mem_nil)⟩)⟩) h
      · replace h := h.2 c
        refine v_aload_n (pc := 263) d_Md_showBlock_263 rfl (.head _) ?_
        refine v_ldcs (pc := 264) (n := 25) (tx := "else") d_Md_showBlock_264 (by decide +kernel) ?_
        refine v_callV (pc := 266) (J' := jMd_showText) (d' := d) (o := 0) (ci := 13) (N := 93) (T := cT13) (As := [vA 1026]) d_Md_showBlock_266 ml_Md_531 cM_0.1 cM_0.2 (by decide) rfl rfl (Nat.le_of_ble_eq_true rfl) (Nat.le_refl _) rfl (Cal.weak h (fun o w27 h => ?_))
        rcases rVt_of h with ⟨rfl, h⟩ | ⟨b, rfl, h⟩
        rotate_left
        · exact h
        refine v_aload_n (pc := 269) d_Md_showBlock_269 rfl (.head _) ?_
        refine v_aload_n (pc := 270) d_Md_showBlock_270 rfl (.head _) ?_
        refine v_getr (C := "") (pc := 271) (r := 22) d_Md_showBlock_271 fl_Md_203 cM_0.1 cM_0.2 (Or.inr ⟨_, rfl⟩) rM_0_27 ?_
        refine v_iload_n (pc := 274) d_Md_showBlock_274 rfl (.tail _ (.head _)) ?_
        refine v_iald (pc := 275) (x := (w27 22 x2_.toNat)) d_Md_showBlock_275 cM_22.1 cM_22.2 rfl h.1 ?_
        replace h := h.2
        refine v_callS (pc := 276) (J' := jMd_showBlock) (d' := d) (As := [vA 0, vI (w27 22 x2_.toNat)]) d_Md_showBlock_276 ml_Md_543 rfl (Nat.le_of_ble_eq_true rfl) (Nat.le_refl _) rfl (Cal.weak h (fun o w28 h => ?_))
        rcases rVt_of h with ⟨rfl, h⟩ | ⟨b, rfl, h⟩
        rotate_left
        · exact h
        refine v_goto (pc := 279) (tgt := 323) d_Md_showBlock_279 (by decide) ?_
        refine v_aload_n (pc := 323) d_Md_showBlock_323 rfl (.head _) ?_
        refine v_getr (C := "") (pc := 324) (r := 23) d_Md_showBlock_324 fl_Md_206 cM_0.1 cM_0.2 (Or.inr ⟨_, rfl⟩) rM_0_28 ?_
        refine v_iload_n (pc := 327) d_Md_showBlock_327 rfl (.tail _ (.head _)) ?_
        refine v_iald (pc := 328) (x := (w28 23 x2_.toNat)) d_Md_showBlock_328 cM_23.1 cM_23.2 rfl h.1 ?_
        replace h := h.2
        refine v_istore_n (pc := 329) (ls' := [(2, vI (w28 23 x2_.toNat)), (0, vA 0)]) d_Md_showBlock_329 rfl (by decide) rfl ?_
        refine v_goto (pc := 330) (tgt := 8) d_Md_showBlock_330 (by decide) ?_
        exact v_sub (List.forall_mem_cons.mpr ⟨(.tail _ (.head _)), (List.forall_mem_cons.mpr ⟨(.head _), (fun _ z => absurd z List.not_mem_nil)⟩)⟩) h
    · replace h := h.2.2.2.2.2.2 c
      refine v_aload_n (pc := 282) d_Md_showBlock_282 rfl (.head _) ?_
      refine v_ldcs (pc := 283) (n := 26) (tx := "loop") d_Md_showBlock_283 (by decide +kernel) ?_
      refine v_callV (pc := 285) (J' := jMd_showText) (d' := d) (o := 0) (ci := 13) (N := 93) (T := cT13) (As := [vA 1027]) d_Md_showBlock_285 ml_Md_531 cM_0.1 cM_0.2 (by decide) rfl rfl (Nat.le_of_ble_eq_true rfl) (Nat.le_refl _) rfl (Cal.weak h (fun o w29 h => ?_))
      rcases rVt_of h with ⟨rfl, h⟩ | ⟨b, rfl, h⟩
      rotate_left
      · exact h
      refine v_aload_n (pc := 288) d_Md_showBlock_288 rfl (.head _) ?_
      refine v_aload_n (pc := 289) d_Md_showBlock_289 rfl (.head _) ?_
      refine v_getr (C := "") (pc := 290) (r := 19) d_Md_showBlock_290 fl_Md_194 cM_0.1 cM_0.2 (Or.inr ⟨_, rfl⟩) rM_0_24 ?_
      refine v_iload_n (pc := 293) d_Md_showBlock_293 rfl (.tail _ (.head _)) ?_
      refine v_iald (pc := 294) (x := (w29 19 x2_.toNat)) d_Md_showBlock_294 cM_19.1 cM_19.2 rfl h.1 ?_
      replace h := h.2
      refine v_callV (pc := 295) (J' := jMd_show) (d' := d) (o := 0) (ci := 13) (N := 93) (T := cT13) (As := [vI (w29 19 x2_.toNat)]) d_Md_showBlock_295 ml_Md_539 cM_0.1 cM_0.2 (by decide) rfl rfl (Nat.le_of_ble_eq_true rfl) (Nat.le_refl _) rfl (Cal.weak h (fun o w30 h => ?_))
      rcases rVt_of h with ⟨rfl, h⟩ | ⟨b, rfl, h⟩
      rotate_left
      · exact h
      refine v_aload_n (pc := 298) d_Md_showBlock_298 rfl (.head _) ?_
      refine v_aload_n (pc := 299) d_Md_showBlock_299 rfl (.head _) ?_
      refine v_getr (C := "") (pc := 300) (r := 21) d_Md_showBlock_300 fl_Md_200 cM_0.1 cM_0.2 (Or.inr ⟨_, rfl⟩) rM_0_26 ?_
      refine v_iload_n (pc := 303) d_Md_showBlock_303 rfl (.tail _ (.head _)) ?_
      refine v_iald (pc := 304) (x := (w30 21 x2_.toNat)) d_Md_showBlock_304 cM_21.1 cM_21.2 rfl h.1 ?_
      replace h := h.2
      refine v_callS (pc := 305) (J' := jMd_showBlock) (d' := d) (As := [vA 0, vI (w30 21 x2_.toNat)]) d_Md_showBlock_305 ml_Md_543 rfl (Nat.le_of_ble_eq_true rfl) (Nat.le_refl _) rfl (Cal.weak h (fun o w31 h => ?_))
      rcases rVt_of h with ⟨rfl, h⟩ | ⟨b, rfl, h⟩
      rotate_left
      · exact h
      refine v_goto (pc := 308) (tgt := 323) d_Md_showBlock_308 (by decide) ?_
      refine v_aload_n (pc := 323) d_Md_showBlock_323 rfl (.head _) ?_
      refine v_getr (C := "") (pc := 324) (r := 23) d_Md_showBlock_324 fl_Md_206 cM_0.1 cM_0.2 (Or.inr ⟨_, rfl⟩) rM_0_28 ?_
      refine v_iload_n (pc := 327) d_Md_showBlock_327 rfl (.tail _ (.head _)) ?_
      refine v_iald (pc := 328) (x := (w31 23 x2_.toNat)) d_Md_showBlock_328 cM_23.1 cM_23.2 rfl h.1 ?_
      replace h := h.2
      refine v_istore_n (pc := 329) (ls' := [(2, vI (w31 23 x2_.toNat)), (0, vA 0)]) d_Md_showBlock_329 rfl (by decide) rfl ?_
      refine v_goto (pc := 330) (tgt := 8) d_Md_showBlock_330 (by decide) ?_
      exact v_sub (List.forall_mem_cons.mpr ⟨(.tail _ (.head _)), (List.forall_mem_cons.mpr ⟨(.head _), (fun _ z => absurd z List.not_mem_nil)⟩)⟩) h
theorem d_Md_printAll_0 : decode jMd_printAll.cc 0 = .ok (.aload_n 0, 1) := by decide +kernel
theorem d_Md_printAll_1 : decode jMd_printAll.cc 1 = .ok (.iconst 0, 1) := by decide +kernel
theorem d_Md_printAll_2 : decode jMd_printAll.cc 2 = .ok (.putfield 525, 3) := by decide +kernel
theorem d_Md_printAll_5 : decode jMd_printAll.cc 5 = .ok (.iconst 0, 1) := by decide +kernel
theorem d_Md_printAll_6 : decode jMd_printAll.cc 6 = .ok (.istore_n 1, 1) := by decide +kernel
theorem d_Md_printAll_7 : decode jMd_printAll.cc 7 = .ok (.iload_n 1, 1) := by decide +kernel
theorem d_Md_printAll_8 : decode jMd_printAll.cc 8 = .ok (.aload_n 0, 1) := by decide +kernel
theorem d_Md_printAll_9 : decode jMd_printAll.cc 9 = .ok (.getfield 444, 3) := by decide +kernel
theorem d_Md_printAll_12 : decode jMd_printAll.cc 12 = .ok (.if_icmp .ge 156, 3) := by decide +kernel
theorem d_Md_printAll_15 : decode jMd_printAll.cc 15 = .ok (.aload_n 0, 1) := by decide +kernel
theorem d_Md_printAll_16 : decode jMd_printAll.cc 16 = .ok (.getfield 167, 3) := by decide +kernel
theorem d_Md_printAll_19 : decode jMd_printAll.cc 19 = .ok (.iload_n 1, 1) := by decide +kernel
theorem d_Md_printAll_20 : decode jMd_printAll.cc 20 = .ok (.iaload, 1) := by decide +kernel
theorem d_Md_printAll_21 : decode jMd_printAll.cc 21 = .ok (.istore_n 2, 1) := by decide +kernel
theorem d_Md_printAll_22 : decode jMd_printAll.cc 22 = .ok (.aload_n 0, 1) := by decide +kernel
theorem d_Md_printAll_23 : decode jMd_printAll.cc 23 = .ok (.iload_n 2, 1) := by decide +kernel
theorem d_Md_printAll_24 : decode jMd_printAll.cc 24 = .ok (.ifCond .ne 8, 3) := by decide +kernel
theorem d_Md_printAll_27 : decode jMd_printAll.cc 27 = .ok (.ldc 52, 2) := by decide +kernel
theorem d_Md_printAll_29 : decode jMd_printAll.cc 29 = .ok (.goto 25, 3) := by decide +kernel
theorem d_Md_printAll_32 : decode jMd_printAll.cc 32 = .ok (.iload_n 2, 1) := by decide +kernel
theorem d_Md_printAll_33 : decode jMd_printAll.cc 33 = .ok (.iconst 1, 1) := by decide +kernel
theorem d_Md_printAll_34 : decode jMd_printAll.cc 34 = .ok (.if_icmp .ne 8, 3) := by decide +kernel
theorem d_Md_printAll_37 : decode jMd_printAll.cc 37 = .ok (.ldc 54, 2) := by decide +kernel
theorem d_Md_printAll_39 : decode jMd_printAll.cc 39 = .ok (.goto 15, 3) := by decide +kernel
theorem d_Md_printAll_42 : decode jMd_printAll.cc 42 = .ok (.iload_n 2, 1) := by decide +kernel
theorem d_Md_printAll_43 : decode jMd_printAll.cc 43 = .ok (.iconst 2, 1) := by decide +kernel
theorem d_Md_printAll_44 : decode jMd_printAll.cc 44 = .ok (.if_icmp .ne 8, 3) := by decide +kernel
theorem d_Md_printAll_47 : decode jMd_printAll.cc 47 = .ok (.ldc 56, 2) := by decide +kernel
theorem d_Md_printAll_49 : decode jMd_printAll.cc 49 = .ok (.goto 5, 3) := by decide +kernel
theorem d_Md_printAll_52 : decode jMd_printAll.cc 52 = .ok (.ldc 58, 2) := by decide +kernel
theorem d_Md_printAll_54 : decode jMd_printAll.cc 54 = .ok (.invokevirtual 531, 3) := by decide +kernel
theorem d_Md_printAll_57 : decode jMd_printAll.cc 57 = .ok (.aload_n 0, 1) := by decide +kernel
theorem d_Md_printAll_58 : decode jMd_printAll.cc 58 = .ok (.aload_n 0, 1) := by decide +kernel
theorem d_Md_printAll_59 : decode jMd_printAll.cc 59 = .ok (.getfield 170, 3) := by decide +kernel
theorem d_Md_printAll_62 : decode jMd_printAll.cc 62 = .ok (.iload_n 1, 1) := by decide +kernel
theorem d_Md_printAll_63 : decode jMd_printAll.cc 63 = .ok (.iaload, 1) := by decide +kernel
theorem d_Md_printAll_64 : decode jMd_printAll.cc 64 = .ok (.invokevirtual 539, 3) := by decide +kernel
theorem d_Md_printAll_67 : decode jMd_printAll.cc 67 = .ok (.iload_n 2, 1) := by decide +kernel
theorem d_Md_printAll_68 : decode jMd_printAll.cc 68 = .ok (.iconst 1, 1) := by decide +kernel
theorem d_Md_printAll_69 : decode jMd_printAll.cc 69 = .ok (.if_icmp .ne 67, 3) := by decide +kernel
theorem d_Md_printAll_72 : decode jMd_printAll.cc 72 = .ok (.aload_n 0, 1) := by decide +kernel
theorem d_Md_printAll_73 : decode jMd_printAll.cc 73 = .ok (.ldc 144, 2) := by decide +kernel
theorem d_Md_printAll_75 : decode jMd_printAll.cc 75 = .ok (.invokevirtual 531, 3) := by decide +kernel
theorem d_Md_printAll_78 : decode jMd_printAll.cc 78 = .ok (.aload_n 0, 1) := by decide +kernel
theorem d_Md_printAll_79 : decode jMd_printAll.cc 79 = .ok (.aload_n 0, 1) := by decide +kernel
theorem d_Md_printAll_80 : decode jMd_printAll.cc 80 = .ok (.getfield 173, 3) := by decide +kernel
theorem d_Md_printAll_83 : decode jMd_printAll.cc 83 = .ok (.iload_n 1, 1) := by decide +kernel
theorem d_Md_printAll_84 : decode jMd_printAll.cc 84 = .ok (.iaload, 1) := by decide +kernel
theorem d_Md_printAll_85 : decode jMd_printAll.cc 85 = .ok (.ifCond .ne 8, 3) := by decide +kernel
theorem d_Md_printAll_88 : decode jMd_printAll.cc 88 = .ok (.ldc 60, 2) := by decide +kernel
theorem d_Md_printAll_90 : decode jMd_printAll.cc 90 = .ok (.goto 5, 3) := by decide +kernel
theorem d_Md_printAll_93 : decode jMd_printAll.cc 93 = .ok (.ldc 62, 2) := by decide +kernel
theorem d_Md_printAll_95 : decode jMd_printAll.cc 95 = .ok (.invokevirtual 531, 3) := by decide +kernel
theorem d_Md_printAll_98 : decode jMd_printAll.cc 98 = .ok (.aload_n 0, 1) := by decide +kernel
theorem d_Md_printAll_99 : decode jMd_printAll.cc 99 = .ok (.ldc 146, 2) := by decide +kernel
theorem d_Md_printAll_101 : decode jMd_printAll.cc 101 = .ok (.invokevirtual 531, 3) := by decide +kernel
theorem d_Md_printAll_104 : decode jMd_printAll.cc 104 = .ok (.aload_n 0, 1) := by decide +kernel
theorem d_Md_printAll_105 : decode jMd_printAll.cc 105 = .ok (.getfield 182, 3) := by decide +kernel
theorem d_Md_printAll_108 : decode jMd_printAll.cc 108 = .ok (.iload_n 1, 1) := by decide +kernel
theorem d_Md_printAll_109 : decode jMd_printAll.cc 109 = .ok (.iaload, 1) := by decide +kernel
theorem d_Md_printAll_110 : decode jMd_printAll.cc 110 = .ok (.ifCond .lt 13, 3) := by decide +kernel
theorem d_Md_printAll_113 : decode jMd_printAll.cc 113 = .ok (.aload_n 0, 1) := by decide +kernel
theorem d_Md_printAll_114 : decode jMd_printAll.cc 114 = .ok (.aload_n 0, 1) := by decide +kernel
theorem d_Md_printAll_115 : decode jMd_printAll.cc 115 = .ok (.getfield 182, 3) := by decide +kernel
theorem d_Md_printAll_118 : decode jMd_printAll.cc 118 = .ok (.iload_n 1, 1) := by decide +kernel
theorem d_Md_printAll_119 : decode jMd_printAll.cc 119 = .ok (.iaload, 1) := by decide +kernel
theorem d_Md_printAll_120 : decode jMd_printAll.cc 120 = .ok (.invokevirtual 539, 3) := by decide +kernel
theorem d_Md_printAll_123 : decode jMd_printAll.cc 123 = .ok (.aload_n 0, 1) := by decide +kernel
theorem d_Md_printAll_124 : decode jMd_printAll.cc 124 = .ok (.aload_n 0, 1) := by decide +kernel
theorem d_Md_printAll_125 : decode jMd_printAll.cc 125 = .ok (.getfield 179, 3) := by decide +kernel
theorem d_Md_printAll_128 : decode jMd_printAll.cc 128 = .ok (.iload_n 1, 1) := by decide +kernel
theorem d_Md_printAll_129 : decode jMd_printAll.cc 129 = .ok (.iaload, 1) := by decide +kernel
theorem d_Md_printAll_130 : decode jMd_printAll.cc 130 = .ok (.invokevirtual 539, 3) := by decide +kernel
theorem d_Md_printAll_133 : decode jMd_printAll.cc 133 = .ok (.goto 23, 3) := by decide +kernel
theorem d_Md_printAll_136 : decode jMd_printAll.cc 136 = .ok (.iload_n 2, 1) := by decide +kernel
theorem d_Md_printAll_137 : decode jMd_printAll.cc 137 = .ok (.ifCond .eq 19, 3) := by decide +kernel
theorem d_Md_printAll_140 : decode jMd_printAll.cc 140 = .ok (.aload_n 0, 1) := by decide +kernel
theorem d_Md_printAll_141 : decode jMd_printAll.cc 141 = .ok (.ldc 144, 2) := by decide +kernel
theorem d_Md_printAll_143 : decode jMd_printAll.cc 143 = .ok (.invokevirtual 531, 3) := by decide +kernel
theorem d_Md_printAll_146 : decode jMd_printAll.cc 146 = .ok (.aload_n 0, 1) := by decide +kernel
theorem d_Md_printAll_147 : decode jMd_printAll.cc 147 = .ok (.aload_n 0, 1) := by decide +kernel
theorem d_Md_printAll_148 : decode jMd_printAll.cc 148 = .ok (.getfield 179, 3) := by decide +kernel
theorem d_Md_printAll_151 : decode jMd_printAll.cc 151 = .ok (.iload_n 1, 1) := by decide +kernel
theorem d_Md_printAll_152 : decode jMd_printAll.cc 152 = .ok (.iaload, 1) := by decide +kernel
theorem d_Md_printAll_153 : decode jMd_printAll.cc 153 = .ok (.invokevirtual 539, 3) := by decide +kernel
theorem d_Md_printAll_156 : decode jMd_printAll.cc 156 = .ok (.aload_n 0, 1) := by decide +kernel
theorem d_Md_printAll_157 : decode jMd_printAll.cc 157 = .ok (.ldc 130, 2) := by decide +kernel
theorem d_Md_printAll_159 : decode jMd_printAll.cc 159 = .ok (.invokevirtual 531, 3) := by decide +kernel
theorem d_Md_printAll_162 : decode jMd_printAll.cc 162 = .ok (.iinc 1 1, 3) := by decide +kernel
theorem d_Md_printAll_165 : decode jMd_printAll.cc 165 = .ok (.goto (-158), 3) := by decide +kernel
theorem d_Md_printAll_168 : decode jMd_printAll.cc 168 = .ok (.aload_n 0, 1) := by decide +kernel
theorem d_Md_printAll_169 : decode jMd_printAll.cc 169 = .ok (.ldc 48, 2) := by decide +kernel
theorem d_Md_printAll_171 : decode jMd_printAll.cc 171 = .ok (.invokevirtual 531, 3) := by decide +kernel
theorem d_Md_printAll_174 : decode jMd_printAll.cc 174 = .ok (.aload_n 0, 1) := by decide +kernel
theorem d_Md_printAll_175 : decode jMd_printAll.cc 175 = .ok (.aload_n 0, 1) := by decide +kernel
theorem d_Md_printAll_176 : decode jMd_printAll.cc 176 = .ok (.getfield 450, 3) := by decide +kernel
theorem d_Md_printAll_179 : decode jMd_printAll.cc 179 = .ok (.invokestatic 543, 3) := by decide +kernel
theorem d_Md_printAll_182 : decode jMd_printAll.cc 182 = .ok (.aload_n 0, 1) := by decide +kernel
theorem d_Md_printAll_183 : decode jMd_printAll.cc 183 = .ok (.ldc 50, 2) := by decide +kernel
theorem d_Md_printAll_185 : decode jMd_printAll.cc 185 = .ok (.invokevirtual 531, 3) := by decide +kernel
theorem d_Md_printAll_188 : decode jMd_printAll.cc 188 = .ok (.aload_n 0, 1) := by decide +kernel
theorem d_Md_printAll_189 : decode jMd_printAll.cc 189 = .ok (.aload_n 0, 1) := by decide +kernel
theorem d_Md_printAll_190 : decode jMd_printAll.cc 190 = .ok (.getfield 453, 3) := by decide +kernel
theorem d_Md_printAll_193 : decode jMd_printAll.cc 193 = .ok (.invokestatic 543, 3) := by decide +kernel
theorem d_Md_printAll_196 : decode jMd_printAll.cc 196 = .ok (.return_, 1) := by decide +kernel
set_option maxHeartbeats 4000000 in
theorem s_Md_printAll {g : Mg} {d : Nat} {K : Ou → Wd → Prop} {w : Wd} (h : V g LM jMd_printAll (d + 1) K 7 [(0, vA 0), (1, vI 0)] [] (up w 0 58 0)) : V g LM jMd_printAll (d + 1) K 0 [(0, vA 0)] [] w := by
  refine v_aload_n (pc := 0) d_Md_printAll_0 rfl (.head _) ?_
  refine v_iconst (pc := 1) d_Md_printAll_1 (by decide) ?_
  refine v_puti (pc := 2) d_Md_printAll_2 fp_Md_525 cM_0.1 cM_0.2 (by decide) rfl ?_
  refine v_iconst (pc := 5) d_Md_printAll_5 (by decide) ?_
  refine v_istore_n (pc := 6) (ls' := [(1, vI 0), (0, vA 0)]) d_Md_printAll_6 rfl (by decide) rfl ?_
  exact v_sub (List.forall_mem_cons.mpr ⟨(.tail _ (.head _)), (List.forall_mem_cons.mpr ⟨(.head _), (fun _ z => absurd z List.not_mem_nil)⟩)⟩) h
set_option maxHeartbeats 4000000 in
theorem s_Md_printAll_7 {g : Mg} {d : Nat} {K : Ou → Wd → Prop} {w : Wd} {x1_ : Int} (h : ((w 0 20) ≤ x1_ → (Cal g LM jMd_showText d [vA 0, vA 1004] w (fun o w1 => rVt o (fun b => K (.inr b) w1) (Cal g LM jMd_showBlock d [vA 0, vI (w1 0 41)] w1 (fun o w2 => rVt o (fun b => K (.inr b) w2) (Cal g LM jMd_showText d [vA 0, vA 1005] w2 (fun o w3 => rVt o (fun b => K (.inr b) w3) (Cal g LM jMd_showBlock d [vA 0, vI (w3 0 42)] w3 (fun o w4 => rVt o (fun b => K (.inr b) w4) (K (.inl none) w4)))))))))) ∧ (¬ (w 0 20) ≤ x1_ → ((0 ≤ x1_ ∧ x1_ < 30) ∧ ((¬ (w 10 x1_.toNat) = 0 → ((¬ (w 10 x1_.toNat) = 1 → ((¬ (w 10 x1_.toNat) = 2 → (V g LM jMd_printAll (d + 1) K 54 [(0, vA 0), (1, vI x1_), (2, vI (w 10 x1_.toNat))] [vA 1009, vA 0] w)) ∧ ((w 10 x1_.toNat) = 2 → (V g LM jMd_printAll (d + 1) K 54 [(0, vA 0), (1, vI x1_), (2, vI (w 10 x1_.toNat))] [vA 1008, vA 0] w)))) ∧ ((w 10 x1_.toNat) = 1 → (V g LM jMd_printAll (d + 1) K 54 [(0, vA 0), (1, vI x1_), (2, vI (w 10 x1_.toNat))] [vA 1007, vA 0] w)))) ∧ ((w 10 x1_.toNat) = 0 → (V g LM jMd_printAll (d + 1) K 54 [(0, vA 0), (1, vI x1_), (2, vI (w 10 x1_.toNat))] [vA 1006, vA 0] w)))))) : V g LM jMd_printAll (d + 1) K 7 [(0, vA 0), (1, vI x1_)] [] w := by
  refine v_iload_n (pc := 7) d_Md_printAll_7 rfl (.tail _ (.head _)) ?_
  refine v_aload_n (pc := 8) d_Md_printAll_8 rfl (.head _) ?_
  refine v_geti (pc := 9) (x := (w 0 20)) d_Md_printAll_9 fl_Md_444 cM_0.1 cM_0.2 (Or.inl rfl) rfl ?_
  refine v_icmpge (pc := 12) (tgt := 168) d_Md_printAll_12 (by decide) (fun c => ?_) (fun c => ?_)
  · replace h := h.1 c
    refine v_aload_n (pc := 168) d_Md_printAll_168 rfl (.head _) ?_
    refine v_ldcs (pc := 169) (n := 3) (tx := "start") d_Md_printAll_169 (by decide +kernel) ?_
    refine v_callV (pc := 171) (J' := jMd_showText) (d' := d) (o := 0) (ci := 13) (N := 93) (T := cT13) (As := [vA 1004]) d_Md_printAll_171 ml_Md_531 cM_0.1 cM_0.2 (by decide) rfl rfl (Nat.le_of_ble_eq_true rfl) (Nat.le_refl _) rfl (Cal.weak h (fun o w1 h => ?_))
    rcases rVt_of h with ⟨rfl, h⟩ | ⟨b, rfl, h⟩
    rotate_left
    · exact h
    refine v_aload_n (pc := 174) d_Md_printAll_174 rfl (.head _) ?_
    refine v_aload_n (pc := 175) d_Md_printAll_175 rfl (.head _) ?_
    refine v_geti (pc := 176) (x := (w1 0 41)) d_Md_printAll_176 fl_Md_450 cM_0.1 cM_0.2 (Or.inl rfl) rfl ?_
    refine v_callS (pc := 179) (J' := jMd_showBlock) (d' := d) (As := [vA 0, vI (w1 0 41)]) d_Md_printAll_179 ml_Md_543 rfl (Nat.le_of_ble_eq_true rfl) (Nat.le_refl _) rfl (Cal.weak h (fun o w2 h => ?_))
    rcases rVt_of h with ⟨rfl, h⟩ | ⟨b, rfl, h⟩
    rotate_left
    · exact h
    refine v_aload_n (pc := 182) d_Md_printAll_182 rfl (.head _) ?_
    refine v_ldcs (pc := 183) (n := 4) (tx := "round") d_Md_printAll_183 (by decide +kernel) ?_
    refine v_callV (pc := 185) (J' := jMd_showText) (d' := d) (o := 0) (ci := 13) (N := 93) (T := cT13) (As := [vA 1005]) d_Md_printAll_185 ml_Md_531 cM_0.1 cM_0.2 (by decide) rfl rfl (Nat.le_of_ble_eq_true rfl) (Nat.le_refl _) rfl (Cal.weak h (fun o w3 h => ?_))
    rcases rVt_of h with ⟨rfl, h⟩ | ⟨b, rfl, h⟩
    rotate_left
    · exact h
    refine v_aload_n (pc := 188) d_Md_printAll_188 rfl (.head _) ?_
    refine v_aload_n (pc := 189) d_Md_printAll_189 rfl (.head _) ?_
    refine v_geti (pc := 190) (x := (w3 0 42)) d_Md_printAll_190 fl_Md_453 cM_0.1 cM_0.2 (Or.inl rfl) rfl ?_
    refine v_callS (pc := 193) (J' := jMd_showBlock) (d' := d) (As := [vA 0, vI (w3 0 42)]) d_Md_printAll_193 ml_Md_543 rfl (Nat.le_of_ble_eq_true rfl) (Nat.le_refl _) rfl (Cal.weak h (fun o w4 h => ?_))
    rcases rVt_of h with ⟨rfl, h⟩ | ⟨b, rfl, h⟩
    rotate_left
    · exact h
    exact v_vret (pc := 196) d_Md_printAll_196 rfl h
  · replace h := h.2 c
    refine v_aload_n (pc := 15) d_Md_printAll_15 rfl (.head _) ?_
    refine v_getr (C := "") (pc := 16) (r := 10) d_Md_printAll_16 fl_Md_167 cM_0.1 cM_0.2 (Or.inr ⟨_, rfl⟩) rM_0_14 ?_
    refine v_iload_n (pc := 19) d_Md_printAll_19 rfl (.tail _ (.head _)) ?_
    refine v_iald (pc := 20) (x := (w 10 x1_.toNat)) d_Md_printAll_20 cM_10.1 cM_10.2 rfl h.1 ?_
    replace h := h.2
    refine v_istore_n (pc := 21) (ls' := [(2, vI (w 10 x1_.toNat)), (0, vA 0), (1, vI x1_)]) d_Md_printAll_21 rfl (by decide) rfl ?_
    refine v_aload_n (pc := 22) d_Md_printAll_22 rfl (.tail _ (.head _)) ?_
    refine v_iload_n (pc := 23) d_Md_printAll_23 rfl (.head _) ?_
    refine v_ifne (pc := 24) (tgt := 32) d_Md_printAll_24 (by decide) (fun c => ?_) (fun c => ?_)
    · replace h := h.1 c
      refine v_iload_n (pc := 32) d_Md_printAll_32 rfl (.head _) ?_
      refine v_iconst (pc := 33) d_Md_printAll_33 (by decide) ?_
      refine v_icmpne (pc := 34) (tgt := 42) d_Md_printAll_34 (by decide) (fun c => ?_) (fun c => ?_)
      · replace h := h.1 c
        refine v_iload_n (pc := 42) d_Md_printAll_42 rfl (.head _) ?_
        refine v_iconst (pc := 43) d_Md_printAll_43 (by decide) ?_
        refine v_icmpne (pc := 44) (tgt := 52) d_Md_printAll_44 (by decide) (fun c => ?_) (fun c => ?_)
        · replace h := h.1 c
          refine v_ldcs (pc := 52) (n := 8) (tx := "global") d_Md_printAll_52 (by decide +kernel) ?_
          exact v_sub (List.forall_mem_cons.mpr ⟨(.tail _ (.head _)), (List.forall_mem_cons.mpr ⟨(.tail _ (.tail _ (.head _))), (List.forall_mem_cons.mpr ⟨(.head _), (fun _ z => absurd z List.not_mem_nil)⟩)⟩)⟩) h
        · replace h := h.2 c
          refine v_ldcs (pc := 47) (n := 7) (tx := "fold") d_Md_printAll_47 (by decide +kernel) ?_
          refine v_goto (pc := 49) (tgt := 54) d_Md_printAll_49 (by decide) ?_
          exact v_sub (List.forall_mem_cons.mpr ⟨(.tail _ (.head _)), (List.forall_mem_cons.mpr ⟨(.tail _ (.tail _ (.head _))), (List.forall_mem_cons.mpr ⟨(.head _), (fun _ z => absurd z List.not_mem_nil)⟩)⟩)⟩) h
      · replace h := h.2 c
        refine v_ldcs (pc := 37) (n := 6) (tx := "node") d_Md_printAll_37 (by decide +kernel) ?_
        refine v_goto (pc := 39) (tgt := 54) d_Md_printAll_39 (by decide) ?_
        exact v_sub (List.forall_mem_cons.mpr ⟨(.tail _ (.head _)), (List.forall_mem_cons.mpr ⟨(.tail _ (.tail _ (.head _))), (List.forall_mem_cons.mpr ⟨(.head _), (fun _ z => absurd z List.not_mem_nil)⟩)⟩)⟩) h
    · replace h := h.2 c
      refine v_ldcs (pc := 27) (n := 5) (tx := "column") d_Md_printAll_27 (by decide +kernel) ?_
      refine v_goto (pc := 29) (tgt := 54) d_Md_printAll_29 (by decide) ?_
      exact v_sub (List.forall_mem_cons.mpr ⟨(.tail _ (.head _)), (List.forall_mem_cons.mpr ⟨(.tail _ (.tail _ (.head _))), (List.forall_mem_cons.mpr ⟨(.head _), (fun _ z => absurd z List.not_mem_nil)⟩)⟩)⟩) h
set_option maxHeartbeats 4000000 in
theorem s_Md_printAll_54 {g : Mg} {d : Nat} {K : Ou → Wd → Prop} {w : Wd} {x1_ : Int} {x2_ : Int} (h : Cal g LM jMd_showText d [vA 0, vA 1009] w (fun o w1 => rVt o (fun b => K (.inr b) w1) ((0 ≤ x1_ ∧ x1_ < 30) ∧ (Cal g LM jMd_show d [vA 0, vI (w1 11 x1_.toNat)] w1 (fun o w2 => rVt o (fun b => K (.inr b) w2) ((¬ x2_ = 1 → ((x2_ = 0 → (V g LM jMd_printAll (d + 1) K 156 [(0, vA 0), (1, vI x1_)] [] w2)) ∧ (¬ x2_ = 0 → (Cal g LM jMd_showText d [vA 0, vA 1050] w2 (fun o w3 => rVt o (fun b => K (.inr b) w3) ((0 ≤ x1_ ∧ x1_ < 30) ∧ (Cal g LM jMd_show d [vA 0, vI (w3 14 x1_.toNat)] w3 (fun o w4 => rVt o (fun b => K (.inr b) w4) (V g LM jMd_printAll (d + 1) K 156 [(0, vA 0), (1, vI x1_)] [] w4))))))))) ∧ (x2_ = 1 → (Cal g LM jMd_showText d [vA 0, vA 1050] w2 (fun o w5 => rVt o (fun b => K (.inr b) w5) ((0 ≤ x1_ ∧ x1_ < 30) ∧ ((¬ (w5 12 x1_.toNat) = 0 → (V g LM jMd_printAll (d + 1) K 95 [(0, vA 0), (1, vI x1_)] [vA 1011, vA 0] w5)) ∧ ((w5 12 x1_.toNat) = 0 → (V g LM jMd_printAll (d + 1) K 95 [(0, vA 0), (1, vI x1_)] [vA 1010, vA 0] w5))))))))))))) : V g LM jMd_printAll (d + 1) K 54 [(0, vA 0), (1, vI x1_), (2, vI x2_)] [vA 1009, vA 0] w := by
  refine v_callV (pc := 54) (J' := jMd_showText) (d' := d) (o := 0) (ci := 13) (N := 93) (T := cT13) (As := [vA 1009]) d_Md_printAll_54 ml_Md_531 cM_0.1 cM_0.2 (by decide) rfl rfl (Nat.le_of_ble_eq_true rfl) (Nat.le_refl _) rfl (Cal.weak h (fun o w1 h => ?_))
  rcases rVt_of h with ⟨rfl, h⟩ | ⟨b, rfl, h⟩
  rotate_left
  · exact h
  refine v_aload_n (pc := 57) d_Md_printAll_57 rfl (.head _) ?_
  refine v_aload_n (pc := 58) d_Md_printAll_58 rfl (.head _) ?_
  refine v_getr (C := "") (pc := 59) (r := 11) d_Md_printAll_59 fl_Md_170 cM_0.1 cM_0.2 (Or.inr ⟨_, rfl⟩) rM_0_15 ?_
  refine v_iload_n (pc := 62) d_Md_printAll_62 rfl (.tail _ (.head _)) ?_
  refine v_iald (pc := 63) (x := (w1 11 x1_.toNat)) d_Md_printAll_63 cM_11.1 cM_11.2 rfl h.1 ?_
  replace h := h.2
  refine v_callV (pc := 64) (J' := jMd_show) (d' := d) (o := 0) (ci := 13) (N := 93) (T := cT13) (As := [vI (w1 11 x1_.toNat)]) d_Md_printAll_64 ml_Md_539 cM_0.1 cM_0.2 (by decide) rfl rfl (Nat.le_of_ble_eq_true rfl) (Nat.le_refl _) rfl (Cal.weak h (fun o w2 h => ?_))
  rcases rVt_of h with ⟨rfl, h⟩ | ⟨b, rfl, h⟩
  rotate_left
  · exact h
  refine v_iload_n (pc := 67) d_Md_printAll_67 rfl (.tail _ (.tail _ (.head _))) ?_
  refine v_iconst (pc := 68) d_Md_printAll_68 (by decide) ?_
  refine v_icmpne (pc := 69) (tgt := 136) d_Md_printAll_69 (by decide) (fun c => ?_) (fun c => ?_)
  · replace h := h.1 c
    refine v_iload_n (pc := 136) d_Md_printAll_136 rfl (.tail _ (.tail _ (.head _))) ?_
    refine v_ifeq (pc := 137) (tgt := 156) d_Md_printAll_137 (by decide) (fun c => ?_) (fun c => ?_)
    · replace h := h.1 c
      exact v_sub (List.forall_mem_cons.mpr ⟨(.head _), (List.forall_mem_cons.mpr ⟨(.tail _ (.head _)), (fun _ z => absurd z List.not_mem_nil)⟩)⟩) h
    · replace h := h.2 c
      refine v_aload_n (pc := 140) d_Md_printAll_140 rfl (.head _) ?_
      refine v_ldcs (pc := 141) (n := 49) (tx := ":") d_Md_printAll_141 (by decide +kernel) ?_
      refine v_callV (pc := 143) (J' := jMd_showText) (d' := d) (o := 0) (ci := 13) (N := 93) (T := cT13) (As := [vA 1050]) d_Md_printAll_143 ml_Md_531 cM_0.1 cM_0.2 (by decide) rfl rfl (Nat.le_of_ble_eq_true rfl) (Nat.le_refl _) rfl (Cal.weak h (fun o w3 h => ?_))
      rcases rVt_of h with ⟨rfl, h⟩ | ⟨b, rfl, h⟩
      rotate_left
      · exact h
      refine v_aload_n (pc := 146) d_Md_printAll_146 rfl (.head _) ?_
      refine v_aload_n (pc := 147) d_Md_printAll_147 rfl (.head _) ?_
      refine v_getr (C := "") (pc := 148) (r := 14) d_Md_printAll_148 fl_Md_179 cM_0.1 cM_0.2 (Or.inr ⟨_, rfl⟩) rM_0_18 ?_
      refine v_iload_n (pc := 151) d_Md_printAll_151 rfl (.tail _ (.head _)) ?_
      refine v_iald (pc := 152) (x := (w3 14 x1_.toNat)) d_Md_printAll_152 cM_14.1 cM_14.2 rfl h.1 ?_
      replace h := h.2
      refine v_callV (pc := 153) (J' := jMd_show) (d' := d) (o := 0) (ci := 13) (N := 93) (T := cT13) (As := [vI (w3 14 x1_.toNat)]) d_Md_printAll_153 ml_Md_539 cM_0.1 cM_0.2 (by decide) rfl rfl (Nat.le_of_ble_eq_true rfl) (Nat.le_refl _) rfl (Cal.weak h (fun o w4 h => ?_))
      rcases rVt_of h with ⟨rfl, h⟩ | ⟨b, rfl, h⟩
      rotate_left
      · exact h
      exact v_sub (List.forall_mem_cons.mpr ⟨(.head _), (List.forall_mem_cons.mpr ⟨(.tail _ (.head _)), (fun _ z => absurd z List.not_mem_nil)⟩)⟩) h
  · replace h := h.2 c
    refine v_aload_n (pc := 72) d_Md_printAll_72 rfl (.head _) ?_
    refine v_ldcs (pc := 73) (n := 49) (tx := ":") d_Md_printAll_73 (by decide +kernel) ?_
    refine v_callV (pc := 75) (J' := jMd_showText) (d' := d) (o := 0) (ci := 13) (N := 93) (T := cT13) (As := [vA 1050]) d_Md_printAll_75 ml_Md_531 cM_0.1 cM_0.2 (by decide) rfl rfl (Nat.le_of_ble_eq_true rfl) (Nat.le_refl _) rfl (Cal.weak h (fun o w5 h => ?_))
    rcases rVt_of h with ⟨rfl, h⟩ | ⟨b, rfl, h⟩
    rotate_left
    · exact h
    refine v_aload_n (pc := 78) d_Md_printAll_78 rfl (.head _) ?_
    refine v_aload_n (pc := 79) d_Md_printAll_79 rfl (.head _) ?_
    refine v_getr (C := "") (pc := 80) (r := 12) d_Md_printAll_80 fl_Md_173 cM_0.1 cM_0.2 (Or.inr ⟨_, rfl⟩) rM_0_16 ?_
    refine v_iload_n (pc := 83) d_Md_printAll_83 rfl (.tail _ (.head _)) ?_
    refine v_iald (pc := 84) (x := (w5 12 x1_.toNat)) d_Md_printAll_84 cM_12.1 cM_12.2 rfl h.1 ?_
    replace h := h.2
    refine v_ifne (pc := 85) (tgt := 93) d_Md_printAll_85 (by decide) (fun c => ?_) (fun c => ?_)
    · replace h := h.1 c
      refine v_ldcs (pc := 93) (n := 10) (tx := "bool") d_Md_printAll_93 (by decide +kernel) ?_
      exact v_sub (List.forall_mem_cons.mpr ⟨(.head _), (List.forall_mem_cons.mpr ⟨(.tail _ (.head _)), (fun _ z => absurd z List.not_mem_nil)⟩)⟩) h
    · replace h := h.2 c
      refine v_ldcs (pc := 88) (n := 9) (tx := "int") d_Md_printAll_88 (by decide +kernel) ?_
      refine v_goto (pc := 90) (tgt := 95) d_Md_printAll_90 (by decide) ?_
      exact v_sub (List.forall_mem_cons.mpr ⟨(.head _), (List.forall_mem_cons.mpr ⟨(.tail _ (.head _)), (fun _ z => absurd z List.not_mem_nil)⟩)⟩) h
set_option maxHeartbeats 4000000 in
theorem s_Md_printAll_156 {g : Mg} {d : Nat} {K : Ou → Wd → Prop} {w : Wd} {x1_ : Int} (h : Cal g LM jMd_showText d [vA 0, vA 1043] w (fun o w1 => rVt o (fun b => K (.inr b) w1) (V g LM jMd_printAll (d + 1) K 7 [(0, vA 0), (1, vI (wr (x1_ + 1)))] [] w1))) : V g LM jMd_printAll (d + 1) K 156 [(0, vA 0), (1, vI x1_)] [] w := by
  refine v_aload_n (pc := 156) d_Md_printAll_156 rfl (.head _) ?_
  refine v_ldcs (pc := 157) (n := 42) (tx := ";") d_Md_printAll_157 (by decide +kernel) ?_
  refine v_callV (pc := 159) (J' := jMd_showText) (d' := d) (o := 0) (ci := 13) (N := 93) (T := cT13) (As := [vA 1043]) d_Md_printAll_159 ml_Md_531 cM_0.1 cM_0.2 (by decide) rfl rfl (Nat.le_of_ble_eq_true rfl) (Nat.le_refl _) rfl (Cal.weak h (fun o w1 h => ?_))
  rcases rVt_of h with ⟨rfl, h⟩ | ⟨b, rfl, h⟩
  rotate_left
  · exact h
  refine v_iinc (pc := 162) (ls' := [(1, vI (wr (x1_ + 1))), (0, vA 0)]) d_Md_printAll_162 (.tail _ (.head _)) (by decide) rfl ?_
  refine v_goto (pc := 165) (tgt := 7) d_Md_printAll_165 (by decide) ?_
  exact v_sub (List.forall_mem_cons.mpr ⟨(.tail _ (.head _)), (List.forall_mem_cons.mpr ⟨(.head _), (fun _ z => absurd z List.not_mem_nil)⟩)⟩) h
set_option maxHeartbeats 4000000 in
theorem s_Md_printAll_95 {g : Mg} {d : Nat} {K : Ou → Wd → Prop} {w : Wd} {x1_ : Int} (h : Cal g LM jMd_showText d [vA 0, vA 1011] w (fun o w1 => rVt o (fun b => K (.inr b) w1) (Cal g LM jMd_showText d [vA 0, vA 1051] w1 (fun o w2 => rVt o (fun b => K (.inr b) w2) ((0 ≤ x1_ ∧ x1_ < 30) ∧ (((w2 15 x1_.toNat) < 0 → (V g LM jMd_printAll (d + 1) K 123 [(0, vA 0), (1, vI x1_)] [] w2)) ∧ (¬ (w2 15 x1_.toNat) < 0 → ((0 ≤ x1_ ∧ x1_ < 30) ∧ (Cal g LM jMd_show d [vA 0, vI (w2 15 x1_.toNat)] w2 (fun o w3 => rVt o (fun b => K (.inr b) w3) (V g LM jMd_printAll (d + 1) K 123 [(0, vA 0), (1, vI x1_)] [] w3))))))))))) : V g LM jMd_printAll (d + 1) K 95 [(0, vA 0), (1, vI x1_)] [vA 1011, vA 0] w := by
  refine v_callV (pc := 95) (J' := jMd_showText) (d' := d) (o := 0) (ci := 13) (N := 93) (T := cT13) (As := [vA 1011]) d_Md_printAll_95 ml_Md_531 cM_0.1 cM_0.2 (by decide) rfl rfl (Nat.le_of_ble_eq_true rfl) (Nat.le_refl _) rfl (Cal.weak h (fun o w1 h => ?_))
  rcases rVt_of h with ⟨rfl, h⟩ | ⟨b, rfl, h⟩
  rotate_left
  · exact h
  refine v_aload_n (pc := 98) d_Md_printAll_98 rfl (.head _) ?_
  refine v_ldcs (pc := 99) (n := 50) (tx := "=") d_Md_printAll_99 (by decide +kernel) ?_
  refine v_callV (pc := 101) (J' := jMd_showText) (d' := d) (o := 0) (ci := 13) (N := 93) (T := cT13) (As := [vA 1051]) d_Md_printAll_101 ml_Md_531 cM_0.1 cM_0.2 (by decide) rfl rfl (Nat.le_of_ble_eq_true rfl) (Nat.le_refl _) rfl (Cal.weak h (fun o w2 h => ?_))
  rcases rVt_of h with ⟨rfl, h⟩ | ⟨b, rfl, h⟩
  rotate_left
  · exact h
  refine v_aload_n (pc := 104) d_Md_printAll_104 rfl (.head _) ?_
  refine v_getr (C := "") (pc := 105) (r := 15) d_Md_printAll_105 fl_Md_182 cM_0.1 cM_0.2 (Or.inr ⟨_, rfl⟩) rM_0_19 ?_
  refine v_iload_n (pc := 108) d_Md_printAll_108 rfl (.tail _ (.head _)) ?_
  refine v_iald (pc := 109) (x := (w2 15 x1_.toNat)) d_Md_printAll_109 cM_15.1 cM_15.2 rfl h.1 ?_
  replace h := h.2
  refine v_iflt (pc := 110) (tgt := 123) d_Md_printAll_110 (by decide) (fun c => ?_) (fun c => ?_)
  · replace h := h.1 c
    exact v_sub (List.forall_mem_cons.mpr ⟨(.head _), (List.forall_mem_cons.mpr ⟨(.tail _ (.head _)), (fun _ z => absurd z List.not_mem_nil)⟩)⟩) h
  · replace h := h.2 c
    refine v_aload_n (pc := 113) d_Md_printAll_113 rfl (.head _) ?_
    refine v_aload_n (pc := 114) d_Md_printAll_114 rfl (.head _) ?_
    refine v_getr (C := "") (pc := 115) (r := 15) d_Md_printAll_115 fl_Md_182 cM_0.1 cM_0.2 (Or.inr ⟨_, rfl⟩) rM_0_19 ?_
    refine v_iload_n (pc := 118) d_Md_printAll_118 rfl (.tail _ (.head _)) ?_
    refine v_iald (pc := 119) (x := (w2 15 x1_.toNat)) d_Md_printAll_119 cM_15.1 cM_15.2 rfl h.1 ?_
    replace h := h.2
    refine v_callV (pc := 120) (J' := jMd_show) (d' := d) (o := 0) (ci := 13) (N := 93) (T := cT13) (As := [vI (w2 15 x1_.toNat)]) d_Md_printAll_120 ml_Md_539 cM_0.1 cM_0.2 (by decide) rfl rfl (Nat.le_of_ble_eq_true rfl) (Nat.le_refl _) rfl (Cal.weak h (fun o w3 h => ?_))
    rcases rVt_of h with ⟨rfl, h⟩ | ⟨b, rfl, h⟩
    rotate_left
    · exact h
    exact v_sub (List.forall_mem_cons.mpr ⟨(.head _), (List.forall_mem_cons.mpr ⟨(.tail _ (.head _)), (fun _ z => absurd z List.not_mem_nil)⟩)⟩) h
set_option maxHeartbeats 4000000 in
theorem s_Md_printAll_123 {g : Mg} {d : Nat} {K : Ou → Wd → Prop} {w : Wd} {x1_ : Int} (h : (0 ≤ x1_ ∧ x1_ < 30) ∧ (Cal g LM jMd_show d [vA 0, vI (w 14 x1_.toNat)] w (fun o w1 => rVt o (fun b => K (.inr b) w1) (V g LM jMd_printAll (d + 1) K 156 [(0, vA 0), (1, vI x1_)] [] w1)))) : V g LM jMd_printAll (d + 1) K 123 [(0, vA 0), (1, vI x1_)] [] w := by
  refine v_aload_n (pc := 123) d_Md_printAll_123 rfl (.head _) ?_
  refine v_aload_n (pc := 124) d_Md_printAll_124 rfl (.head _) ?_
  refine v_getr (C := "") (pc := 125) (r := 14) d_Md_printAll_125 fl_Md_179 cM_0.1 cM_0.2 (Or.inr ⟨_, rfl⟩) rM_0_18 ?_
  refine v_iload_n (pc := 128) d_Md_printAll_128 rfl (.tail _ (.head _)) ?_
  refine v_iald (pc := 129) (x := (w 14 x1_.toNat)) d_Md_printAll_129 cM_14.1 cM_14.2 rfl h.1 ?_
  replace h := h.2
  refine v_callV (pc := 130) (J' := jMd_show) (d' := d) (o := 0) (ci := 13) (N := 93) (T := cT13) (As := [vI (w 14 x1_.toNat)]) d_Md_printAll_130 ml_Md_539 cM_0.1 cM_0.2 (by decide) rfl rfl (Nat.le_of_ble_eq_true rfl) (Nat.le_refl _) rfl (Cal.weak h (fun o w1 h => ?_))
  rcases rVt_of h with ⟨rfl, h⟩ | ⟨b, rfl, h⟩
  rotate_left
  · exact h
  refine v_goto (pc := 133) (tgt := 156) d_Md_printAll_133 (by decide) ?_
  exact v_sub (List.forall_mem_cons.mpr ⟨(.head _), (List.forall_mem_cons.mpr ⟨(.tail _ (.head _)), (fun _ z => absurd z List.not_mem_nil)⟩)⟩) h
theorem d_Md_print_0 : decode jMd_print.cc 0 = .ok (.aload_n 0, 1) := by decide +kernel
theorem d_Md_print_1 : decode jMd_print.cc 1 = .ok (.iconst 0, 1) := by decide +kernel
theorem d_Md_print_2 : decode jMd_print.cc 2 = .ok (.putfield 1, 3) := by decide +kernel
theorem d_Md_print_5 : decode jMd_print.cc 5 = .ok (.aload_n 0, 1) := by decide +kernel
theorem d_Md_print_6 : decode jMd_print.cc 6 = .ok (.getfield 506, 3) := by decide +kernel
theorem d_Md_print_9 : decode jMd_print.cc 9 = .ok (.ifCond .eq 16, 3) := by decide +kernel
theorem d_Md_print_12 : decode jMd_print.cc 12 = .ok (.iload_n 1, 1) := by decide +kernel
theorem d_Md_print_13 : decode jMd_print.cc 13 = .ok (.iconst (-1), 1) := by decide +kernel
theorem d_Md_print_14 : decode jMd_print.cc 14 = .ok (.if_icmp .lt 11, 3) := by decide +kernel
theorem d_Md_print_17 : decode jMd_print.cc 17 = .ok (.iload_n 1, 1) := by decide +kernel
theorem d_Md_print_18 : decode jMd_print.cc 18 = .ok (.aload_n 0, 1) := by decide +kernel
theorem d_Md_print_19 : decode jMd_print.cc 19 = .ok (.getfield 525, 3) := by decide +kernel
theorem d_Md_print_22 : decode jMd_print.cc 22 = .ok (.if_icmp .lt 5, 3) := by decide +kernel
theorem d_Md_print_25 : decode jMd_print.cc 25 = .ok (.iconst (-1), 1) := by decide +kernel
theorem d_Md_print_26 : decode jMd_print.cc 26 = .ok (.ireturn, 1) := by decide +kernel
theorem d_Md_print_27 : decode jMd_print.cc 27 = .ok (.iload_n 1, 1) := by decide +kernel
theorem d_Md_print_28 : decode jMd_print.cc 28 = .ok (.ifCond .ge 10, 3) := by decide +kernel
theorem d_Md_print_31 : decode jMd_print.cc 31 = .ok (.aload_n 0, 1) := by decide +kernel
theorem d_Md_print_32 : decode jMd_print.cc 32 = .ok (.getfield 525, 3) := by decide +kernel
theorem d_Md_print_35 : decode jMd_print.cc 35 = .ok (.goto 13, 3) := by decide +kernel
theorem d_Md_print_38 : decode jMd_print.cc 38 = .ok (.aload_n 0, 1) := by decide +kernel
theorem d_Md_print_39 : decode jMd_print.cc 39 = .ok (.getfield 255, 3) := by decide +kernel
theorem d_Md_print_42 : decode jMd_print.cc 42 = .ok (.iload_n 1, 1) := by decide +kernel
theorem d_Md_print_43 : decode jMd_print.cc 43 = .ok (.baload, 1) := by decide +kernel
theorem d_Md_print_44 : decode jMd_print.cc 44 = .ok (.sipush 255, 3) := by decide +kernel
theorem d_Md_print_47 : decode jMd_print.cc 47 = .ok (.iand, 1) := by decide +kernel
theorem d_Md_print_48 : decode jMd_print.cc 48 = .ok (.ireturn, 1) := by decide +kernel
set_option maxHeartbeats 4000000 in
theorem s_Md_print {g : Mg} {d : Nat} {K : Ou → Wd → Prop} {w : Wd} {p1 : Int} (h : ((w 0 43) = 0 → (K (.inl (some (vI (-1)))) (up w 0 0 0))) ∧ (¬ (w 0 43) = 0 → ((p1 < (-1) → (K (.inl (some (vI (-1)))) (up w 0 0 0))) ∧ (¬ p1 < (-1) → ((p1 < (w 0 58) → ((0 ≤ p1 → ((0 ≤ p1 ∧ p1 < 12000) ∧ (K (.inl (some (vI (iAnd (w 37 p1.toNat) 255)))) (up w 0 0 0)))) ∧ (¬ 0 ≤ p1 → (K (.inl (some (vI (w 0 58)))) (up w 0 0 0))))) ∧ (¬ p1 < (w 0 58) → (K (.inl (some (vI (-1)))) (up w 0 0 0)))))))) : V g LM jMd_print d K 0 [(0, vA 0), (1, vI p1)] [] w := by
  refine v_aload_n (pc := 0) d_Md_print_0 rfl (.head _) ?_
  refine v_iconst (pc := 1) d_Md_print_1 (by decide) ?_
  refine v_puti (pc := 2) d_Md_print_2 fp_Md_1 cM_0.1 cM_0.2 (by decide) rfl ?_
  refine v_aload_n (pc := 5) d_Md_print_5 rfl (.head _) ?_
  refine v_geti (pc := 6) (x := (w 0 43)) d_Md_print_6 fl_Md_506 cM_0.1 cM_0.2 (Or.inr rfl) rfl ?_
  refine v_ifeq (pc := 9) (tgt := 25) d_Md_print_9 (by decide) (fun c => ?_) (fun c => ?_)
  · replace h := h.1 c
    refine v_iconst (pc := 25) d_Md_print_25 (by decide) ?_
    exact v_iret (pc := 26) d_Md_print_26 rfl h
  · replace h := h.2 c
    refine v_iload_n (pc := 12) d_Md_print_12 rfl (.tail _ (.head _)) ?_
    refine v_iconst (pc := 13) d_Md_print_13 (by decide) ?_
    refine v_icmplt (pc := 14) (tgt := 25) d_Md_print_14 (by decide) (fun c => ?_) (fun c => ?_)
    · replace h := h.1 c
      refine v_iconst (pc := 25) d_Md_print_25 (by decide) ?_
      exact v_iret (pc := 26) d_Md_print_26 rfl h
    · replace h := h.2 c
      refine v_iload_n (pc := 17) d_Md_print_17 rfl (.tail _ (.head _)) ?_
      refine v_aload_n (pc := 18) d_Md_print_18 rfl (.head _) ?_
      refine v_geti (pc := 19) (x := (w 0 58)) d_Md_print_19 fl_Md_525 cM_0.1 cM_0.2 (Or.inl rfl) rfl ?_
      refine v_icmplt (pc := 22) (tgt := 27) d_Md_print_22 (by decide) (fun c => ?_) (fun c => ?_)
      · replace h := h.1 c
        refine v_iload_n (pc := 27) d_Md_print_27 rfl (.tail _ (.head _)) ?_
        refine v_ifge (pc := 28) (tgt := 38) d_Md_print_28 (by decide) (fun c => ?_) (fun c => ?_)
        · replace h := h.1 c
          refine v_aload_n (pc := 38) d_Md_print_38 rfl (.head _) ?_
          refine v_getr (C := "") (pc := 39) (r := 37) d_Md_print_39 fl_Md_255 cM_0.1 cM_0.2 (Or.inr ⟨_, rfl⟩) rM_0_57 ?_
          refine v_iload_n (pc := 42) d_Md_print_42 rfl (.tail _ (.head _)) ?_
          refine v_bald (pc := 43) (x := (w 37 p1.toNat)) d_Md_print_43 cM_37.1 cM_37.2 rfl h.1 ?_
          replace h := h.2
          refine v_sipush (pc := 44) d_Md_print_44 (by decide) rfl ?_
          refine v_iand (pc := 47) d_Md_print_47 ?_
          exact v_iret (pc := 48) d_Md_print_48 rfl h
        · replace h := h.2 c
          refine v_aload_n (pc := 31) d_Md_print_31 rfl (.head _) ?_
          refine v_geti (pc := 32) (x := (w 0 58)) d_Md_print_32 fl_Md_525 cM_0.1 cM_0.2 (Or.inl rfl) rfl ?_
          refine v_goto (pc := 35) (tgt := 48) d_Md_print_35 (by decide) ?_
          exact v_iret (pc := 48) d_Md_print_48 rfl h
      · replace h := h.2 c
        refine v_iconst (pc := 25) d_Md_print_25 (by decide) ?_
        exact v_iret (pc := 26) d_Md_print_26 rfl h
theorem d_Md_name_0 : decode jMd_name.cc 0 = .ok (.aload_n 0, 1) := by decide +kernel
theorem d_Md_name_1 : decode jMd_name.cc 1 = .ok (.iconst 0, 1) := by decide +kernel
theorem d_Md_name_2 : decode jMd_name.cc 2 = .ok (.putfield 1, 3) := by decide +kernel
theorem d_Md_name_5 : decode jMd_name.cc 5 = .ok (.aload_n 0, 1) := by decide +kernel
theorem d_Md_name_6 : decode jMd_name.cc 6 = .ok (.getfield 506, 3) := by decide +kernel
theorem d_Md_name_9 : decode jMd_name.cc 9 = .ok (.ifCond .ne 5, 3) := by decide +kernel
theorem d_Md_name_12 : decode jMd_name.cc 12 = .ok (.iconst (-1), 1) := by decide +kernel
theorem d_Md_name_13 : decode jMd_name.cc 13 = .ok (.ireturn, 1) := by decide +kernel
theorem d_Md_name_14 : decode jMd_name.cc 14 = .ok (.bipush (-2), 2) := by decide +kernel
theorem d_Md_name_16 : decode jMd_name.cc 16 = .ok (.istore_n 1, 1) := by decide +kernel
theorem d_Md_name_17 : decode jMd_name.cc 17 = .ok (.iconst 0, 1) := by decide +kernel
theorem d_Md_name_18 : decode jMd_name.cc 18 = .ok (.istore_n 2, 1) := by decide +kernel
theorem d_Md_name_19 : decode jMd_name.cc 19 = .ok (.iload_n 2, 1) := by decide +kernel
theorem d_Md_name_20 : decode jMd_name.cc 20 = .ok (.aload_n 0, 1) := by decide +kernel
theorem d_Md_name_21 : decode jMd_name.cc 21 = .ok (.getfield 444, 3) := by decide +kernel
theorem d_Md_name_24 : decode jMd_name.cc 24 = .ok (.if_icmp .ge 114, 3) := by decide +kernel
theorem d_Md_name_27 : decode jMd_name.cc 27 = .ok (.aload_n 0, 1) := by decide +kernel
theorem d_Md_name_28 : decode jMd_name.cc 28 = .ok (.getfield 40, 3) := by decide +kernel
theorem d_Md_name_31 : decode jMd_name.cc 31 = .ok (.aload_n 0, 1) := by decide +kernel
theorem d_Md_name_32 : decode jMd_name.cc 32 = .ok (.getfield 170, 3) := by decide +kernel
theorem d_Md_name_35 : decode jMd_name.cc 35 = .ok (.iload_n 2, 1) := by decide +kernel
theorem d_Md_name_36 : decode jMd_name.cc 36 = .ok (.iaload, 1) := by decide +kernel
theorem d_Md_name_37 : decode jMd_name.cc 37 = .ok (.iaload, 1) := by decide +kernel
theorem d_Md_name_38 : decode jMd_name.cc 38 = .ok (.aload_n 0, 1) := by decide +kernel
theorem d_Md_name_39 : decode jMd_name.cc 39 = .ok (.getfield 307, 3) := by decide +kernel
theorem d_Md_name_42 : decode jMd_name.cc 42 = .ok (.if_icmp .ne 7, 3) := by decide +kernel
theorem d_Md_name_45 : decode jMd_name.cc 45 = .ok (.iconst 1, 1) := by decide +kernel
theorem d_Md_name_46 : decode jMd_name.cc 46 = .ok (.goto 4, 3) := by decide +kernel
theorem d_Md_name_49 : decode jMd_name.cc 49 = .ok (.iconst 0, 1) := by decide +kernel
theorem d_Md_name_50 : decode jMd_name.cc 50 = .ok (.istore_n 3, 1) := by decide +kernel
theorem d_Md_name_51 : decode jMd_name.cc 51 = .ok (.iconst 0, 1) := by decide +kernel
theorem d_Md_name_52 : decode jMd_name.cc 52 = .ok (.istore 4, 2) := by decide +kernel
theorem d_Md_name_54 : decode jMd_name.cc 54 = .ok (.iload 4, 2) := by decide +kernel
theorem d_Md_name_56 : decode jMd_name.cc 56 = .ok (.aload_n 0, 1) := by decide +kernel
theorem d_Md_name_57 : decode jMd_name.cc 57 = .ok (.getfield 307, 3) := by decide +kernel
theorem d_Md_name_60 : decode jMd_name.cc 60 = .ok (.if_icmp .ge 48, 3) := by decide +kernel
theorem d_Md_name_63 : decode jMd_name.cc 63 = .ok (.iload_n 3, 1) := by decide +kernel
theorem d_Md_name_64 : decode jMd_name.cc 64 = .ok (.ifCond .eq 44, 3) := by decide +kernel
theorem d_Md_name_67 : decode jMd_name.cc 67 = .ok (.aload_n 0, 1) := by decide +kernel
theorem d_Md_name_68 : decode jMd_name.cc 68 = .ok (.getfield 26, 3) := by decide +kernel
theorem d_Md_name_71 : decode jMd_name.cc 71 = .ok (.iload 4, 2) := by decide +kernel
theorem d_Md_name_73 : decode jMd_name.cc 73 = .ok (.baload, 1) := by decide +kernel
theorem d_Md_name_74 : decode jMd_name.cc 74 = .ok (.aload_n 0, 1) := by decide +kernel
theorem d_Md_name_75 : decode jMd_name.cc 75 = .ok (.getfield 30, 3) := by decide +kernel
theorem d_Md_name_78 : decode jMd_name.cc 78 = .ok (.aload_n 0, 1) := by decide +kernel
theorem d_Md_name_79 : decode jMd_name.cc 79 = .ok (.getfield 37, 3) := by decide +kernel
theorem d_Md_name_82 : decode jMd_name.cc 82 = .ok (.aload_n 0, 1) := by decide +kernel
theorem d_Md_name_83 : decode jMd_name.cc 83 = .ok (.getfield 170, 3) := by decide +kernel
theorem d_Md_name_86 : decode jMd_name.cc 86 = .ok (.iload_n 2, 1) := by decide +kernel
theorem d_Md_name_87 : decode jMd_name.cc 87 = .ok (.iaload, 1) := by decide +kernel
theorem d_Md_name_88 : decode jMd_name.cc 88 = .ok (.iaload, 1) := by decide +kernel
theorem d_Md_name_89 : decode jMd_name.cc 89 = .ok (.iload 4, 2) := by decide +kernel
theorem d_Md_name_91 : decode jMd_name.cc 91 = .ok (.iadd, 1) := by decide +kernel
theorem d_Md_name_92 : decode jMd_name.cc 92 = .ok (.baload, 1) := by decide +kernel
theorem d_Md_name_93 : decode jMd_name.cc 93 = .ok (.if_icmp .ne 7, 3) := by decide +kernel
theorem d_Md_name_96 : decode jMd_name.cc 96 = .ok (.iconst 1, 1) := by decide +kernel
theorem d_Md_name_97 : decode jMd_name.cc 97 = .ok (.goto 4, 3) := by decide +kernel
theorem d_Md_name_100 : decode jMd_name.cc 100 = .ok (.iconst 0, 1) := by decide +kernel
theorem d_Md_name_101 : decode jMd_name.cc 101 = .ok (.istore_n 3, 1) := by decide +kernel
theorem d_Md_name_102 : decode jMd_name.cc 102 = .ok (.iinc 4 1, 3) := by decide +kernel
theorem d_Md_name_105 : decode jMd_name.cc 105 = .ok (.goto (-51), 3) := by decide +kernel
theorem d_Md_name_108 : decode jMd_name.cc 108 = .ok (.iload_n 3, 1) := by decide +kernel
theorem d_Md_name_109 : decode jMd_name.cc 109 = .ok (.ifCond .eq 21, 3) := by decide +kernel
theorem d_Md_name_112 : decode jMd_name.cc 112 = .ok (.bipush 100, 2) := by decide +kernel
theorem d_Md_name_114 : decode jMd_name.cc 114 = .ok (.aload_n 0, 1) := by decide +kernel
theorem d_Md_name_115 : decode jMd_name.cc 115 = .ok (.getfield 167, 3) := by decide +kernel
theorem d_Md_name_118 : decode jMd_name.cc 118 = .ok (.iload_n 2, 1) := by decide +kernel
theorem d_Md_name_119 : decode jMd_name.cc 119 = .ok (.iaload, 1) := by decide +kernel
theorem d_Md_name_120 : decode jMd_name.cc 120 = .ok (.imul, 1) := by decide +kernel
theorem d_Md_name_121 : decode jMd_name.cc 121 = .ok (.aload_n 0, 1) := by decide +kernel
theorem d_Md_name_122 : decode jMd_name.cc 122 = .ok (.iload_n 2, 1) := by decide +kernel
theorem d_Md_name_123 : decode jMd_name.cc 123 = .ok (.invokevirtual 469, 3) := by decide +kernel
theorem d_Md_name_126 : decode jMd_name.cc 126 = .ok (.iadd, 1) := by decide +kernel
theorem d_Md_name_127 : decode jMd_name.cc 127 = .ok (.goto 4, 3) := by decide +kernel
theorem d_Md_name_130 : decode jMd_name.cc 130 = .ok (.iload_n 1, 1) := by decide +kernel
theorem d_Md_name_131 : decode jMd_name.cc 131 = .ok (.istore_n 1, 1) := by decide +kernel
theorem d_Md_name_132 : decode jMd_name.cc 132 = .ok (.iinc 2 1, 3) := by decide +kernel
theorem d_Md_name_135 : decode jMd_name.cc 135 = .ok (.goto (-116), 3) := by decide +kernel
theorem d_Md_name_138 : decode jMd_name.cc 138 = .ok (.aload_n 0, 1) := by decide +kernel
theorem d_Md_name_139 : decode jMd_name.cc 139 = .ok (.iconst 0, 1) := by decide +kernel
theorem d_Md_name_140 : decode jMd_name.cc 140 = .ok (.putfield 307, 3) := by decide +kernel
theorem d_Md_name_143 : decode jMd_name.cc 143 = .ok (.iload_n 1, 1) := by decide +kernel
theorem d_Md_name_144 : decode jMd_name.cc 144 = .ok (.ireturn, 1) := by decide +kernel
set_option maxHeartbeats 4000000 in
theorem s_Md_name {g : Mg} {d : Nat} {K : Ou → Wd → Prop} {w : Wd} (h : (¬ (w 0 43) = 0 → (V g LM jMd_name (d + 1) K 19 [(0, vA 0), (1, vI (-2)), (2, vI 0)] [] (up w 0 0 0))) ∧ ((w 0 43) = 0 → (K (.inl (some (vI (-1)))) (up w 0 0 0)))) : V g LM jMd_name (d + 1) K 0 [(0, vA 0)] [] w := by
  refine v_aload_n (pc := 0) d_Md_name_0 rfl (.head _) ?_
  refine v_iconst (pc := 1) d_Md_name_1 (by decide) ?_
  refine v_puti (pc := 2) d_Md_name_2 fp_Md_1 cM_0.1 cM_0.2 (by decide) rfl ?_
  refine v_aload_n (pc := 5) d_Md_name_5 rfl (.head _) ?_
  refine v_geti (pc := 6) (x := (w 0 43)) d_Md_name_6 fl_Md_506 cM_0.1 cM_0.2 (Or.inr rfl) rfl ?_
  refine v_ifne (pc := 9) (tgt := 14) d_Md_name_9 (by decide) (fun c => ?_) (fun c => ?_)
  · replace h := h.1 c
    refine v_bipush (pc := 14) d_Md_name_14 (by decide) rfl ?_
    refine v_istore_n (pc := 16) (ls' := [(1, vI (-2)), (0, vA 0)]) d_Md_name_16 rfl (by decide) rfl ?_
    refine v_iconst (pc := 17) d_Md_name_17 (by decide) ?_
    refine v_istore_n (pc := 18) (ls' := [(2, vI 0), (1, vI (-2)), (0, vA 0)]) d_Md_name_18 rfl (by decide) rfl ?_
    exact v_sub (List.forall_mem_cons.mpr ⟨(.tail _ (.tail _ (.head _))), (List.forall_mem_cons.mpr ⟨(.tail _ (.head _)), (List.forall_mem_cons.mpr ⟨(.head _), (fun _ z => absurd z List.not_mem_nil)⟩)⟩)⟩) h
  · replace h := h.2 c
    refine v_iconst (pc := 12) d_Md_name_12 (by decide) ?_
    exact v_iret (pc := 13) d_Md_name_13 rfl h
set_option maxHeartbeats 4000000 in
theorem s_Md_name_19 {g : Mg} {d : Nat} {K : Ou → Wd → Prop} {w : Wd} {x1_ : Int} {x2_ : Int} (h : ((w 0 20) ≤ x2_ → (K (.inl (some (vI x1_))) (up w 0 3 0))) ∧ (¬ (w 0 20) ≤ x2_ → ((0 ≤ x2_ ∧ x2_ < 30) ∧ ((0 ≤ (w 11 x2_.toNat) ∧ (w 11 x2_.toNat) < 4022) ∧ ((¬ (w 6 ((w 11 x2_.toNat).toNat)) = (w 0 3) → (V g LM jMd_name (d + 1) K 54 [(0, vA 0), (1, vI x1_), (2, vI x2_), (3, vI 0), (4, vI 0)] [] w)) ∧ ((w 6 ((w 11 x2_.toNat).toNat)) = (w 0 3) → (V g LM jMd_name (d + 1) K 54 [(0, vA 0), (1, vI x1_), (2, vI x2_), (3, vI 1), (4, vI 0)] [] w))))))) : V g LM jMd_name (d + 1) K 19 [(0, vA 0), (1, vI x1_), (2, vI x2_)] [] w := by
  refine v_iload_n (pc := 19) d_Md_name_19 rfl (.tail _ (.tail _ (.head _))) ?_
  refine v_aload_n (pc := 20) d_Md_name_20 rfl (.head _) ?_
  refine v_geti (pc := 21) (x := (w 0 20)) d_Md_name_21 fl_Md_444 cM_0.1 cM_0.2 (Or.inl rfl) rfl ?_
  refine v_icmpge (pc := 24) (tgt := 138) d_Md_name_24 (by decide) (fun c => ?_) (fun c => ?_)
  · replace h := h.1 c
    refine v_aload_n (pc := 138) d_Md_name_138 rfl (.head _) ?_
    refine v_iconst (pc := 139) d_Md_name_139 (by decide) ?_
    refine v_puti (pc := 140) d_Md_name_140 fp_Md_307 cM_0.1 cM_0.2 (by decide) rfl ?_
    refine v_iload_n (pc := 143) d_Md_name_143 rfl (.tail _ (.head _)) ?_
    exact v_iret (pc := 144) d_Md_name_144 rfl h
  · replace h := h.2 c
    refine v_aload_n (pc := 27) d_Md_name_27 rfl (.head _) ?_
    refine v_getr (C := "") (pc := 28) (r := 6) d_Md_name_28 fl_Md_40 cM_0.1 cM_0.2 (Or.inr ⟨_, rfl⟩) rM_0_8 ?_
    refine v_aload_n (pc := 31) d_Md_name_31 rfl (.head _) ?_
    refine v_getr (C := "") (pc := 32) (r := 11) d_Md_name_32 fl_Md_170 cM_0.1 cM_0.2 (Or.inr ⟨_, rfl⟩) rM_0_15 ?_
    refine v_iload_n (pc := 35) d_Md_name_35 rfl (.tail _ (.tail _ (.head _))) ?_
    refine v_iald (pc := 36) (x := (w 11 x2_.toNat)) d_Md_name_36 cM_11.1 cM_11.2 rfl h.1 ?_
    replace h := h.2
    refine v_iald (pc := 37) (x := (w 6 ((w 11 x2_.toNat).toNat))) d_Md_name_37 cM_6.1 cM_6.2 rfl h.1 ?_
    replace h := h.2
    refine v_aload_n (pc := 38) d_Md_name_38 rfl (.head _) ?_
    refine v_geti (pc := 39) (x := (w 0 3)) d_Md_name_39 fl_Md_307 cM_0.1 cM_0.2 (Or.inl rfl) rfl ?_
    refine v_icmpne (pc := 42) (tgt := 49) d_Md_name_42 (by decide) (fun c => ?_) (fun c => ?_)
    · replace h := h.1 c
      refine v_iconst (pc := 49) d_Md_name_49 (by decide) ?_
      refine v_istore_n (pc := 50) (ls' := [(3, vI 0), (0, vA 0), (1, vI x1_), (2, vI x2_)]) d_Md_name_50 rfl (by decide) rfl ?_
      refine v_iconst (pc := 51) d_Md_name_51 (by decide) ?_
      refine v_istore (pc := 52) (ls' := [(4, vI 0), (3, vI 0), (0, vA 0), (1, vI x1_), (2, vI x2_)]) d_Md_name_52 (by decide) rfl ?_
      exact v_sub (List.forall_mem_cons.mpr ⟨(.tail _ (.tail _ (.head _))), (List.forall_mem_cons.mpr ⟨(.tail _ (.tail _ (.tail _ (.head _)))), (List.forall_mem_cons.mpr ⟨(.tail _ (.tail _ (.tail _ (.tail _ (.head _))))), (List.forall_mem_cons.mpr ⟨(.tail _ (.head _)), (List.forall_mem_cons.mpr ⟨(.head _), (fun _ z => absurd z List.not_mem_nil)⟩)⟩)⟩)⟩)⟩) h
    · replace h := h.2 c
      refine v_iconst (pc := 45) d_Md_name_45 (by decide) ?_
      refine v_goto (pc := 46) (tgt := 50) d_Md_name_46 (by decide) ?_
      refine v_istore_n (pc := 50) (ls' := [(3, vI 1), (0, vA 0), (1, vI x1_), (2, vI x2_)]) d_Md_name_50 rfl (by decide) rfl ?_
      refine v_iconst (pc := 51) d_Md_name_51 (by decide) ?_
      refine v_istore (pc := 52) (ls' := [(4, vI 0), (3, vI 1), (0, vA 0), (1, vI x1_), (2, vI x2_)]) d_Md_name_52 (by decide) rfl ?_
      exact v_sub (List.forall_mem_cons.mpr ⟨(.tail _ (.tail _ (.head _))), (List.forall_mem_cons.mpr ⟨(.tail _ (.tail _ (.tail _ (.head _)))), (List.forall_mem_cons.mpr ⟨(.tail _ (.tail _ (.tail _ (.tail _ (.head _))))), (List.forall_mem_cons.mpr ⟨(.tail _ (.head _)), (List.forall_mem_cons.mpr ⟨(.head _), (fun _ z => absurd z List.not_mem_nil)⟩)⟩)⟩)⟩)⟩) h
set_option maxHeartbeats 4000000 in
theorem s_Md_name_54 {g : Mg} {d : Nat} {K : Ou → Wd → Prop} {w : Wd} {x1_ : Int} {x2_ : Int} {x3_ : Int} {x4_ : Int} (h : ((w 0 3) ≤ x4_ → ((x3_ = 0 → (V g LM jMd_name (d + 1) K 19 [(0, vA 0), (1, vI x1_), (2, vI (wr (x2_ + 1)))] [] w)) ∧ (¬ x3_ = 0 → ((0 ≤ x2_ ∧ x2_ < 30) ∧ (Cal g LM jMd_numberOf d [vA 0, vI x2_] w (fun o w1 => rIt o (fun b => K (.inr b) w1) (fun x2 => V g LM jMd_name (d + 1) K 19 [(0, vA 0), (1, vI (wr ((wr (100 * (w 10 x2_.toNat))) + x2))), (2, vI (wr (x2_ + 1)))] [] w1))))))) ∧ (¬ (w 0 3) ≤ x4_ → ((x3_ = 0 → ((x3_ = 0 → (V g LM jMd_name (d + 1) K 19 [(0, vA 0), (1, vI x1_), (2, vI (wr (x2_ + 1)))] [] w)) ∧ (¬ x3_ = 0 → ((0 ≤ x2_ ∧ x2_ < 30) ∧ (Cal g LM jMd_numberOf d [vA 0, vI x2_] w (fun o w3 => rIt o (fun b => K (.inr b) w3) (fun x4 => V g LM jMd_name (d + 1) K 19 [(0, vA 0), (1, vI (wr ((wr (100 * (w 10 x2_.toNat))) + x4))), (2, vI (wr (x2_ + 1)))] [] w3))))))) ∧ (¬ x3_ = 0 → ((0 ≤ x4_ ∧ x4_ < 4020) ∧ ((0 ≤ x2_ ∧ x2_ < 30) ∧ ((0 ≤ (w 11 x2_.toNat) ∧ (w 11 x2_.toNat) < 4022) ∧ ((0 ≤ (wr ((w 5 ((w 11 x2_.toNat).toNat)) + x4_)) ∧ (wr ((w 5 ((w 11 x2_.toNat).toNat)) + x4_)) < 4020) ∧ ((¬ (w 2 x4_.toNat) = (w 3 ((wr ((w 5 ((w 11 x2_.toNat).toNat)) + x4_)).toNat)) → (V g LM jMd_name (d + 1) K 54 [(0, vA 0), (1, vI x1_), (2, vI x2_), (3, vI 0), (4, vI (wr (x4_ + 1)))] [] w)) ∧ ((w 2 x4_.toNat) = (w 3 ((wr ((w 5 ((w 11 x2_.toNat).toNat)) + x4_)).toNat)) → (V g LM jMd_name (d + 1) K 54 [(0, vA 0), (1, vI x1_), (2, vI x2_), (3, vI 1), (4, vI (wr (x4_ + 1)))] [] w))))))))))) : V g LM jMd_name (d + 1) K 54 [(0, vA 0), (1, vI x1_), (2, vI x2_), (3, vI x3_), (4, vI x4_)] [] w := by
  refine v_iload (pc := 54) d_Md_name_54 (.tail _ (.tail _ (.tail _ (.tail _ (.head _))))) ?_
  refine v_aload_n (pc := 56) d_Md_name_56 rfl (.head _) ?_
  refine v_geti (pc := 57) (x := (w 0 3)) d_Md_name_57 fl_Md_307 cM_0.1 cM_0.2 (Or.inl rfl) rfl ?_
  refine v_icmpge (pc := 60) (tgt := 108) d_Md_name_60 (by decide) (fun c => ?_) (fun c => ?_)
  · replace h := h.1 c
    refine v_iload_n (pc := 108) d_Md_name_108 rfl (.tail _ (.tail _ (.tail _ (.head _)))) ?_
    refine v_ifeq (pc := 109) (tgt := 130) d_Md_name_109 (by decide) (fun c => ?_) (fun c => ?_)
    · replace h := h.1 c
      refine v_iload_n (pc := 130) d_Md_name_130 rfl (.tail _ (.head _)) ?_
      refine v_istore_n (pc := 131) (ls' := [(1, vI x1_), (0, vA 0), (2, vI x2_), (3, vI x3_), (4, vI x4_)]) d_Md_name_131 rfl (by decide) rfl ?_
      refine v_iinc (pc := 132) (ls' := [(2, vI (wr (x2_ + 1))), (1, vI x1_), (0, vA 0), (3, vI x3_), (4, vI x4_)]) d_Md_name_132 (.tail _ (.tail _ (.head _))) (by decide) rfl ?_
      refine v_goto (pc := 135) (tgt := 19) d_Md_name_135 (by decide) ?_
      exact v_sub (List.forall_mem_cons.mpr ⟨(.tail _ (.tail _ (.head _))), (List.forall_mem_cons.mpr ⟨(.tail _ (.head _)), (List.forall_mem_cons.mpr ⟨(.head _), (fun _ z => absurd z List.not_mem_nil)⟩)⟩)⟩) h
    · replace h := h.2 c
      refine v_bipush (pc := 112) d_Md_name_112 (by decide) rfl ?_
      refine v_aload_n (pc := 114) d_Md_name_114 rfl (.head _) ?_
      refine v_getr (C := "") (pc := 115) (r := 10) d_Md_name_115 fl_Md_167 cM_0.1 cM_0.2 (Or.inr ⟨_, rfl⟩) rM_0_14 ?_
      refine v_iload_n (pc := 118) d_Md_name_118 rfl (.tail _ (.tail _ (.head _))) ?_
      refine v_iald (pc := 119) (x := (w 10 x2_.toNat)) d_Md_name_119 cM_10.1 cM_10.2 rfl h.1 ?_
      replace h := h.2
      refine v_imul (pc := 120) d_Md_name_120 ?_
      refine v_aload_n (pc := 121) d_Md_name_121 rfl (.head _) ?_
      refine v_iload_n (pc := 122) d_Md_name_122 rfl (.tail _ (.tail _ (.head _))) ?_
      refine v_callV (pc := 123) (J' := jMd_numberOf) (d' := d) (o := 0) (ci := 13) (N := 93) (T := cT13) (As := [vI x2_]) d_Md_name_123 ml_Md_469 cM_0.1 cM_0.2 (by decide) rfl rfl (Nat.le_of_ble_eq_true rfl) (Nat.le_refl _) rfl (Cal.weak h (fun o w1 h => ?_))
      rcases rIt_of h with ⟨x2, rfl, h⟩ | ⟨b, rfl, h⟩
      rotate_left
      · exact h
      refine v_iadd (pc := 126) d_Md_name_126 ?_
      refine v_goto (pc := 127) (tgt := 131) d_Md_name_127 (by decide) ?_
      refine v_istore_n (pc := 131) (ls' := [(1, vI (wr ((wr (100 * (w 10 x2_.toNat))) + x2))), (0, vA 0), (2, vI x2_), (3, vI x3_), (4, vI x4_)]) d_Md_name_131 rfl (by decide) rfl ?_
      refine v_iinc (pc := 132) (ls' := [(2, vI (wr (x2_ + 1))), (1, vI (wr ((wr (100 * (w 10 x2_.toNat))) + x2))), (0, vA 0), (3, vI x3_), (4, vI x4_)]) d_Md_name_132 (.tail _ (.tail _ (.head _))) (by decide) rfl ?_
      refine v_goto (pc := 135) (tgt := 19) d_Md_name_135 (by decide) ?_
      exact v_sub (List.forall_mem_cons.mpr ⟨(.tail _ (.tail _ (.head _))), (List.forall_mem_cons.mpr ⟨(.tail _ (.head _)), (List.forall_mem_cons.mpr ⟨(.head _), (fun _ z => absurd z List.not_mem_nil)⟩)⟩)⟩) h
  · replace h := h.2 c
    refine v_iload_n (pc := 63) d_Md_name_63 rfl (.tail _ (.tail _ (.tail _ (.head _)))) ?_
    refine v_ifeq (pc := 64) (tgt := 108) d_Md_name_64 (by decide) (fun c => ?_) (fun c => ?_)
    · replace h := h.1 c
      refine v_iload_n (pc := 108) d_Md_name_108 rfl (.tail _ (.tail _ (.tail _ (.head _)))) ?_
      refine v_ifeq (pc := 109) (tgt := 130) d_Md_name_109 (by decide) (fun c => ?_) (fun c => ?_)
      · replace h := h.1 c
        refine v_iload_n (pc := 130) d_Md_name_130 rfl (.tail _ (.head _)) ?_
        refine v_istore_n (pc := 131) (ls' := [(1, vI x1_), (0, vA 0), (2, vI x2_), (3, vI x3_), (4, vI x4_)]) d_Md_name_131 rfl (by decide) rfl ?_
        refine v_iinc (pc := 132) (ls' := [(2, vI (wr (x2_ + 1))), (1, vI x1_), (0, vA 0), (3, vI x3_), (4, vI x4_)]) d_Md_name_132 (.tail _ (.tail _ (.head _))) (by decide) rfl ?_
        refine v_goto (pc := 135) (tgt := 19) d_Md_name_135 (by decide) ?_
        exact v_sub (List.forall_mem_cons.mpr ⟨(.tail _ (.tail _ (.head _))), (List.forall_mem_cons.mpr ⟨(.tail _ (.head _)), (List.forall_mem_cons.mpr ⟨(.head _), (fun _ z => absurd z List.not_mem_nil)⟩)⟩)⟩) h
      · replace h := h.2 c
        refine v_bipush (pc := 112) d_Md_name_112 (by decide) rfl ?_
        refine v_aload_n (pc := 114) d_Md_name_114 rfl (.head _) ?_
        refine v_getr (C := "") (pc := 115) (r := 10) d_Md_name_115 fl_Md_167 cM_0.1 cM_0.2 (Or.inr ⟨_, rfl⟩) rM_0_14 ?_
        refine v_iload_n (pc := 118) d_Md_name_118 rfl (.tail _ (.tail _ (.head _))) ?_
        refine v_iald (pc := 119) (x := (w 10 x2_.toNat)) d_Md_name_119 cM_10.1 cM_10.2 rfl h.1 ?_
        replace h := h.2
        refine v_imul (pc := 120) d_Md_name_120 ?_
        refine v_aload_n (pc := 121) d_Md_name_121 rfl (.head _) ?_
        refine v_iload_n (pc := 122) d_Md_name_122 rfl (.tail _ (.tail _ (.head _))) ?_
        refine v_callV (pc := 123) (J' := jMd_numberOf) (d' := d) (o := 0) (ci := 13) (N := 93) (T := cT13) (As := [vI x2_]) d_Md_name_123 ml_Md_469 cM_0.1 cM_0.2 (by decide) rfl rfl (Nat.le_of_ble_eq_true rfl) (Nat.le_refl _) rfl (Cal.weak h (fun o w3 h => ?_))
        rcases rIt_of h with ⟨x4, rfl, h⟩ | ⟨b, rfl, h⟩
        rotate_left
        · exact h
        refine v_iadd (pc := 126) d_Md_name_126 ?_
        refine v_goto (pc := 127) (tgt := 131) d_Md_name_127 (by decide) ?_
        refine v_istore_n (pc := 131) (ls' := [(1, vI (wr ((wr (100 * (w 10 x2_.toNat))) + x4))), (0, vA 0), (2, vI x2_), (3, vI x3_), (4, vI x4_)]) d_Md_name_131 rfl (by decide) rfl ?_
        refine v_iinc (pc := 132) (ls' := [(2, vI (wr (x2_ + 1))), (1, vI (wr ((wr (100 * (w 10 x2_.toNat))) + x4))), (0, vA 0), (3, vI x3_), (4, vI x4_)]) d_Md_name_132 (.tail _ (.tail _ (.head _))) (by decide) rfl ?_
        refine v_goto (pc := 135) (tgt := 19) d_Md_name_135 (by decide) ?_
        exact v_sub (List.forall_mem_cons.mpr ⟨(.tail _ (.tail _ (.head _))), (List.forall_mem_cons.mpr ⟨(.tail _ (.head _)), (List.forall_mem_cons.mpr ⟨(.head _), (fun _ z => absurd z List.not_mem_nil)⟩)⟩)⟩) h
    · replace h := h.2 c
      refine v_aload_n (pc := 67) d_Md_name_67 rfl (.head _) ?_
      refine v_getr (C := "") (pc := 68) (r := 2) d_Md_name_68 fl_Md_26 cM_0.1 cM_0.2 (Or.inr ⟨_, rfl⟩) rM_0_2 ?_
      refine v_iload (pc := 71) d_Md_name_71 (.tail _ (.tail _ (.tail _ (.tail _ (.head _))))) ?_
      refine v_bald (pc := 73) (x := (w 2 x4_.toNat)) d_Md_name_73 cM_2.1 cM_2.2 rfl h.1 ?_
      replace h := h.2
      refine v_aload_n (pc := 74) d_Md_name_74 rfl (.head _) ?_
      refine v_getr (C := "") (pc := 75) (r := 3) d_Md_name_75 fl_Md_30 cM_0.1 cM_0.2 (Or.inr ⟨_, rfl⟩) rM_0_4 ?_
      refine v_aload_n (pc := 78) d_Md_name_78 rfl (.head _) ?_
      refine v_getr (C := "") (pc := 79) (r := 5) d_Md_name_79 fl_Md_37 cM_0.1 cM_0.2 (Or.inr ⟨_, rfl⟩) rM_0_7 ?_
      refine v_aload_n (pc := 82) d_Md_name_82 rfl (.head _) ?_
      refine v_getr (C := "") (pc := 83) (r := 11) d_Md_name_83 fl_Md_170 cM_0.1 cM_0.2 (Or.inr ⟨_, rfl⟩) rM_0_15 ?_
      refine v_iload_n (pc := 86) d_Md_name_86 rfl (.tail _ (.tail _ (.head _))) ?_
      refine v_iald (pc := 87) (x := (w 11 x2_.toNat)) d_Md_name_87 cM_11.1 cM_11.2 rfl h.1 ?_
      replace h := h.2
      refine v_iald (pc := 88) (x := (w 5 ((w 11 x2_.toNat).toNat))) d_Md_name_88 cM_5.1 cM_5.2 rfl h.1 ?_
      replace h := h.2
      refine v_iload (pc := 89) d_Md_name_89 (.tail _ (.tail _ (.tail _ (.tail _ (.head _))))) ?_
      refine v_iadd (pc := 91) d_Md_name_91 ?_
      refine v_bald (pc := 92) (x := (w 3 ((wr ((w 5 ((w 11 x2_.toNat).toNat)) + x4_)).toNat))) d_Md_name_92 cM_3.1 cM_3.2 rfl h.1 ?_
      replace h := h.2
      refine v_icmpne (pc := 93) (tgt := 100) d_Md_name_93 (by decide) (fun c => ?_) (fun c => ?_)
      · replace h := h.1 c
        refine v_iconst (pc := 100) d_Md_name_100 (by decide) ?_
        refine v_istore_n (pc := 101) (ls' := [(3, vI 0), (0, vA 0), (1, vI x1_), (2, vI x2_), (4, vI x4_)]) d_Md_name_101 rfl (by decide) rfl ?_
        refine v_iinc (pc := 102) (ls' := [(4, vI (wr (x4_ + 1))), (3, vI 0), (0, vA 0), (1, vI x1_), (2, vI x2_)]) d_Md_name_102 (.tail _ (.tail _ (.tail _ (.tail _ (.head _))))) (by decide) rfl ?_
        refine v_goto (pc := 105) (tgt := 54) d_Md_name_105 (by decide) ?_
        exact v_sub (List.forall_mem_cons.mpr ⟨(.tail _ (.tail _ (.head _))), (List.forall_mem_cons.mpr ⟨(.tail _ (.tail _ (.tail _ (.head _)))), (List.forall_mem_cons.mpr ⟨(.tail _ (.tail _ (.tail _ (.tail _ (.head _))))), (List.forall_mem_cons.mpr ⟨(.tail _ (.head _)), (List.forall_mem_cons.mpr ⟨(.head _), (fun _ z => absurd z List.not_mem_nil)⟩)⟩)⟩)⟩)⟩) h
      · replace h := h.2 c
        refine v_iconst (pc := 96) d_Md_name_96 (by decide) ?_
        refine v_goto (pc := 97) (tgt := 101) d_Md_name_97 (by decide) ?_
        refine v_istore_n (pc := 101) (ls' := [(3, vI 1), (0, vA 0), (1, vI x1_), (2, vI x2_), (4, vI x4_)]) d_Md_name_101 rfl (by decide) rfl ?_
        refine v_iinc (pc := 102) (ls' := [(4, vI (wr (x4_ + 1))), (3, vI 1), (0, vA 0), (1, vI x1_), (2, vI x2_)]) d_Md_name_102 (.tail _ (.tail _ (.tail _ (.tail _ (.head _))))) (by decide) rfl ?_
        refine v_goto (pc := 105) (tgt := 54) d_Md_name_105 (by decide) ?_
        exact v_sub (List.forall_mem_cons.mpr ⟨(.tail _ (.tail _ (.head _))), (List.forall_mem_cons.mpr ⟨(.tail _ (.tail _ (.tail _ (.head _)))), (List.forall_mem_cons.mpr ⟨(.tail _ (.tail _ (.tail _ (.tail _ (.head _))))), (List.forall_mem_cons.mpr ⟨(.tail _ (.head _)), (List.forall_mem_cons.mpr ⟨(.head _), (fun _ z => absurd z List.not_mem_nil)⟩)⟩)⟩)⟩)⟩) h
theorem d_Md_count_0 : decode jMd_count.cc 0 = .ok (.aload_n 0, 1) := by decide +kernel
theorem d_Md_count_1 : decode jMd_count.cc 1 = .ok (.iconst 0, 1) := by decide +kernel
theorem d_Md_count_2 : decode jMd_count.cc 2 = .ok (.putfield 1, 3) := by decide +kernel
theorem d_Md_count_5 : decode jMd_count.cc 5 = .ok (.iload_n 1, 1) := by decide +kernel
theorem d_Md_count_6 : decode jMd_count.cc 6 = .ok (.tableswitch 85 0 6 #[42, 49, 56, 63, 70, 75, 80], 42) := by decide +kernel
theorem d_Md_count_48 : decode jMd_count.cc 48 = .ok (.aload_n 0, 1) := by decide +kernel
theorem d_Md_count_49 : decode jMd_count.cc 49 = .ok (.getfield 185, 3) := by decide +kernel
theorem d_Md_count_52 : decode jMd_count.cc 52 = .ok (.iconst 0, 1) := by decide +kernel
theorem d_Md_count_53 : decode jMd_count.cc 53 = .ok (.iaload, 1) := by decide +kernel
theorem d_Md_count_54 : decode jMd_count.cc 54 = .ok (.ireturn, 1) := by decide +kernel
theorem d_Md_count_55 : decode jMd_count.cc 55 = .ok (.aload_n 0, 1) := by decide +kernel
theorem d_Md_count_56 : decode jMd_count.cc 56 = .ok (.getfield 185, 3) := by decide +kernel
theorem d_Md_count_59 : decode jMd_count.cc 59 = .ok (.iconst 1, 1) := by decide +kernel
theorem d_Md_count_60 : decode jMd_count.cc 60 = .ok (.iaload, 1) := by decide +kernel
theorem d_Md_count_61 : decode jMd_count.cc 61 = .ok (.ireturn, 1) := by decide +kernel
theorem d_Md_count_62 : decode jMd_count.cc 62 = .ok (.aload_n 0, 1) := by decide +kernel
theorem d_Md_count_63 : decode jMd_count.cc 63 = .ok (.getfield 185, 3) := by decide +kernel
theorem d_Md_count_66 : decode jMd_count.cc 66 = .ok (.iconst 2, 1) := by decide +kernel
theorem d_Md_count_67 : decode jMd_count.cc 67 = .ok (.iaload, 1) := by decide +kernel
theorem d_Md_count_68 : decode jMd_count.cc 68 = .ok (.ireturn, 1) := by decide +kernel
theorem d_Md_count_69 : decode jMd_count.cc 69 = .ok (.aload_n 0, 1) := by decide +kernel
theorem d_Md_count_70 : decode jMd_count.cc 70 = .ok (.getfield 185, 3) := by decide +kernel
theorem d_Md_count_73 : decode jMd_count.cc 73 = .ok (.iconst 3, 1) := by decide +kernel
theorem d_Md_count_74 : decode jMd_count.cc 74 = .ok (.iaload, 1) := by decide +kernel
theorem d_Md_count_75 : decode jMd_count.cc 75 = .ok (.ireturn, 1) := by decide +kernel
theorem d_Md_count_76 : decode jMd_count.cc 76 = .ok (.aload_n 0, 1) := by decide +kernel
theorem d_Md_count_77 : decode jMd_count.cc 77 = .ok (.getfield 436, 3) := by decide +kernel
theorem d_Md_count_80 : decode jMd_count.cc 80 = .ok (.ireturn, 1) := by decide +kernel
theorem d_Md_count_81 : decode jMd_count.cc 81 = .ok (.aload_n 0, 1) := by decide +kernel
theorem d_Md_count_82 : decode jMd_count.cc 82 = .ok (.getfield 305, 3) := by decide +kernel
theorem d_Md_count_85 : decode jMd_count.cc 85 = .ok (.ireturn, 1) := by decide +kernel
theorem d_Md_count_86 : decode jMd_count.cc 86 = .ok (.aload_n 0, 1) := by decide +kernel
theorem d_Md_count_87 : decode jMd_count.cc 87 = .ok (.getfield 546, 3) := by decide +kernel
theorem d_Md_count_90 : decode jMd_count.cc 90 = .ok (.ireturn, 1) := by decide +kernel
theorem d_Md_count_91 : decode jMd_count.cc 91 = .ok (.iconst (-1), 1) := by decide +kernel
theorem d_Md_count_92 : decode jMd_count.cc 92 = .ok (.ireturn, 1) := by decide +kernel
set_option maxHeartbeats 4000000 in
theorem s_Md_count {g : Mg} {d : Nat} {K : Ou → Wd → Prop} {w : Wd} {p1 : Int} (h : ((p1 < 0 ∨ 6 < p1) → (K (.inl (some (vI (-1)))) (up w 0 0 0))) ∧ (p1 = 0 → (K (.inl (some (vI (w 16 0)))) (up w 0 0 0))) ∧ (p1 = 1 → (K (.inl (some (vI (w 16 1)))) (up w 0 0 0))) ∧ (p1 = 2 → (K (.inl (some (vI (w 16 2)))) (up w 0 0 0))) ∧ (p1 = 3 → (K (.inl (some (vI (w 16 3)))) (up w 0 0 0))) ∧ (p1 = 4 → (K (.inl (some (vI (w 0 31)))) (up w 0 0 0))) ∧ (p1 = 5 → (K (.inl (some (vI (w 0 59)))) (up w 0 0 0))) ∧ (p1 = 6 → (K (.inl (some (vI (w 0 60)))) (up w 0 0 0)))) : V g LM jMd_count d K 0 [(0, vA 0), (1, vI p1)] [] w := by
  refine v_aload_n (pc := 0) d_Md_count_0 rfl (.head _) ?_
  refine v_iconst (pc := 1) d_Md_count_1 (by decide) ?_
  refine v_puti (pc := 2) d_Md_count_2 fp_Md_1 cM_0.1 cM_0.2 (by decide) rfl ?_
  refine v_iload_n (pc := 5) d_Md_count_5 rfl (.tail _ (.head _)) ?_
  refine v_table (pc := 6) (tgd := 91) (tgs := [48, 55, 62, 69, 76, 81, 86]) d_Md_count_6 (by decide) (by decide) (by decide) (fun c => ?_) ⟨fun c => ?_, fun c => ?_, fun c => ?_, fun c => ?_, fun c => ?_, fun c => ?_, fun c => ?_, trivial⟩
  · replace h := h.1 c
    refine v_iconst (pc := 91) d_Md_count_91 (by decide) ?_
    exact v_iret (pc := 92) d_Md_count_92 rfl h
  · replace h := h.2.1 c
    refine v_aload_n (pc := 48) d_Md_count_48 rfl (.head _) ?_
    refine v_getr (C := "") (pc := 49) (r := 16) d_Md_count_49 fl_Md_185 cM_0.1 cM_0.2 (Or.inr ⟨_, rfl⟩) rM_0_21 ?_
    refine v_iconst (pc := 52) d_Md_count_52 (by decide) ?_
    refine v_iald (pc := 53) (x := (w 16 0)) d_Md_count_53 cM_16.1 cM_16.2 rfl (by decide) ?_
    exact v_iret (pc := 54) d_Md_count_54 rfl h
  · replace h := h.2.2.1 c
    refine v_aload_n (pc := 55) d_Md_count_55 rfl (.head _) ?_
    refine v_getr (C := "") (pc := 56) (r := 16) d_Md_count_56 fl_Md_185 cM_0.1 cM_0.2 (Or.inr ⟨_, rfl⟩) rM_0_21 ?_
    refine v_iconst (pc := 59) d_Md_count_59 (by decide) ?_
    refine v_iald (pc := 60) (x := (w 16 1)) d_Md_count_60 cM_16.1 cM_16.2 rfl (by decide) ?_
    exact v_iret (pc := 61) d_Md_count_61 rfl h
  · replace h := h.2.2.2.1 c
    refine v_aload_n (pc := 62) d_Md_count_62 rfl (.head _) ?_
    refine v_getr (C := "") (pc := 63) (r := 16) d_Md_count_63 fl_Md_185 cM_0.1 cM_0.2 (Or.inr ⟨_, rfl⟩) rM_0_21 ?_
    refine v_iconst (pc := 66) d_Md_count_66 (by decide) ?_
    refine v_iald (pc := 67) (x := (w 16 2)) d_Md_count_67 cM_16.1 cM_16.2 rfl (by decide) ?_
    exact v_iret (pc := 68) d_Md_count_68 rfl h
  · replace h := h.2.2.2.2.1 c
    refine v_aload_n (pc := 69) d_Md_count_69 rfl (.head _) ?_
    refine v_getr (C := "") (pc := 70) (r := 16) d_Md_count_70 fl_Md_185 cM_0.1 cM_0.2 (Or.inr ⟨_, rfl⟩) rM_0_21 ?_
    refine v_iconst (pc := 73) d_Md_count_73 (by decide) ?_
    refine v_iald (pc := 74) (x := (w 16 3)) d_Md_count_74 cM_16.1 cM_16.2 rfl (by decide) ?_
    exact v_iret (pc := 75) d_Md_count_75 rfl h
  · replace h := h.2.2.2.2.2.1 c
    refine v_aload_n (pc := 76) d_Md_count_76 rfl (.head _) ?_
    refine v_geti (pc := 77) (x := (w 0 31)) d_Md_count_77 fl_Md_436 cM_0.1 cM_0.2 (Or.inl rfl) rfl ?_
    exact v_iret (pc := 80) d_Md_count_80 rfl h
  · replace h := h.2.2.2.2.2.2.1 c
    refine v_aload_n (pc := 81) d_Md_count_81 rfl (.head _) ?_
    refine v_geti (pc := 82) (x := (w 0 59)) d_Md_count_82 fl_Md_305 cM_0.1 cM_0.2 (Or.inl rfl) rfl ?_
    exact v_iret (pc := 85) d_Md_count_85 rfl h
  · replace h := h.2.2.2.2.2.2.2 c
    refine v_aload_n (pc := 86) d_Md_count_86 rfl (.head _) ?_
    refine v_geti (pc := 87) (x := (w 0 60)) d_Md_count_87 fl_Md_546 cM_0.1 cM_0.2 (Or.inl rfl) rfl ?_
    exact v_iret (pc := 90) d_Md_count_90 rfl h
theorem d_Md_nodes_0 : decode jMd_nodes.cc 0 = .ok (.aload_n 0, 1) := by decide +kernel
theorem d_Md_nodes_1 : decode jMd_nodes.cc 1 = .ok (.iconst 0, 1) := by decide +kernel
theorem d_Md_nodes_2 : decode jMd_nodes.cc 2 = .ok (.putfield 1, 3) := by decide +kernel
theorem d_Md_nodes_5 : decode jMd_nodes.cc 5 = .ok (.iload_n 1, 1) := by decide +kernel
theorem d_Md_nodes_6 : decode jMd_nodes.cc 6 = .ok (.i2l, 1) := by decide +kernel
theorem d_Md_nodes_7 : decode jMd_nodes.cc 7 = .ok (.lconst 1, 1) := by decide +kernel
theorem d_Md_nodes_8 : decode jMd_nodes.cc 8 = .ok (.ldc2_w 549, 3) := by decide +kernel
theorem d_Md_nodes_11 : decode jMd_nodes.cc 11 = .ok (.invokestatic 312, 3) := by decide +kernel
theorem d_Md_nodes_14 : decode jMd_nodes.cc 14 = .ok (.ifCond .ne 5, 3) := by decide +kernel
theorem d_Md_nodes_17 : decode jMd_nodes.cc 17 = .ok (.iconst (-1), 1) := by decide +kernel
theorem d_Md_nodes_18 : decode jMd_nodes.cc 18 = .ok (.ireturn, 1) := by decide +kernel
theorem d_Md_nodes_19 : decode jMd_nodes.cc 19 = .ok (.aload_n 0, 1) := by decide +kernel
theorem d_Md_nodes_20 : decode jMd_nodes.cc 20 = .ok (.getfield 305, 3) := by decide +kernel
theorem d_Md_nodes_23 : decode jMd_nodes.cc 23 = .ok (.istore_n 2, 1) := by decide +kernel
theorem d_Md_nodes_24 : decode jMd_nodes.cc 24 = .ok (.aload_n 0, 1) := by decide +kernel
theorem d_Md_nodes_25 : decode jMd_nodes.cc 25 = .ok (.iload_n 1, 1) := by decide +kernel
theorem d_Md_nodes_26 : decode jMd_nodes.cc 26 = .ok (.putfield 305, 3) := by decide +kernel
theorem d_Md_nodes_29 : decode jMd_nodes.cc 29 = .ok (.aload_n 0, 1) := by decide +kernel
theorem d_Md_nodes_30 : decode jMd_nodes.cc 30 = .ok (.iconst 0, 1) := by decide +kernel
theorem d_Md_nodes_31 : decode jMd_nodes.cc 31 = .ok (.putfield 546, 3) := by decide +kernel
theorem d_Md_nodes_34 : decode jMd_nodes.cc 34 = .ok (.aload_n 0, 1) := by decide +kernel
theorem d_Md_nodes_35 : decode jMd_nodes.cc 35 = .ok (.iconst 0, 1) := by decide +kernel
theorem d_Md_nodes_36 : decode jMd_nodes.cc 36 = .ok (.putfield 510, 3) := by decide +kernel
theorem d_Md_nodes_39 : decode jMd_nodes.cc 39 = .ok (.iload_n 2, 1) := by decide +kernel
theorem d_Md_nodes_40 : decode jMd_nodes.cc 40 = .ok (.ireturn, 1) := by decide +kernel
set_option maxHeartbeats 4000000 in
theorem s_Md_nodes {g : Mg} {d : Nat} {K : Ou → Wd → Prop} {w : Wd} {p1 : Int} (h : Cal g LM jMd_in d [vL p1, vL 1, vL 40] (up w 0 0 0) (fun o w1 => rIt o (fun b => K (.inr b) w1) (fun x2 => (¬ x2 = 0 → (K (.inl (some (vI (w1 0 59)))) (up (up (up w1 0 59 p1) 0 60 0) 0 64 0))) ∧ (x2 = 0 → (K (.inl (some (vI (-1)))) w1))))) : V g LM jMd_nodes (d + 1) K 0 [(0, vA 0), (1, vI p1)] [] w := by
  refine v_aload_n (pc := 0) d_Md_nodes_0 rfl (.head _) ?_
  refine v_iconst (pc := 1) d_Md_nodes_1 (by decide) ?_
  refine v_puti (pc := 2) d_Md_nodes_2 fp_Md_1 cM_0.1 cM_0.2 (by decide) rfl ?_
  refine v_iload_n (pc := 5) d_Md_nodes_5 rfl (.tail _ (.head _)) ?_
  refine v_i2l (pc := 6) d_Md_nodes_6 ?_
  refine v_lconst (pc := 7) (x := 1) d_Md_nodes_7 (by decide) rfl ?_
  refine v_ldc2 (pc := 8) (n := 40) d_Md_nodes_8 (by decide) (mt_8 207 rfl rfl) ?_
  refine v_callS (pc := 11) (J' := jMd_in) (d' := d) (As := [vL p1, vL 1, vL 40]) d_Md_nodes_11 ml_Md_312 rfl (Nat.le_of_ble_eq_true rfl) (Nat.le_refl _) rfl (Cal.weak h (fun o w1 h => ?_))
  rcases rIt_of h with ⟨x2, rfl, h⟩ | ⟨b, rfl, h⟩
  rotate_left
  · exact h
  refine v_ifne (pc := 14) (tgt := 19) d_Md_nodes_14 (by decide) (fun c => ?_) (fun c => ?_)
  · replace h := h.1 c
    refine v_aload_n (pc := 19) d_Md_nodes_19 rfl (.head _) ?_
    refine v_geti (pc := 20) (x := (w1 0 59)) d_Md_nodes_20 fl_Md_305 cM_0.1 cM_0.2 (Or.inl rfl) rfl ?_
    refine v_istore_n (pc := 23) (ls' := [(2, vI (w1 0 59)), (0, vA 0), (1, vI p1)]) d_Md_nodes_23 rfl (by decide) rfl ?_
    refine v_aload_n (pc := 24) d_Md_nodes_24 rfl (.tail _ (.head _)) ?_
    refine v_iload_n (pc := 25) d_Md_nodes_25 rfl (.tail _ (.tail _ (.head _))) ?_
    refine v_puti (pc := 26) d_Md_nodes_26 fp_Md_305 cM_0.1 cM_0.2 (by decide) rfl ?_
    refine v_aload_n (pc := 29) d_Md_nodes_29 rfl (.tail _ (.head _)) ?_
    refine v_iconst (pc := 30) d_Md_nodes_30 (by decide) ?_
    refine v_puti (pc := 31) d_Md_nodes_31 fp_Md_546 cM_0.1 cM_0.2 (by decide) rfl ?_
    refine v_aload_n (pc := 34) d_Md_nodes_34 rfl (.tail _ (.head _)) ?_
    refine v_iconst (pc := 35) d_Md_nodes_35 (by decide) ?_
    refine v_putz (pc := 36) d_Md_nodes_36 fp_Md_510 cM_0.1 cM_0.2 (by decide) rfl (by decide) ?_
    refine v_iload_n (pc := 39) d_Md_nodes_39 rfl (.head _) ?_
    exact v_iret (pc := 40) d_Md_nodes_40 rfl h
  · replace h := h.2 c
    refine v_iconst (pc := 17) d_Md_nodes_17 (by decide) ?_
    exact v_iret (pc := 18) d_Md_nodes_18 rfl h
theorem d_Md_arc_0 : decode jMd_arc.cc 0 = .ok (.aload_n 0, 1) := by decide +kernel
theorem d_Md_arc_1 : decode jMd_arc.cc 1 = .ok (.iconst 0, 1) := by decide +kernel
theorem d_Md_arc_2 : decode jMd_arc.cc 2 = .ok (.putfield 1, 3) := by decide +kernel
theorem d_Md_arc_5 : decode jMd_arc.cc 5 = .ok (.iload_n 1, 1) := by decide +kernel
theorem d_Md_arc_6 : decode jMd_arc.cc 6 = .ok (.i2l, 1) := by decide +kernel
theorem d_Md_arc_7 : decode jMd_arc.cc 7 = .ok (.lconst 0, 1) := by decide +kernel
theorem d_Md_arc_8 : decode jMd_arc.cc 8 = .ok (.aload_n 0, 1) := by decide +kernel
theorem d_Md_arc_9 : decode jMd_arc.cc 9 = .ok (.getfield 305, 3) := by decide +kernel
theorem d_Md_arc_12 : decode jMd_arc.cc 12 = .ok (.iconst 1, 1) := by decide +kernel
theorem d_Md_arc_13 : decode jMd_arc.cc 13 = .ok (.isub, 1) := by decide +kernel
theorem d_Md_arc_14 : decode jMd_arc.cc 14 = .ok (.i2l, 1) := by decide +kernel
theorem d_Md_arc_15 : decode jMd_arc.cc 15 = .ok (.invokestatic 312, 3) := by decide +kernel
theorem d_Md_arc_18 : decode jMd_arc.cc 18 = .ok (.ifCond .eq 19, 3) := by decide +kernel
theorem d_Md_arc_21 : decode jMd_arc.cc 21 = .ok (.iload_n 2, 1) := by decide +kernel
theorem d_Md_arc_22 : decode jMd_arc.cc 22 = .ok (.i2l, 1) := by decide +kernel
theorem d_Md_arc_23 : decode jMd_arc.cc 23 = .ok (.lconst 0, 1) := by decide +kernel
theorem d_Md_arc_24 : decode jMd_arc.cc 24 = .ok (.aload_n 0, 1) := by decide +kernel
theorem d_Md_arc_25 : decode jMd_arc.cc 25 = .ok (.getfield 305, 3) := by decide +kernel
theorem d_Md_arc_28 : decode jMd_arc.cc 28 = .ok (.iconst 1, 1) := by decide +kernel
theorem d_Md_arc_29 : decode jMd_arc.cc 29 = .ok (.isub, 1) := by decide +kernel
theorem d_Md_arc_30 : decode jMd_arc.cc 30 = .ok (.i2l, 1) := by decide +kernel
theorem d_Md_arc_31 : decode jMd_arc.cc 31 = .ok (.invokestatic 312, 3) := by decide +kernel
theorem d_Md_arc_34 : decode jMd_arc.cc 34 = .ok (.ifCond .ne 5, 3) := by decide +kernel
theorem d_Md_arc_37 : decode jMd_arc.cc 37 = .ok (.iconst (-1), 1) := by decide +kernel
theorem d_Md_arc_38 : decode jMd_arc.cc 38 = .ok (.ireturn, 1) := by decide +kernel
theorem d_Md_arc_39 : decode jMd_arc.cc 39 = .ok (.aload_n 0, 1) := by decide +kernel
theorem d_Md_arc_40 : decode jMd_arc.cc 40 = .ok (.getfield 546, 3) := by decide +kernel
theorem d_Md_arc_43 : decode jMd_arc.cc 43 = .ok (.bipush 120, 2) := by decide +kernel
theorem d_Md_arc_45 : decode jMd_arc.cc 45 = .ok (.if_icmp .ne 6, 3) := by decide +kernel
theorem d_Md_arc_48 : decode jMd_arc.cc 48 = .ok (.bipush (-3), 2) := by decide +kernel
theorem d_Md_arc_50 : decode jMd_arc.cc 50 = .ok (.ireturn, 1) := by decide +kernel
theorem d_Md_arc_51 : decode jMd_arc.cc 51 = .ok (.aload_n 0, 1) := by decide +kernel
theorem d_Md_arc_52 : decode jMd_arc.cc 52 = .ok (.getfield 258, 3) := by decide +kernel
theorem d_Md_arc_55 : decode jMd_arc.cc 55 = .ok (.aload_n 0, 1) := by decide +kernel
theorem d_Md_arc_56 : decode jMd_arc.cc 56 = .ok (.getfield 546, 3) := by decide +kernel
theorem d_Md_arc_59 : decode jMd_arc.cc 59 = .ok (.iload_n 1, 1) := by decide +kernel
theorem d_Md_arc_60 : decode jMd_arc.cc 60 = .ok (.iastore, 1) := by decide +kernel
theorem d_Md_arc_61 : decode jMd_arc.cc 61 = .ok (.aload_n 0, 1) := by decide +kernel
theorem d_Md_arc_62 : decode jMd_arc.cc 62 = .ok (.getfield 261, 3) := by decide +kernel
theorem d_Md_arc_65 : decode jMd_arc.cc 65 = .ok (.aload_n 0, 1) := by decide +kernel
theorem d_Md_arc_66 : decode jMd_arc.cc 66 = .ok (.getfield 546, 3) := by decide +kernel
theorem d_Md_arc_69 : decode jMd_arc.cc 69 = .ok (.iload_n 2, 1) := by decide +kernel
theorem d_Md_arc_70 : decode jMd_arc.cc 70 = .ok (.iastore, 1) := by decide +kernel
theorem d_Md_arc_71 : decode jMd_arc.cc 71 = .ok (.iconst 0, 1) := by decide +kernel
theorem d_Md_arc_72 : decode jMd_arc.cc 72 = .ok (.istore_n 3, 1) := by decide +kernel
theorem d_Md_arc_73 : decode jMd_arc.cc 73 = .ok (.iload_n 3, 1) := by decide +kernel
theorem d_Md_arc_74 : decode jMd_arc.cc 74 = .ok (.iconst 4, 1) := by decide +kernel
theorem d_Md_arc_75 : decode jMd_arc.cc 75 = .ok (.if_icmp .ge 23, 3) := by decide +kernel
theorem d_Md_arc_78 : decode jMd_arc.cc 78 = .ok (.aload_n 0, 1) := by decide +kernel
theorem d_Md_arc_79 : decode jMd_arc.cc 79 = .ok (.getfield 264, 3) := by decide +kernel
theorem d_Md_arc_82 : decode jMd_arc.cc 82 = .ok (.iconst 4, 1) := by decide +kernel
theorem d_Md_arc_83 : decode jMd_arc.cc 83 = .ok (.aload_n 0, 1) := by decide +kernel
theorem d_Md_arc_84 : decode jMd_arc.cc 84 = .ok (.getfield 546, 3) := by decide +kernel
theorem d_Md_arc_87 : decode jMd_arc.cc 87 = .ok (.imul, 1) := by decide +kernel
theorem d_Md_arc_88 : decode jMd_arc.cc 88 = .ok (.iload_n 3, 1) := by decide +kernel
theorem d_Md_arc_89 : decode jMd_arc.cc 89 = .ok (.iadd, 1) := by decide +kernel
theorem d_Md_arc_90 : decode jMd_arc.cc 90 = .ok (.iconst 0, 1) := by decide +kernel
theorem d_Md_arc_91 : decode jMd_arc.cc 91 = .ok (.iastore, 1) := by decide +kernel
theorem d_Md_arc_92 : decode jMd_arc.cc 92 = .ok (.iinc 3 1, 3) := by decide +kernel
theorem d_Md_arc_95 : decode jMd_arc.cc 95 = .ok (.goto (-22), 3) := by decide +kernel
theorem d_Md_arc_98 : decode jMd_arc.cc 98 = .ok (.aload_n 0, 1) := by decide +kernel
theorem d_Md_arc_99 : decode jMd_arc.cc 99 = .ok (.dup, 1) := by decide +kernel
theorem d_Md_arc_100 : decode jMd_arc.cc 100 = .ok (.getfield 546, 3) := by decide +kernel
theorem d_Md_arc_103 : decode jMd_arc.cc 103 = .ok (.iconst 1, 1) := by decide +kernel
theorem d_Md_arc_104 : decode jMd_arc.cc 104 = .ok (.iadd, 1) := by decide +kernel
theorem d_Md_arc_105 : decode jMd_arc.cc 105 = .ok (.putfield 546, 3) := by decide +kernel
theorem d_Md_arc_108 : decode jMd_arc.cc 108 = .ok (.aload_n 0, 1) := by decide +kernel
theorem d_Md_arc_109 : decode jMd_arc.cc 109 = .ok (.iconst 0, 1) := by decide +kernel
theorem d_Md_arc_110 : decode jMd_arc.cc 110 = .ok (.putfield 510, 3) := by decide +kernel
theorem d_Md_arc_113 : decode jMd_arc.cc 113 = .ok (.aload_n 0, 1) := by decide +kernel
theorem d_Md_arc_114 : decode jMd_arc.cc 114 = .ok (.getfield 546, 3) := by decide +kernel
theorem d_Md_arc_117 : decode jMd_arc.cc 117 = .ok (.iconst 1, 1) := by decide +kernel
theorem d_Md_arc_118 : decode jMd_arc.cc 118 = .ok (.isub, 1) := by decide +kernel
theorem d_Md_arc_119 : decode jMd_arc.cc 119 = .ok (.ireturn, 1) := by decide +kernel
set_option maxHeartbeats 4000000 in
theorem s_Md_arc {g : Mg} {d : Nat} {K : Ou → Wd → Prop} {w : Wd} {p1 : Int} {p2 : Int} (h : Cal g LM jMd_in d [vL p1, vL 0, vL (wr ((w 0 59) - 1))] (up w 0 0 0) (fun o w1 => rIt o (fun b => K (.inr b) w1) (fun x2 => (x2 = 0 → (K (.inl (some (vI (-1)))) w1)) ∧ (¬ x2 = 0 → (Cal g LM jMd_in d [vL p2, vL 0, vL (wr ((w1 0 59) - 1))] w1 (fun o w3 => rIt o (fun b => K (.inr b) w3) (fun x4 => (¬ x4 = 0 → ((¬ (w3 0 60) = 120 → ((0 ≤ (w3 0 60) ∧ (w3 0 60) < 120) ∧ ((0 ≤ (w3 0 60) ∧ (w3 0 60) < 120) ∧ (V g LM jMd_arc (d + 1) K 73 [(0, vA 0), (3, vI 0)] [] (up (up w3 38 ((w3 0 60).toNat) p1) 39 ((w3 0 60).toNat) p2))))) ∧ ((w3 0 60) = 120 → (K (.inl (some (vI (-3)))) w3)))) ∧ (x4 = 0 → (K (.inl (some (vI (-1)))) w3))))))))) : V g LM jMd_arc (d + 1) K 0 [(0, vA 0), (1, vI p1), (2, vI p2)] [] w := by
  refine v_aload_n (pc := 0) d_Md_arc_0 rfl (.head _) ?_
  refine v_iconst (pc := 1) d_Md_arc_1 (by decide) ?_
  refine v_puti (pc := 2) d_Md_arc_2 fp_Md_1 cM_0.1 cM_0.2 (by decide) rfl ?_
  refine v_iload_n (pc := 5) d_Md_arc_5 rfl (.tail _ (.head _)) ?_
  refine v_i2l (pc := 6) d_Md_arc_6 ?_
  refine v_lconst (pc := 7) (x := 0) d_Md_arc_7 (by decide) rfl ?_
  refine v_aload_n (pc := 8) d_Md_arc_8 rfl (.head _) ?_
  refine v_geti (pc := 9) (x := (w 0 59)) d_Md_arc_9 fl_Md_305 cM_0.1 cM_0.2 (Or.inl rfl) rfl ?_
  refine v_iconst (pc := 12) d_Md_arc_12 (by decide) ?_
  refine v_isub (pc := 13) d_Md_arc_13 ?_
  refine v_i2l (pc := 14) d_Md_arc_14 ?_
  refine v_callS (pc := 15) (J' := jMd_in) (d' := d) (As := [vL p1, vL 0, vL (wr ((w 0 59) - 1))]) d_Md_arc_15 ml_Md_312 rfl (Nat.le_of_ble_eq_true rfl) (Nat.le_refl _) rfl (Cal.weak h (fun o w1 h => ?_))
  rcases rIt_of h with ⟨x2, rfl, h⟩ | ⟨b, rfl, h⟩
  rotate_left
  · exact h
  refine v_ifeq (pc := 18) (tgt := 37) d_Md_arc_18 (by decide) (fun c => ?_) (fun c => ?_)
  · replace h := h.1 c
    refine v_iconst (pc := 37) d_Md_arc_37 (by decide) ?_
    exact v_iret (pc := 38) d_Md_arc_38 rfl h
  · replace h := h.2 c
    refine v_iload_n (pc := 21) d_Md_arc_21 rfl (.tail _ (.tail _ (.head _))) ?_
    refine v_i2l (pc := 22) d_Md_arc_22 ?_
    refine v_lconst (pc := 23) (x := 0) d_Md_arc_23 (by decide) rfl ?_
    refine v_aload_n (pc := 24) d_Md_arc_24 rfl (.head _) ?_
    refine v_geti (pc := 25) (x := (w1 0 59)) d_Md_arc_25 fl_Md_305 cM_0.1 cM_0.2 (Or.inl rfl) rfl ?_
    refine v_iconst (pc := 28) d_Md_arc_28 (by decide) ?_
    refine v_isub (pc := 29) d_Md_arc_29 ?_
    refine v_i2l (pc := 30) d_Md_arc_30 ?_
    refine v_callS (pc := 31) (J' := jMd_in) (d' := d) (As := [vL p2, vL 0, vL (wr ((w1 0 59) - 1))]) d_Md_arc_31 ml_Md_312 rfl (Nat.le_of_ble_eq_true rfl) (Nat.le_refl _) rfl (Cal.weak h (fun o w3 h => ?_))
    rcases rIt_of h with ⟨x4, rfl, h⟩ | ⟨b, rfl, h⟩
    rotate_left
    · exact h
    refine v_ifne (pc := 34) (tgt := 39) d_Md_arc_34 (by decide) (fun c => ?_) (fun c => ?_)
    · replace h := h.1 c
      refine v_aload_n (pc := 39) d_Md_arc_39 rfl (.head _) ?_
      refine v_geti (pc := 40) (x := (w3 0 60)) d_Md_arc_40 fl_Md_546 cM_0.1 cM_0.2 (Or.inl rfl) rfl ?_
      refine v_bipush (pc := 43) d_Md_arc_43 (by decide) rfl ?_
      refine v_icmpne (pc := 45) (tgt := 51) d_Md_arc_45 (by decide) (fun c => ?_) (fun c => ?_)
      · replace h := h.1 c
        refine v_aload_n (pc := 51) d_Md_arc_51 rfl (.head _) ?_
        refine v_getr (C := "") (pc := 52) (r := 38) d_Md_arc_52 fl_Md_258 cM_0.1 cM_0.2 (Or.inr ⟨_, rfl⟩) rM_0_61 ?_
        refine v_aload_n (pc := 55) d_Md_arc_55 rfl (.head _) ?_
        refine v_geti (pc := 56) (x := (w3 0 60)) d_Md_arc_56 fl_Md_546 cM_0.1 cM_0.2 (Or.inl rfl) rfl ?_
        refine v_iload_n (pc := 59) d_Md_arc_59 rfl (.tail _ (.head _)) ?_
        refine v_iast (pc := 60) d_Md_arc_60 cM_38.1 cM_38.2 (aM_38 _) h.1 ?_
        replace h := h.2
        refine v_aload_n (pc := 61) d_Md_arc_61 rfl (.head _) ?_
        refine v_getr (C := "") (pc := 62) (r := 39) d_Md_arc_62 fl_Md_261 cM_0.1 cM_0.2 (Or.inr ⟨_, rfl⟩) rM_0_62 ?_
        refine v_aload_n (pc := 65) d_Md_arc_65 rfl (.head _) ?_
        refine v_geti (pc := 66) (x := (w3 0 60)) d_Md_arc_66 fl_Md_546 cM_0.1 cM_0.2 (Or.inl rfl) rfl ?_
        refine v_iload_n (pc := 69) d_Md_arc_69 rfl (.tail _ (.tail _ (.head _))) ?_
        refine v_iast (pc := 70) d_Md_arc_70 cM_39.1 cM_39.2 (aM_39 _) h.1 ?_
        replace h := h.2
        refine v_iconst (pc := 71) d_Md_arc_71 (by decide) ?_
        refine v_istore_n (pc := 72) (ls' := [(3, vI 0), (0, vA 0), (1, vI p1), (2, vI p2)]) d_Md_arc_72 rfl (by decide) rfl ?_
        exact v_sub (List.forall_mem_cons.mpr ⟨(.tail _ (.head _)), (List.forall_mem_cons.mpr ⟨(.head _), (fun _ z => absurd z List.not_mem_nil)⟩)⟩) h
      · replace h := h.2 c
        refine v_bipush (pc := 48) d_Md_arc_48 (by decide) rfl ?_
        exact v_iret (pc := 50) d_Md_arc_50 rfl h
    · replace h := h.2 c
      refine v_iconst (pc := 37) d_Md_arc_37 (by decide) ?_
      exact v_iret (pc := 38) d_Md_arc_38 rfl h
set_option maxHeartbeats 4000000 in
theorem s_Md_arc_73 {g : Mg} {d : Nat} {K : Ou → Wd → Prop} {w : Wd} {x3_ : Int} (h : (4 ≤ x3_ → (K (.inl (some (vI (wr ((wr ((w 0 60) + 1)) - 1))))) (up (up w 0 60 (wr ((w 0 60) + 1))) 0 64 0))) ∧ (¬ 4 ≤ x3_ → ((0 ≤ (wr ((wr (4 * (w 0 60))) + x3_)) ∧ (wr ((wr (4 * (w 0 60))) + x3_)) < 480) ∧ (V g LM jMd_arc (d + 1) K 73 [(0, vA 0), (3, vI (wr (x3_ + 1)))] [] (up w 40 ((wr ((wr (4 * (w 0 60))) + x3_)).toNat) 0))))) : V g LM jMd_arc (d + 1) K 73 [(0, vA 0), (3, vI x3_)] [] w := by
  refine v_iload_n (pc := 73) d_Md_arc_73 rfl (.tail _ (.head _)) ?_
  refine v_iconst (pc := 74) d_Md_arc_74 (by decide) ?_
  refine v_icmpge (pc := 75) (tgt := 98) d_Md_arc_75 (by decide) (fun c => ?_) (fun c => ?_)
  · replace h := h.1 c
    refine v_aload_n (pc := 98) d_Md_arc_98 rfl (.head _) ?_
    refine v_dup (pc := 99) d_Md_arc_99 rfl ?_
    refine v_geti (pc := 100) (x := (w 0 60)) d_Md_arc_100 fl_Md_546 cM_0.1 cM_0.2 (Or.inl rfl) rfl ?_
    refine v_iconst (pc := 103) d_Md_arc_103 (by decide) ?_
    refine v_iadd (pc := 104) d_Md_arc_104 ?_
    refine v_puti (pc := 105) d_Md_arc_105 fp_Md_546 cM_0.1 cM_0.2 (by decide) rfl ?_
    refine v_aload_n (pc := 108) d_Md_arc_108 rfl (.head _) ?_
    refine v_iconst (pc := 109) d_Md_arc_109 (by decide) ?_
    refine v_putz (pc := 110) d_Md_arc_110 fp_Md_510 cM_0.1 cM_0.2 (by decide) rfl (by decide) ?_
    refine v_aload_n (pc := 113) d_Md_arc_113 rfl (.head _) ?_
    refine v_geti (pc := 114) (x := (wr ((w 0 60) + 1))) d_Md_arc_114 fl_Md_546 cM_0.1 cM_0.2 (Or.inl rfl) rfl ?_
    refine v_iconst (pc := 117) d_Md_arc_117 (by decide) ?_
    refine v_isub (pc := 118) d_Md_arc_118 ?_
    exact v_iret (pc := 119) d_Md_arc_119 rfl h
  · replace h := h.2 c
    refine v_aload_n (pc := 78) d_Md_arc_78 rfl (.head _) ?_
    refine v_getr (C := "") (pc := 79) (r := 40) d_Md_arc_79 fl_Md_264 cM_0.1 cM_0.2 (Or.inr ⟨_, rfl⟩) rM_0_63 ?_
    refine v_iconst (pc := 82) d_Md_arc_82 (by decide) ?_
    refine v_aload_n (pc := 83) d_Md_arc_83 rfl (.head _) ?_
    refine v_geti (pc := 84) (x := (w 0 60)) d_Md_arc_84 fl_Md_546 cM_0.1 cM_0.2 (Or.inl rfl) rfl ?_
    refine v_imul (pc := 87) d_Md_arc_87 ?_
    refine v_iload_n (pc := 88) d_Md_arc_88 rfl (.tail _ (.head _)) ?_
    refine v_iadd (pc := 89) d_Md_arc_89 ?_
    refine v_iconst (pc := 90) d_Md_arc_90 (by decide) ?_
    refine v_iast (pc := 91) d_Md_arc_91 cM_40.1 cM_40.2 (aM_40 _) h.1 ?_
    replace h := h.2
    refine v_iinc (pc := 92) (ls' := [(3, vI (wr (x3_ + 1))), (0, vA 0)]) d_Md_arc_92 (.tail _ (.head _)) (by decide) rfl ?_
    refine v_goto (pc := 95) (tgt := 73) d_Md_arc_95 (by decide) ?_
    exact v_sub (List.forall_mem_cons.mpr ⟨(.tail _ (.head _)), (List.forall_mem_cons.mpr ⟨(.head _), (fun _ z => absurd z List.not_mem_nil)⟩)⟩) h
theorem d_Md_weight_0 : decode jMd_weight.cc 0 = .ok (.aload_n 0, 1) := by decide +kernel
theorem d_Md_weight_1 : decode jMd_weight.cc 1 = .ok (.iconst 0, 1) := by decide +kernel
theorem d_Md_weight_2 : decode jMd_weight.cc 2 = .ok (.putfield 1, 3) := by decide +kernel
theorem d_Md_weight_5 : decode jMd_weight.cc 5 = .ok (.iload_n 1, 1) := by decide +kernel
theorem d_Md_weight_6 : decode jMd_weight.cc 6 = .ok (.i2l, 1) := by decide +kernel
theorem d_Md_weight_7 : decode jMd_weight.cc 7 = .ok (.lconst 0, 1) := by decide +kernel
theorem d_Md_weight_8 : decode jMd_weight.cc 8 = .ok (.aload_n 0, 1) := by decide +kernel
theorem d_Md_weight_9 : decode jMd_weight.cc 9 = .ok (.getfield 546, 3) := by decide +kernel
theorem d_Md_weight_12 : decode jMd_weight.cc 12 = .ok (.iconst 1, 1) := by decide +kernel
theorem d_Md_weight_13 : decode jMd_weight.cc 13 = .ok (.isub, 1) := by decide +kernel
theorem d_Md_weight_14 : decode jMd_weight.cc 14 = .ok (.i2l, 1) := by decide +kernel
theorem d_Md_weight_15 : decode jMd_weight.cc 15 = .ok (.invokestatic 312, 3) := by decide +kernel
theorem d_Md_weight_18 : decode jMd_weight.cc 18 = .ok (.ifCond .eq 15, 3) := by decide +kernel
theorem d_Md_weight_21 : decode jMd_weight.cc 21 = .ok (.iload_n 2, 1) := by decide +kernel
theorem d_Md_weight_22 : decode jMd_weight.cc 22 = .ok (.i2l, 1) := by decide +kernel
theorem d_Md_weight_23 : decode jMd_weight.cc 23 = .ok (.lconst 0, 1) := by decide +kernel
theorem d_Md_weight_24 : decode jMd_weight.cc 24 = .ok (.ldc2_w 551, 3) := by decide +kernel
theorem d_Md_weight_27 : decode jMd_weight.cc 27 = .ok (.invokestatic 312, 3) := by decide +kernel
theorem d_Md_weight_30 : decode jMd_weight.cc 30 = .ok (.ifCond .ne 5, 3) := by decide +kernel
theorem d_Md_weight_33 : decode jMd_weight.cc 33 = .ok (.iconst 0, 1) := by decide +kernel
theorem d_Md_weight_34 : decode jMd_weight.cc 34 = .ok (.ireturn, 1) := by decide +kernel
theorem d_Md_weight_35 : decode jMd_weight.cc 35 = .ok (.aload_n 0, 1) := by decide +kernel
theorem d_Md_weight_36 : decode jMd_weight.cc 36 = .ok (.getfield 264, 3) := by decide +kernel
theorem d_Md_weight_39 : decode jMd_weight.cc 39 = .ok (.iconst 4, 1) := by decide +kernel
theorem d_Md_weight_40 : decode jMd_weight.cc 40 = .ok (.iload_n 1, 1) := by decide +kernel
theorem d_Md_weight_41 : decode jMd_weight.cc 41 = .ok (.imul, 1) := by decide +kernel
theorem d_Md_weight_42 : decode jMd_weight.cc 42 = .ok (.iload_n 2, 1) := by decide +kernel
theorem d_Md_weight_43 : decode jMd_weight.cc 43 = .ok (.iadd, 1) := by decide +kernel
theorem d_Md_weight_44 : decode jMd_weight.cc 44 = .ok (.iaload, 1) := by decide +kernel
theorem d_Md_weight_45 : decode jMd_weight.cc 45 = .ok (.istore 4, 2) := by decide +kernel
theorem d_Md_weight_47 : decode jMd_weight.cc 47 = .ok (.aload_n 0, 1) := by decide +kernel
theorem d_Md_weight_48 : decode jMd_weight.cc 48 = .ok (.getfield 264, 3) := by decide +kernel
theorem d_Md_weight_51 : decode jMd_weight.cc 51 = .ok (.iconst 4, 1) := by decide +kernel
theorem d_Md_weight_52 : decode jMd_weight.cc 52 = .ok (.iload_n 1, 1) := by decide +kernel
theorem d_Md_weight_53 : decode jMd_weight.cc 53 = .ok (.imul, 1) := by decide +kernel
theorem d_Md_weight_54 : decode jMd_weight.cc 54 = .ok (.iload_n 2, 1) := by decide +kernel
theorem d_Md_weight_55 : decode jMd_weight.cc 55 = .ok (.iadd, 1) := by decide +kernel
theorem d_Md_weight_56 : decode jMd_weight.cc 56 = .ok (.iload_n 3, 1) := by decide +kernel
theorem d_Md_weight_57 : decode jMd_weight.cc 57 = .ok (.iastore, 1) := by decide +kernel
theorem d_Md_weight_58 : decode jMd_weight.cc 58 = .ok (.iload 4, 2) := by decide +kernel
theorem d_Md_weight_60 : decode jMd_weight.cc 60 = .ok (.ireturn, 1) := by decide +kernel
set_option maxHeartbeats 4000000 in
theorem s_Md_weight {g : Mg} {d : Nat} {K : Ou → Wd → Prop} {w : Wd} {p1 : Int} {p2 : Int} {p3 : Int} (h : Cal g LM jMd_in d [vL p1, vL 0, vL (wr ((w 0 60) - 1))] (up w 0 0 0) (fun o w1 => rIt o (fun b => K (.inr b) w1) (fun x2 => (x2 = 0 → (K (.inl (some (vI 0))) w1)) ∧ (¬ x2 = 0 → (Cal g LM jMd_in d [vL p2, vL 0, vL 3] w1 (fun o w3 => rIt o (fun b => K (.inr b) w3) (fun x4 => (¬ x4 = 0 → ((0 ≤ (wr ((wr (4 * p1)) + p2)) ∧ (wr ((wr (4 * p1)) + p2)) < 480) ∧ ((0 ≤ (wr ((wr (4 * p1)) + p2)) ∧ (wr ((wr (4 * p1)) + p2)) < 480) ∧ (K (.inl (some (vI (w3 40 ((wr ((wr (4 * p1)) + p2)).toNat))))) (up w3 40 ((wr ((wr (4 * p1)) + p2)).toNat) p3))))) ∧ (x4 = 0 → (K (.inl (some (vI 0))) w3))))))))) : V g LM jMd_weight (d + 1) K 0 [(0, vA 0), (1, vI p1), (2, vI p2), (3, vI p3)] [] w := by
  refine v_aload_n (pc := 0) d_Md_weight_0 rfl (.head _) ?_
  refine v_iconst (pc := 1) d_Md_weight_1 (by decide) ?_
  refine v_puti (pc := 2) d_Md_weight_2 fp_Md_1 cM_0.1 cM_0.2 (by decide) rfl ?_
  refine v_iload_n (pc := 5) d_Md_weight_5 rfl (.tail _ (.head _)) ?_
  refine v_i2l (pc := 6) d_Md_weight_6 ?_
  refine v_lconst (pc := 7) (x := 0) d_Md_weight_7 (by decide) rfl ?_
  refine v_aload_n (pc := 8) d_Md_weight_8 rfl (.head _) ?_
  refine v_geti (pc := 9) (x := (w 0 60)) d_Md_weight_9 fl_Md_546 cM_0.1 cM_0.2 (Or.inl rfl) rfl ?_
  refine v_iconst (pc := 12) d_Md_weight_12 (by decide) ?_
  refine v_isub (pc := 13) d_Md_weight_13 ?_
  refine v_i2l (pc := 14) d_Md_weight_14 ?_
  refine v_callS (pc := 15) (J' := jMd_in) (d' := d) (As := [vL p1, vL 0, vL (wr ((w 0 60) - 1))]) d_Md_weight_15 ml_Md_312 rfl (Nat.le_of_ble_eq_true rfl) (Nat.le_refl _) rfl (Cal.weak h (fun o w1 h => ?_))
  rcases rIt_of h with ⟨x2, rfl, h⟩ | ⟨b, rfl, h⟩
  rotate_left
  · exact h
  refine v_ifeq (pc := 18) (tgt := 33) d_Md_weight_18 (by decide) (fun c => ?_) (fun c => ?_)
  · replace h := h.1 c
    refine v_iconst (pc := 33) d_Md_weight_33 (by decide) ?_
    exact v_iret (pc := 34) d_Md_weight_34 rfl h
  · replace h := h.2 c
    refine v_iload_n (pc := 21) d_Md_weight_21 rfl (.tail _ (.tail _ (.head _))) ?_
    refine v_i2l (pc := 22) d_Md_weight_22 ?_
    refine v_lconst (pc := 23) (x := 0) d_Md_weight_23 (by decide) rfl ?_
    refine v_ldc2 (pc := 24) (n := 3) d_Md_weight_24 (by decide) (mt_8 216 rfl rfl) ?_
    refine v_callS (pc := 27) (J' := jMd_in) (d' := d) (As := [vL p2, vL 0, vL 3]) d_Md_weight_27 ml_Md_312 rfl (Nat.le_of_ble_eq_true rfl) (Nat.le_refl _) rfl (Cal.weak h (fun o w3 h => ?_))
    rcases rIt_of h with ⟨x4, rfl, h⟩ | ⟨b, rfl, h⟩
    rotate_left
    · exact h
    refine v_ifne (pc := 30) (tgt := 35) d_Md_weight_30 (by decide) (fun c => ?_) (fun c => ?_)
    · replace h := h.1 c
      refine v_aload_n (pc := 35) d_Md_weight_35 rfl (.head _) ?_
      refine v_getr (C := "") (pc := 36) (r := 40) d_Md_weight_36 fl_Md_264 cM_0.1 cM_0.2 (Or.inr ⟨_, rfl⟩) rM_0_63 ?_
      refine v_iconst (pc := 39) d_Md_weight_39 (by decide) ?_
      refine v_iload_n (pc := 40) d_Md_weight_40 rfl (.tail _ (.head _)) ?_
      refine v_imul (pc := 41) d_Md_weight_41 ?_
      refine v_iload_n (pc := 42) d_Md_weight_42 rfl (.tail _ (.tail _ (.head _))) ?_
      refine v_iadd (pc := 43) d_Md_weight_43 ?_
      refine v_iald (pc := 44) (x := (w3 40 ((wr ((wr (4 * p1)) + p2)).toNat))) d_Md_weight_44 cM_40.1 cM_40.2 rfl h.1 ?_
      replace h := h.2
      refine v_istore (pc := 45) (ls' := [(4, vI (w3 40 ((wr ((wr (4 * p1)) + p2)).toNat))), (0, vA 0), (1, vI p1), (2, vI p2), (3, vI p3)]) d_Md_weight_45 (by decide) rfl ?_
      refine v_aload_n (pc := 47) d_Md_weight_47 rfl (.tail _ (.head _)) ?_
      refine v_getr (C := "") (pc := 48) (r := 40) d_Md_weight_48 fl_Md_264 cM_0.1 cM_0.2 (Or.inr ⟨_, rfl⟩) rM_0_63 ?_
      refine v_iconst (pc := 51) d_Md_weight_51 (by decide) ?_
      refine v_iload_n (pc := 52) d_Md_weight_52 rfl (.tail _ (.tail _ (.head _))) ?_
      refine v_imul (pc := 53) d_Md_weight_53 ?_
      refine v_iload_n (pc := 54) d_Md_weight_54 rfl (.tail _ (.tail _ (.tail _ (.head _)))) ?_
      refine v_iadd (pc := 55) d_Md_weight_55 ?_
      refine v_iload_n (pc := 56) d_Md_weight_56 rfl (.tail _ (.tail _ (.tail _ (.tail _ (.head _))))) ?_
      refine v_iast (pc := 57) d_Md_weight_57 cM_40.1 cM_40.2 (aM_40 _) h.1 ?_
      replace h := h.2
      refine v_iload (pc := 58) d_Md_weight_58 (.head _) ?_
      exact v_iret (pc := 60) d_Md_weight_60 rfl h
    · replace h := h.2 c
      refine v_iconst (pc := 33) d_Md_weight_33 (by decide) ?_
      exact v_iret (pc := 34) d_Md_weight_34 rfl h
theorem d_Md_toldOf_0 : decode jMd_toldOf.cc 0 = .ok (.iconst 0, 1) := by decide +kernel
theorem d_Md_toldOf_1 : decode jMd_toldOf.cc 1 = .ok (.istore_n 3, 1) := by decide +kernel
theorem d_Md_toldOf_2 : decode jMd_toldOf.cc 2 = .ok (.iload_n 3, 1) := by decide +kernel
theorem d_Md_toldOf_3 : decode jMd_toldOf.cc 3 = .ok (.aload_n 0, 1) := by decide +kernel
theorem d_Md_toldOf_4 : decode jMd_toldOf.cc 4 = .ok (.getfield 444, 3) := by decide +kernel
theorem d_Md_toldOf_7 : decode jMd_toldOf.cc 7 = .ok (.if_icmp .ge 30, 3) := by decide +kernel
theorem d_Md_toldOf_10 : decode jMd_toldOf.cc 10 = .ok (.aload_n 0, 1) := by decide +kernel
theorem d_Md_toldOf_11 : decode jMd_toldOf.cc 11 = .ok (.getfield 167, 3) := by decide +kernel
theorem d_Md_toldOf_14 : decode jMd_toldOf.cc 14 = .ok (.iload_n 3, 1) := by decide +kernel
theorem d_Md_toldOf_15 : decode jMd_toldOf.cc 15 = .ok (.iaload, 1) := by decide +kernel
theorem d_Md_toldOf_16 : decode jMd_toldOf.cc 16 = .ok (.iload_n 1, 1) := by decide +kernel
theorem d_Md_toldOf_17 : decode jMd_toldOf.cc 17 = .ok (.if_icmp .ne 14, 3) := by decide +kernel
theorem d_Md_toldOf_20 : decode jMd_toldOf.cc 20 = .ok (.aload_n 0, 1) := by decide +kernel
theorem d_Md_toldOf_21 : decode jMd_toldOf.cc 21 = .ok (.iload_n 3, 1) := by decide +kernel
theorem d_Md_toldOf_22 : decode jMd_toldOf.cc 22 = .ok (.invokevirtual 469, 3) := by decide +kernel
theorem d_Md_toldOf_25 : decode jMd_toldOf.cc 25 = .ok (.iload_n 2, 1) := by decide +kernel
theorem d_Md_toldOf_26 : decode jMd_toldOf.cc 26 = .ok (.if_icmp .ne 5, 3) := by decide +kernel
theorem d_Md_toldOf_29 : decode jMd_toldOf.cc 29 = .ok (.iload_n 3, 1) := by decide +kernel
theorem d_Md_toldOf_30 : decode jMd_toldOf.cc 30 = .ok (.ireturn, 1) := by decide +kernel
theorem d_Md_toldOf_31 : decode jMd_toldOf.cc 31 = .ok (.iinc 3 1, 3) := by decide +kernel
theorem d_Md_toldOf_34 : decode jMd_toldOf.cc 34 = .ok (.goto (-32), 3) := by decide +kernel
theorem d_Md_toldOf_37 : decode jMd_toldOf.cc 37 = .ok (.bipush (-2), 2) := by decide +kernel
theorem d_Md_toldOf_39 : decode jMd_toldOf.cc 39 = .ok (.ireturn, 1) := by decide +kernel
set_option maxHeartbeats 4000000 in
theorem s_Md_toldOf {g : Mg} {d : Nat} {K : Ou → Wd → Prop} {w : Wd} {p1 : Int} {p2 : Int} (h : V g LM jMd_toldOf (d + 1) K 2 [(0, vA 0), (1, vI p1), (2, vI p2), (3, vI 0)] [] w) : V g LM jMd_toldOf (d + 1) K 0 [(0, vA 0), (1, vI p1), (2, vI p2)] [] w := by
  refine v_iconst (pc := 0) d_Md_toldOf_0 (by decide) ?_
  refine v_istore_n (pc := 1) (ls' := [(3, vI 0), (0, vA 0), (1, vI p1), (2, vI p2)]) d_Md_toldOf_1 rfl (by decide) rfl ?_
  exact v_sub (List.forall_mem_cons.mpr ⟨(.tail _ (.head _)), (List.forall_mem_cons.mpr ⟨(.tail _ (.tail _ (.head _))), (List.forall_mem_cons.mpr ⟨(.tail _ (.tail _ (.tail _ (.head _)))), (List.forall_mem_cons.mpr ⟨(.head _), (fun _ z => absurd z List.not_mem_nil)⟩)⟩)⟩)⟩) h
set_option maxHeartbeats 4000000 in
theorem s_Md_toldOf_2 {g : Mg} {d : Nat} {K : Ou → Wd → Prop} {w : Wd} {x1_ : Int} {x2_ : Int} {x3_ : Int} (h : ((w 0 20) ≤ x3_ → (K (.inl (some (vI (-2)))) w)) ∧ (¬ (w 0 20) ≤ x3_ → ((0 ≤ x3_ ∧ x3_ < 30) ∧ ((¬ (w 10 x3_.toNat) = x1_ → (V g LM jMd_toldOf (d + 1) K 2 [(0, vA 0), (1, vI x1_), (2, vI x2_), (3, vI (wr (x3_ + 1)))] [] w)) ∧ ((w 10 x3_.toNat) = x1_ → (Cal g LM jMd_numberOf d [vA 0, vI x3_] w (fun o w1 => rIt o (fun b => K (.inr b) w1) (fun x2 => (¬ x2 = x2_ → (V g LM jMd_toldOf (d + 1) K 2 [(0, vA 0), (1, vI x1_), (2, vI x2_), (3, vI (wr (x3_ + 1)))] [] w1)) ∧ (x2 = x2_ → (K (.inl (some (vI x3_))) w1)))))))))) : V g LM jMd_toldOf (d + 1) K 2 [(0, vA 0), (1, vI x1_), (2, vI x2_), (3, vI x3_)] [] w := by
  refine v_iload_n (pc := 2) d_Md_toldOf_2 rfl (.tail _ (.tail _ (.tail _ (.head _)))) ?_
  refine v_aload_n (pc := 3) d_Md_toldOf_3 rfl (.head _) ?_
  refine v_geti (pc := 4) (x := (w 0 20)) d_Md_toldOf_4 fl_Md_444 cM_0.1 cM_0.2 (Or.inl rfl) rfl ?_
  refine v_icmpge (pc := 7) (tgt := 37) d_Md_toldOf_7 (by decide) (fun c => ?_) (fun c => ?_)
  · replace h := h.1 c
    refine v_bipush (pc := 37) d_Md_toldOf_37 (by decide) rfl ?_
    exact v_iret (pc := 39) d_Md_toldOf_39 rfl h
  · replace h := h.2 c
    refine v_aload_n (pc := 10) d_Md_toldOf_10 rfl (.head _) ?_
    refine v_getr (C := "") (pc := 11) (r := 10) d_Md_toldOf_11 fl_Md_167 cM_0.1 cM_0.2 (Or.inr ⟨_, rfl⟩) rM_0_14 ?_
    refine v_iload_n (pc := 14) d_Md_toldOf_14 rfl (.tail _ (.tail _ (.tail _ (.head _)))) ?_
    refine v_iald (pc := 15) (x := (w 10 x3_.toNat)) d_Md_toldOf_15 cM_10.1 cM_10.2 rfl h.1 ?_
    replace h := h.2
    refine v_iload_n (pc := 16) d_Md_toldOf_16 rfl (.tail _ (.head _)) ?_
    refine v_icmpne (pc := 17) (tgt := 31) d_Md_toldOf_17 (by decide) (fun c => ?_) (fun c => ?_)
    · replace h := h.1 c
      refine v_iinc (pc := 31) (ls' := [(3, vI (wr (x3_ + 1))), (0, vA 0), (1, vI x1_), (2, vI x2_)]) d_Md_toldOf_31 (.tail _ (.tail _ (.tail _ (.head _)))) (by decide) rfl ?_
      refine v_goto (pc := 34) (tgt := 2) d_Md_toldOf_34 (by decide) ?_
      exact v_sub (List.forall_mem_cons.mpr ⟨(.tail _ (.head _)), (List.forall_mem_cons.mpr ⟨(.tail _ (.tail _ (.head _))), (List.forall_mem_cons.mpr ⟨(.tail _ (.tail _ (.tail _ (.head _)))), (List.forall_mem_cons.mpr ⟨(.head _), (fun _ z => absurd z List.not_mem_nil)⟩)⟩)⟩)⟩) h
    · replace h := h.2 c
      refine v_aload_n (pc := 20) d_Md_toldOf_20 rfl (.head _) ?_
      refine v_iload_n (pc := 21) d_Md_toldOf_21 rfl (.tail _ (.tail _ (.tail _ (.head _)))) ?_
      refine v_callV (pc := 22) (J' := jMd_numberOf) (d' := d) (o := 0) (ci := 13) (N := 93) (T := cT13) (As := [vI x3_]) d_Md_toldOf_22 ml_Md_469 cM_0.1 cM_0.2 (by decide) rfl rfl (Nat.le_of_ble_eq_true rfl) (Nat.le_refl _) rfl (Cal.weak h (fun o w1 h => ?_))
      rcases rIt_of h with ⟨x2, rfl, h⟩ | ⟨b, rfl, h⟩
      rotate_left
      · exact h
      refine v_iload_n (pc := 25) d_Md_toldOf_25 rfl (.tail _ (.tail _ (.head _))) ?_
      refine v_icmpne (pc := 26) (tgt := 31) d_Md_toldOf_26 (by decide) (fun c => ?_) (fun c => ?_)
      · replace h := h.1 c
        refine v_iinc (pc := 31) (ls' := [(3, vI (wr (x3_ + 1))), (0, vA 0), (1, vI x1_), (2, vI x2_)]) d_Md_toldOf_31 (.tail _ (.tail _ (.tail _ (.head _)))) (by decide) rfl ?_
        refine v_goto (pc := 34) (tgt := 2) d_Md_toldOf_34 (by decide) ?_
        exact v_sub (List.forall_mem_cons.mpr ⟨(.tail _ (.head _)), (List.forall_mem_cons.mpr ⟨(.tail _ (.tail _ (.head _))), (List.forall_mem_cons.mpr ⟨(.tail _ (.tail _ (.tail _ (.head _)))), (List.forall_mem_cons.mpr ⟨(.head _), (fun _ z => absurd z List.not_mem_nil)⟩)⟩)⟩)⟩) h
      · replace h := h.2 c
        refine v_iload_n (pc := 29) d_Md_toldOf_29 rfl (.tail _ (.tail _ (.tail _ (.head _)))) ?_
        exact v_iret (pc := 30) d_Md_toldOf_30 rfl h
theorem d_Md_wayOf_0 : decode jMd_wayOf.cc 0 = .ok (.aload_n 0, 1) := by decide +kernel
theorem d_Md_wayOf_1 : decode jMd_wayOf.cc 1 = .ok (.getfield 176, 3) := by decide +kernel
theorem d_Md_wayOf_4 : decode jMd_wayOf.cc 4 = .ok (.aload_n 0, 1) := by decide +kernel
theorem d_Md_wayOf_5 : decode jMd_wayOf.cc 5 = .ok (.iload_n 1, 1) := by decide +kernel
theorem d_Md_wayOf_6 : decode jMd_wayOf.cc 6 = .ok (.iload_n 2, 1) := by decide +kernel
theorem d_Md_wayOf_7 : decode jMd_wayOf.cc 7 = .ok (.invokevirtual 553, 3) := by decide +kernel
theorem d_Md_wayOf_10 : decode jMd_wayOf.cc 10 = .ok (.iaload, 1) := by decide +kernel
theorem d_Md_wayOf_11 : decode jMd_wayOf.cc 11 = .ok (.ireturn, 1) := by decide +kernel
set_option maxHeartbeats 4000000 in
theorem s_Md_wayOf {g : Mg} {d : Nat} {K : Ou → Wd → Prop} {w : Wd} {p1 : Int} {p2 : Int} (h : Cal g LM jMd_toldOf d [vA 0, vI p1, vI p2] w (fun o w1 => rIt o (fun b => K (.inr b) w1) (fun x2 => (0 ≤ x2 ∧ x2 < 30) ∧ (K (.inl (some (vI (w1 13 x2.toNat)))) w1)))) : V g LM jMd_wayOf (d + 1) K 0 [(0, vA 0), (1, vI p1), (2, vI p2)] [] w := by
  refine v_aload_n (pc := 0) d_Md_wayOf_0 rfl (.head _) ?_
  refine v_getr (C := "") (pc := 1) (r := 13) d_Md_wayOf_1 fl_Md_176 cM_0.1 cM_0.2 (Or.inr ⟨_, rfl⟩) rM_0_17 ?_
  refine v_aload_n (pc := 4) d_Md_wayOf_4 rfl (.head _) ?_
  refine v_iload_n (pc := 5) d_Md_wayOf_5 rfl (.tail _ (.head _)) ?_
  refine v_iload_n (pc := 6) d_Md_wayOf_6 rfl (.tail _ (.tail _ (.head _))) ?_
  refine v_callV (pc := 7) (J' := jMd_toldOf) (d' := d) (o := 0) (ci := 13) (N := 93) (T := cT13) (As := [vI p1, vI p2]) d_Md_wayOf_7 ml_Md_553 cM_0.1 cM_0.2 (by decide) rfl rfl (Nat.le_of_ble_eq_true rfl) (Nat.le_refl _) rfl (Cal.weak h (fun o w1 h => ?_))
  rcases rIt_of h with ⟨x2, rfl, h⟩ | ⟨b, rfl, h⟩
  rotate_left
  · exact h
  refine v_iald (pc := 10) (x := (w1 13 x2.toNat)) d_Md_wayOf_10 cM_13.1 cM_13.2 rfl h.1 ?_
  replace h := h.2
  exact v_iret (pc := 11) d_Md_wayOf_11 rfl h
theorem d_Md_nothing_0 : decode jMd_nothing.cc 0 = .ok (.iload_n 0, 1) := by decide +kernel
theorem d_Md_nothing_1 : decode jMd_nothing.cc 1 = .ok (.iconst 1, 1) := by decide +kernel
theorem d_Md_nothing_2 : decode jMd_nothing.cc 2 = .ok (.if_icmp .ne 9, 3) := by decide +kernel
theorem d_Md_nothing_5 : decode jMd_nothing.cc 5 = .ok (.ldc_w 557, 3) := by decide +kernel
theorem d_Md_nothing_8 : decode jMd_nothing.cc 8 = .ok (.goto 24, 3) := by decide +kernel
theorem d_Md_nothing_11 : decode jMd_nothing.cc 11 = .ok (.iload_n 0, 1) := by decide +kernel
theorem d_Md_nothing_12 : decode jMd_nothing.cc 12 = .ok (.iconst 2, 1) := by decide +kernel
theorem d_Md_nothing_13 : decode jMd_nothing.cc 13 = .ok (.if_icmp .ne 9, 3) := by decide +kernel
theorem d_Md_nothing_16 : decode jMd_nothing.cc 16 = .ok (.ldc_w 558, 3) := by decide +kernel
theorem d_Md_nothing_19 : decode jMd_nothing.cc 19 = .ok (.goto 13, 3) := by decide +kernel
theorem d_Md_nothing_22 : decode jMd_nothing.cc 22 = .ok (.iload_n 0, 1) := by decide +kernel
theorem d_Md_nothing_23 : decode jMd_nothing.cc 23 = .ok (.iconst 4, 1) := by decide +kernel
theorem d_Md_nothing_24 : decode jMd_nothing.cc 24 = .ok (.if_icmp .ne 7, 3) := by decide +kernel
theorem d_Md_nothing_27 : decode jMd_nothing.cc 27 = .ok (.iconst 1, 1) := by decide +kernel
theorem d_Md_nothing_28 : decode jMd_nothing.cc 28 = .ok (.goto 4, 3) := by decide +kernel
theorem d_Md_nothing_31 : decode jMd_nothing.cc 31 = .ok (.iconst 0, 1) := by decide +kernel
theorem d_Md_nothing_32 : decode jMd_nothing.cc 32 = .ok (.ireturn, 1) := by decide +kernel
set_option maxHeartbeats 4000000 in
theorem s_Md_nothing {g : Mg} {d : Nat} {K : Ou → Wd → Prop} {w : Wd} {p0 : Int} (h : (¬ p0 = 1 → ((¬ p0 = 2 → ((¬ p0 = 4 → (K (.inl (some (vI 0))) w)) ∧ (p0 = 4 → (K (.inl (some (vI 1))) w)))) ∧ (p0 = 2 → (K (.inl (some (vI (-2147483648)))) w)))) ∧ (p0 = 1 → (K (.inl (some (vI 2147483647))) w))) : V g LM jMd_nothing d K 0 [(0, vI p0)] [] w := by
  refine v_iload_n (pc := 0) d_Md_nothing_0 rfl (.head _) ?_
  refine v_iconst (pc := 1) d_Md_nothing_1 (by decide) ?_
  refine v_icmpne (pc := 2) (tgt := 11) d_Md_nothing_2 (by decide) (fun c => ?_) (fun c => ?_)
  · replace h := h.1 c
    refine v_iload_n (pc := 11) d_Md_nothing_11 rfl (.head _) ?_
    refine v_iconst (pc := 12) d_Md_nothing_12 (by decide) ?_
    refine v_icmpne (pc := 13) (tgt := 22) d_Md_nothing_13 (by decide) (fun c => ?_) (fun c => ?_)
    · replace h := h.1 c
      refine v_iload_n (pc := 22) d_Md_nothing_22 rfl (.head _) ?_
      refine v_iconst (pc := 23) d_Md_nothing_23 (by decide) ?_
      refine v_icmpne (pc := 24) (tgt := 31) d_Md_nothing_24 (by decide) (fun c => ?_) (fun c => ?_)
      · replace h := h.1 c
        refine v_iconst (pc := 31) d_Md_nothing_31 (by decide) ?_
        exact v_iret (pc := 32) d_Md_nothing_32 rfl h
      · replace h := h.2 c
        refine v_iconst (pc := 27) d_Md_nothing_27 (by decide) ?_
        refine v_goto (pc := 28) (tgt := 32) d_Md_nothing_28 (by decide) ?_
        exact v_iret (pc := 32) d_Md_nothing_32 rfl h
    · replace h := h.2 c
      refine v_ldcw (pc := 16) (n := (-2147483648)) d_Md_nothing_16 (by decide) (mt_9 44 rfl rfl) ?_
      refine v_goto (pc := 19) (tgt := 32) d_Md_nothing_19 (by decide) ?_
      exact v_iret (pc := 32) d_Md_nothing_32 rfl h
  · replace h := h.2 c
    refine v_ldcw (pc := 5) (n := 2147483647) d_Md_nothing_5 (by decide) (mt_9 43 rfl rfl) ?_
    refine v_goto (pc := 8) (tgt := 32) d_Md_nothing_8 (by decide) ?_
    exact v_iret (pc := 32) d_Md_nothing_32 rfl h
theorem d_Md_folded_0 : decode jMd_folded.cc 0 = .ok (.iload_n 1, 1) := by decide +kernel
theorem d_Md_folded_1 : decode jMd_folded.cc 1 = .ok (.ifCond .ne 5, 3) := by decide +kernel
theorem d_Md_folded_4 : decode jMd_folded.cc 4 = .ok (.iload_n 3, 1) := by decide +kernel
theorem d_Md_folded_5 : decode jMd_folded.cc 5 = .ok (.ireturn, 1) := by decide +kernel
theorem d_Md_folded_6 : decode jMd_folded.cc 6 = .ok (.iload_n 0, 1) := by decide +kernel
theorem d_Md_folded_7 : decode jMd_folded.cc 7 = .ok (.tableswitch 65 0 4 #[33, 37, 48, 59, 61], 33) := by decide +kernel
theorem d_Md_folded_40 : decode jMd_folded.cc 40 = .ok (.iload_n 2, 1) := by decide +kernel
theorem d_Md_folded_41 : decode jMd_folded.cc 41 = .ok (.iload_n 3, 1) := by decide +kernel
theorem d_Md_folded_42 : decode jMd_folded.cc 42 = .ok (.iadd, 1) := by decide +kernel
theorem d_Md_folded_43 : decode jMd_folded.cc 43 = .ok (.ireturn, 1) := by decide +kernel
theorem d_Md_folded_44 : decode jMd_folded.cc 44 = .ok (.iload_n 3, 1) := by decide +kernel
theorem d_Md_folded_45 : decode jMd_folded.cc 45 = .ok (.iload_n 2, 1) := by decide +kernel
theorem d_Md_folded_46 : decode jMd_folded.cc 46 = .ok (.if_icmp .ge 7, 3) := by decide +kernel
theorem d_Md_folded_49 : decode jMd_folded.cc 49 = .ok (.iload_n 3, 1) := by decide +kernel
theorem d_Md_folded_50 : decode jMd_folded.cc 50 = .ok (.goto 4, 3) := by decide +kernel
theorem d_Md_folded_53 : decode jMd_folded.cc 53 = .ok (.iload_n 2, 1) := by decide +kernel
theorem d_Md_folded_54 : decode jMd_folded.cc 54 = .ok (.ireturn, 1) := by decide +kernel
theorem d_Md_folded_55 : decode jMd_folded.cc 55 = .ok (.iload_n 3, 1) := by decide +kernel
theorem d_Md_folded_56 : decode jMd_folded.cc 56 = .ok (.iload_n 2, 1) := by decide +kernel
theorem d_Md_folded_57 : decode jMd_folded.cc 57 = .ok (.if_icmp .le 7, 3) := by decide +kernel
theorem d_Md_folded_60 : decode jMd_folded.cc 60 = .ok (.iload_n 3, 1) := by decide +kernel
theorem d_Md_folded_61 : decode jMd_folded.cc 61 = .ok (.goto 4, 3) := by decide +kernel
theorem d_Md_folded_64 : decode jMd_folded.cc 64 = .ok (.iload_n 2, 1) := by decide +kernel
theorem d_Md_folded_65 : decode jMd_folded.cc 65 = .ok (.ireturn, 1) := by decide +kernel
theorem d_Md_folded_66 : decode jMd_folded.cc 66 = .ok (.iload_n 2, 1) := by decide +kernel
theorem d_Md_folded_67 : decode jMd_folded.cc 67 = .ok (.ireturn, 1) := by decide +kernel
theorem d_Md_folded_68 : decode jMd_folded.cc 68 = .ok (.iload_n 2, 1) := by decide +kernel
theorem d_Md_folded_69 : decode jMd_folded.cc 69 = .ok (.iload_n 3, 1) := by decide +kernel
theorem d_Md_folded_70 : decode jMd_folded.cc 70 = .ok (.iand, 1) := by decide +kernel
theorem d_Md_folded_71 : decode jMd_folded.cc 71 = .ok (.ireturn, 1) := by decide +kernel
theorem d_Md_folded_72 : decode jMd_folded.cc 72 = .ok (.iload_n 2, 1) := by decide +kernel
theorem d_Md_folded_73 : decode jMd_folded.cc 73 = .ok (.iload_n 3, 1) := by decide +kernel
theorem d_Md_folded_74 : decode jMd_folded.cc 74 = .ok (.ior, 1) := by decide +kernel
theorem d_Md_folded_75 : decode jMd_folded.cc 75 = .ok (.ireturn, 1) := by decide +kernel
set_option maxHeartbeats 4000000 in
theorem s_Md_folded {g : Mg} {d : Nat} {K : Ou → Wd → Prop} {w : Wd} {p0 : Int} {p1 : Int} {p2 : Int} {p3 : Int} (h : (¬ p1 = 0 → (((p0 < 0 ∨ 4 < p0) → (K (.inl (some (vI (iOr p2 p3)))) w)) ∧ (p0 = 0 → (K (.inl (some (vI (wr (p2 + p3))))) w)) ∧ (p0 = 1 → ((p2 ≤ p3 → (K (.inl (some (vI p2))) w)) ∧ (¬ p2 ≤ p3 → (K (.inl (some (vI p3))) w)))) ∧ (p0 = 2 → ((p3 ≤ p2 → (K (.inl (some (vI p2))) w)) ∧ (¬ p3 ≤ p2 → (K (.inl (some (vI p3))) w)))) ∧ (p0 = 3 → (K (.inl (some (vI p2))) w)) ∧ (p0 = 4 → (K (.inl (some (vI (iAnd p2 p3)))) w)))) ∧ (p1 = 0 → (K (.inl (some (vI p3))) w))) : V g LM jMd_folded d K 0 [(0, vI p0), (1, vI p1), (2, vI p2), (3, vI p3)] [] w := by
  refine v_iload_n (pc := 0) d_Md_folded_0 rfl (.tail _ (.head _)) ?_
  refine v_ifne (pc := 1) (tgt := 6) d_Md_folded_1 (by decide) (fun c => ?_) (fun c => ?_)
  · replace h := h.1 c
    refine v_iload_n (pc := 6) d_Md_folded_6 rfl (.head _) ?_
    refine v_table (pc := 7) (tgd := 72) (tgs := [40, 44, 55, 66, 68]) d_Md_folded_7 (by decide) (by decide) (by decide) (fun c => ?_) ⟨fun c => ?_, fun c => ?_, fun c => ?_, fun c => ?_, fun c => ?_, trivial⟩
    · replace h := h.1 c
      refine v_iload_n (pc := 72) d_Md_folded_72 rfl (.tail _ (.tail _ (.head _))) ?_
      refine v_iload_n (pc := 73) d_Md_folded_73 rfl (.tail _ (.tail _ (.tail _ (.head _)))) ?_
      refine v_ior (pc := 74) d_Md_folded_74 ?_
      exact v_iret (pc := 75) d_Md_folded_75 rfl h
    · replace h := h.2.1 c
      refine v_iload_n (pc := 40) d_Md_folded_40 rfl (.tail _ (.tail _ (.head _))) ?_
      refine v_iload_n (pc := 41) d_Md_folded_41 rfl (.tail _ (.tail _ (.tail _ (.head _)))) ?_
      refine v_iadd (pc := 42) d_Md_folded_42 ?_
      exact v_iret (pc := 43) d_Md_folded_43 rfl h
    · replace h := h.2.2.1 c
      refine v_iload_n (pc := 44) d_Md_folded_44 rfl (.tail _ (.tail _ (.tail _ (.head _)))) ?_
      refine v_iload_n (pc := 45) d_Md_folded_45 rfl (.tail _ (.tail _ (.head _))) ?_
      refine v_icmpge (pc := 46) (tgt := 53) d_Md_folded_46 (by decide) (fun c => ?_) (fun c => ?_)
      · replace h := h.1 c
        refine v_iload_n (pc := 53) d_Md_folded_53 rfl (.tail _ (.tail _ (.head _))) ?_
        exact v_iret (pc := 54) d_Md_folded_54 rfl h
      · replace h := h.2 c
        refine v_iload_n (pc := 49) d_Md_folded_49 rfl (.tail _ (.tail _ (.tail _ (.head _)))) ?_
        refine v_goto (pc := 50) (tgt := 54) d_Md_folded_50 (by decide) ?_
        exact v_iret (pc := 54) d_Md_folded_54 rfl h
    · replace h := h.2.2.2.1 c
      refine v_iload_n (pc := 55) d_Md_folded_55 rfl (.tail _ (.tail _ (.tail _ (.head _)))) ?_
      refine v_iload_n (pc := 56) d_Md_folded_56 rfl (.tail _ (.tail _ (.head _))) ?_
      refine v_icmple (pc := 57) (tgt := 64) d_Md_folded_57 (by decide) (fun c => ?_) (fun c => ?_)
      · replace h := h.1 c
        refine v_iload_n (pc := 64) d_Md_folded_64 rfl (.tail _ (.tail _ (.head _))) ?_
        exact v_iret (pc := 65) d_Md_folded_65 rfl h
      · replace h := h.2 c
        refine v_iload_n (pc := 60) d_Md_folded_60 rfl (.tail _ (.tail _ (.tail _ (.head _)))) ?_
        refine v_goto (pc := 61) (tgt := 65) d_Md_folded_61 (by decide) ?_
        exact v_iret (pc := 65) d_Md_folded_65 rfl h
    · replace h := h.2.2.2.2.1 c
      refine v_iload_n (pc := 66) d_Md_folded_66 rfl (.tail _ (.tail _ (.head _))) ?_
      exact v_iret (pc := 67) d_Md_folded_67 rfl h
    · replace h := h.2.2.2.2.2 c
      refine v_iload_n (pc := 68) d_Md_folded_68 rfl (.tail _ (.tail _ (.head _))) ?_
      refine v_iload_n (pc := 69) d_Md_folded_69 rfl (.tail _ (.tail _ (.tail _ (.head _)))) ?_
      refine v_iand (pc := 70) d_Md_folded_70 ?_
      exact v_iret (pc := 71) d_Md_folded_71 rfl h
  · replace h := h.2 c
    refine v_iload_n (pc := 4) d_Md_folded_4 rfl (.tail _ (.tail _ (.tail _ (.head _)))) ?_
    exact v_iret (pc := 5) d_Md_folded_5 rfl h
theorem d_Md_begin_0 : decode jMd_begin.cc 0 = .ok (.aload_n 0, 1) := by decide +kernel
theorem d_Md_begin_1 : decode jMd_begin.cc 1 = .ok (.iconst 0, 1) := by decide +kernel
theorem d_Md_begin_2 : decode jMd_begin.cc 2 = .ok (.putfield 1, 3) := by decide +kernel
theorem d_Md_begin_5 : decode jMd_begin.cc 5 = .ok (.aload_n 0, 1) := by decide +kernel
theorem d_Md_begin_6 : decode jMd_begin.cc 6 = .ok (.getfield 506, 3) := by decide +kernel
theorem d_Md_begin_9 : decode jMd_begin.cc 9 = .ok (.ifCond .ne 5, 3) := by decide +kernel
theorem d_Md_begin_12 : decode jMd_begin.cc 12 = .ok (.iconst (-1), 1) := by decide +kernel
theorem d_Md_begin_13 : decode jMd_begin.cc 13 = .ok (.ireturn, 1) := by decide +kernel
theorem d_Md_begin_14 : decode jMd_begin.cc 14 = .ok (.aload_n 0, 1) := by decide +kernel
theorem d_Md_begin_15 : decode jMd_begin.cc 15 = .ok (.iconst 1, 1) := by decide +kernel
theorem d_Md_begin_16 : decode jMd_begin.cc 16 = .ok (.putfield 510, 3) := by decide +kernel
theorem d_Md_begin_19 : decode jMd_begin.cc 19 = .ok (.aload_n 0, 1) := by decide +kernel
theorem d_Md_begin_20 : decode jMd_begin.cc 20 = .ok (.iload_n 1, 1) := by decide +kernel
theorem d_Md_begin_21 : decode jMd_begin.cc 21 = .ok (.putfield 559, 3) := by decide +kernel
theorem d_Md_begin_24 : decode jMd_begin.cc 24 = .ok (.aload_n 0, 1) := by decide +kernel
theorem d_Md_begin_25 : decode jMd_begin.cc 25 = .ok (.iconst 0, 1) := by decide +kernel
theorem d_Md_begin_26 : decode jMd_begin.cc 26 = .ok (.putfield 562, 3) := by decide +kernel
theorem d_Md_begin_29 : decode jMd_begin.cc 29 = .ok (.aload_n 0, 1) := by decide +kernel
theorem d_Md_begin_30 : decode jMd_begin.cc 30 = .ok (.iconst 0, 1) := by decide +kernel
theorem d_Md_begin_31 : decode jMd_begin.cc 31 = .ok (.putfield 564, 3) := by decide +kernel
theorem d_Md_begin_34 : decode jMd_begin.cc 34 = .ok (.aload_n 0, 1) := by decide +kernel
theorem d_Md_begin_35 : decode jMd_begin.cc 35 = .ok (.iconst 0, 1) := by decide +kernel
theorem d_Md_begin_36 : decode jMd_begin.cc 36 = .ok (.putfield 567, 3) := by decide +kernel
theorem d_Md_begin_39 : decode jMd_begin.cc 39 = .ok (.aload_n 0, 1) := by decide +kernel
theorem d_Md_begin_40 : decode jMd_begin.cc 40 = .ok (.iconst 0, 1) := by decide +kernel
theorem d_Md_begin_41 : decode jMd_begin.cc 41 = .ok (.putfield 570, 3) := by decide +kernel
theorem d_Md_begin_44 : decode jMd_begin.cc 44 = .ok (.aload_n 0, 1) := by decide +kernel
theorem d_Md_begin_45 : decode jMd_begin.cc 45 = .ok (.iconst 0, 1) := by decide +kernel
theorem d_Md_begin_46 : decode jMd_begin.cc 46 = .ok (.putfield 573, 3) := by decide +kernel
theorem d_Md_begin_49 : decode jMd_begin.cc 49 = .ok (.aload_n 0, 1) := by decide +kernel
theorem d_Md_begin_50 : decode jMd_begin.cc 50 = .ok (.iconst 0, 1) := by decide +kernel
theorem d_Md_begin_51 : decode jMd_begin.cc 51 = .ok (.putfield 576, 3) := by decide +kernel
theorem d_Md_begin_54 : decode jMd_begin.cc 54 = .ok (.aload_n 0, 1) := by decide +kernel
theorem d_Md_begin_55 : decode jMd_begin.cc 55 = .ok (.iconst 0, 1) := by decide +kernel
theorem d_Md_begin_56 : decode jMd_begin.cc 56 = .ok (.putfield 579, 3) := by decide +kernel
theorem d_Md_begin_59 : decode jMd_begin.cc 59 = .ok (.iconst 0, 1) := by decide +kernel
theorem d_Md_begin_60 : decode jMd_begin.cc 60 = .ok (.istore_n 2, 1) := by decide +kernel
theorem d_Md_begin_61 : decode jMd_begin.cc 61 = .ok (.iload_n 2, 1) := by decide +kernel
theorem d_Md_begin_62 : decode jMd_begin.cc 62 = .ok (.aload_n 0, 1) := by decide +kernel
theorem d_Md_begin_63 : decode jMd_begin.cc 63 = .ok (.getfield 305, 3) := by decide +kernel
theorem d_Md_begin_66 : decode jMd_begin.cc 66 = .ok (.if_icmp .ge 51, 3) := by decide +kernel
theorem d_Md_begin_69 : decode jMd_begin.cc 69 = .ok (.aload_n 0, 1) := by decide +kernel
theorem d_Md_begin_70 : decode jMd_begin.cc 70 = .ok (.getfield 270, 3) := by decide +kernel
theorem d_Md_begin_73 : decode jMd_begin.cc 73 = .ok (.iload_n 2, 1) := by decide +kernel
theorem d_Md_begin_74 : decode jMd_begin.cc 74 = .ok (.iconst 0, 1) := by decide +kernel
theorem d_Md_begin_75 : decode jMd_begin.cc 75 = .ok (.bastore, 1) := by decide +kernel
theorem d_Md_begin_76 : decode jMd_begin.cc 76 = .ok (.iconst 0, 1) := by decide +kernel
theorem d_Md_begin_77 : decode jMd_begin.cc 77 = .ok (.istore_n 3, 1) := by decide +kernel
theorem d_Md_begin_78 : decode jMd_begin.cc 78 = .ok (.iload_n 3, 1) := by decide +kernel
theorem d_Md_begin_79 : decode jMd_begin.cc 79 = .ok (.aload_n 0, 1) := by decide +kernel
theorem d_Md_begin_80 : decode jMd_begin.cc 80 = .ok (.getfield 185, 3) := by decide +kernel
theorem d_Md_begin_83 : decode jMd_begin.cc 83 = .ok (.iconst 1, 1) := by decide +kernel
theorem d_Md_begin_84 : decode jMd_begin.cc 84 = .ok (.iaload, 1) := by decide +kernel
theorem d_Md_begin_85 : decode jMd_begin.cc 85 = .ok (.if_icmp .ge 26, 3) := by decide +kernel
theorem d_Md_begin_88 : decode jMd_begin.cc 88 = .ok (.aload_n 0, 1) := by decide +kernel
theorem d_Md_begin_89 : decode jMd_begin.cc 89 = .ok (.getfield 267, 3) := by decide +kernel
theorem d_Md_begin_92 : decode jMd_begin.cc 92 = .ok (.bipush 8, 2) := by decide +kernel
theorem d_Md_begin_94 : decode jMd_begin.cc 94 = .ok (.iload_n 2, 1) := by decide +kernel
theorem d_Md_begin_95 : decode jMd_begin.cc 95 = .ok (.imul, 1) := by decide +kernel
theorem d_Md_begin_96 : decode jMd_begin.cc 96 = .ok (.iload_n 3, 1) := by decide +kernel
theorem d_Md_begin_97 : decode jMd_begin.cc 97 = .ok (.iadd, 1) := by decide +kernel
theorem d_Md_begin_98 : decode jMd_begin.cc 98 = .ok (.aload_n 0, 1) := by decide +kernel
theorem d_Md_begin_99 : decode jMd_begin.cc 99 = .ok (.iconst 1, 1) := by decide +kernel
theorem d_Md_begin_100 : decode jMd_begin.cc 100 = .ok (.iload_n 3, 1) := by decide +kernel
theorem d_Md_begin_101 : decode jMd_begin.cc 101 = .ok (.invokevirtual 582, 3) := by decide +kernel
theorem d_Md_begin_104 : decode jMd_begin.cc 104 = .ok (.iastore, 1) := by decide +kernel
theorem d_Md_begin_105 : decode jMd_begin.cc 105 = .ok (.iinc 3 1, 3) := by decide +kernel
theorem d_Md_begin_108 : decode jMd_begin.cc 108 = .ok (.goto (-30), 3) := by decide +kernel
theorem d_Md_begin_111 : decode jMd_begin.cc 111 = .ok (.iinc 2 1, 3) := by decide +kernel
theorem d_Md_begin_114 : decode jMd_begin.cc 114 = .ok (.goto (-53), 3) := by decide +kernel
theorem d_Md_begin_117 : decode jMd_begin.cc 117 = .ok (.iconst 0, 1) := by decide +kernel
theorem d_Md_begin_118 : decode jMd_begin.cc 118 = .ok (.istore_n 2, 1) := by decide +kernel
theorem d_Md_begin_119 : decode jMd_begin.cc 119 = .ok (.iload_n 2, 1) := by decide +kernel
theorem d_Md_begin_120 : decode jMd_begin.cc 120 = .ok (.sipush 160, 3) := by decide +kernel
theorem d_Md_begin_123 : decode jMd_begin.cc 123 = .ok (.if_icmp .ge 23, 3) := by decide +kernel
theorem d_Md_begin_126 : decode jMd_begin.cc 126 = .ok (.aload_n 0, 1) := by decide +kernel
theorem d_Md_begin_127 : decode jMd_begin.cc 127 = .ok (.getfield 273, 3) := by decide +kernel
theorem d_Md_begin_130 : decode jMd_begin.cc 130 = .ok (.iload_n 2, 1) := by decide +kernel
theorem d_Md_begin_131 : decode jMd_begin.cc 131 = .ok (.iconst 0, 1) := by decide +kernel
theorem d_Md_begin_132 : decode jMd_begin.cc 132 = .ok (.iastore, 1) := by decide +kernel
theorem d_Md_begin_133 : decode jMd_begin.cc 133 = .ok (.aload_n 0, 1) := by decide +kernel
theorem d_Md_begin_134 : decode jMd_begin.cc 134 = .ok (.getfield 276, 3) := by decide +kernel
theorem d_Md_begin_137 : decode jMd_begin.cc 137 = .ok (.iload_n 2, 1) := by decide +kernel
theorem d_Md_begin_138 : decode jMd_begin.cc 138 = .ok (.iconst 0, 1) := by decide +kernel
theorem d_Md_begin_139 : decode jMd_begin.cc 139 = .ok (.iastore, 1) := by decide +kernel
theorem d_Md_begin_140 : decode jMd_begin.cc 140 = .ok (.iinc 2 1, 3) := by decide +kernel
theorem d_Md_begin_143 : decode jMd_begin.cc 143 = .ok (.goto (-24), 3) := by decide +kernel
theorem d_Md_begin_146 : decode jMd_begin.cc 146 = .ok (.iconst 0, 1) := by decide +kernel
theorem d_Md_begin_147 : decode jMd_begin.cc 147 = .ok (.istore_n 2, 1) := by decide +kernel
theorem d_Md_begin_148 : decode jMd_begin.cc 148 = .ok (.iload_n 2, 1) := by decide +kernel
theorem d_Md_begin_149 : decode jMd_begin.cc 149 = .ok (.iconst 4, 1) := by decide +kernel
theorem d_Md_begin_150 : decode jMd_begin.cc 150 = .ok (.if_icmp .ge 23, 3) := by decide +kernel
theorem d_Md_begin_153 : decode jMd_begin.cc 153 = .ok (.aload_n 0, 1) := by decide +kernel
theorem d_Md_begin_154 : decode jMd_begin.cc 154 = .ok (.getfield 279, 3) := by decide +kernel
theorem d_Md_begin_157 : decode jMd_begin.cc 157 = .ok (.iload_n 2, 1) := by decide +kernel
theorem d_Md_begin_158 : decode jMd_begin.cc 158 = .ok (.iconst 0, 1) := by decide +kernel
theorem d_Md_begin_159 : decode jMd_begin.cc 159 = .ok (.iastore, 1) := by decide +kernel
theorem d_Md_begin_160 : decode jMd_begin.cc 160 = .ok (.aload_n 0, 1) := by decide +kernel
theorem d_Md_begin_161 : decode jMd_begin.cc 161 = .ok (.getfield 282, 3) := by decide +kernel
theorem d_Md_begin_164 : decode jMd_begin.cc 164 = .ok (.iload_n 2, 1) := by decide +kernel
theorem d_Md_begin_165 : decode jMd_begin.cc 165 = .ok (.iconst 0, 1) := by decide +kernel
theorem d_Md_begin_166 : decode jMd_begin.cc 166 = .ok (.iastore, 1) := by decide +kernel
theorem d_Md_begin_167 : decode jMd_begin.cc 167 = .ok (.iinc 2 1, 3) := by decide +kernel
theorem d_Md_begin_170 : decode jMd_begin.cc 170 = .ok (.goto (-22), 3) := by decide +kernel
theorem d_Md_begin_173 : decode jMd_begin.cc 173 = .ok (.iconst 1, 1) := by decide +kernel
theorem d_Md_begin_174 : decode jMd_begin.cc 174 = .ok (.ireturn, 1) := by decide +kernel
set_option maxHeartbeats 4000000 in
theorem s_Md_begin {g : Mg} {d : Nat} {K : Ou → Wd → Prop} {w : Wd} {p1 : Int} (h : (¬ (w 0 43) = 0 → (V g LM jMd_begin (d + 1) K 61 [(0, vA 0), (2, vI 0)] [] (up (up (up (up (up (up (up (up (up (up w 0 0 0) 0 64 1) 0 65 p1) 0 66 0) 0 78 0) 0 80 0) 0 81 0) 0 82 0) 0 83 0) 0 85 0))) ∧ ((w 0 43) = 0 → (K (.inl (some (vI (-1)))) (up w 0 0 0)))) : V g LM jMd_begin (d + 1) K 0 [(0, vA 0), (1, vI p1)] [] w := by
  refine v_aload_n (pc := 0) d_Md_begin_0 rfl (.head _) ?_
  refine v_iconst (pc := 1) d_Md_begin_1 (by decide) ?_
  refine v_puti (pc := 2) d_Md_begin_2 fp_Md_1 cM_0.1 cM_0.2 (by decide) rfl ?_
  refine v_aload_n (pc := 5) d_Md_begin_5 rfl (.head _) ?_
  refine v_geti (pc := 6) (x := (w 0 43)) d_Md_begin_6 fl_Md_506 cM_0.1 cM_0.2 (Or.inr rfl) rfl ?_
  refine v_ifne (pc := 9) (tgt := 14) d_Md_begin_9 (by decide) (fun c => ?_) (fun c => ?_)
  · replace h := h.1 c
    refine v_aload_n (pc := 14) d_Md_begin_14 rfl (.head _) ?_
    refine v_iconst (pc := 15) d_Md_begin_15 (by decide) ?_
    refine v_putz (pc := 16) d_Md_begin_16 fp_Md_510 cM_0.1 cM_0.2 (by decide) rfl (by decide) ?_
    refine v_aload_n (pc := 19) d_Md_begin_19 rfl (.head _) ?_
    refine v_iload_n (pc := 20) d_Md_begin_20 rfl (.tail _ (.head _)) ?_
    refine v_puti (pc := 21) d_Md_begin_21 fp_Md_559 cM_0.1 cM_0.2 (by decide) rfl ?_
    refine v_aload_n (pc := 24) d_Md_begin_24 rfl (.head _) ?_
    refine v_iconst (pc := 25) d_Md_begin_25 (by decide) ?_
    refine v_puti (pc := 26) d_Md_begin_26 fp_Md_562 cM_0.1 cM_0.2 (by decide) rfl ?_
    refine v_aload_n (pc := 29) d_Md_begin_29 rfl (.head _) ?_
    refine v_iconst (pc := 30) d_Md_begin_30 (by decide) ?_
    refine v_puti (pc := 31) d_Md_begin_31 fp_Md_564 cM_0.1 cM_0.2 (by decide) rfl ?_
    refine v_aload_n (pc := 34) d_Md_begin_34 rfl (.head _) ?_
    refine v_iconst (pc := 35) d_Md_begin_35 (by decide) ?_
    refine v_puti (pc := 36) d_Md_begin_36 fp_Md_567 cM_0.1 cM_0.2 (by decide) rfl ?_
    refine v_aload_n (pc := 39) d_Md_begin_39 rfl (.head _) ?_
    refine v_iconst (pc := 40) d_Md_begin_40 (by decide) ?_
    refine v_puti (pc := 41) d_Md_begin_41 fp_Md_570 cM_0.1 cM_0.2 (by decide) rfl ?_
    refine v_aload_n (pc := 44) d_Md_begin_44 rfl (.head _) ?_
    refine v_iconst (pc := 45) d_Md_begin_45 (by decide) ?_
    refine v_puti (pc := 46) d_Md_begin_46 fp_Md_573 cM_0.1 cM_0.2 (by decide) rfl ?_
    refine v_aload_n (pc := 49) d_Md_begin_49 rfl (.head _) ?_
    refine v_iconst (pc := 50) d_Md_begin_50 (by decide) ?_
    refine v_puti (pc := 51) d_Md_begin_51 fp_Md_576 cM_0.1 cM_0.2 (by decide) rfl ?_
    refine v_aload_n (pc := 54) d_Md_begin_54 rfl (.head _) ?_
    refine v_iconst (pc := 55) d_Md_begin_55 (by decide) ?_
    refine v_puti (pc := 56) d_Md_begin_56 fp_Md_579 cM_0.1 cM_0.2 (by decide) rfl ?_
    refine v_iconst (pc := 59) d_Md_begin_59 (by decide) ?_
    refine v_istore_n (pc := 60) (ls' := [(2, vI 0), (0, vA 0), (1, vI p1)]) d_Md_begin_60 rfl (by decide) rfl ?_
    exact v_sub (List.forall_mem_cons.mpr ⟨(.tail _ (.head _)), (List.forall_mem_cons.mpr ⟨(.head _), (fun _ z => absurd z List.not_mem_nil)⟩)⟩) h
  · replace h := h.2 c
    refine v_iconst (pc := 12) d_Md_begin_12 (by decide) ?_
    exact v_iret (pc := 13) d_Md_begin_13 rfl h
set_option maxHeartbeats 4000000 in
theorem s_Md_begin_61 {g : Mg} {d : Nat} {K : Ou → Wd → Prop} {w : Wd} {x2_ : Int} (h : ((w 0 59) ≤ x2_ → (V g LM jMd_begin (d + 1) K 119 [(0, vA 0), (2, vI 0)] [] w)) ∧ (¬ (w 0 59) ≤ x2_ → ((0 ≤ x2_ ∧ x2_ < 40) ∧ (V g LM jMd_begin (d + 1) K 78 [(0, vA 0), (2, vI x2_), (3, vI 0)] [] (up w 42 (x2_.toNat) 0))))) : V g LM jMd_begin (d + 1) K 61 [(0, vA 0), (2, vI x2_)] [] w := by
  refine v_iload_n (pc := 61) d_Md_begin_61 rfl (.tail _ (.head _)) ?_
  refine v_aload_n (pc := 62) d_Md_begin_62 rfl (.head _) ?_
  refine v_geti (pc := 63) (x := (w 0 59)) d_Md_begin_63 fl_Md_305 cM_0.1 cM_0.2 (Or.inl rfl) rfl ?_
  refine v_icmpge (pc := 66) (tgt := 117) d_Md_begin_66 (by decide) (fun c => ?_) (fun c => ?_)
  · replace h := h.1 c
    refine v_iconst (pc := 117) d_Md_begin_117 (by decide) ?_
    refine v_istore_n (pc := 118) (ls' := [(2, vI 0), (0, vA 0)]) d_Md_begin_118 rfl (by decide) rfl ?_
    exact v_sub (List.forall_mem_cons.mpr ⟨(.tail _ (.head _)), (List.forall_mem_cons.mpr ⟨(.head _), (fun _ z => absurd z List.not_mem_nil)⟩)⟩) h
  · replace h := h.2 c
    refine v_aload_n (pc := 69) d_Md_begin_69 rfl (.head _) ?_
    refine v_getr (C := "") (pc := 70) (r := 42) d_Md_begin_70 fl_Md_270 cM_0.1 cM_0.2 (Or.inr ⟨_, rfl⟩) rM_0_68 ?_
    refine v_iload_n (pc := 73) d_Md_begin_73 rfl (.tail _ (.head _)) ?_
    refine v_iconst (pc := 74) d_Md_begin_74 (by decide) ?_
    refine v_zast (pc := 75) d_Md_begin_75 cM_42.1 cM_42.2 (aM_42 _) (by decide) h.1 ?_
    replace h := h.2
    refine v_iconst (pc := 76) d_Md_begin_76 (by decide) ?_
    refine v_istore_n (pc := 77) (ls' := [(3, vI 0), (0, vA 0), (2, vI x2_)]) d_Md_begin_77 rfl (by decide) rfl ?_
    exact v_sub (List.forall_mem_cons.mpr ⟨(.tail _ (.head _)), (List.forall_mem_cons.mpr ⟨(.tail _ (.tail _ (.head _))), (List.forall_mem_cons.mpr ⟨(.head _), (fun _ z => absurd z List.not_mem_nil)⟩)⟩)⟩) h
set_option maxHeartbeats 4000000 in
theorem s_Md_begin_119 {g : Mg} {d : Nat} {K : Ou → Wd → Prop} {w : Wd} {x2_ : Int} (h : (160 ≤ x2_ → (V g LM jMd_begin (d + 1) K 148 [(0, vA 0), (2, vI 0)] [] w)) ∧ (¬ 160 ≤ x2_ → ((0 ≤ x2_ ∧ x2_ < 160) ∧ ((0 ≤ x2_ ∧ x2_ < 160) ∧ (V g LM jMd_begin (d + 1) K 119 [(0, vA 0), (2, vI (wr (x2_ + 1)))] [] (up (up w 43 (x2_.toNat) 0) 44 (x2_.toNat) 0)))))) : V g LM jMd_begin (d + 1) K 119 [(0, vA 0), (2, vI x2_)] [] w := by
  refine v_iload_n (pc := 119) d_Md_begin_119 rfl (.tail _ (.head _)) ?_
  refine v_sipush (pc := 120) d_Md_begin_120 (by decide) rfl ?_
  refine v_icmpge (pc := 123) (tgt := 146) d_Md_begin_123 (by decide) (fun c => ?_) (fun c => ?_)
  · replace h := h.1 c
    refine v_iconst (pc := 146) d_Md_begin_146 (by decide) ?_
    refine v_istore_n (pc := 147) (ls' := [(2, vI 0), (0, vA 0)]) d_Md_begin_147 rfl (by decide) rfl ?_
    exact v_sub (List.forall_mem_cons.mpr ⟨(.tail _ (.head _)), (List.forall_mem_cons.mpr ⟨(.head _), (fun _ z => absurd z List.not_mem_nil)⟩)⟩) h
  · replace h := h.2 c
    refine v_aload_n (pc := 126) d_Md_begin_126 rfl (.head _) ?_
    refine v_getr (C := "") (pc := 127) (r := 43) d_Md_begin_127 fl_Md_273 cM_0.1 cM_0.2 (Or.inr ⟨_, rfl⟩) rM_0_69 ?_
    refine v_iload_n (pc := 130) d_Md_begin_130 rfl (.tail _ (.head _)) ?_
    refine v_iconst (pc := 131) d_Md_begin_131 (by decide) ?_
    refine v_iast (pc := 132) d_Md_begin_132 cM_43.1 cM_43.2 (aM_43 _) h.1 ?_
    replace h := h.2
    refine v_aload_n (pc := 133) d_Md_begin_133 rfl (.head _) ?_
    refine v_getr (C := "") (pc := 134) (r := 44) d_Md_begin_134 fl_Md_276 cM_0.1 cM_0.2 (Or.inr ⟨_, rfl⟩) rM_0_70 ?_
    refine v_iload_n (pc := 137) d_Md_begin_137 rfl (.tail _ (.head _)) ?_
    refine v_iconst (pc := 138) d_Md_begin_138 (by decide) ?_
    refine v_iast (pc := 139) d_Md_begin_139 cM_44.1 cM_44.2 (aM_44 _) h.1 ?_
    replace h := h.2
    refine v_iinc (pc := 140) (ls' := [(2, vI (wr (x2_ + 1))), (0, vA 0)]) d_Md_begin_140 (.tail _ (.head _)) (by decide) rfl ?_
    refine v_goto (pc := 143) (tgt := 119) d_Md_begin_143 (by decide) ?_
    exact v_sub (List.forall_mem_cons.mpr ⟨(.tail _ (.head _)), (List.forall_mem_cons.mpr ⟨(.head _), (fun _ z => absurd z List.not_mem_nil)⟩)⟩) h
set_option maxHeartbeats 4000000 in
theorem s_Md_begin_78 {g : Mg} {d : Nat} {K : Ou → Wd → Prop} {w : Wd} {x2_ : Int} {x3_ : Int} (h : ((w 16 1) ≤ x3_ → (V g LM jMd_begin (d + 1) K 61 [(0, vA 0), (2, vI (wr (x2_ + 1)))] [] w)) ∧ (¬ (w 16 1) ≤ x3_ → (Cal g LM jMd_wayOf d [vA 0, vI 1, vI x3_] w (fun o w1 => rIt o (fun b => K (.inr b) w1) (fun x2 => (0 ≤ (wr ((wr (8 * x2_)) + x3_)) ∧ (wr ((wr (8 * x2_)) + x3_)) < 320) ∧ (V g LM jMd_begin (d + 1) K 78 [(0, vA 0), (2, vI x2_), (3, vI (wr (x3_ + 1)))] [] (up w1 41 ((wr ((wr (8 * x2_)) + x3_)).toNat) x2))))))) : V g LM jMd_begin (d + 1) K 78 [(0, vA 0), (2, vI x2_), (3, vI x3_)] [] w := by
  refine v_iload_n (pc := 78) d_Md_begin_78 rfl (.tail _ (.tail _ (.head _))) ?_
  refine v_aload_n (pc := 79) d_Md_begin_79 rfl (.head _) ?_
  refine v_getr (C := "") (pc := 80) (r := 16) d_Md_begin_80 fl_Md_185 cM_0.1 cM_0.2 (Or.inr ⟨_, rfl⟩) rM_0_21 ?_
  refine v_iconst (pc := 83) d_Md_begin_83 (by decide) ?_
  refine v_iald (pc := 84) (x := (w 16 1)) d_Md_begin_84 cM_16.1 cM_16.2 rfl (by decide) ?_
  refine v_icmpge (pc := 85) (tgt := 111) d_Md_begin_85 (by decide) (fun c => ?_) (fun c => ?_)
  · replace h := h.1 c
    refine v_iinc (pc := 111) (ls' := [(2, vI (wr (x2_ + 1))), (0, vA 0), (3, vI x3_)]) d_Md_begin_111 (.tail _ (.head _)) (by decide) rfl ?_
    refine v_goto (pc := 114) (tgt := 61) d_Md_begin_114 (by decide) ?_
    exact v_sub (List.forall_mem_cons.mpr ⟨(.tail _ (.head _)), (List.forall_mem_cons.mpr ⟨(.head _), (fun _ z => absurd z List.not_mem_nil)⟩)⟩) h
  · replace h := h.2 c
    refine v_aload_n (pc := 88) d_Md_begin_88 rfl (.head _) ?_
    refine v_getr (C := "") (pc := 89) (r := 41) d_Md_begin_89 fl_Md_267 cM_0.1 cM_0.2 (Or.inr ⟨_, rfl⟩) rM_0_67 ?_
    refine v_bipush (pc := 92) d_Md_begin_92 (by decide) rfl ?_
    refine v_iload_n (pc := 94) d_Md_begin_94 rfl (.tail _ (.head _)) ?_
    refine v_imul (pc := 95) d_Md_begin_95 ?_
    refine v_iload_n (pc := 96) d_Md_begin_96 rfl (.tail _ (.tail _ (.head _))) ?_
    refine v_iadd (pc := 97) d_Md_begin_97 ?_
    refine v_aload_n (pc := 98) d_Md_begin_98 rfl (.head _) ?_
    refine v_iconst (pc := 99) d_Md_begin_99 (by decide) ?_
    refine v_iload_n (pc := 100) d_Md_begin_100 rfl (.tail _ (.tail _ (.head _))) ?_
    refine v_callV (pc := 101) (J' := jMd_wayOf) (d' := d) (o := 0) (ci := 13) (N := 93) (T := cT13) (As := [vI 1, vI x3_]) d_Md_begin_101 ml_Md_582 cM_0.1 cM_0.2 (by decide) rfl rfl (Nat.le_of_ble_eq_true rfl) (Nat.le_refl _) rfl (Cal.weak h (fun o w1 h => ?_))
    rcases rIt_of h with ⟨x2, rfl, h⟩ | ⟨b, rfl, h⟩
    rotate_left
    · exact h
    refine v_iast (pc := 104) d_Md_begin_104 cM_41.1 cM_41.2 (aM_41 _) h.1 ?_
    replace h := h.2
    refine v_iinc (pc := 105) (ls' := [(3, vI (wr (x3_ + 1))), (0, vA 0), (2, vI x2_)]) d_Md_begin_105 (.tail _ (.tail _ (.head _))) (by decide) rfl ?_
    refine v_goto (pc := 108) (tgt := 78) d_Md_begin_108 (by decide) ?_
    exact v_sub (List.forall_mem_cons.mpr ⟨(.tail _ (.head _)), (List.forall_mem_cons.mpr ⟨(.tail _ (.tail _ (.head _))), (List.forall_mem_cons.mpr ⟨(.head _), (fun _ z => absurd z List.not_mem_nil)⟩)⟩)⟩) h
set_option maxHeartbeats 4000000 in
theorem s_Md_begin_148 {g : Mg} {d : Nat} {K : Ou → Wd → Prop} {w : Wd} {x2_ : Int} (h : (4 ≤ x2_ → (K (.inl (some (vI 1))) w)) ∧ (¬ 4 ≤ x2_ → ((0 ≤ x2_ ∧ x2_ < 4) ∧ ((0 ≤ x2_ ∧ x2_ < 4) ∧ (V g LM jMd_begin (d + 1) K 148 [(0, vA 0), (2, vI (wr (x2_ + 1)))] [] (up (up w 45 (x2_.toNat) 0) 46 (x2_.toNat) 0)))))) : V g LM jMd_begin (d + 1) K 148 [(0, vA 0), (2, vI x2_)] [] w := by
  refine v_iload_n (pc := 148) d_Md_begin_148 rfl (.tail _ (.head _)) ?_
  refine v_iconst (pc := 149) d_Md_begin_149 (by decide) ?_
  refine v_icmpge (pc := 150) (tgt := 173) d_Md_begin_150 (by decide) (fun c => ?_) (fun c => ?_)
  · replace h := h.1 c
    refine v_iconst (pc := 173) d_Md_begin_173 (by decide) ?_
    exact v_iret (pc := 174) d_Md_begin_174 rfl h
  · replace h := h.2 c
    refine v_aload_n (pc := 153) d_Md_begin_153 rfl (.head _) ?_
    refine v_getr (C := "") (pc := 154) (r := 45) d_Md_begin_154 fl_Md_279 cM_0.1 cM_0.2 (Or.inr ⟨_, rfl⟩) rM_0_71 ?_
    refine v_iload_n (pc := 157) d_Md_begin_157 rfl (.tail _ (.head _)) ?_
    refine v_iconst (pc := 158) d_Md_begin_158 (by decide) ?_
    refine v_iast (pc := 159) d_Md_begin_159 cM_45.1 cM_45.2 (aM_45 _) h.1 ?_
    replace h := h.2
    refine v_aload_n (pc := 160) d_Md_begin_160 rfl (.head _) ?_
    refine v_getr (C := "") (pc := 161) (r := 46) d_Md_begin_161 fl_Md_282 cM_0.1 cM_0.2 (Or.inr ⟨_, rfl⟩) rM_0_72 ?_
    refine v_iload_n (pc := 164) d_Md_begin_164 rfl (.tail _ (.head _)) ?_
    refine v_iconst (pc := 165) d_Md_begin_165 (by decide) ?_
    refine v_iast (pc := 166) d_Md_begin_166 cM_46.1 cM_46.2 (aM_46 _) h.1 ?_
    replace h := h.2
    refine v_iinc (pc := 167) (ls' := [(2, vI (wr (x2_ + 1))), (0, vA 0)]) d_Md_begin_167 (.tail _ (.head _)) (by decide) rfl ?_
    refine v_goto (pc := 170) (tgt := 148) d_Md_begin_170 (by decide) ?_
    exact v_sub (List.forall_mem_cons.mpr ⟨(.tail _ (.head _)), (List.forall_mem_cons.mpr ⟨(.head _), (fun _ z => absurd z List.not_mem_nil)⟩)⟩) h
theorem d_Md_save_0 : decode jMd_save.cc 0 = .ok (.iconst 0, 1) := by decide +kernel
theorem d_Md_save_1 : decode jMd_save.cc 1 = .ok (.istore_n 3, 1) := by decide +kernel
theorem d_Md_save_2 : decode jMd_save.cc 2 = .ok (.iload_n 3, 1) := by decide +kernel
theorem d_Md_save_3 : decode jMd_save.cc 3 = .ok (.sipush 320, 3) := by decide +kernel
theorem d_Md_save_6 : decode jMd_save.cc 6 = .ok (.if_icmp .ge 20, 3) := by decide +kernel
theorem d_Md_save_9 : decode jMd_save.cc 9 = .ok (.aload_n 1, 1) := by decide +kernel
theorem d_Md_save_10 : decode jMd_save.cc 10 = .ok (.iload_n 2, 1) := by decide +kernel
theorem d_Md_save_11 : decode jMd_save.cc 11 = .ok (.iload_n 3, 1) := by decide +kernel
theorem d_Md_save_12 : decode jMd_save.cc 12 = .ok (.iadd, 1) := by decide +kernel
theorem d_Md_save_13 : decode jMd_save.cc 13 = .ok (.aload_n 0, 1) := by decide +kernel
theorem d_Md_save_14 : decode jMd_save.cc 14 = .ok (.getfield 267, 3) := by decide +kernel
theorem d_Md_save_17 : decode jMd_save.cc 17 = .ok (.iload_n 3, 1) := by decide +kernel
theorem d_Md_save_18 : decode jMd_save.cc 18 = .ok (.iaload, 1) := by decide +kernel
theorem d_Md_save_19 : decode jMd_save.cc 19 = .ok (.iastore, 1) := by decide +kernel
theorem d_Md_save_20 : decode jMd_save.cc 20 = .ok (.iinc 3 1, 3) := by decide +kernel
theorem d_Md_save_23 : decode jMd_save.cc 23 = .ok (.goto (-21), 3) := by decide +kernel
theorem d_Md_save_26 : decode jMd_save.cc 26 = .ok (.iconst 0, 1) := by decide +kernel
theorem d_Md_save_27 : decode jMd_save.cc 27 = .ok (.istore_n 3, 1) := by decide +kernel
theorem d_Md_save_28 : decode jMd_save.cc 28 = .ok (.iload_n 3, 1) := by decide +kernel
theorem d_Md_save_29 : decode jMd_save.cc 29 = .ok (.bipush 40, 2) := by decide +kernel
theorem d_Md_save_31 : decode jMd_save.cc 31 = .ok (.if_icmp .ge 32, 3) := by decide +kernel
theorem d_Md_save_34 : decode jMd_save.cc 34 = .ok (.aload_n 1, 1) := by decide +kernel
theorem d_Md_save_35 : decode jMd_save.cc 35 = .ok (.iload_n 2, 1) := by decide +kernel
theorem d_Md_save_36 : decode jMd_save.cc 36 = .ok (.sipush 320, 3) := by decide +kernel
theorem d_Md_save_39 : decode jMd_save.cc 39 = .ok (.iadd, 1) := by decide +kernel
theorem d_Md_save_40 : decode jMd_save.cc 40 = .ok (.iload_n 3, 1) := by decide +kernel
theorem d_Md_save_41 : decode jMd_save.cc 41 = .ok (.iadd, 1) := by decide +kernel
theorem d_Md_save_42 : decode jMd_save.cc 42 = .ok (.aload_n 0, 1) := by decide +kernel
theorem d_Md_save_43 : decode jMd_save.cc 43 = .ok (.getfield 270, 3) := by decide +kernel
theorem d_Md_save_46 : decode jMd_save.cc 46 = .ok (.iload_n 3, 1) := by decide +kernel
theorem d_Md_save_47 : decode jMd_save.cc 47 = .ok (.baload, 1) := by decide +kernel
theorem d_Md_save_48 : decode jMd_save.cc 48 = .ok (.ifCond .eq 7, 3) := by decide +kernel
theorem d_Md_save_51 : decode jMd_save.cc 51 = .ok (.iconst 1, 1) := by decide +kernel
theorem d_Md_save_52 : decode jMd_save.cc 52 = .ok (.goto 4, 3) := by decide +kernel
theorem d_Md_save_55 : decode jMd_save.cc 55 = .ok (.iconst 0, 1) := by decide +kernel
theorem d_Md_save_56 : decode jMd_save.cc 56 = .ok (.iastore, 1) := by decide +kernel
theorem d_Md_save_57 : decode jMd_save.cc 57 = .ok (.iinc 3 1, 3) := by decide +kernel
theorem d_Md_save_60 : decode jMd_save.cc 60 = .ok (.goto (-32), 3) := by decide +kernel
theorem d_Md_save_63 : decode jMd_save.cc 63 = .ok (.iconst 0, 1) := by decide +kernel
theorem d_Md_save_64 : decode jMd_save.cc 64 = .ok (.istore_n 3, 1) := by decide +kernel
theorem d_Md_save_65 : decode jMd_save.cc 65 = .ok (.iload_n 3, 1) := by decide +kernel
theorem d_Md_save_66 : decode jMd_save.cc 66 = .ok (.sipush 160, 3) := by decide +kernel
theorem d_Md_save_69 : decode jMd_save.cc 69 = .ok (.if_icmp .ge 39, 3) := by decide +kernel
theorem d_Md_save_72 : decode jMd_save.cc 72 = .ok (.aload_n 1, 1) := by decide +kernel
theorem d_Md_save_73 : decode jMd_save.cc 73 = .ok (.iload_n 2, 1) := by decide +kernel
theorem d_Md_save_74 : decode jMd_save.cc 74 = .ok (.sipush 360, 3) := by decide +kernel
theorem d_Md_save_77 : decode jMd_save.cc 77 = .ok (.iadd, 1) := by decide +kernel
theorem d_Md_save_78 : decode jMd_save.cc 78 = .ok (.iload_n 3, 1) := by decide +kernel
theorem d_Md_save_79 : decode jMd_save.cc 79 = .ok (.iadd, 1) := by decide +kernel
theorem d_Md_save_80 : decode jMd_save.cc 80 = .ok (.aload_n 0, 1) := by decide +kernel
theorem d_Md_save_81 : decode jMd_save.cc 81 = .ok (.getfield 273, 3) := by decide +kernel
theorem d_Md_save_84 : decode jMd_save.cc 84 = .ok (.iload_n 3, 1) := by decide +kernel
theorem d_Md_save_85 : decode jMd_save.cc 85 = .ok (.iaload, 1) := by decide +kernel
theorem d_Md_save_86 : decode jMd_save.cc 86 = .ok (.iastore, 1) := by decide +kernel
theorem d_Md_save_87 : decode jMd_save.cc 87 = .ok (.aload_n 1, 1) := by decide +kernel
theorem d_Md_save_88 : decode jMd_save.cc 88 = .ok (.iload_n 2, 1) := by decide +kernel
theorem d_Md_save_89 : decode jMd_save.cc 89 = .ok (.sipush 520, 3) := by decide +kernel
theorem d_Md_save_92 : decode jMd_save.cc 92 = .ok (.iadd, 1) := by decide +kernel
theorem d_Md_save_93 : decode jMd_save.cc 93 = .ok (.iload_n 3, 1) := by decide +kernel
theorem d_Md_save_94 : decode jMd_save.cc 94 = .ok (.iadd, 1) := by decide +kernel
theorem d_Md_save_95 : decode jMd_save.cc 95 = .ok (.aload_n 0, 1) := by decide +kernel
theorem d_Md_save_96 : decode jMd_save.cc 96 = .ok (.getfield 276, 3) := by decide +kernel
theorem d_Md_save_99 : decode jMd_save.cc 99 = .ok (.iload_n 3, 1) := by decide +kernel
theorem d_Md_save_100 : decode jMd_save.cc 100 = .ok (.iaload, 1) := by decide +kernel
theorem d_Md_save_101 : decode jMd_save.cc 101 = .ok (.iastore, 1) := by decide +kernel
theorem d_Md_save_102 : decode jMd_save.cc 102 = .ok (.iinc 3 1, 3) := by decide +kernel
theorem d_Md_save_105 : decode jMd_save.cc 105 = .ok (.goto (-40), 3) := by decide +kernel
theorem d_Md_save_108 : decode jMd_save.cc 108 = .ok (.iconst 0, 1) := by decide +kernel
theorem d_Md_save_109 : decode jMd_save.cc 109 = .ok (.istore_n 3, 1) := by decide +kernel
theorem d_Md_save_110 : decode jMd_save.cc 110 = .ok (.iload_n 3, 1) := by decide +kernel
theorem d_Md_save_111 : decode jMd_save.cc 111 = .ok (.iconst 4, 1) := by decide +kernel
theorem d_Md_save_112 : decode jMd_save.cc 112 = .ok (.if_icmp .ge 39, 3) := by decide +kernel
theorem d_Md_save_115 : decode jMd_save.cc 115 = .ok (.aload_n 1, 1) := by decide +kernel
theorem d_Md_save_116 : decode jMd_save.cc 116 = .ok (.iload_n 2, 1) := by decide +kernel
theorem d_Md_save_117 : decode jMd_save.cc 117 = .ok (.sipush 680, 3) := by decide +kernel
theorem d_Md_save_120 : decode jMd_save.cc 120 = .ok (.iadd, 1) := by decide +kernel
theorem d_Md_save_121 : decode jMd_save.cc 121 = .ok (.iload_n 3, 1) := by decide +kernel
theorem d_Md_save_122 : decode jMd_save.cc 122 = .ok (.iadd, 1) := by decide +kernel
theorem d_Md_save_123 : decode jMd_save.cc 123 = .ok (.aload_n 0, 1) := by decide +kernel
theorem d_Md_save_124 : decode jMd_save.cc 124 = .ok (.getfield 279, 3) := by decide +kernel
theorem d_Md_save_127 : decode jMd_save.cc 127 = .ok (.iload_n 3, 1) := by decide +kernel
theorem d_Md_save_128 : decode jMd_save.cc 128 = .ok (.iaload, 1) := by decide +kernel
theorem d_Md_save_129 : decode jMd_save.cc 129 = .ok (.iastore, 1) := by decide +kernel
theorem d_Md_save_130 : decode jMd_save.cc 130 = .ok (.aload_n 1, 1) := by decide +kernel
theorem d_Md_save_131 : decode jMd_save.cc 131 = .ok (.iload_n 2, 1) := by decide +kernel
theorem d_Md_save_132 : decode jMd_save.cc 132 = .ok (.sipush 684, 3) := by decide +kernel
theorem d_Md_save_135 : decode jMd_save.cc 135 = .ok (.iadd, 1) := by decide +kernel
theorem d_Md_save_136 : decode jMd_save.cc 136 = .ok (.iload_n 3, 1) := by decide +kernel
theorem d_Md_save_137 : decode jMd_save.cc 137 = .ok (.iadd, 1) := by decide +kernel
theorem d_Md_save_138 : decode jMd_save.cc 138 = .ok (.aload_n 0, 1) := by decide +kernel
theorem d_Md_save_139 : decode jMd_save.cc 139 = .ok (.getfield 282, 3) := by decide +kernel
theorem d_Md_save_142 : decode jMd_save.cc 142 = .ok (.iload_n 3, 1) := by decide +kernel
theorem d_Md_save_143 : decode jMd_save.cc 143 = .ok (.iaload, 1) := by decide +kernel
theorem d_Md_save_144 : decode jMd_save.cc 144 = .ok (.iastore, 1) := by decide +kernel
theorem d_Md_save_145 : decode jMd_save.cc 145 = .ok (.iinc 3 1, 3) := by decide +kernel
theorem d_Md_save_148 : decode jMd_save.cc 148 = .ok (.goto (-38), 3) := by decide +kernel
theorem d_Md_save_151 : decode jMd_save.cc 151 = .ok (.return_, 1) := by decide +kernel
set_option maxHeartbeats 4000000 in
theorem s_Md_save {g : Mg} {d : Nat} {K : Ou → Wd → Prop} {w : Wd} {p2 : Int} (h : V g LM jMd_save d K 2 [(0, vA 0), (1, vA 52), (2, vI p2), (3, vI 0)] [] w) : V g LM jMd_save d K 0 [(0, vA 0), (1, vA 52), (2, vI p2)] [] w := by
  refine v_iconst (pc := 0) d_Md_save_0 (by decide) ?_
  refine v_istore_n (pc := 1) (ls' := [(3, vI 0), (0, vA 0), (1, vA 52), (2, vI p2)]) d_Md_save_1 rfl (by decide) rfl ?_
  exact v_sub (List.forall_mem_cons.mpr ⟨(.tail _ (.head _)), (List.forall_mem_cons.mpr ⟨(.tail _ (.tail _ (.head _))), (List.forall_mem_cons.mpr ⟨(.tail _ (.tail _ (.tail _ (.head _)))), (List.forall_mem_cons.mpr ⟨(.head _), (fun _ z => absurd z List.not_mem_nil)⟩)⟩)⟩)⟩) h
set_option maxHeartbeats 4000000 in
theorem s_Md_save_2 {g : Mg} {d : Nat} {K : Ou → Wd → Prop} {w : Wd} {x2_ : Int} {x3_ : Int} (h : (320 ≤ x3_ → (V g LM jMd_save d K 28 [(0, vA 0), (1, vA 52), (2, vI x2_), (3, vI 0)] [] w)) ∧ (¬ 320 ≤ x3_ → ((0 ≤ x3_ ∧ x3_ < 320) ∧ ((0 ≤ (wr (x2_ + x3_)) ∧ (wr (x2_ + x3_)) < 700) ∧ (V g LM jMd_save d K 2 [(0, vA 0), (1, vA 52), (2, vI x2_), (3, vI (wr (x3_ + 1)))] [] (up w 52 ((wr (x2_ + x3_)).toNat) (w 41 x3_.toNat))))))) : V g LM jMd_save d K 2 [(0, vA 0), (1, vA 52), (2, vI x2_), (3, vI x3_)] [] w := by
  refine v_iload_n (pc := 2) d_Md_save_2 rfl (.tail _ (.tail _ (.tail _ (.head _)))) ?_
  refine v_sipush (pc := 3) d_Md_save_3 (by decide) rfl ?_
  refine v_icmpge (pc := 6) (tgt := 26) d_Md_save_6 (by decide) (fun c => ?_) (fun c => ?_)
  · replace h := h.1 c
    refine v_iconst (pc := 26) d_Md_save_26 (by decide) ?_
    refine v_istore_n (pc := 27) (ls' := [(3, vI 0), (0, vA 0), (1, vA 52), (2, vI x2_)]) d_Md_save_27 rfl (by decide) rfl ?_
    exact v_sub (List.forall_mem_cons.mpr ⟨(.tail _ (.head _)), (List.forall_mem_cons.mpr ⟨(.tail _ (.tail _ (.head _))), (List.forall_mem_cons.mpr ⟨(.tail _ (.tail _ (.tail _ (.head _)))), (List.forall_mem_cons.mpr ⟨(.head _), (fun _ z => absurd z List.not_mem_nil)⟩)⟩)⟩)⟩) h
  · replace h := h.2 c
    refine v_aload_n (pc := 9) d_Md_save_9 rfl (.tail _ (.head _)) ?_
    refine v_iload_n (pc := 10) d_Md_save_10 rfl (.tail _ (.tail _ (.head _))) ?_
    refine v_iload_n (pc := 11) d_Md_save_11 rfl (.tail _ (.tail _ (.tail _ (.head _)))) ?_
    refine v_iadd (pc := 12) d_Md_save_12 ?_
    refine v_aload_n (pc := 13) d_Md_save_13 rfl (.head _) ?_
    refine v_getr (C := "") (pc := 14) (r := 41) d_Md_save_14 fl_Md_267 cM_0.1 cM_0.2 (Or.inr ⟨_, rfl⟩) rM_0_67 ?_
    refine v_iload_n (pc := 17) d_Md_save_17 rfl (.tail _ (.tail _ (.tail _ (.head _)))) ?_
    refine v_iald (pc := 18) (x := (w 41 x3_.toNat)) d_Md_save_18 cM_41.1 cM_41.2 rfl h.1 ?_
    replace h := h.2
    refine v_iast (pc := 19) d_Md_save_19 cM_52.1 cM_52.2 (aM_52 _) h.1 ?_
    replace h := h.2
    refine v_iinc (pc := 20) (ls' := [(3, vI (wr (x3_ + 1))), (0, vA 0), (1, vA 52), (2, vI x2_)]) d_Md_save_20 (.tail _ (.tail _ (.tail _ (.head _)))) (by decide) rfl ?_
    refine v_goto (pc := 23) (tgt := 2) d_Md_save_23 (by decide) ?_
    exact v_sub (List.forall_mem_cons.mpr ⟨(.tail _ (.head _)), (List.forall_mem_cons.mpr ⟨(.tail _ (.tail _ (.head _))), (List.forall_mem_cons.mpr ⟨(.tail _ (.tail _ (.tail _ (.head _)))), (List.forall_mem_cons.mpr ⟨(.head _), (fun _ z => absurd z List.not_mem_nil)⟩)⟩)⟩)⟩) h
set_option maxHeartbeats 4000000 in
theorem s_Md_save_28 {g : Mg} {d : Nat} {K : Ou → Wd → Prop} {w : Wd} {x2_ : Int} {x3_ : Int} (h : (40 ≤ x3_ → (V g LM jMd_save d K 65 [(0, vA 0), (1, vA 52), (2, vI x2_), (3, vI 0)] [] w)) ∧ (¬ 40 ≤ x3_ → ((0 ≤ x3_ ∧ x3_ < 40) ∧ (((w 42 x3_.toNat) = 0 → ((0 ≤ (wr ((wr (x2_ + 320)) + x3_)) ∧ (wr ((wr (x2_ + 320)) + x3_)) < 700) ∧ (V g LM jMd_save d K 28 [(0, vA 0), (1, vA 52), (2, vI x2_), (3, vI (wr (x3_ + 1)))] [] (up w 52 ((wr ((wr (x2_ + 320)) + x3_)).toNat) 0)))) ∧ (¬ (w 42 x3_.toNat) = 0 → ((0 ≤ (wr ((wr (x2_ + 320)) + x3_)) ∧ (wr ((wr (x2_ + 320)) + x3_)) < 700) ∧ (V g LM jMd_save d K 28 [(0, vA 0), (1, vA 52), (2, vI x2_), (3, vI (wr (x3_ + 1)))] [] (up w 52 ((wr ((wr (x2_ + 320)) + x3_)).toNat) 1)))))))) : V g LM jMd_save d K 28 [(0, vA 0), (1, vA 52), (2, vI x2_), (3, vI x3_)] [] w := by
  refine v_iload_n (pc := 28) d_Md_save_28 rfl (.tail _ (.tail _ (.tail _ (.head _)))) ?_
  refine v_bipush (pc := 29) d_Md_save_29 (by decide) rfl ?_
  refine v_icmpge (pc := 31) (tgt := 63) d_Md_save_31 (by decide) (fun c => ?_) (fun c => ?_)
  · replace h := h.1 c
    refine v_iconst (pc := 63) d_Md_save_63 (by decide) ?_
    refine v_istore_n (pc := 64) (ls' := [(3, vI 0), (0, vA 0), (1, vA 52), (2, vI x2_)]) d_Md_save_64 rfl (by decide) rfl ?_
    exact v_sub (List.forall_mem_cons.mpr ⟨(.tail _ (.head _)), (List.forall_mem_cons.mpr ⟨(.tail _ (.tail _ (.head _))), (List.forall_mem_cons.mpr ⟨(.tail _ (.tail _ (.tail _ (.head _)))), (List.forall_mem_cons.mpr ⟨(.head _), (fun _ z => absurd z List.not_mem_nil)⟩)⟩)⟩)⟩) h
  · replace h := h.2 c
    refine v_aload_n (pc := 34) d_Md_save_34 rfl (.tail _ (.head _)) ?_
    refine v_iload_n (pc := 35) d_Md_save_35 rfl (.tail _ (.tail _ (.head _))) ?_
    refine v_sipush (pc := 36) d_Md_save_36 (by decide) rfl ?_
    refine v_iadd (pc := 39) d_Md_save_39 ?_
    refine v_iload_n (pc := 40) d_Md_save_40 rfl (.tail _ (.tail _ (.tail _ (.head _)))) ?_
    refine v_iadd (pc := 41) d_Md_save_41 ?_
    refine v_aload_n (pc := 42) d_Md_save_42 rfl (.head _) ?_
    refine v_getr (C := "") (pc := 43) (r := 42) d_Md_save_43 fl_Md_270 cM_0.1 cM_0.2 (Or.inr ⟨_, rfl⟩) rM_0_68 ?_
    refine v_iload_n (pc := 46) d_Md_save_46 rfl (.tail _ (.tail _ (.tail _ (.head _)))) ?_
    refine v_zald (pc := 47) (x := (w 42 x3_.toNat)) d_Md_save_47 cM_42.1 cM_42.2 rfl h.1 ?_
    replace h := h.2
    refine v_ifeq (pc := 48) (tgt := 55) d_Md_save_48 (by decide) (fun c => ?_) (fun c => ?_)
    · replace h := h.1 c
      refine v_iconst (pc := 55) d_Md_save_55 (by decide) ?_
      refine v_iast (pc := 56) d_Md_save_56 cM_52.1 cM_52.2 (aM_52 _) h.1 ?_
      replace h := h.2
      refine v_iinc (pc := 57) (ls' := [(3, vI (wr (x3_ + 1))), (0, vA 0), (1, vA 52), (2, vI x2_)]) d_Md_save_57 (.tail _ (.tail _ (.tail _ (.head _)))) (by decide) rfl ?_
      refine v_goto (pc := 60) (tgt := 28) d_Md_save_60 (by decide) ?_
      exact v_sub (List.forall_mem_cons.mpr ⟨(.tail _ (.head _)), (List.forall_mem_cons.mpr ⟨(.tail _ (.tail _ (.head _))), (List.forall_mem_cons.mpr ⟨(.tail _ (.tail _ (.tail _ (.head _)))), (List.forall_mem_cons.mpr ⟨(.head _), (fun _ z => absurd z List.not_mem_nil)⟩)⟩)⟩)⟩) h
    · replace h := h.2 c
      refine v_iconst (pc := 51) d_Md_save_51 (by decide) ?_
      refine v_goto (pc := 52) (tgt := 56) d_Md_save_52 (by decide) ?_
      refine v_iast (pc := 56) d_Md_save_56 cM_52.1 cM_52.2 (aM_52 _) h.1 ?_
      replace h := h.2
      refine v_iinc (pc := 57) (ls' := [(3, vI (wr (x3_ + 1))), (0, vA 0), (1, vA 52), (2, vI x2_)]) d_Md_save_57 (.tail _ (.tail _ (.tail _ (.head _)))) (by decide) rfl ?_
      refine v_goto (pc := 60) (tgt := 28) d_Md_save_60 (by decide) ?_
      exact v_sub (List.forall_mem_cons.mpr ⟨(.tail _ (.head _)), (List.forall_mem_cons.mpr ⟨(.tail _ (.tail _ (.head _))), (List.forall_mem_cons.mpr ⟨(.tail _ (.tail _ (.tail _ (.head _)))), (List.forall_mem_cons.mpr ⟨(.head _), (fun _ z => absurd z List.not_mem_nil)⟩)⟩)⟩)⟩) h
set_option maxHeartbeats 4000000 in
theorem s_Md_save_65 {g : Mg} {d : Nat} {K : Ou → Wd → Prop} {w : Wd} {x2_ : Int} {x3_ : Int} (h : (160 ≤ x3_ → (V g LM jMd_save d K 110 [(0, vA 0), (1, vA 52), (2, vI x2_), (3, vI 0)] [] w)) ∧ (¬ 160 ≤ x3_ → ((0 ≤ x3_ ∧ x3_ < 160) ∧ ((0 ≤ (wr ((wr (x2_ + 360)) + x3_)) ∧ (wr ((wr (x2_ + 360)) + x3_)) < 700) ∧ ((0 ≤ x3_ ∧ x3_ < 160) ∧ ((0 ≤ (wr ((wr (x2_ + 520)) + x3_)) ∧ (wr ((wr (x2_ + 520)) + x3_)) < 700) ∧ (V g LM jMd_save d K 65 [(0, vA 0), (1, vA 52), (2, vI x2_), (3, vI (wr (x3_ + 1)))] [] (up (up w 52 ((wr ((wr (x2_ + 360)) + x3_)).toNat) (w 43 x3_.toNat)) 52 ((wr ((wr (x2_ + 520)) + x3_)).toNat) (w 44 x3_.toNat))))))))) : V g LM jMd_save d K 65 [(0, vA 0), (1, vA 52), (2, vI x2_), (3, vI x3_)] [] w := by
  refine v_iload_n (pc := 65) d_Md_save_65 rfl (.tail _ (.tail _ (.tail _ (.head _)))) ?_
  refine v_sipush (pc := 66) d_Md_save_66 (by decide) rfl ?_
  refine v_icmpge (pc := 69) (tgt := 108) d_Md_save_69 (by decide) (fun c => ?_) (fun c => ?_)
  · replace h := h.1 c
    refine v_iconst (pc := 108) d_Md_save_108 (by decide) ?_
    refine v_istore_n (pc := 109) (ls' := [(3, vI 0), (0, vA 0), (1, vA 52), (2, vI x2_)]) d_Md_save_109 rfl (by decide) rfl ?_
    exact v_sub (List.forall_mem_cons.mpr ⟨(.tail _ (.head _)), (List.forall_mem_cons.mpr ⟨(.tail _ (.tail _ (.head _))), (List.forall_mem_cons.mpr ⟨(.tail _ (.tail _ (.tail _ (.head _)))), (List.forall_mem_cons.mpr ⟨(.head _), (fun _ z => absurd z List.not_mem_nil)⟩)⟩)⟩)⟩) h
  · replace h := h.2 c
    refine v_aload_n (pc := 72) d_Md_save_72 rfl (.tail _ (.head _)) ?_
    refine v_iload_n (pc := 73) d_Md_save_73 rfl (.tail _ (.tail _ (.head _))) ?_
    refine v_sipush (pc := 74) d_Md_save_74 (by decide) rfl ?_
    refine v_iadd (pc := 77) d_Md_save_77 ?_
    refine v_iload_n (pc := 78) d_Md_save_78 rfl (.tail _ (.tail _ (.tail _ (.head _)))) ?_
    refine v_iadd (pc := 79) d_Md_save_79 ?_
    refine v_aload_n (pc := 80) d_Md_save_80 rfl (.head _) ?_
    refine v_getr (C := "") (pc := 81) (r := 43) d_Md_save_81 fl_Md_273 cM_0.1 cM_0.2 (Or.inr ⟨_, rfl⟩) rM_0_69 ?_
    refine v_iload_n (pc := 84) d_Md_save_84 rfl (.tail _ (.tail _ (.tail _ (.head _)))) ?_
    refine v_iald (pc := 85) (x := (w 43 x3_.toNat)) d_Md_save_85 cM_43.1 cM_43.2 rfl h.1 ?_
    replace h := h.2
    refine v_iast (pc := 86) d_Md_save_86 cM_52.1 cM_52.2 (aM_52 _) h.1 ?_
    replace h := h.2
    refine v_aload_n (pc := 87) d_Md_save_87 rfl (.tail _ (.head _)) ?_
    refine v_iload_n (pc := 88) d_Md_save_88 rfl (.tail _ (.tail _ (.head _))) ?_
    refine v_sipush (pc := 89) d_Md_save_89 (by decide) rfl ?_
    refine v_iadd (pc := 92) d_Md_save_92 ?_
    refine v_iload_n (pc := 93) d_Md_save_93 rfl (.tail _ (.tail _ (.tail _ (.head _)))) ?_
    refine v_iadd (pc := 94) d_Md_save_94 ?_
    refine v_aload_n (pc := 95) d_Md_save_95 rfl (.head _) ?_
    refine v_getr (C := "") (pc := 96) (r := 44) d_Md_save_96 fl_Md_276 cM_0.1 cM_0.2 (Or.inr ⟨_, rfl⟩) rM_0_70 ?_
    refine v_iload_n (pc := 99) d_Md_save_99 rfl (.tail _ (.tail _ (.tail _ (.head _)))) ?_
    refine v_iald (pc := 100) (x := (w 44 x3_.toNat)) d_Md_save_100 cM_44.1 cM_44.2 rfl h.1 ?_
    replace h := h.2
    refine v_iast (pc := 101) d_Md_save_101 cM_52.1 cM_52.2 (aM_52 _) h.1 ?_
    replace h := h.2
    refine v_iinc (pc := 102) (ls' := [(3, vI (wr (x3_ + 1))), (0, vA 0), (1, vA 52), (2, vI x2_)]) d_Md_save_102 (.tail _ (.tail _ (.tail _ (.head _)))) (by decide) rfl ?_
    refine v_goto (pc := 105) (tgt := 65) d_Md_save_105 (by decide) ?_
    exact v_sub (List.forall_mem_cons.mpr ⟨(.tail _ (.head _)), (List.forall_mem_cons.mpr ⟨(.tail _ (.tail _ (.head _))), (List.forall_mem_cons.mpr ⟨(.tail _ (.tail _ (.tail _ (.head _)))), (List.forall_mem_cons.mpr ⟨(.head _), (fun _ z => absurd z List.not_mem_nil)⟩)⟩)⟩)⟩) h
set_option maxHeartbeats 4000000 in
theorem s_Md_save_110 {g : Mg} {d : Nat} {K : Ou → Wd → Prop} {w : Wd} {x2_ : Int} {x3_ : Int} (h : (4 ≤ x3_ → (K (.inl none) w)) ∧ (¬ 4 ≤ x3_ → ((0 ≤ x3_ ∧ x3_ < 4) ∧ ((0 ≤ (wr ((wr (x2_ + 680)) + x3_)) ∧ (wr ((wr (x2_ + 680)) + x3_)) < 700) ∧ ((0 ≤ x3_ ∧ x3_ < 4) ∧ ((0 ≤ (wr ((wr (x2_ + 684)) + x3_)) ∧ (wr ((wr (x2_ + 684)) + x3_)) < 700) ∧ (V g LM jMd_save d K 110 [(0, vA 0), (1, vA 52), (2, vI x2_), (3, vI (wr (x3_ + 1)))] [] (up (up w 52 ((wr ((wr (x2_ + 680)) + x3_)).toNat) (w 45 x3_.toNat)) 52 ((wr ((wr (x2_ + 684)) + x3_)).toNat) (w 46 x3_.toNat))))))))) : V g LM jMd_save d K 110 [(0, vA 0), (1, vA 52), (2, vI x2_), (3, vI x3_)] [] w := by
  refine v_iload_n (pc := 110) d_Md_save_110 rfl (.tail _ (.tail _ (.tail _ (.head _)))) ?_
  refine v_iconst (pc := 111) d_Md_save_111 (by decide) ?_
  refine v_icmpge (pc := 112) (tgt := 151) d_Md_save_112 (by decide) (fun c => ?_) (fun c => ?_)
  · replace h := h.1 c
    exact v_vret (pc := 151) d_Md_save_151 rfl h
  · replace h := h.2 c
    refine v_aload_n (pc := 115) d_Md_save_115 rfl (.tail _ (.head _)) ?_
    refine v_iload_n (pc := 116) d_Md_save_116 rfl (.tail _ (.tail _ (.head _))) ?_
    refine v_sipush (pc := 117) d_Md_save_117 (by decide) rfl ?_
    refine v_iadd (pc := 120) d_Md_save_120 ?_
    refine v_iload_n (pc := 121) d_Md_save_121 rfl (.tail _ (.tail _ (.tail _ (.head _)))) ?_
    refine v_iadd (pc := 122) d_Md_save_122 ?_
    refine v_aload_n (pc := 123) d_Md_save_123 rfl (.head _) ?_
    refine v_getr (C := "") (pc := 124) (r := 45) d_Md_save_124 fl_Md_279 cM_0.1 cM_0.2 (Or.inr ⟨_, rfl⟩) rM_0_71 ?_
    refine v_iload_n (pc := 127) d_Md_save_127 rfl (.tail _ (.tail _ (.tail _ (.head _)))) ?_
    refine v_iald (pc := 128) (x := (w 45 x3_.toNat)) d_Md_save_128 cM_45.1 cM_45.2 rfl h.1 ?_
    replace h := h.2
    refine v_iast (pc := 129) d_Md_save_129 cM_52.1 cM_52.2 (aM_52 _) h.1 ?_
    replace h := h.2
    refine v_aload_n (pc := 130) d_Md_save_130 rfl (.tail _ (.head _)) ?_
    refine v_iload_n (pc := 131) d_Md_save_131 rfl (.tail _ (.tail _ (.head _))) ?_
    refine v_sipush (pc := 132) d_Md_save_132 (by decide) rfl ?_
    refine v_iadd (pc := 135) d_Md_save_135 ?_
    refine v_iload_n (pc := 136) d_Md_save_136 rfl (.tail _ (.tail _ (.tail _ (.head _)))) ?_
    refine v_iadd (pc := 137) d_Md_save_137 ?_
    refine v_aload_n (pc := 138) d_Md_save_138 rfl (.head _) ?_
    refine v_getr (C := "") (pc := 139) (r := 46) d_Md_save_139 fl_Md_282 cM_0.1 cM_0.2 (Or.inr ⟨_, rfl⟩) rM_0_72 ?_
    refine v_iload_n (pc := 142) d_Md_save_142 rfl (.tail _ (.tail _ (.tail _ (.head _)))) ?_
    refine v_iald (pc := 143) (x := (w 46 x3_.toNat)) d_Md_save_143 cM_46.1 cM_46.2 rfl h.1 ?_
    replace h := h.2
    refine v_iast (pc := 144) d_Md_save_144 cM_52.1 cM_52.2 (aM_52 _) h.1 ?_
    replace h := h.2
    refine v_iinc (pc := 145) (ls' := [(3, vI (wr (x3_ + 1))), (0, vA 0), (1, vA 52), (2, vI x2_)]) d_Md_save_145 (.tail _ (.tail _ (.tail _ (.head _)))) (by decide) rfl ?_
    refine v_goto (pc := 148) (tgt := 110) d_Md_save_148 (by decide) ?_
    exact v_sub (List.forall_mem_cons.mpr ⟨(.tail _ (.head _)), (List.forall_mem_cons.mpr ⟨(.tail _ (.tail _ (.head _))), (List.forall_mem_cons.mpr ⟨(.tail _ (.tail _ (.tail _ (.head _)))), (List.forall_mem_cons.mpr ⟨(.head _), (fun _ z => absurd z List.not_mem_nil)⟩)⟩)⟩)⟩) h
theorem d_Md_bring_0 : decode jMd_bring.cc 0 = .ok (.iconst 0, 1) := by decide +kernel
theorem d_Md_bring_1 : decode jMd_bring.cc 1 = .ok (.istore_n 3, 1) := by decide +kernel
theorem d_Md_bring_2 : decode jMd_bring.cc 2 = .ok (.iload_n 3, 1) := by decide +kernel
theorem d_Md_bring_3 : decode jMd_bring.cc 3 = .ok (.sipush 320, 3) := by decide +kernel
theorem d_Md_bring_6 : decode jMd_bring.cc 6 = .ok (.if_icmp .ge 20, 3) := by decide +kernel
theorem d_Md_bring_9 : decode jMd_bring.cc 9 = .ok (.aload_n 0, 1) := by decide +kernel
theorem d_Md_bring_10 : decode jMd_bring.cc 10 = .ok (.getfield 267, 3) := by decide +kernel
theorem d_Md_bring_13 : decode jMd_bring.cc 13 = .ok (.iload_n 3, 1) := by decide +kernel
theorem d_Md_bring_14 : decode jMd_bring.cc 14 = .ok (.aload_n 1, 1) := by decide +kernel
theorem d_Md_bring_15 : decode jMd_bring.cc 15 = .ok (.iload_n 2, 1) := by decide +kernel
theorem d_Md_bring_16 : decode jMd_bring.cc 16 = .ok (.iload_n 3, 1) := by decide +kernel
theorem d_Md_bring_17 : decode jMd_bring.cc 17 = .ok (.iadd, 1) := by decide +kernel
theorem d_Md_bring_18 : decode jMd_bring.cc 18 = .ok (.iaload, 1) := by decide +kernel
theorem d_Md_bring_19 : decode jMd_bring.cc 19 = .ok (.iastore, 1) := by decide +kernel
theorem d_Md_bring_20 : decode jMd_bring.cc 20 = .ok (.iinc 3 1, 3) := by decide +kernel
theorem d_Md_bring_23 : decode jMd_bring.cc 23 = .ok (.goto (-21), 3) := by decide +kernel
theorem d_Md_bring_26 : decode jMd_bring.cc 26 = .ok (.iconst 0, 1) := by decide +kernel
theorem d_Md_bring_27 : decode jMd_bring.cc 27 = .ok (.istore_n 3, 1) := by decide +kernel
theorem d_Md_bring_28 : decode jMd_bring.cc 28 = .ok (.iload_n 3, 1) := by decide +kernel
theorem d_Md_bring_29 : decode jMd_bring.cc 29 = .ok (.bipush 40, 2) := by decide +kernel
theorem d_Md_bring_31 : decode jMd_bring.cc 31 = .ok (.if_icmp .ge 33, 3) := by decide +kernel
theorem d_Md_bring_34 : decode jMd_bring.cc 34 = .ok (.aload_n 0, 1) := by decide +kernel
theorem d_Md_bring_35 : decode jMd_bring.cc 35 = .ok (.getfield 270, 3) := by decide +kernel
theorem d_Md_bring_38 : decode jMd_bring.cc 38 = .ok (.iload_n 3, 1) := by decide +kernel
theorem d_Md_bring_39 : decode jMd_bring.cc 39 = .ok (.aload_n 1, 1) := by decide +kernel
theorem d_Md_bring_40 : decode jMd_bring.cc 40 = .ok (.iload_n 2, 1) := by decide +kernel
theorem d_Md_bring_41 : decode jMd_bring.cc 41 = .ok (.sipush 320, 3) := by decide +kernel
theorem d_Md_bring_44 : decode jMd_bring.cc 44 = .ok (.iadd, 1) := by decide +kernel
theorem d_Md_bring_45 : decode jMd_bring.cc 45 = .ok (.iload_n 3, 1) := by decide +kernel
theorem d_Md_bring_46 : decode jMd_bring.cc 46 = .ok (.iadd, 1) := by decide +kernel
theorem d_Md_bring_47 : decode jMd_bring.cc 47 = .ok (.iaload, 1) := by decide +kernel
theorem d_Md_bring_48 : decode jMd_bring.cc 48 = .ok (.iconst 1, 1) := by decide +kernel
theorem d_Md_bring_49 : decode jMd_bring.cc 49 = .ok (.if_icmp .ne 7, 3) := by decide +kernel
theorem d_Md_bring_52 : decode jMd_bring.cc 52 = .ok (.iconst 1, 1) := by decide +kernel
theorem d_Md_bring_53 : decode jMd_bring.cc 53 = .ok (.goto 4, 3) := by decide +kernel
theorem d_Md_bring_56 : decode jMd_bring.cc 56 = .ok (.iconst 0, 1) := by decide +kernel
theorem d_Md_bring_57 : decode jMd_bring.cc 57 = .ok (.bastore, 1) := by decide +kernel
theorem d_Md_bring_58 : decode jMd_bring.cc 58 = .ok (.iinc 3 1, 3) := by decide +kernel
theorem d_Md_bring_61 : decode jMd_bring.cc 61 = .ok (.goto (-33), 3) := by decide +kernel
theorem d_Md_bring_64 : decode jMd_bring.cc 64 = .ok (.iconst 0, 1) := by decide +kernel
theorem d_Md_bring_65 : decode jMd_bring.cc 65 = .ok (.istore_n 3, 1) := by decide +kernel
theorem d_Md_bring_66 : decode jMd_bring.cc 66 = .ok (.iload_n 3, 1) := by decide +kernel
theorem d_Md_bring_67 : decode jMd_bring.cc 67 = .ok (.sipush 160, 3) := by decide +kernel
theorem d_Md_bring_70 : decode jMd_bring.cc 70 = .ok (.if_icmp .ge 39, 3) := by decide +kernel
theorem d_Md_bring_73 : decode jMd_bring.cc 73 = .ok (.aload_n 0, 1) := by decide +kernel
theorem d_Md_bring_74 : decode jMd_bring.cc 74 = .ok (.getfield 273, 3) := by decide +kernel
theorem d_Md_bring_77 : decode jMd_bring.cc 77 = .ok (.iload_n 3, 1) := by decide +kernel
theorem d_Md_bring_78 : decode jMd_bring.cc 78 = .ok (.aload_n 1, 1) := by decide +kernel
theorem d_Md_bring_79 : decode jMd_bring.cc 79 = .ok (.iload_n 2, 1) := by decide +kernel
theorem d_Md_bring_80 : decode jMd_bring.cc 80 = .ok (.sipush 360, 3) := by decide +kernel
theorem d_Md_bring_83 : decode jMd_bring.cc 83 = .ok (.iadd, 1) := by decide +kernel
theorem d_Md_bring_84 : decode jMd_bring.cc 84 = .ok (.iload_n 3, 1) := by decide +kernel
theorem d_Md_bring_85 : decode jMd_bring.cc 85 = .ok (.iadd, 1) := by decide +kernel
theorem d_Md_bring_86 : decode jMd_bring.cc 86 = .ok (.iaload, 1) := by decide +kernel
theorem d_Md_bring_87 : decode jMd_bring.cc 87 = .ok (.iastore, 1) := by decide +kernel
theorem d_Md_bring_88 : decode jMd_bring.cc 88 = .ok (.aload_n 0, 1) := by decide +kernel
theorem d_Md_bring_89 : decode jMd_bring.cc 89 = .ok (.getfield 276, 3) := by decide +kernel
theorem d_Md_bring_92 : decode jMd_bring.cc 92 = .ok (.iload_n 3, 1) := by decide +kernel
theorem d_Md_bring_93 : decode jMd_bring.cc 93 = .ok (.aload_n 1, 1) := by decide +kernel
theorem d_Md_bring_94 : decode jMd_bring.cc 94 = .ok (.iload_n 2, 1) := by decide +kernel
theorem d_Md_bring_95 : decode jMd_bring.cc 95 = .ok (.sipush 520, 3) := by decide +kernel
theorem d_Md_bring_98 : decode jMd_bring.cc 98 = .ok (.iadd, 1) := by decide +kernel
theorem d_Md_bring_99 : decode jMd_bring.cc 99 = .ok (.iload_n 3, 1) := by decide +kernel
theorem d_Md_bring_100 : decode jMd_bring.cc 100 = .ok (.iadd, 1) := by decide +kernel
theorem d_Md_bring_101 : decode jMd_bring.cc 101 = .ok (.iaload, 1) := by decide +kernel
theorem d_Md_bring_102 : decode jMd_bring.cc 102 = .ok (.iastore, 1) := by decide +kernel
theorem d_Md_bring_103 : decode jMd_bring.cc 103 = .ok (.iinc 3 1, 3) := by decide +kernel
theorem d_Md_bring_106 : decode jMd_bring.cc 106 = .ok (.goto (-40), 3) := by decide +kernel
theorem d_Md_bring_109 : decode jMd_bring.cc 109 = .ok (.iconst 0, 1) := by decide +kernel
theorem d_Md_bring_110 : decode jMd_bring.cc 110 = .ok (.istore_n 3, 1) := by decide +kernel
theorem d_Md_bring_111 : decode jMd_bring.cc 111 = .ok (.iload_n 3, 1) := by decide +kernel
theorem d_Md_bring_112 : decode jMd_bring.cc 112 = .ok (.iconst 4, 1) := by decide +kernel
theorem d_Md_bring_113 : decode jMd_bring.cc 113 = .ok (.if_icmp .ge 39, 3) := by decide +kernel
theorem d_Md_bring_116 : decode jMd_bring.cc 116 = .ok (.aload_n 0, 1) := by decide +kernel
theorem d_Md_bring_117 : decode jMd_bring.cc 117 = .ok (.getfield 279, 3) := by decide +kernel
theorem d_Md_bring_120 : decode jMd_bring.cc 120 = .ok (.iload_n 3, 1) := by decide +kernel
theorem d_Md_bring_121 : decode jMd_bring.cc 121 = .ok (.aload_n 1, 1) := by decide +kernel
theorem d_Md_bring_122 : decode jMd_bring.cc 122 = .ok (.iload_n 2, 1) := by decide +kernel
theorem d_Md_bring_123 : decode jMd_bring.cc 123 = .ok (.sipush 680, 3) := by decide +kernel
theorem d_Md_bring_126 : decode jMd_bring.cc 126 = .ok (.iadd, 1) := by decide +kernel
theorem d_Md_bring_127 : decode jMd_bring.cc 127 = .ok (.iload_n 3, 1) := by decide +kernel
theorem d_Md_bring_128 : decode jMd_bring.cc 128 = .ok (.iadd, 1) := by decide +kernel
theorem d_Md_bring_129 : decode jMd_bring.cc 129 = .ok (.iaload, 1) := by decide +kernel
theorem d_Md_bring_130 : decode jMd_bring.cc 130 = .ok (.iastore, 1) := by decide +kernel
theorem d_Md_bring_131 : decode jMd_bring.cc 131 = .ok (.aload_n 0, 1) := by decide +kernel
theorem d_Md_bring_132 : decode jMd_bring.cc 132 = .ok (.getfield 282, 3) := by decide +kernel
theorem d_Md_bring_135 : decode jMd_bring.cc 135 = .ok (.iload_n 3, 1) := by decide +kernel
theorem d_Md_bring_136 : decode jMd_bring.cc 136 = .ok (.aload_n 1, 1) := by decide +kernel
theorem d_Md_bring_137 : decode jMd_bring.cc 137 = .ok (.iload_n 2, 1) := by decide +kernel
theorem d_Md_bring_138 : decode jMd_bring.cc 138 = .ok (.sipush 684, 3) := by decide +kernel
theorem d_Md_bring_141 : decode jMd_bring.cc 141 = .ok (.iadd, 1) := by decide +kernel
theorem d_Md_bring_142 : decode jMd_bring.cc 142 = .ok (.iload_n 3, 1) := by decide +kernel
theorem d_Md_bring_143 : decode jMd_bring.cc 143 = .ok (.iadd, 1) := by decide +kernel
theorem d_Md_bring_144 : decode jMd_bring.cc 144 = .ok (.iaload, 1) := by decide +kernel
theorem d_Md_bring_145 : decode jMd_bring.cc 145 = .ok (.iastore, 1) := by decide +kernel
theorem d_Md_bring_146 : decode jMd_bring.cc 146 = .ok (.iinc 3 1, 3) := by decide +kernel
theorem d_Md_bring_149 : decode jMd_bring.cc 149 = .ok (.goto (-38), 3) := by decide +kernel
theorem d_Md_bring_152 : decode jMd_bring.cc 152 = .ok (.return_, 1) := by decide +kernel
set_option maxHeartbeats 4000000 in
theorem s_Md_bring {g : Mg} {d : Nat} {K : Ou → Wd → Prop} {w : Wd} {p2 : Int} (h : V g LM jMd_bring d K 2 [(0, vA 0), (1, vA 52), (2, vI p2), (3, vI 0)] [] w) : V g LM jMd_bring d K 0 [(0, vA 0), (1, vA 52), (2, vI p2)] [] w := by
  refine v_iconst (pc := 0) d_Md_bring_0 (by decide) ?_
  refine v_istore_n (pc := 1) (ls' := [(3, vI 0), (0, vA 0), (1, vA 52), (2, vI p2)]) d_Md_bring_1 rfl (by decide) rfl ?_
  exact v_sub (List.forall_mem_cons.mpr ⟨(.tail _ (.head _)), (List.forall_mem_cons.mpr ⟨(.tail _ (.tail _ (.head _))), (List.forall_mem_cons.mpr ⟨(.tail _ (.tail _ (.tail _ (.head _)))), (List.forall_mem_cons.mpr ⟨(.head _), (fun _ z => absurd z List.not_mem_nil)⟩)⟩)⟩)⟩) h
set_option maxHeartbeats 4000000 in
theorem s_Md_bring_2 {g : Mg} {d : Nat} {K : Ou → Wd → Prop} {w : Wd} {x2_ : Int} {x3_ : Int} (h : (320 ≤ x3_ → (V g LM jMd_bring d K 28 [(0, vA 0), (1, vA 52), (2, vI x2_), (3, vI 0)] [] w)) ∧ (¬ 320 ≤ x3_ → ((0 ≤ (wr (x2_ + x3_)) ∧ (wr (x2_ + x3_)) < 700) ∧ ((0 ≤ x3_ ∧ x3_ < 320) ∧ (V g LM jMd_bring d K 2 [(0, vA 0), (1, vA 52), (2, vI x2_), (3, vI (wr (x3_ + 1)))] [] (up w 41 (x3_.toNat) (w 52 ((wr (x2_ + x3_)).toNat)))))))) : V g LM jMd_bring d K 2 [(0, vA 0), (1, vA 52), (2, vI x2_), (3, vI x3_)] [] w := by
  refine v_iload_n (pc := 2) d_Md_bring_2 rfl (.tail _ (.tail _ (.tail _ (.head _)))) ?_
  refine v_sipush (pc := 3) d_Md_bring_3 (by decide) rfl ?_
  refine v_icmpge (pc := 6) (tgt := 26) d_Md_bring_6 (by decide) (fun c => ?_) (fun c => ?_)
  · replace h := h.1 c
    refine v_iconst (pc := 26) d_Md_bring_26 (by decide) ?_
    refine v_istore_n (pc := 27) (ls' := [(3, vI 0), (0, vA 0), (1, vA 52), (2, vI x2_)]) d_Md_bring_27 rfl (by decide) rfl ?_
    exact v_sub (List.forall_mem_cons.mpr ⟨(.tail _ (.head _)), (List.forall_mem_cons.mpr ⟨(.tail _ (.tail _ (.head _))), (List.forall_mem_cons.mpr ⟨(.tail _ (.tail _ (.tail _ (.head _)))), (List.forall_mem_cons.mpr ⟨(.head _), (fun _ z => absurd z List.not_mem_nil)⟩)⟩)⟩)⟩) h
  · replace h := h.2 c
    refine v_aload_n (pc := 9) d_Md_bring_9 rfl (.head _) ?_
    refine v_getr (C := "") (pc := 10) (r := 41) d_Md_bring_10 fl_Md_267 cM_0.1 cM_0.2 (Or.inr ⟨_, rfl⟩) rM_0_67 ?_
    refine v_iload_n (pc := 13) d_Md_bring_13 rfl (.tail _ (.tail _ (.tail _ (.head _)))) ?_
    refine v_aload_n (pc := 14) d_Md_bring_14 rfl (.tail _ (.head _)) ?_
    refine v_iload_n (pc := 15) d_Md_bring_15 rfl (.tail _ (.tail _ (.head _))) ?_
    refine v_iload_n (pc := 16) d_Md_bring_16 rfl (.tail _ (.tail _ (.tail _ (.head _)))) ?_
    refine v_iadd (pc := 17) d_Md_bring_17 ?_
    refine v_iald (pc := 18) (x := (w 52 ((wr (x2_ + x3_)).toNat))) d_Md_bring_18 cM_52.1 cM_52.2 rfl h.1 ?_
    replace h := h.2
    refine v_iast (pc := 19) d_Md_bring_19 cM_41.1 cM_41.2 (aM_41 _) h.1 ?_
    replace h := h.2
    refine v_iinc (pc := 20) (ls' := [(3, vI (wr (x3_ + 1))), (0, vA 0), (1, vA 52), (2, vI x2_)]) d_Md_bring_20 (.tail _ (.tail _ (.tail _ (.head _)))) (by decide) rfl ?_
    refine v_goto (pc := 23) (tgt := 2) d_Md_bring_23 (by decide) ?_
    exact v_sub (List.forall_mem_cons.mpr ⟨(.tail _ (.head _)), (List.forall_mem_cons.mpr ⟨(.tail _ (.tail _ (.head _))), (List.forall_mem_cons.mpr ⟨(.tail _ (.tail _ (.tail _ (.head _)))), (List.forall_mem_cons.mpr ⟨(.head _), (fun _ z => absurd z List.not_mem_nil)⟩)⟩)⟩)⟩) h
set_option maxHeartbeats 4000000 in
theorem s_Md_bring_28 {g : Mg} {d : Nat} {K : Ou → Wd → Prop} {w : Wd} {x2_ : Int} {x3_ : Int} (h : (40 ≤ x3_ → (V g LM jMd_bring d K 66 [(0, vA 0), (1, vA 52), (2, vI x2_), (3, vI 0)] [] w)) ∧ (¬ 40 ≤ x3_ → ((0 ≤ (wr ((wr (x2_ + 320)) + x3_)) ∧ (wr ((wr (x2_ + 320)) + x3_)) < 700) ∧ ((¬ (w 52 ((wr ((wr (x2_ + 320)) + x3_)).toNat)) = 1 → ((0 ≤ x3_ ∧ x3_ < 40) ∧ (V g LM jMd_bring d K 28 [(0, vA 0), (1, vA 52), (2, vI x2_), (3, vI (wr (x3_ + 1)))] [] (up w 42 (x3_.toNat) 0)))) ∧ ((w 52 ((wr ((wr (x2_ + 320)) + x3_)).toNat)) = 1 → ((0 ≤ x3_ ∧ x3_ < 40) ∧ (V g LM jMd_bring d K 28 [(0, vA 0), (1, vA 52), (2, vI x2_), (3, vI (wr (x3_ + 1)))] [] (up w 42 (x3_.toNat) 1)))))))) : V g LM jMd_bring d K 28 [(0, vA 0), (1, vA 52), (2, vI x2_), (3, vI x3_)] [] w := by
  refine v_iload_n (pc := 28) d_Md_bring_28 rfl (.tail _ (.tail _ (.tail _ (.head _)))) ?_
  refine v_bipush (pc := 29) d_Md_bring_29 (by decide) rfl ?_
  refine v_icmpge (pc := 31) (tgt := 64) d_Md_bring_31 (by decide) (fun c => ?_) (fun c => ?_)
  · replace h := h.1 c
    refine v_iconst (pc := 64) d_Md_bring_64 (by decide) ?_
    refine v_istore_n (pc := 65) (ls' := [(3, vI 0), (0, vA 0), (1, vA 52), (2, vI x2_)]) d_Md_bring_65 rfl (by decide) rfl ?_
    exact v_sub (List.forall_mem_cons.mpr ⟨(.tail _ (.head _)), (List.forall_mem_cons.mpr ⟨(.tail _ (.tail _ (.head _))), (List.forall_mem_cons.mpr ⟨(.tail _ (.tail _ (.tail _ (.head _)))), (List.forall_mem_cons.mpr ⟨(.head _), (fun _ z => absurd z List.not_mem_nil)⟩)⟩)⟩)⟩) h
  · replace h := h.2 c
    refine v_aload_n (pc := 34) d_Md_bring_34 rfl (.head _) ?_
    refine v_getr (C := "") (pc := 35) (r := 42) d_Md_bring_35 fl_Md_270 cM_0.1 cM_0.2 (Or.inr ⟨_, rfl⟩) rM_0_68 ?_
    refine v_iload_n (pc := 38) d_Md_bring_38 rfl (.tail _ (.tail _ (.tail _ (.head _)))) ?_
    refine v_aload_n (pc := 39) d_Md_bring_39 rfl (.tail _ (.head _)) ?_
    refine v_iload_n (pc := 40) d_Md_bring_40 rfl (.tail _ (.tail _ (.head _))) ?_
    refine v_sipush (pc := 41) d_Md_bring_41 (by decide) rfl ?_
    refine v_iadd (pc := 44) d_Md_bring_44 ?_
    refine v_iload_n (pc := 45) d_Md_bring_45 rfl (.tail _ (.tail _ (.tail _ (.head _)))) ?_
    refine v_iadd (pc := 46) d_Md_bring_46 ?_
    refine v_iald (pc := 47) (x := (w 52 ((wr ((wr (x2_ + 320)) + x3_)).toNat))) d_Md_bring_47 cM_52.1 cM_52.2 rfl h.1 ?_
    replace h := h.2
    refine v_iconst (pc := 48) d_Md_bring_48 (by decide) ?_
    refine v_icmpne (pc := 49) (tgt := 56) d_Md_bring_49 (by decide) (fun c => ?_) (fun c => ?_)
    · replace h := h.1 c
      refine v_iconst (pc := 56) d_Md_bring_56 (by decide) ?_
      refine v_zast (pc := 57) d_Md_bring_57 cM_42.1 cM_42.2 (aM_42 _) (by decide) h.1 ?_
      replace h := h.2
      refine v_iinc (pc := 58) (ls' := [(3, vI (wr (x3_ + 1))), (0, vA 0), (1, vA 52), (2, vI x2_)]) d_Md_bring_58 (.tail _ (.tail _ (.tail _ (.head _)))) (by decide) rfl ?_
      refine v_goto (pc := 61) (tgt := 28) d_Md_bring_61 (by decide) ?_
      exact v_sub (List.forall_mem_cons.mpr ⟨(.tail _ (.head _)), (List.forall_mem_cons.mpr ⟨(.tail _ (.tail _ (.head _))), (List.forall_mem_cons.mpr ⟨(.tail _ (.tail _ (.tail _ (.head _)))), (List.forall_mem_cons.mpr ⟨(.head _), (fun _ z => absurd z List.not_mem_nil)⟩)⟩)⟩)⟩) h
    · replace h := h.2 c
      refine v_iconst (pc := 52) d_Md_bring_52 (by decide) ?_
      refine v_goto (pc := 53) (tgt := 57) d_Md_bring_53 (by decide) ?_
      refine v_zast (pc := 57) d_Md_bring_57 cM_42.1 cM_42.2 (aM_42 _) (by decide) h.1 ?_
      replace h := h.2
      refine v_iinc (pc := 58) (ls' := [(3, vI (wr (x3_ + 1))), (0, vA 0), (1, vA 52), (2, vI x2_)]) d_Md_bring_58 (.tail _ (.tail _ (.tail _ (.head _)))) (by decide) rfl ?_
      refine v_goto (pc := 61) (tgt := 28) d_Md_bring_61 (by decide) ?_
      exact v_sub (List.forall_mem_cons.mpr ⟨(.tail _ (.head _)), (List.forall_mem_cons.mpr ⟨(.tail _ (.tail _ (.head _))), (List.forall_mem_cons.mpr ⟨(.tail _ (.tail _ (.tail _ (.head _)))), (List.forall_mem_cons.mpr ⟨(.head _), (fun _ z => absurd z List.not_mem_nil)⟩)⟩)⟩)⟩) h
set_option maxHeartbeats 4000000 in
theorem s_Md_bring_66 {g : Mg} {d : Nat} {K : Ou → Wd → Prop} {w : Wd} {x2_ : Int} {x3_ : Int} (h : (160 ≤ x3_ → (V g LM jMd_bring d K 111 [(0, vA 0), (1, vA 52), (2, vI x2_), (3, vI 0)] [] w)) ∧ (¬ 160 ≤ x3_ → ((0 ≤ (wr ((wr (x2_ + 360)) + x3_)) ∧ (wr ((wr (x2_ + 360)) + x3_)) < 700) ∧ ((0 ≤ x3_ ∧ x3_ < 160) ∧ ((0 ≤ (wr ((wr (x2_ + 520)) + x3_)) ∧ (wr ((wr (x2_ + 520)) + x3_)) < 700) ∧ ((0 ≤ x3_ ∧ x3_ < 160) ∧ (V g LM jMd_bring d K 66 [(0, vA 0), (1, vA 52), (2, vI x2_), (3, vI (wr (x3_ + 1)))] [] (up (up w 43 (x3_.toNat) (w 52 ((wr ((wr (x2_ + 360)) + x3_)).toNat))) 44 (x3_.toNat) (w 52 ((wr ((wr (x2_ + 520)) + x3_)).toNat)))))))))) : V g LM jMd_bring d K 66 [(0, vA 0), (1, vA 52), (2, vI x2_), (3, vI x3_)] [] w := by
  refine v_iload_n (pc := 66) d_Md_bring_66 rfl (.tail _ (.tail _ (.tail _ (.head _)))) ?_
  refine v_sipush (pc := 67) d_Md_bring_67 (by decide) rfl ?_
  refine v_icmpge (pc := 70) (tgt := 109) d_Md_bring_70 (by decide) (fun c => ?_) (fun c => ?_)
  · replace h := h.1 c
    refine v_iconst (pc := 109) d_Md_bring_109 (by decide) ?_
    refine v_istore_n (pc := 110) (ls' := [(3, vI 0), (0, vA 0), (1, vA 52), (2, vI x2_)]) d_Md_bring_110 rfl (by decide) rfl ?_
    exact v_sub (List.forall_mem_cons.mpr ⟨(.tail _ (.head _)), (List.forall_mem_cons.mpr ⟨(.tail _ (.tail _ (.head _))), (List.forall_mem_cons.mpr ⟨(.tail _ (.tail _ (.tail _ (.head _)))), (List.forall_mem_cons.mpr ⟨(.head _), (fun _ z => absurd z List.not_mem_nil)⟩)⟩)⟩)⟩) h
  · replace h := h.2 c
    refine v_aload_n (pc := 73) d_Md_bring_73 rfl (.head _) ?_
    refine v_getr (C := "") (pc := 74) (r := 43) d_Md_bring_74 fl_Md_273 cM_0.1 cM_0.2 (Or.inr ⟨_, rfl⟩) rM_0_69 ?_
    refine v_iload_n (pc := 77) d_Md_bring_77 rfl (.tail _ (.tail _ (.tail _ (.head _)))) ?_
    refine v_aload_n (pc := 78) d_Md_bring_78 rfl (.tail _ (.head _)) ?_
    refine v_iload_n (pc := 79) d_Md_bring_79 rfl (.tail _ (.tail _ (.head _))) ?_
    refine v_sipush (pc := 80) d_Md_bring_80 (by decide) rfl ?_
    refine v_iadd (pc := 83) d_Md_bring_83 ?_
    refine v_iload_n (pc := 84) d_Md_bring_84 rfl (.tail _ (.tail _ (.tail _ (.head _)))) ?_
    refine v_iadd (pc := 85) d_Md_bring_85 ?_
    refine v_iald (pc := 86) (x := (w 52 ((wr ((wr (x2_ + 360)) + x3_)).toNat))) d_Md_bring_86 cM_52.1 cM_52.2 rfl h.1 ?_
    replace h := h.2
    refine v_iast (pc := 87) d_Md_bring_87 cM_43.1 cM_43.2 (aM_43 _) h.1 ?_
    replace h := h.2
    refine v_aload_n (pc := 88) d_Md_bring_88 rfl (.head _) ?_
    refine v_getr (C := "") (pc := 89) (r := 44) d_Md_bring_89 fl_Md_276 cM_0.1 cM_0.2 (Or.inr ⟨_, rfl⟩) rM_0_70 ?_
    refine v_iload_n (pc := 92) d_Md_bring_92 rfl (.tail _ (.tail _ (.tail _ (.head _)))) ?_
    refine v_aload_n (pc := 93) d_Md_bring_93 rfl (.tail _ (.head _)) ?_
    refine v_iload_n (pc := 94) d_Md_bring_94 rfl (.tail _ (.tail _ (.head _))) ?_
    refine v_sipush (pc := 95) d_Md_bring_95 (by decide) rfl ?_
    refine v_iadd (pc := 98) d_Md_bring_98 ?_
    refine v_iload_n (pc := 99) d_Md_bring_99 rfl (.tail _ (.tail _ (.tail _ (.head _)))) ?_
    refine v_iadd (pc := 100) d_Md_bring_100 ?_
    refine v_iald (pc := 101) (x := (w 52 ((wr ((wr (x2_ + 520)) + x3_)).toNat))) d_Md_bring_101 cM_52.1 cM_52.2 rfl h.1 ?_
    replace h := h.2
    refine v_iast (pc := 102) d_Md_bring_102 cM_44.1 cM_44.2 (aM_44 _) h.1 ?_
    replace h := h.2
    refine v_iinc (pc := 103) (ls' := [(3, vI (wr (x3_ + 1))), (0, vA 0), (1, vA 52), (2, vI x2_)]) d_Md_bring_103 (.tail _ (.tail _ (.tail _ (.head _)))) (by decide) rfl ?_
    refine v_goto (pc := 106) (tgt := 66) d_Md_bring_106 (by decide) ?_
    exact v_sub (List.forall_mem_cons.mpr ⟨(.tail _ (.head _)), (List.forall_mem_cons.mpr ⟨(.tail _ (.tail _ (.head _))), (List.forall_mem_cons.mpr ⟨(.tail _ (.tail _ (.tail _ (.head _)))), (List.forall_mem_cons.mpr ⟨(.head _), (fun _ z => absurd z List.not_mem_nil)⟩)⟩)⟩)⟩) h
set_option maxHeartbeats 4000000 in
theorem s_Md_bring_111 {g : Mg} {d : Nat} {K : Ou → Wd → Prop} {w : Wd} {x2_ : Int} {x3_ : Int} (h : (4 ≤ x3_ → (K (.inl none) w)) ∧ (¬ 4 ≤ x3_ → ((0 ≤ (wr ((wr (x2_ + 680)) + x3_)) ∧ (wr ((wr (x2_ + 680)) + x3_)) < 700) ∧ ((0 ≤ x3_ ∧ x3_ < 4) ∧ ((0 ≤ (wr ((wr (x2_ + 684)) + x3_)) ∧ (wr ((wr (x2_ + 684)) + x3_)) < 700) ∧ ((0 ≤ x3_ ∧ x3_ < 4) ∧ (V g LM jMd_bring d K 111 [(0, vA 0), (1, vA 52), (2, vI x2_), (3, vI (wr (x3_ + 1)))] [] (up (up w 45 (x3_.toNat) (w 52 ((wr ((wr (x2_ + 680)) + x3_)).toNat))) 46 (x3_.toNat) (w 52 ((wr ((wr (x2_ + 684)) + x3_)).toNat)))))))))) : V g LM jMd_bring d K 111 [(0, vA 0), (1, vA 52), (2, vI x2_), (3, vI x3_)] [] w := by
  refine v_iload_n (pc := 111) d_Md_bring_111 rfl (.tail _ (.tail _ (.tail _ (.head _)))) ?_
  refine v_iconst (pc := 112) d_Md_bring_112 (by decide) ?_
  refine v_icmpge (pc := 113) (tgt := 152) d_Md_bring_113 (by decide) (fun c => ?_) (fun c => ?_)
  · replace h := h.1 c
    exact v_vret (pc := 152) d_Md_bring_152 rfl h
  · replace h := h.2 c
    refine v_aload_n (pc := 116) d_Md_bring_116 rfl (.head _) ?_
    refine v_getr (C := "") (pc := 117) (r := 45) d_Md_bring_117 fl_Md_279 cM_0.1 cM_0.2 (Or.inr ⟨_, rfl⟩) rM_0_71 ?_
    refine v_iload_n (pc := 120) d_Md_bring_120 rfl (.tail _ (.tail _ (.tail _ (.head _)))) ?_
    refine v_aload_n (pc := 121) d_Md_bring_121 rfl (.tail _ (.head _)) ?_
    refine v_iload_n (pc := 122) d_Md_bring_122 rfl (.tail _ (.tail _ (.head _))) ?_
    refine v_sipush (pc := 123) d_Md_bring_123 (by decide) rfl ?_
    refine v_iadd (pc := 126) d_Md_bring_126 ?_
    refine v_iload_n (pc := 127) d_Md_bring_127 rfl (.tail _ (.tail _ (.tail _ (.head _)))) ?_
    refine v_iadd (pc := 128) d_Md_bring_128 ?_
    refine v_iald (pc := 129) (x := (w 52 ((wr ((wr (x2_ + 680)) + x3_)).toNat))) d_Md_bring_129 cM_52.1 cM_52.2 rfl h.1 ?_
    replace h := h.2
    refine v_iast (pc := 130) d_Md_bring_130 cM_45.1 cM_45.2 (aM_45 _) h.1 ?_
    replace h := h.2
    refine v_aload_n (pc := 131) d_Md_bring_131 rfl (.head _) ?_
    refine v_getr (C := "") (pc := 132) (r := 46) d_Md_bring_132 fl_Md_282 cM_0.1 cM_0.2 (Or.inr ⟨_, rfl⟩) rM_0_72 ?_
    refine v_iload_n (pc := 135) d_Md_bring_135 rfl (.tail _ (.tail _ (.tail _ (.head _)))) ?_
    refine v_aload_n (pc := 136) d_Md_bring_136 rfl (.tail _ (.head _)) ?_
    refine v_iload_n (pc := 137) d_Md_bring_137 rfl (.tail _ (.tail _ (.head _))) ?_
    refine v_sipush (pc := 138) d_Md_bring_138 (by decide) rfl ?_
    refine v_iadd (pc := 141) d_Md_bring_141 ?_
    refine v_iload_n (pc := 142) d_Md_bring_142 rfl (.tail _ (.tail _ (.tail _ (.head _)))) ?_
    refine v_iadd (pc := 143) d_Md_bring_143 ?_
    refine v_iald (pc := 144) (x := (w 52 ((wr ((wr (x2_ + 684)) + x3_)).toNat))) d_Md_bring_144 cM_52.1 cM_52.2 rfl h.1 ?_
    replace h := h.2
    refine v_iast (pc := 145) d_Md_bring_145 cM_46.1 cM_46.2 (aM_46 _) h.1 ?_
    replace h := h.2
    refine v_iinc (pc := 146) (ls' := [(3, vI (wr (x3_ + 1))), (0, vA 0), (1, vA 52), (2, vI x2_)]) d_Md_bring_146 (.tail _ (.tail _ (.tail _ (.head _)))) (by decide) rfl ?_
    refine v_goto (pc := 149) (tgt := 111) d_Md_bring_149 (by decide) ?_
    exact v_sub (List.forall_mem_cons.mpr ⟨(.tail _ (.head _)), (List.forall_mem_cons.mpr ⟨(.tail _ (.tail _ (.head _))), (List.forall_mem_cons.mpr ⟨(.tail _ (.tail _ (.tail _ (.head _)))), (List.forall_mem_cons.mpr ⟨(.head _), (fun _ z => absurd z List.not_mem_nil)⟩)⟩)⟩)⟩) h
set_option maxHeartbeats 4000000 in
theorem s_Md_bring_k {g : Mg} {d : Nat} {K : Ou → Wd → Prop} {w : Wd} {p2 : Int} (h : V g LM jMd_bring d K 2 [(0, vA 0), (1, vA 51), (2, vI p2), (3, vI 0)] [] w) : V g LM jMd_bring d K 0 [(0, vA 0), (1, vA 51), (2, vI p2)] [] w := by
  refine v_iconst (pc := 0) d_Md_bring_0 (by decide) ?_
  refine v_istore_n (pc := 1) (ls' := [(3, vI 0), (0, vA 0), (1, vA 51), (2, vI p2)]) d_Md_bring_1 rfl (by decide) rfl ?_
  exact v_sub (List.forall_mem_cons.mpr ⟨(.tail _ (.head _)), (List.forall_mem_cons.mpr ⟨(.tail _ (.tail _ (.head _))), (List.forall_mem_cons.mpr ⟨(.tail _ (.tail _ (.tail _ (.head _)))), (List.forall_mem_cons.mpr ⟨(.head _), (fun _ z => absurd z List.not_mem_nil)⟩)⟩)⟩)⟩) h
set_option maxHeartbeats 4000000 in
theorem s_Md_bring_k_2 {g : Mg} {d : Nat} {K : Ou → Wd → Prop} {w : Wd} {x2_ : Int} {x3_ : Int} (h : (320 ≤ x3_ → (V g LM jMd_bring d K 28 [(0, vA 0), (1, vA 51), (2, vI x2_), (3, vI 0)] [] w)) ∧ (¬ 320 ≤ x3_ → ((0 ≤ (wr (x2_ + x3_)) ∧ (wr (x2_ + x3_)) < 4200) ∧ ((0 ≤ x3_ ∧ x3_ < 320) ∧ (V g LM jMd_bring d K 2 [(0, vA 0), (1, vA 51), (2, vI x2_), (3, vI (wr (x3_ + 1)))] [] (up w 41 (x3_.toNat) (w 51 ((wr (x2_ + x3_)).toNat)))))))) : V g LM jMd_bring d K 2 [(0, vA 0), (1, vA 51), (2, vI x2_), (3, vI x3_)] [] w := by
  refine v_iload_n (pc := 2) d_Md_bring_2 rfl (.tail _ (.tail _ (.tail _ (.head _)))) ?_
  refine v_sipush (pc := 3) d_Md_bring_3 (by decide) rfl ?_
  refine v_icmpge (pc := 6) (tgt := 26) d_Md_bring_6 (by decide) (fun c => ?_) (fun c => ?_)
  · replace h := h.1 c
    refine v_iconst (pc := 26) d_Md_bring_26 (by decide) ?_
    refine v_istore_n (pc := 27) (ls' := [(3, vI 0), (0, vA 0), (1, vA 51), (2, vI x2_)]) d_Md_bring_27 rfl (by decide) rfl ?_
    exact v_sub (List.forall_mem_cons.mpr ⟨(.tail _ (.head _)), (List.forall_mem_cons.mpr ⟨(.tail _ (.tail _ (.head _))), (List.forall_mem_cons.mpr ⟨(.tail _ (.tail _ (.tail _ (.head _)))), (List.forall_mem_cons.mpr ⟨(.head _), (fun _ z => absurd z List.not_mem_nil)⟩)⟩)⟩)⟩) h
  · replace h := h.2 c
    refine v_aload_n (pc := 9) d_Md_bring_9 rfl (.head _) ?_
    refine v_getr (C := "") (pc := 10) (r := 41) d_Md_bring_10 fl_Md_267 cM_0.1 cM_0.2 (Or.inr ⟨_, rfl⟩) rM_0_67 ?_
    refine v_iload_n (pc := 13) d_Md_bring_13 rfl (.tail _ (.tail _ (.tail _ (.head _)))) ?_
    refine v_aload_n (pc := 14) d_Md_bring_14 rfl (.tail _ (.head _)) ?_
    refine v_iload_n (pc := 15) d_Md_bring_15 rfl (.tail _ (.tail _ (.head _))) ?_
    refine v_iload_n (pc := 16) d_Md_bring_16 rfl (.tail _ (.tail _ (.tail _ (.head _)))) ?_
    refine v_iadd (pc := 17) d_Md_bring_17 ?_
    refine v_iald (pc := 18) (x := (w 51 ((wr (x2_ + x3_)).toNat))) d_Md_bring_18 cM_51.1 cM_51.2 rfl h.1 ?_
    replace h := h.2
    refine v_iast (pc := 19) d_Md_bring_19 cM_41.1 cM_41.2 (aM_41 _) h.1 ?_
    replace h := h.2
    refine v_iinc (pc := 20) (ls' := [(3, vI (wr (x3_ + 1))), (0, vA 0), (1, vA 51), (2, vI x2_)]) d_Md_bring_20 (.tail _ (.tail _ (.tail _ (.head _)))) (by decide) rfl ?_
    refine v_goto (pc := 23) (tgt := 2) d_Md_bring_23 (by decide) ?_
    exact v_sub (List.forall_mem_cons.mpr ⟨(.tail _ (.head _)), (List.forall_mem_cons.mpr ⟨(.tail _ (.tail _ (.head _))), (List.forall_mem_cons.mpr ⟨(.tail _ (.tail _ (.tail _ (.head _)))), (List.forall_mem_cons.mpr ⟨(.head _), (fun _ z => absurd z List.not_mem_nil)⟩)⟩)⟩)⟩) h
set_option maxHeartbeats 4000000 in
theorem s_Md_bring_k_28 {g : Mg} {d : Nat} {K : Ou → Wd → Prop} {w : Wd} {x2_ : Int} {x3_ : Int} (h : (40 ≤ x3_ → (V g LM jMd_bring d K 66 [(0, vA 0), (1, vA 51), (2, vI x2_), (3, vI 0)] [] w)) ∧ (¬ 40 ≤ x3_ → ((0 ≤ (wr ((wr (x2_ + 320)) + x3_)) ∧ (wr ((wr (x2_ + 320)) + x3_)) < 4200) ∧ ((¬ (w 51 ((wr ((wr (x2_ + 320)) + x3_)).toNat)) = 1 → ((0 ≤ x3_ ∧ x3_ < 40) ∧ (V g LM jMd_bring d K 28 [(0, vA 0), (1, vA 51), (2, vI x2_), (3, vI (wr (x3_ + 1)))] [] (up w 42 (x3_.toNat) 0)))) ∧ ((w 51 ((wr ((wr (x2_ + 320)) + x3_)).toNat)) = 1 → ((0 ≤ x3_ ∧ x3_ < 40) ∧ (V g LM jMd_bring d K 28 [(0, vA 0), (1, vA 51), (2, vI x2_), (3, vI (wr (x3_ + 1)))] [] (up w 42 (x3_.toNat) 1)))))))) : V g LM jMd_bring d K 28 [(0, vA 0), (1, vA 51), (2, vI x2_), (3, vI x3_)] [] w := by
  refine v_iload_n (pc := 28) d_Md_bring_28 rfl (.tail _ (.tail _ (.tail _ (.head _)))) ?_
  refine v_bipush (pc := 29) d_Md_bring_29 (by decide) rfl ?_
  refine v_icmpge (pc := 31) (tgt := 64) d_Md_bring_31 (by decide) (fun c => ?_) (fun c => ?_)
  · replace h := h.1 c
    refine v_iconst (pc := 64) d_Md_bring_64 (by decide) ?_
    refine v_istore_n (pc := 65) (ls' := [(3, vI 0), (0, vA 0), (1, vA 51), (2, vI x2_)]) d_Md_bring_65 rfl (by decide) rfl ?_
    exact v_sub (List.forall_mem_cons.mpr ⟨(.tail _ (.head _)), (List.forall_mem_cons.mpr ⟨(.tail _ (.tail _ (.head _))), (List.forall_mem_cons.mpr ⟨(.tail _ (.tail _ (.tail _ (.head _)))), (List.forall_mem_cons.mpr ⟨(.head _), (fun _ z => absurd z List.not_mem_nil)⟩)⟩)⟩)⟩) h
  · replace h := h.2 c
    refine v_aload_n (pc := 34) d_Md_bring_34 rfl (.head _) ?_
    refine v_getr (C := "") (pc := 35) (r := 42) d_Md_bring_35 fl_Md_270 cM_0.1 cM_0.2 (Or.inr ⟨_, rfl⟩) rM_0_68 ?_
    refine v_iload_n (pc := 38) d_Md_bring_38 rfl (.tail _ (.tail _ (.tail _ (.head _)))) ?_
    refine v_aload_n (pc := 39) d_Md_bring_39 rfl (.tail _ (.head _)) ?_
    refine v_iload_n (pc := 40) d_Md_bring_40 rfl (.tail _ (.tail _ (.head _))) ?_
    refine v_sipush (pc := 41) d_Md_bring_41 (by decide) rfl ?_
    refine v_iadd (pc := 44) d_Md_bring_44 ?_
    refine v_iload_n (pc := 45) d_Md_bring_45 rfl (.tail _ (.tail _ (.tail _ (.head _)))) ?_
    refine v_iadd (pc := 46) d_Md_bring_46 ?_
    refine v_iald (pc := 47) (x := (w 51 ((wr ((wr (x2_ + 320)) + x3_)).toNat))) d_Md_bring_47 cM_51.1 cM_51.2 rfl h.1 ?_
    replace h := h.2
    refine v_iconst (pc := 48) d_Md_bring_48 (by decide) ?_
    refine v_icmpne (pc := 49) (tgt := 56) d_Md_bring_49 (by decide) (fun c => ?_) (fun c => ?_)
    · replace h := h.1 c
      refine v_iconst (pc := 56) d_Md_bring_56 (by decide) ?_
      refine v_zast (pc := 57) d_Md_bring_57 cM_42.1 cM_42.2 (aM_42 _) (by decide) h.1 ?_
      replace h := h.2
      refine v_iinc (pc := 58) (ls' := [(3, vI (wr (x3_ + 1))), (0, vA 0), (1, vA 51), (2, vI x2_)]) d_Md_bring_58 (.tail _ (.tail _ (.tail _ (.head _)))) (by decide) rfl ?_
      refine v_goto (pc := 61) (tgt := 28) d_Md_bring_61 (by decide) ?_
      exact v_sub (List.forall_mem_cons.mpr ⟨(.tail _ (.head _)), (List.forall_mem_cons.mpr ⟨(.tail _ (.tail _ (.head _))), (List.forall_mem_cons.mpr ⟨(.tail _ (.tail _ (.tail _ (.head _)))), (List.forall_mem_cons.mpr ⟨(.head _), (fun _ z => absurd z List.not_mem_nil)⟩)⟩)⟩)⟩) h
    · replace h := h.2 c
      refine v_iconst (pc := 52) d_Md_bring_52 (by decide) ?_
      refine v_goto (pc := 53) (tgt := 57) d_Md_bring_53 (by decide) ?_
      refine v_zast (pc := 57) d_Md_bring_57 cM_42.1 cM_42.2 (aM_42 _) (by decide) h.1 ?_
      replace h := h.2
      refine v_iinc (pc := 58) (ls' := [(3, vI (wr (x3_ + 1))), (0, vA 0), (1, vA 51), (2, vI x2_)]) d_Md_bring_58 (.tail _ (.tail _ (.tail _ (.head _)))) (by decide) rfl ?_
      refine v_goto (pc := 61) (tgt := 28) d_Md_bring_61 (by decide) ?_
      exact v_sub (List.forall_mem_cons.mpr ⟨(.tail _ (.head _)), (List.forall_mem_cons.mpr ⟨(.tail _ (.tail _ (.head _))), (List.forall_mem_cons.mpr ⟨(.tail _ (.tail _ (.tail _ (.head _)))), (List.forall_mem_cons.mpr ⟨(.head _), (fun _ z => absurd z List.not_mem_nil)⟩)⟩)⟩)⟩) h
set_option maxHeartbeats 4000000 in
theorem s_Md_bring_k_66 {g : Mg} {d : Nat} {K : Ou → Wd → Prop} {w : Wd} {x2_ : Int} {x3_ : Int} (h : (160 ≤ x3_ → (V g LM jMd_bring d K 111 [(0, vA 0), (1, vA 51), (2, vI x2_), (3, vI 0)] [] w)) ∧ (¬ 160 ≤ x3_ → ((0 ≤ (wr ((wr (x2_ + 360)) + x3_)) ∧ (wr ((wr (x2_ + 360)) + x3_)) < 4200) ∧ ((0 ≤ x3_ ∧ x3_ < 160) ∧ ((0 ≤ (wr ((wr (x2_ + 520)) + x3_)) ∧ (wr ((wr (x2_ + 520)) + x3_)) < 4200) ∧ ((0 ≤ x3_ ∧ x3_ < 160) ∧ (V g LM jMd_bring d K 66 [(0, vA 0), (1, vA 51), (2, vI x2_), (3, vI (wr (x3_ + 1)))] [] (up (up w 43 (x3_.toNat) (w 51 ((wr ((wr (x2_ + 360)) + x3_)).toNat))) 44 (x3_.toNat) (w 51 ((wr ((wr (x2_ + 520)) + x3_)).toNat)))))))))) : V g LM jMd_bring d K 66 [(0, vA 0), (1, vA 51), (2, vI x2_), (3, vI x3_)] [] w := by
  refine v_iload_n (pc := 66) d_Md_bring_66 rfl (.tail _ (.tail _ (.tail _ (.head _)))) ?_
  refine v_sipush (pc := 67) d_Md_bring_67 (by decide) rfl ?_
  refine v_icmpge (pc := 70) (tgt := 109) d_Md_bring_70 (by decide) (fun c => ?_) (fun c => ?_)
  · replace h := h.1 c
    refine v_iconst (pc := 109) d_Md_bring_109 (by decide) ?_
    refine v_istore_n (pc := 110) (ls' := [(3, vI 0), (0, vA 0), (1, vA 51), (2, vI x2_)]) d_Md_bring_110 rfl (by decide) rfl ?_
    exact v_sub (List.forall_mem_cons.mpr ⟨(.tail _ (.head _)), (List.forall_mem_cons.mpr ⟨(.tail _ (.tail _ (.head _))), (List.forall_mem_cons.mpr ⟨(.tail _ (.tail _ (.tail _ (.head _)))), (List.forall_mem_cons.mpr ⟨(.head _), (fun _ z => absurd z List.not_mem_nil)⟩)⟩)⟩)⟩) h
  · replace h := h.2 c
    refine v_aload_n (pc := 73) d_Md_bring_73 rfl (.head _) ?_
    refine v_getr (C := "") (pc := 74) (r := 43) d_Md_bring_74 fl_Md_273 cM_0.1 cM_0.2 (Or.inr ⟨_, rfl⟩) rM_0_69 ?_
    refine v_iload_n (pc := 77) d_Md_bring_77 rfl (.tail _ (.tail _ (.tail _ (.head _)))) ?_
    refine v_aload_n (pc := 78) d_Md_bring_78 rfl (.tail _ (.head _)) ?_
    refine v_iload_n (pc := 79) d_Md_bring_79 rfl (.tail _ (.tail _ (.head _))) ?_
    refine v_sipush (pc := 80) d_Md_bring_80 (by decide) rfl ?_
    refine v_iadd (pc := 83) d_Md_bring_83 ?_
    refine v_iload_n (pc := 84) d_Md_bring_84 rfl (.tail _ (.tail _ (.tail _ (.head _)))) ?_
    refine v_iadd (pc := 85) d_Md_bring_85 ?_
    refine v_iald (pc := 86) (x := (w 51 ((wr ((wr (x2_ + 360)) + x3_)).toNat))) d_Md_bring_86 cM_51.1 cM_51.2 rfl h.1 ?_
    replace h := h.2
    refine v_iast (pc := 87) d_Md_bring_87 cM_43.1 cM_43.2 (aM_43 _) h.1 ?_
    replace h := h.2
    refine v_aload_n (pc := 88) d_Md_bring_88 rfl (.head _) ?_
    refine v_getr (C := "") (pc := 89) (r := 44) d_Md_bring_89 fl_Md_276 cM_0.1 cM_0.2 (Or.inr ⟨_, rfl⟩) rM_0_70 ?_
    refine v_iload_n (pc := 92) d_Md_bring_92 rfl (.tail _ (.tail _ (.tail _ (.head _)))) ?_
    refine v_aload_n (pc := 93) d_Md_bring_93 rfl (.tail _ (.head _)) ?_
    refine v_iload_n (pc := 94) d_Md_bring_94 rfl (.tail _ (.tail _ (.head _))) ?_
    refine v_sipush (pc := 95) d_Md_bring_95 (by decide) rfl ?_
    refine v_iadd (pc := 98) d_Md_bring_98 ?_
    refine v_iload_n (pc := 99) d_Md_bring_99 rfl (.tail _ (.tail _ (.tail _ (.head _)))) ?_
    refine v_iadd (pc := 100) d_Md_bring_100 ?_
    refine v_iald (pc := 101) (x := (w 51 ((wr ((wr (x2_ + 520)) + x3_)).toNat))) d_Md_bring_101 cM_51.1 cM_51.2 rfl h.1 ?_
    replace h := h.2
    refine v_iast (pc := 102) d_Md_bring_102 cM_44.1 cM_44.2 (aM_44 _) h.1 ?_
    replace h := h.2
    refine v_iinc (pc := 103) (ls' := [(3, vI (wr (x3_ + 1))), (0, vA 0), (1, vA 51), (2, vI x2_)]) d_Md_bring_103 (.tail _ (.tail _ (.tail _ (.head _)))) (by decide) rfl ?_
    refine v_goto (pc := 106) (tgt := 66) d_Md_bring_106 (by decide) ?_
    exact v_sub (List.forall_mem_cons.mpr ⟨(.tail _ (.head _)), (List.forall_mem_cons.mpr ⟨(.tail _ (.tail _ (.head _))), (List.forall_mem_cons.mpr ⟨(.tail _ (.tail _ (.tail _ (.head _)))), (List.forall_mem_cons.mpr ⟨(.head _), (fun _ z => absurd z List.not_mem_nil)⟩)⟩)⟩)⟩) h
set_option maxHeartbeats 4000000 in
theorem s_Md_bring_k_111 {g : Mg} {d : Nat} {K : Ou → Wd → Prop} {w : Wd} {x2_ : Int} {x3_ : Int} (h : (4 ≤ x3_ → (K (.inl none) w)) ∧ (¬ 4 ≤ x3_ → ((0 ≤ (wr ((wr (x2_ + 680)) + x3_)) ∧ (wr ((wr (x2_ + 680)) + x3_)) < 4200) ∧ ((0 ≤ x3_ ∧ x3_ < 4) ∧ ((0 ≤ (wr ((wr (x2_ + 684)) + x3_)) ∧ (wr ((wr (x2_ + 684)) + x3_)) < 4200) ∧ ((0 ≤ x3_ ∧ x3_ < 4) ∧ (V g LM jMd_bring d K 111 [(0, vA 0), (1, vA 51), (2, vI x2_), (3, vI (wr (x3_ + 1)))] [] (up (up w 45 (x3_.toNat) (w 51 ((wr ((wr (x2_ + 680)) + x3_)).toNat))) 46 (x3_.toNat) (w 51 ((wr ((wr (x2_ + 684)) + x3_)).toNat)))))))))) : V g LM jMd_bring d K 111 [(0, vA 0), (1, vA 51), (2, vI x2_), (3, vI x3_)] [] w := by
  refine v_iload_n (pc := 111) d_Md_bring_111 rfl (.tail _ (.tail _ (.tail _ (.head _)))) ?_
  refine v_iconst (pc := 112) d_Md_bring_112 (by decide) ?_
  refine v_icmpge (pc := 113) (tgt := 152) d_Md_bring_113 (by decide) (fun c => ?_) (fun c => ?_)
  · replace h := h.1 c
    exact v_vret (pc := 152) d_Md_bring_152 rfl h
  · replace h := h.2 c
    refine v_aload_n (pc := 116) d_Md_bring_116 rfl (.head _) ?_
    refine v_getr (C := "") (pc := 117) (r := 45) d_Md_bring_117 fl_Md_279 cM_0.1 cM_0.2 (Or.inr ⟨_, rfl⟩) rM_0_71 ?_
    refine v_iload_n (pc := 120) d_Md_bring_120 rfl (.tail _ (.tail _ (.tail _ (.head _)))) ?_
    refine v_aload_n (pc := 121) d_Md_bring_121 rfl (.tail _ (.head _)) ?_
    refine v_iload_n (pc := 122) d_Md_bring_122 rfl (.tail _ (.tail _ (.head _))) ?_
    refine v_sipush (pc := 123) d_Md_bring_123 (by decide) rfl ?_
    refine v_iadd (pc := 126) d_Md_bring_126 ?_
    refine v_iload_n (pc := 127) d_Md_bring_127 rfl (.tail _ (.tail _ (.tail _ (.head _)))) ?_
    refine v_iadd (pc := 128) d_Md_bring_128 ?_
    refine v_iald (pc := 129) (x := (w 51 ((wr ((wr (x2_ + 680)) + x3_)).toNat))) d_Md_bring_129 cM_51.1 cM_51.2 rfl h.1 ?_
    replace h := h.2
    refine v_iast (pc := 130) d_Md_bring_130 cM_45.1 cM_45.2 (aM_45 _) h.1 ?_
    replace h := h.2
    refine v_aload_n (pc := 131) d_Md_bring_131 rfl (.head _) ?_
    refine v_getr (C := "") (pc := 132) (r := 46) d_Md_bring_132 fl_Md_282 cM_0.1 cM_0.2 (Or.inr ⟨_, rfl⟩) rM_0_72 ?_
    refine v_iload_n (pc := 135) d_Md_bring_135 rfl (.tail _ (.tail _ (.tail _ (.head _)))) ?_
    refine v_aload_n (pc := 136) d_Md_bring_136 rfl (.tail _ (.head _)) ?_
    refine v_iload_n (pc := 137) d_Md_bring_137 rfl (.tail _ (.tail _ (.head _))) ?_
    refine v_sipush (pc := 138) d_Md_bring_138 (by decide) rfl ?_
    refine v_iadd (pc := 141) d_Md_bring_141 ?_
    refine v_iload_n (pc := 142) d_Md_bring_142 rfl (.tail _ (.tail _ (.tail _ (.head _)))) ?_
    refine v_iadd (pc := 143) d_Md_bring_143 ?_
    refine v_iald (pc := 144) (x := (w 51 ((wr ((wr (x2_ + 684)) + x3_)).toNat))) d_Md_bring_144 cM_51.1 cM_51.2 rfl h.1 ?_
    replace h := h.2
    refine v_iast (pc := 145) d_Md_bring_145 cM_46.1 cM_46.2 (aM_46 _) h.1 ?_
    replace h := h.2
    refine v_iinc (pc := 146) (ls' := [(3, vI (wr (x3_ + 1))), (0, vA 0), (1, vA 51), (2, vI x2_)]) d_Md_bring_146 (.tail _ (.tail _ (.tail _ (.head _)))) (by decide) rfl ?_
    refine v_goto (pc := 149) (tgt := 111) d_Md_bring_149 (by decide) ?_
    exact v_sub (List.forall_mem_cons.mpr ⟨(.tail _ (.head _)), (List.forall_mem_cons.mpr ⟨(.tail _ (.tail _ (.head _))), (List.forall_mem_cons.mpr ⟨(.tail _ (.tail _ (.tail _ (.head _)))), (List.forall_mem_cons.mpr ⟨(.head _), (fun _ z => absurd z List.not_mem_nil)⟩)⟩)⟩)⟩) h
