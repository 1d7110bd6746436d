theorem d_Cu_rewind_0 : decode jCu_rewind.cc 0 = .ok (.aload_n 0, 1) := by decide +kernel
theorem d_Cu_rewind_1 : decode jCu_rewind.cc 1 = .ok (.iconst 0, 1) := by decide +kernel
theorem d_Cu_rewind_2 : decode jCu_rewind.cc 2 = .ok (.putfield 13, 3) := by decide +kernel
theorem d_Cu_rewind_5 : decode jCu_rewind.cc 5 = .ok (.aload_n 0, 1) := by decide +kernel
theorem d_Cu_rewind_6 : decode jCu_rewind.cc 6 = .ok (.iconst 0, 1) := by decide +kernel
theorem d_Cu_rewind_7 : decode jCu_rewind.cc 7 = .ok (.putfield 17, 3) := by decide +kernel
theorem d_Cu_rewind_10 : decode jCu_rewind.cc 10 = .ok (.aload_n 0, 1) := by decide +kernel
theorem d_Cu_rewind_11 : decode jCu_rewind.cc 11 = .ok (.iconst 0, 1) := by decide +kernel
theorem d_Cu_rewind_12 : decode jCu_rewind.cc 12 = .ok (.putfield 20, 3) := by decide +kernel
theorem d_Cu_rewind_15 : decode jCu_rewind.cc 15 = .ok (.return_, 1) := by decide +kernel
set_option maxHeartbeats 4000000 in
theorem s_Cu_rewind {g : Mg} {d : Nat} {K : Ou → Wd → Prop} {w : Wd} (h : K (.inl none) (up (up (up w 25 1 0) 25 2 0) 25 4 0)) : V g LC jCu_rewind d K 0 [(0, vA 25)] [] w := by
  refine v_aload_n (pc := 0) d_Cu_rewind_0 rfl (.head _) ?_
  refine v_iconst (pc := 1) d_Cu_rewind_1 (by decide) ?_
  refine v_puti (pc := 2) d_Cu_rewind_2 fp_Cu_13 cC_25.1 cC_25.2 (by decide) rfl ?_
  refine v_aload_n (pc := 5) d_Cu_rewind_5 rfl (.head _) ?_
  refine v_iconst (pc := 6) d_Cu_rewind_6 (by decide) ?_
  refine v_puti (pc := 7) d_Cu_rewind_7 fp_Cu_17 cC_25.1 cC_25.2 (by decide) rfl ?_
  refine v_aload_n (pc := 10) d_Cu_rewind_10 rfl (.head _) ?_
  refine v_iconst (pc := 11) d_Cu_rewind_11 (by decide) ?_
  refine v_puti (pc := 12) d_Cu_rewind_12 fp_Cu_20 cC_25.1 cC_25.2 (by decide) rfl ?_
  exact v_vret (pc := 15) d_Cu_rewind_15 rfl h
theorem d_Cu_here_0 : decode jCu_here.cc 0 = .ok (.aload_n 0, 1) := by decide +kernel
theorem d_Cu_here_1 : decode jCu_here.cc 1 = .ok (.getfield 13, 3) := by decide +kernel
theorem d_Cu_here_4 : decode jCu_here.cc 4 = .ok (.ireturn, 1) := by decide +kernel
set_option maxHeartbeats 4000000 in
theorem s_Cu_here {g : Mg} {d : Nat} {K : Ou → Wd → Prop} {w : Wd} (h : K (.inl (some (vI (w 25 1)))) w) : V g LC jCu_here d K 0 [(0, vA 25)] [] w := by
  refine v_aload_n (pc := 0) d_Cu_here_0 rfl (.head _) ?_
  refine v_geti (pc := 1) (x := (w 25 1)) d_Cu_here_1 fl_Cu_13 cC_25.1 cC_25.2 (Or.inl rfl) rfl ?_
  exact v_iret (pc := 4) d_Cu_here_4 rfl h
theorem d_Cu_kind_0 : decode jCu_kind.cc 0 = .ok (.aload_n 0, 1) := by decide +kernel
theorem d_Cu_kind_1 : decode jCu_kind.cc 1 = .ok (.getfield 7, 3) := by decide +kernel
theorem d_Cu_kind_4 : decode jCu_kind.cc 4 = .ok (.getfield 23, 3) := by decide +kernel
theorem d_Cu_kind_7 : decode jCu_kind.cc 7 = .ok (.aload_n 0, 1) := by decide +kernel
theorem d_Cu_kind_8 : decode jCu_kind.cc 8 = .ok (.getfield 13, 3) := by decide +kernel
theorem d_Cu_kind_11 : decode jCu_kind.cc 11 = .ok (.iaload, 1) := by decide +kernel
theorem d_Cu_kind_12 : decode jCu_kind.cc 12 = .ok (.ireturn, 1) := by decide +kernel
set_option maxHeartbeats 4000000 in
theorem s_Cu_kind {g : Mg} {d : Nat} {K : Ou → Wd → Prop} {w : Wd} (h : (0 ≤ (w 25 1) ∧ (w 25 1) < 1002) ∧ (K (.inl (some (vI (w 4 ((w 25 1).toNat))))) w)) : V g LC jCu_kind d K 0 [(0, vA 25)] [] w := by
  refine v_aload_n (pc := 0) d_Cu_kind_0 rfl (.head _) ?_
  refine v_getr (C := "") (pc := 1) (r := 2) d_Cu_kind_1 fl_Cu_7 cC_25.1 cC_25.2 (Or.inl ⟨_, rfl⟩) rC_25_0 ?_
  refine v_getr (C := "") (pc := 4) (r := 4) d_Cu_kind_4 fl_Cu_23 cC_2.1 cC_2.2 (Or.inr ⟨_, rfl⟩) rC_2_2 ?_
  refine v_aload_n (pc := 7) d_Cu_kind_7 rfl (.head _) ?_
  refine v_geti (pc := 8) (x := (w 25 1)) d_Cu_kind_8 fl_Cu_13 cC_25.1 cC_25.2 (Or.inl rfl) rfl ?_
  refine v_iald (pc := 11) (x := (w 4 ((w 25 1).toNat))) d_Cu_kind_11 cC_4.1 cC_4.2 rfl h.1 ?_
  replace h := h.2
  exact v_iret (pc := 12) d_Cu_kind_12 rfl h
theorem d_Cu_sees_0 : decode jCu_sees.cc 0 = .ok (.aload_n 0, 1) := by decide +kernel
theorem d_Cu_sees_1 : decode jCu_sees.cc 1 = .ok (.getfield 7, 3) := by decide +kernel
theorem d_Cu_sees_4 : decode jCu_sees.cc 4 = .ok (.getfield 23, 3) := by decide +kernel
theorem d_Cu_sees_7 : decode jCu_sees.cc 7 = .ok (.aload_n 0, 1) := by decide +kernel
theorem d_Cu_sees_8 : decode jCu_sees.cc 8 = .ok (.getfield 13, 3) := by decide +kernel
theorem d_Cu_sees_11 : decode jCu_sees.cc 11 = .ok (.iaload, 1) := by decide +kernel
theorem d_Cu_sees_12 : decode jCu_sees.cc 12 = .ok (.iload_n 1, 1) := by decide +kernel
theorem d_Cu_sees_13 : decode jCu_sees.cc 13 = .ok (.if_icmp .ne 7, 3) := by decide +kernel
theorem d_Cu_sees_16 : decode jCu_sees.cc 16 = .ok (.iconst 1, 1) := by decide +kernel
theorem d_Cu_sees_17 : decode jCu_sees.cc 17 = .ok (.goto 4, 3) := by decide +kernel
theorem d_Cu_sees_20 : decode jCu_sees.cc 20 = .ok (.iconst 0, 1) := by decide +kernel
theorem d_Cu_sees_21 : decode jCu_sees.cc 21 = .ok (.ireturn, 1) := by decide +kernel
set_option maxHeartbeats 4000000 in
theorem s_Cu_sees {g : Mg} {d : Nat} {K : Ou → Wd → Prop} {w : Wd} {p1 : Int} (h : (0 ≤ (w 25 1) ∧ (w 25 1) < 1002) ∧ ((¬ (w 4 ((w 25 1).toNat)) = p1 → (K (.inl (some (vI 0))) w)) ∧ ((w 4 ((w 25 1).toNat)) = p1 → (K (.inl (some (vI 1))) w)))) : V g LC jCu_sees d K 0 [(0, vA 25), (1, vI p1)] [] w := by
  refine v_aload_n (pc := 0) d_Cu_sees_0 rfl (.head _) ?_
  refine v_getr (C := "") (pc := 1) (r := 2) d_Cu_sees_1 fl_Cu_7 cC_25.1 cC_25.2 (Or.inl ⟨_, rfl⟩) rC_25_0 ?_
  refine v_getr (C := "") (pc := 4) (r := 4) d_Cu_sees_4 fl_Cu_23 cC_2.1 cC_2.2 (Or.inr ⟨_, rfl⟩) rC_2_2 ?_
  refine v_aload_n (pc := 7) d_Cu_sees_7 rfl (.head _) ?_
  refine v_geti (pc := 8) (x := (w 25 1)) d_Cu_sees_8 fl_Cu_13 cC_25.1 cC_25.2 (Or.inl rfl) rfl ?_
  refine v_iald (pc := 11) (x := (w 4 ((w 25 1).toNat))) d_Cu_sees_11 cC_4.1 cC_4.2 rfl h.1 ?_
  replace h := h.2
  refine v_iload_n (pc := 12) d_Cu_sees_12 rfl (.tail _ (.head _)) ?_
  refine v_icmpne (pc := 13) (tgt := 20) d_Cu_sees_13 (by decide) (fun c => ?_) (fun c => ?_)
  · replace h := h.1 c
    refine v_iconst (pc := 20) d_Cu_sees_20 (by decide) ?_
    exact v_zret (pc := 21) d_Cu_sees_21 rfl (by decide) h
  · replace h := h.2 c
    refine v_iconst (pc := 16) d_Cu_sees_16 (by decide) ?_
    refine v_goto (pc := 17) (tgt := 21) d_Cu_sees_17 (by decide) ?_
    exact v_zret (pc := 21) d_Cu_sees_21 rfl (by decide) h
theorem d_Cu_take_0 : decode jCu_take.cc 0 = .ok (.aload_n 0, 1) := by decide +kernel
theorem d_Cu_take_1 : decode jCu_take.cc 1 = .ok (.getfield 13, 3) := by decide +kernel
theorem d_Cu_take_4 : decode jCu_take.cc 4 = .ok (.istore_n 2, 1) := by decide +kernel
theorem d_Cu_take_5 : decode jCu_take.cc 5 = .ok (.aload_n 0, 1) := by decide +kernel
theorem d_Cu_take_6 : decode jCu_take.cc 6 = .ok (.getfield 7, 3) := by decide +kernel
theorem d_Cu_take_9 : decode jCu_take.cc 9 = .ok (.getfield 23, 3) := by decide +kernel
theorem d_Cu_take_12 : decode jCu_take.cc 12 = .ok (.iload_n 2, 1) := by decide +kernel
theorem d_Cu_take_13 : decode jCu_take.cc 13 = .ok (.iaload, 1) := by decide +kernel
theorem d_Cu_take_14 : decode jCu_take.cc 14 = .ok (.iload_n 1, 1) := by decide +kernel
theorem d_Cu_take_15 : decode jCu_take.cc 15 = .ok (.if_icmp .ne 14, 3) := by decide +kernel
theorem d_Cu_take_18 : decode jCu_take.cc 18 = .ok (.iload_n 2, 1) := by decide +kernel
theorem d_Cu_take_19 : decode jCu_take.cc 19 = .ok (.aload_n 0, 1) := by decide +kernel
theorem d_Cu_take_20 : decode jCu_take.cc 20 = .ok (.getfield 7, 3) := by decide +kernel
theorem d_Cu_take_23 : decode jCu_take.cc 23 = .ok (.getfield 29, 3) := by decide +kernel
theorem d_Cu_take_26 : decode jCu_take.cc 26 = .ok (.if_icmp .lt 11, 3) := by decide +kernel
theorem d_Cu_take_29 : decode jCu_take.cc 29 = .ok (.aload_n 0, 1) := by decide +kernel
theorem d_Cu_take_30 : decode jCu_take.cc 30 = .ok (.iconst 1, 1) := by decide +kernel
theorem d_Cu_take_31 : decode jCu_take.cc 31 = .ok (.invokevirtual 32, 3) := by decide +kernel
theorem d_Cu_take_34 : decode jCu_take.cc 34 = .ok (.goto 28, 3) := by decide +kernel
theorem d_Cu_take_37 : decode jCu_take.cc 37 = .ok (.iload_n 2, 1) := by decide +kernel
theorem d_Cu_take_38 : decode jCu_take.cc 38 = .ok (.sipush 1000, 3) := by decide +kernel
theorem d_Cu_take_41 : decode jCu_take.cc 41 = .ok (.if_icmp .lt 11, 3) := by decide +kernel
theorem d_Cu_take_44 : decode jCu_take.cc 44 = .ok (.aload_n 0, 1) := by decide +kernel
theorem d_Cu_take_45 : decode jCu_take.cc 45 = .ok (.iconst 2, 1) := by decide +kernel
theorem d_Cu_take_46 : decode jCu_take.cc 46 = .ok (.invokevirtual 32, 3) := by decide +kernel
theorem d_Cu_take_49 : decode jCu_take.cc 49 = .ok (.goto 13, 3) := by decide +kernel
theorem d_Cu_take_52 : decode jCu_take.cc 52 = .ok (.aload_n 0, 1) := by decide +kernel
theorem d_Cu_take_53 : decode jCu_take.cc 53 = .ok (.dup, 1) := by decide +kernel
theorem d_Cu_take_54 : decode jCu_take.cc 54 = .ok (.getfield 13, 3) := by decide +kernel
theorem d_Cu_take_57 : decode jCu_take.cc 57 = .ok (.iconst 1, 1) := by decide +kernel
theorem d_Cu_take_58 : decode jCu_take.cc 58 = .ok (.iadd, 1) := by decide +kernel
theorem d_Cu_take_59 : decode jCu_take.cc 59 = .ok (.putfield 13, 3) := by decide +kernel
theorem d_Cu_take_62 : decode jCu_take.cc 62 = .ok (.iload_n 2, 1) := by decide +kernel
theorem d_Cu_take_63 : decode jCu_take.cc 63 = .ok (.ireturn, 1) := by decide +kernel
set_option maxHeartbeats 4000000 in
theorem s_Cu_take {g : Mg} {d : Nat} {K : Ou → Wd → Prop} {w : Wd} {p1 : Int} (h : (0 ≤ (w 25 1) ∧ (w 25 1) < 1002) ∧ ((¬ (w 4 ((w 25 1).toNat)) = p1 → (Cal g LC jCu_stop d [vA 25, vI 1] w (fun o w1 => rV o (K (.inl (some (vI (w 25 1)))) w1)))) ∧ ((w 4 ((w 25 1).toNat)) = p1 → (((w 25 1) < (w 2 6) → (((w 25 1) < 1000 → (K (.inl (some (vI (w 25 1)))) (up w 25 1 (wr ((w 25 1) + 1))))) ∧ (¬ (w 25 1) < 1000 → (Cal g LC jCu_stop d [vA 25, vI 2] w (fun o w2 => rV o (K (.inl (some (vI (w 25 1)))) w2)))))) ∧ (¬ (w 25 1) < (w 2 6) → (Cal g LC jCu_stop d [vA 25, vI 1] w (fun o w3 => rV o (K (.inl (some (vI (w 25 1)))) w3)))))))) : V g LC jCu_take (d + 1) K 0 [(0, vA 25), (1, vI p1)] [] w := by
  refine v_aload_n (pc := 0) d_Cu_take_0 rfl (.head _) ?_
  refine v_geti (pc := 1) (x := (w 25 1)) d_Cu_take_1 fl_Cu_13 cC_25.1 cC_25.2 (Or.inl rfl) rfl ?_
  refine v_istore_n (pc := 4) (ls' := [(2, vI (w 25 1)), (0, vA 25), (1, vI p1)]) d_Cu_take_4 rfl (by decide) rfl ?_
  refine v_aload_n (pc := 5) d_Cu_take_5 rfl (.tail _ (.head _)) ?_
  refine v_getr (C := "") (pc := 6) (r := 2) d_Cu_take_6 fl_Cu_7 cC_25.1 cC_25.2 (Or.inl ⟨_, rfl⟩) rC_25_0 ?_
  refine v_getr (C := "") (pc := 9) (r := 4) d_Cu_take_9 fl_Cu_23 cC_2.1 cC_2.2 (Or.inr ⟨_, rfl⟩) rC_2_2 ?_
  refine v_iload_n (pc := 12) d_Cu_take_12 rfl (.head _) ?_
  refine v_iald (pc := 13) (x := (w 4 ((w 25 1).toNat))) d_Cu_take_13 cC_4.1 cC_4.2 rfl h.1 ?_
  replace h := h.2
  refine v_iload_n (pc := 14) d_Cu_take_14 rfl (.tail _ (.tail _ (.head _))) ?_
  refine v_icmpne (pc := 15) (tgt := 29) d_Cu_take_15 (by decide) (fun c => ?_) (fun c => ?_)
  · replace h := h.1 c
    refine v_aload_n (pc := 29) d_Cu_take_29 rfl (.tail _ (.head _)) ?_
    refine v_iconst (pc := 30) d_Cu_take_30 (by decide) ?_
    refine v_callV (pc := 31) (J' := jCu_stop) (d' := d) (o := 25) (ci := 1) (N := 6) (T := cT1) (As := [vI 1]) d_Cu_take_31 ml_Cu_32 cC_25.1 cC_25.2 (by decide) rfl rfl (by decide) (Nat.le_refl _) rfl (Cal.weak h (fun o w1 h => ?_))
    rcases rV_of h with ⟨rfl, h⟩
    refine v_goto (pc := 34) (tgt := 62) d_Cu_take_34 (by decide) ?_
    refine v_iload_n (pc := 62) d_Cu_take_62 rfl (.head _) ?_
    exact v_iret (pc := 63) d_Cu_take_63 rfl h
  · replace h := h.2 c
    refine v_iload_n (pc := 18) d_Cu_take_18 rfl (.head _) ?_
    refine v_aload_n (pc := 19) d_Cu_take_19 rfl (.tail _ (.head _)) ?_
    refine v_getr (C := "") (pc := 20) (r := 2) d_Cu_take_20 fl_Cu_7 cC_25.1 cC_25.2 (Or.inl ⟨_, rfl⟩) rC_25_0 ?_
    refine v_geti (pc := 23) (x := (w 2 6)) d_Cu_take_23 fl_Cu_29 cC_2.1 cC_2.2 (Or.inl rfl) rfl ?_
    refine v_icmplt (pc := 26) (tgt := 37) d_Cu_take_26 (by decide) (fun c => ?_) (fun c => ?_)
    · replace h := h.1 c
      refine v_iload_n (pc := 37) d_Cu_take_37 rfl (.head _) ?_
      refine v_sipush (pc := 38) d_Cu_take_38 (by decide) rfl ?_
      refine v_icmplt (pc := 41) (tgt := 52) d_Cu_take_41 (by decide) (fun c => ?_) (fun c => ?_)
      · replace h := h.1 c
        refine v_aload_n (pc := 52) d_Cu_take_52 rfl (.tail _ (.head _)) ?_
        refine v_dup (pc := 53) d_Cu_take_53 rfl ?_
        refine v_geti (pc := 54) (x := (w 25 1)) d_Cu_take_54 fl_Cu_13 cC_25.1 cC_25.2 (Or.inl rfl) rfl ?_
        refine v_iconst (pc := 57) d_Cu_take_57 (by decide) ?_
        refine v_iadd (pc := 58) d_Cu_take_58 ?_
        refine v_puti (pc := 59) d_Cu_take_59 fp_Cu_13 cC_25.1 cC_25.2 (by decide) rfl ?_
        refine v_iload_n (pc := 62) d_Cu_take_62 rfl (.head _) ?_
        exact v_iret (pc := 63) d_Cu_take_63 rfl h
      · replace h := h.2 c
        refine v_aload_n (pc := 44) d_Cu_take_44 rfl (.tail _ (.head _)) ?_
        refine v_iconst (pc := 45) d_Cu_take_45 (by decide) ?_
        refine v_callV (pc := 46) (J' := jCu_stop) (d' := d) (o := 25) (ci := 1) (N := 6) (T := cT1) (As := [vI 2]) d_Cu_take_46 ml_Cu_32 cC_25.1 cC_25.2 (by decide) rfl rfl (by decide) (Nat.le_refl _) rfl (Cal.weak h (fun o w2 h => ?_))
        rcases rV_of h with ⟨rfl, h⟩
        refine v_goto (pc := 49) (tgt := 62) d_Cu_take_49 (by decide) ?_
        refine v_iload_n (pc := 62) d_Cu_take_62 rfl (.head _) ?_
        exact v_iret (pc := 63) d_Cu_take_63 rfl h
    · replace h := h.2 c
      refine v_aload_n (pc := 29) d_Cu_take_29 rfl (.tail _ (.head _)) ?_
      refine v_iconst (pc := 30) d_Cu_take_30 (by decide) ?_
      refine v_callV (pc := 31) (J' := jCu_stop) (d' := d) (o := 25) (ci := 1) (N := 6) (T := cT1) (As := [vI 1]) d_Cu_take_31 ml_Cu_32 cC_25.1 cC_25.2 (by decide) rfl rfl (by decide) (Nat.le_refl _) rfl (Cal.weak h (fun o w3 h => ?_))
      rcases rV_of h with ⟨rfl, h⟩
      refine v_goto (pc := 34) (tgt := 62) d_Cu_take_34 (by decide) ?_
      refine v_iload_n (pc := 62) d_Cu_take_62 rfl (.head _) ?_
      exact v_iret (pc := 63) d_Cu_take_63 rfl h
theorem d_Cu_stop_0 : decode jCu_stop.cc 0 = .ok (.aload_n 0, 1) := by decide +kernel
theorem d_Cu_stop_1 : decode jCu_stop.cc 1 = .ok (.getfield 17, 3) := by decide +kernel
theorem d_Cu_stop_4 : decode jCu_stop.cc 4 = .ok (.ifCond .ne 24, 3) := by decide +kernel
theorem d_Cu_stop_7 : decode jCu_stop.cc 7 = .ok (.aload_n 0, 1) := by decide +kernel
theorem d_Cu_stop_8 : decode jCu_stop.cc 8 = .ok (.iload_n 1, 1) := by decide +kernel
theorem d_Cu_stop_9 : decode jCu_stop.cc 9 = .ok (.putfield 17, 3) := by decide +kernel
theorem d_Cu_stop_12 : decode jCu_stop.cc 12 = .ok (.aload_n 0, 1) := by decide +kernel
theorem d_Cu_stop_13 : decode jCu_stop.cc 13 = .ok (.aload_n 0, 1) := by decide +kernel
theorem d_Cu_stop_14 : decode jCu_stop.cc 14 = .ok (.getfield 7, 3) := by decide +kernel
theorem d_Cu_stop_17 : decode jCu_stop.cc 17 = .ok (.getfield 36, 3) := by decide +kernel
theorem d_Cu_stop_20 : decode jCu_stop.cc 20 = .ok (.aload_n 0, 1) := by decide +kernel
theorem d_Cu_stop_21 : decode jCu_stop.cc 21 = .ok (.getfield 13, 3) := by decide +kernel
theorem d_Cu_stop_24 : decode jCu_stop.cc 24 = .ok (.iaload, 1) := by decide +kernel
theorem d_Cu_stop_25 : decode jCu_stop.cc 25 = .ok (.putfield 39, 3) := by decide +kernel
theorem d_Cu_stop_28 : decode jCu_stop.cc 28 = .ok (.aload_n 0, 1) := by decide +kernel
theorem d_Cu_stop_29 : decode jCu_stop.cc 29 = .ok (.aload_n 0, 1) := by decide +kernel
theorem d_Cu_stop_30 : decode jCu_stop.cc 30 = .ok (.getfield 7, 3) := by decide +kernel
theorem d_Cu_stop_33 : decode jCu_stop.cc 33 = .ok (.getfield 29, 3) := by decide +kernel
theorem d_Cu_stop_36 : decode jCu_stop.cc 36 = .ok (.putfield 13, 3) := by decide +kernel
theorem d_Cu_stop_39 : decode jCu_stop.cc 39 = .ok (.return_, 1) := by decide +kernel
set_option maxHeartbeats 4000000 in
theorem s_Cu_stop {g : Mg} {d : Nat} {K : Ou → Wd → Prop} {w : Wd} {p1 : Int} (h : (¬ (w 25 2) = 0 → (K (.inl none) (up w 25 1 (w 2 6)))) ∧ ((w 25 2) = 0 → ((0 ≤ (w 25 1) ∧ (w 25 1) < 1002) ∧ (K (.inl none) (up (up (up w 25 2 p1) 25 3 (w 5 ((w 25 1).toNat))) 25 1 (w 2 6)))))) : V g LC jCu_stop d K 0 [(0, vA 25), (1, vI p1)] [] w := by
  refine v_aload_n (pc := 0) d_Cu_stop_0 rfl (.head _) ?_
  refine v_geti (pc := 1) (x := (w 25 2)) d_Cu_stop_1 fl_Cu_17 cC_25.1 cC_25.2 (Or.inl rfl) rfl ?_
  refine v_ifne (pc := 4) (tgt := 28) d_Cu_stop_4 (by decide) (fun c => ?_) (fun c => ?_)
  · replace h := h.1 c
    refine v_aload_n (pc := 28) d_Cu_stop_28 rfl (.head _) ?_
    refine v_aload_n (pc := 29) d_Cu_stop_29 rfl (.head _) ?_
    refine v_getr (C := "") (pc := 30) (r := 2) d_Cu_stop_30 fl_Cu_7 cC_25.1 cC_25.2 (Or.inl ⟨_, rfl⟩) rC_25_0 ?_
    refine v_geti (pc := 33) (x := (w 2 6)) d_Cu_stop_33 fl_Cu_29 cC_2.1 cC_2.2 (Or.inl rfl) rfl ?_
    refine v_puti (pc := 36) d_Cu_stop_36 fp_Cu_13 cC_25.1 cC_25.2 (by decide) rfl ?_
    exact v_vret (pc := 39) d_Cu_stop_39 rfl h
  · replace h := h.2 c
    refine v_aload_n (pc := 7) d_Cu_stop_7 rfl (.head _) ?_
    refine v_iload_n (pc := 8) d_Cu_stop_8 rfl (.tail _ (.head _)) ?_
    refine v_puti (pc := 9) d_Cu_stop_9 fp_Cu_17 cC_25.1 cC_25.2 (by decide) rfl ?_
    refine v_aload_n (pc := 12) d_Cu_stop_12 rfl (.head _) ?_
    refine v_aload_n (pc := 13) d_Cu_stop_13 rfl (.head _) ?_
    refine v_getr (C := "") (pc := 14) (r := 2) d_Cu_stop_14 fl_Cu_7 cC_25.1 cC_25.2 (Or.inl ⟨_, rfl⟩) rC_25_0 ?_
    refine v_getr (C := "") (pc := 17) (r := 5) d_Cu_stop_17 fl_Cu_36 cC_2.1 cC_2.2 (Or.inr ⟨_, rfl⟩) rC_2_3 ?_
    refine v_aload_n (pc := 20) d_Cu_stop_20 rfl (.head _) ?_
    refine v_geti (pc := 21) (x := (w 25 1)) d_Cu_stop_21 fl_Cu_13 cC_25.1 cC_25.2 (Or.inl rfl) rfl ?_
    refine v_iald (pc := 24) (x := (w 5 ((w 25 1).toNat))) d_Cu_stop_24 cC_5.1 cC_5.2 rfl h.1 ?_
    replace h := h.2
    refine v_puti (pc := 25) d_Cu_stop_25 fp_Cu_39 cC_25.1 cC_25.2 (by decide) rfl ?_
    refine v_aload_n (pc := 28) d_Cu_stop_28 rfl (.head _) ?_
    refine v_aload_n (pc := 29) d_Cu_stop_29 rfl (.head _) ?_
    refine v_getr (C := "") (pc := 30) (r := 2) d_Cu_stop_30 fl_Cu_7 cC_25.1 cC_25.2 (Or.inl ⟨_, rfl⟩) rC_25_0 ?_
    refine v_geti (pc := 33) (x := (w 2 6)) d_Cu_stop_33 fl_Cu_29 cC_2.1 cC_2.2 (Or.inl rfl) rfl ?_
    refine v_puti (pc := 36) d_Cu_stop_36 fp_Cu_13 cC_25.1 cC_25.2 (by decide) rfl ?_
    exact v_vret (pc := 39) d_Cu_stop_39 rfl h
theorem d_Cu_blame_0 : decode jCu_blame.cc 0 = .ok (.aload_n 0, 1) := by decide +kernel
theorem d_Cu_blame_1 : decode jCu_blame.cc 1 = .ok (.getfield 7, 3) := by decide +kernel
theorem d_Cu_blame_4 : decode jCu_blame.cc 4 = .ok (.getfield 36, 3) := by decide +kernel
theorem d_Cu_blame_7 : decode jCu_blame.cc 7 = .ok (.iload_n 2, 1) := by decide +kernel
theorem d_Cu_blame_8 : decode jCu_blame.cc 8 = .ok (.iaload, 1) := by decide +kernel
theorem d_Cu_blame_9 : decode jCu_blame.cc 9 = .ok (.istore_n 3, 1) := by decide +kernel
theorem d_Cu_blame_10 : decode jCu_blame.cc 10 = .ok (.aload_n 0, 1) := by decide +kernel
theorem d_Cu_blame_11 : decode jCu_blame.cc 11 = .ok (.getfield 20, 3) := by decide +kernel
theorem d_Cu_blame_14 : decode jCu_blame.cc 14 = .ok (.ifCond .eq 27, 3) := by decide +kernel
theorem d_Cu_blame_17 : decode jCu_blame.cc 17 = .ok (.iload_n 3, 1) := by decide +kernel
theorem d_Cu_blame_18 : decode jCu_blame.cc 18 = .ok (.aload_n 0, 1) := by decide +kernel
theorem d_Cu_blame_19 : decode jCu_blame.cc 19 = .ok (.getfield 42, 3) := by decide +kernel
theorem d_Cu_blame_22 : decode jCu_blame.cc 22 = .ok (.if_icmp .lt 19, 3) := by decide +kernel
theorem d_Cu_blame_25 : decode jCu_blame.cc 25 = .ok (.iload_n 3, 1) := by decide +kernel
theorem d_Cu_blame_26 : decode jCu_blame.cc 26 = .ok (.aload_n 0, 1) := by decide +kernel
theorem d_Cu_blame_27 : decode jCu_blame.cc 27 = .ok (.getfield 42, 3) := by decide +kernel
theorem d_Cu_blame_30 : decode jCu_blame.cc 30 = .ok (.if_icmp .ne 21, 3) := by decide +kernel
theorem d_Cu_blame_33 : decode jCu_blame.cc 33 = .ok (.iload_n 1, 1) := by decide +kernel
theorem d_Cu_blame_34 : decode jCu_blame.cc 34 = .ok (.aload_n 0, 1) := by decide +kernel
theorem d_Cu_blame_35 : decode jCu_blame.cc 35 = .ok (.getfield 20, 3) := by decide +kernel
theorem d_Cu_blame_38 : decode jCu_blame.cc 38 = .ok (.if_icmp .ge 13, 3) := by decide +kernel
theorem d_Cu_blame_41 : decode jCu_blame.cc 41 = .ok (.aload_n 0, 1) := by decide +kernel
theorem d_Cu_blame_42 : decode jCu_blame.cc 42 = .ok (.iload_n 1, 1) := by decide +kernel
theorem d_Cu_blame_43 : decode jCu_blame.cc 43 = .ok (.putfield 20, 3) := by decide +kernel
theorem d_Cu_blame_46 : decode jCu_blame.cc 46 = .ok (.aload_n 0, 1) := by decide +kernel
theorem d_Cu_blame_47 : decode jCu_blame.cc 47 = .ok (.iload_n 3, 1) := by decide +kernel
theorem d_Cu_blame_48 : decode jCu_blame.cc 48 = .ok (.putfield 42, 3) := by decide +kernel
theorem d_Cu_blame_51 : decode jCu_blame.cc 51 = .ok (.return_, 1) := by decide +kernel
set_option maxHeartbeats 4000000 in
theorem s_Cu_blame {g : Mg} {d : Nat} {K : Ou → Wd → Prop} {w : Wd} {p1 : Int} {p2 : Int} (h : (0 ≤ p2 ∧ p2 < 1002) ∧ (((w 25 4) = 0 → (K (.inl none) (up (up w 25 4 p1) 25 5 (w 5 p2.toNat)))) ∧ (¬ (w 25 4) = 0 → (((w 5 p2.toNat) < (w 25 5) → (K (.inl none) (up (up w 25 4 p1) 25 5 (w 5 p2.toNat)))) ∧ (¬ (w 5 p2.toNat) < (w 25 5) → ((¬ (w 5 p2.toNat) = (w 25 5) → (K (.inl none) w)) ∧ ((w 5 p2.toNat) = (w 25 5) → (((w 25 4) ≤ p1 → (K (.inl none) w)) ∧ (¬ (w 25 4) ≤ p1 → (K (.inl none) (up (up w 25 4 p1) 25 5 (w 5 p2.toNat)))))))))))) : V g LC jCu_blame d K 0 [(0, vA 25), (1, vI p1), (2, vI p2)] [] w := by
  refine v_aload_n (pc := 0) d_Cu_blame_0 rfl (.head _) ?_
  refine v_getr (C := "") (pc := 1) (r := 2) d_Cu_blame_1 fl_Cu_7 cC_25.1 cC_25.2 (Or.inl ⟨_, rfl⟩) rC_25_0 ?_
  refine v_getr (C := "") (pc := 4) (r := 5) d_Cu_blame_4 fl_Cu_36 cC_2.1 cC_2.2 (Or.inr ⟨_, rfl⟩) rC_2_3 ?_
  refine v_iload_n (pc := 7) d_Cu_blame_7 rfl (.tail _ (.tail _ (.head _))) ?_
  refine v_iald (pc := 8) (x := (w 5 p2.toNat)) d_Cu_blame_8 cC_5.1 cC_5.2 rfl h.1 ?_
  replace h := h.2
  refine v_istore_n (pc := 9) (ls' := [(3, vI (w 5 p2.toNat)), (0, vA 25), (1, vI p1), (2, vI p2)]) d_Cu_blame_9 rfl (by decide) rfl ?_
  refine v_aload_n (pc := 10) d_Cu_blame_10 rfl (.tail _ (.head _)) ?_
  refine v_geti (pc := 11) (x := (w 25 4)) d_Cu_blame_11 fl_Cu_20 cC_25.1 cC_25.2 (Or.inl rfl) rfl ?_
  refine v_ifeq (pc := 14) (tgt := 41) d_Cu_blame_14 (by decide) (fun c => ?_) (fun c => ?_)
  · replace h := h.1 c
    refine v_aload_n (pc := 41) d_Cu_blame_41 rfl (.tail _ (.head _)) ?_
    refine v_iload_n (pc := 42) d_Cu_blame_42 rfl (.tail _ (.tail _ (.head _))) ?_
    refine v_puti (pc := 43) d_Cu_blame_43 fp_Cu_20 cC_25.1 cC_25.2 (by decide) rfl ?_
    refine v_aload_n (pc := 46) d_Cu_blame_46 rfl (.tail _ (.head _)) ?_
    refine v_iload_n (pc := 47) d_Cu_blame_47 rfl (.head _) ?_
    refine v_puti (pc := 48) d_Cu_blame_48 fp_Cu_42 cC_25.1 cC_25.2 (by decide) rfl ?_
    exact v_vret (pc := 51) d_Cu_blame_51 rfl h
  · replace h := h.2 c
    refine v_iload_n (pc := 17) d_Cu_blame_17 rfl (.head _) ?_
    refine v_aload_n (pc := 18) d_Cu_blame_18 rfl (.tail _ (.head _)) ?_
    refine v_geti (pc := 19) (x := (w 25 5)) d_Cu_blame_19 fl_Cu_42 cC_25.1 cC_25.2 (Or.inl rfl) rfl ?_
    refine v_icmplt (pc := 22) (tgt := 41) d_Cu_blame_22 (by decide) (fun c => ?_) (fun c => ?_)
    · replace h := h.1 c
      refine v_aload_n (pc := 41) d_Cu_blame_41 rfl (.tail _ (.head _)) ?_
      refine v_iload_n (pc := 42) d_Cu_blame_42 rfl (.tail _ (.tail _ (.head _))) ?_
      refine v_puti (pc := 43) d_Cu_blame_43 fp_Cu_20 cC_25.1 cC_25.2 (by decide) rfl ?_
      refine v_aload_n (pc := 46) d_Cu_blame_46 rfl (.tail _ (.head _)) ?_
      refine v_iload_n (pc := 47) d_Cu_blame_47 rfl (.head _) ?_
      refine v_puti (pc := 48) d_Cu_blame_48 fp_Cu_42 cC_25.1 cC_25.2 (by decide) rfl ?_
      exact v_vret (pc := 51) d_Cu_blame_51 rfl h
    · replace h := h.2 c
      refine v_iload_n (pc := 25) d_Cu_blame_25 rfl (.head _) ?_
      refine v_aload_n (pc := 26) d_Cu_blame_26 rfl (.tail _ (.head _)) ?_
      refine v_geti (pc := 27) (x := (w 25 5)) d_Cu_blame_27 fl_Cu_42 cC_25.1 cC_25.2 (Or.inl rfl) rfl ?_
      refine v_icmpne (pc := 30) (tgt := 51) d_Cu_blame_30 (by decide) (fun c => ?_) (fun c => ?_)
      · replace h := h.1 c
        exact v_vret (pc := 51) d_Cu_blame_51 rfl h
      · replace h := h.2 c
        refine v_iload_n (pc := 33) d_Cu_blame_33 rfl (.tail _ (.tail _ (.head _))) ?_
        refine v_aload_n (pc := 34) d_Cu_blame_34 rfl (.tail _ (.head _)) ?_
        refine v_geti (pc := 35) (x := (w 25 4)) d_Cu_blame_35 fl_Cu_20 cC_25.1 cC_25.2 (Or.inl rfl) rfl ?_
        refine v_icmpge (pc := 38) (tgt := 51) d_Cu_blame_38 (by decide) (fun c => ?_) (fun c => ?_)
        · replace h := h.1 c
          exact v_vret (pc := 51) d_Cu_blame_51 rfl h
        · replace h := h.2 c
          refine v_aload_n (pc := 41) d_Cu_blame_41 rfl (.tail _ (.head _)) ?_
          refine v_iload_n (pc := 42) d_Cu_blame_42 rfl (.tail _ (.tail _ (.head _))) ?_
          refine v_puti (pc := 43) d_Cu_blame_43 fp_Cu_20 cC_25.1 cC_25.2 (by decide) rfl ?_
          refine v_aload_n (pc := 46) d_Cu_blame_46 rfl (.tail _ (.head _)) ?_
          refine v_iload_n (pc := 47) d_Cu_blame_47 rfl (.head _) ?_
          refine v_puti (pc := 48) d_Cu_blame_48 fp_Cu_42 cC_25.1 cC_25.2 (by decide) rfl ?_
          exact v_vret (pc := 51) d_Cu_blame_51 rfl h
theorem d_Cu_worst_0 : decode jCu_worst.cc 0 = .ok (.aload_n 0, 1) := by decide +kernel
theorem d_Cu_worst_1 : decode jCu_worst.cc 1 = .ok (.getfield 17, 3) := by decide +kernel
theorem d_Cu_worst_4 : decode jCu_worst.cc 4 = .ok (.ifCond .eq 10, 3) := by decide +kernel
theorem d_Cu_worst_7 : decode jCu_worst.cc 7 = .ok (.aload_n 0, 1) := by decide +kernel
theorem d_Cu_worst_8 : decode jCu_worst.cc 8 = .ok (.getfield 17, 3) := by decide +kernel
theorem d_Cu_worst_11 : decode jCu_worst.cc 11 = .ok (.goto 7, 3) := by decide +kernel
theorem d_Cu_worst_14 : decode jCu_worst.cc 14 = .ok (.aload_n 0, 1) := by decide +kernel
theorem d_Cu_worst_15 : decode jCu_worst.cc 15 = .ok (.getfield 20, 3) := by decide +kernel
theorem d_Cu_worst_18 : decode jCu_worst.cc 18 = .ok (.ireturn, 1) := by decide +kernel
set_option maxHeartbeats 4000000 in
theorem s_Cu_worst {g : Mg} {d : Nat} {K : Ou → Wd → Prop} {w : Wd} (h : ((w 25 2) = 0 → (K (.inl (some (vI (w 25 4)))) w)) ∧ (¬ (w 25 2) = 0 → (K (.inl (some (vI (w 25 2)))) w))) : V g LC jCu_worst d K 0 [(0, vA 25)] [] w := by
  refine v_aload_n (pc := 0) d_Cu_worst_0 rfl (.head _) ?_
  refine v_geti (pc := 1) (x := (w 25 2)) d_Cu_worst_1 fl_Cu_17 cC_25.1 cC_25.2 (Or.inl rfl) rfl ?_
  refine v_ifeq (pc := 4) (tgt := 14) d_Cu_worst_4 (by decide) (fun c => ?_) (fun c => ?_)
  · replace h := h.1 c
    refine v_aload_n (pc := 14) d_Cu_worst_14 rfl (.head _) ?_
    refine v_geti (pc := 15) (x := (w 25 4)) d_Cu_worst_15 fl_Cu_20 cC_25.1 cC_25.2 (Or.inl rfl) rfl ?_
    exact v_iret (pc := 18) d_Cu_worst_18 rfl h
  · replace h := h.2 c
    refine v_aload_n (pc := 7) d_Cu_worst_7 rfl (.head _) ?_
    refine v_geti (pc := 8) (x := (w 25 2)) d_Cu_worst_8 fl_Cu_17 cC_25.1 cC_25.2 (Or.inl rfl) rfl ?_
    refine v_goto (pc := 11) (tgt := 18) d_Cu_worst_11 (by decide) ?_
    exact v_iret (pc := 18) d_Cu_worst_18 rfl h
theorem d_Cu_worstPlace_0 : decode jCu_worstPlace.cc 0 = .ok (.aload_n 0, 1) := by decide +kernel
theorem d_Cu_worstPlace_1 : decode jCu_worstPlace.cc 1 = .ok (.getfield 17, 3) := by decide +kernel
theorem d_Cu_worstPlace_4 : decode jCu_worstPlace.cc 4 = .ok (.ifCond .eq 10, 3) := by decide +kernel
theorem d_Cu_worstPlace_7 : decode jCu_worstPlace.cc 7 = .ok (.aload_n 0, 1) := by decide +kernel
theorem d_Cu_worstPlace_8 : decode jCu_worstPlace.cc 8 = .ok (.getfield 39, 3) := by decide +kernel
theorem d_Cu_worstPlace_11 : decode jCu_worstPlace.cc 11 = .ok (.goto 7, 3) := by decide +kernel
theorem d_Cu_worstPlace_14 : decode jCu_worstPlace.cc 14 = .ok (.aload_n 0, 1) := by decide +kernel
theorem d_Cu_worstPlace_15 : decode jCu_worstPlace.cc 15 = .ok (.getfield 42, 3) := by decide +kernel
theorem d_Cu_worstPlace_18 : decode jCu_worstPlace.cc 18 = .ok (.ireturn, 1) := by decide +kernel
set_option maxHeartbeats 4000000 in
theorem s_Cu_worstPlace {g : Mg} {d : Nat} {K : Ou → Wd → Prop} {w : Wd} (h : ((w 25 2) = 0 → (K (.inl (some (vI (w 25 5)))) w)) ∧ (¬ (w 25 2) = 0 → (K (.inl (some (vI (w 25 3)))) w))) : V g LC jCu_worstPlace d K 0 [(0, vA 25)] [] w := by
  refine v_aload_n (pc := 0) d_Cu_worstPlace_0 rfl (.head _) ?_
  refine v_geti (pc := 1) (x := (w 25 2)) d_Cu_worstPlace_1 fl_Cu_17 cC_25.1 cC_25.2 (Or.inl rfl) rfl ?_
  refine v_ifeq (pc := 4) (tgt := 14) d_Cu_worstPlace_4 (by decide) (fun c => ?_) (fun c => ?_)
  · replace h := h.1 c
    refine v_aload_n (pc := 14) d_Cu_worstPlace_14 rfl (.head _) ?_
    refine v_geti (pc := 15) (x := (w 25 5)) d_Cu_worstPlace_15 fl_Cu_42 cC_25.1 cC_25.2 (Or.inl rfl) rfl ?_
    exact v_iret (pc := 18) d_Cu_worstPlace_18 rfl h
  · replace h := h.2 c
    refine v_aload_n (pc := 7) d_Cu_worstPlace_7 rfl (.head _) ?_
    refine v_geti (pc := 8) (x := (w 25 3)) d_Cu_worstPlace_8 fl_Cu_39 cC_25.1 cC_25.2 (Or.inl rfl) rfl ?_
    refine v_goto (pc := 11) (tgt := 18) d_Cu_worstPlace_11 (by decide) ?_
    exact v_iret (pc := 18) d_Cu_worstPlace_18 rfl h
