theorem d_Co_clear_0 : decode jCo_clear.cc 0 = .ok (.aload_n 0, 1) := by decide +kernel
theorem d_Co_clear_1 : decode jCo_clear.cc 1 = .ok (.iconst 0, 1) := by decide +kernel
theorem d_Co_clear_2 : decode jCo_clear.cc 2 = .ok (.putfield 24, 3) := by decide +kernel
theorem d_Co_clear_5 : decode jCo_clear.cc 5 = .ok (.aload_n 0, 1) := by decide +kernel
theorem d_Co_clear_6 : decode jCo_clear.cc 6 = .ok (.iconst 0, 1) := by decide +kernel
theorem d_Co_clear_7 : decode jCo_clear.cc 7 = .ok (.putfield 28, 3) := by decide +kernel
theorem d_Co_clear_10 : decode jCo_clear.cc 10 = .ok (.return_, 1) := by decide +kernel
set_option maxHeartbeats 4000000 in
theorem s_Co_clear {g : Mg} {d : Nat} {K : Ou → Wd → Prop} {w : Wd} (h : K (.inl none) (up (up w 19 4 0) 19 5 0)) : V g LC jCo_clear d K 0 [(0, vA 19)] [] w := by
  refine v_aload_n (pc := 0) d_Co_clear_0 rfl (.head _) ?_
  refine v_iconst (pc := 1) d_Co_clear_1 (by decide) ?_
  refine v_puti (pc := 2) d_Co_clear_2 fp_Co_24 cC_19.1 cC_19.2 (by decide) rfl ?_
  refine v_aload_n (pc := 5) d_Co_clear_5 rfl (.head _) ?_
  refine v_iconst (pc := 6) d_Co_clear_6 (by decide) ?_
  refine v_puti (pc := 7) d_Co_clear_7 fp_Co_28 cC_19.1 cC_19.2 (by decide) rfl ?_
  exact v_vret (pc := 10) d_Co_clear_10 rfl h
theorem d_Co_add_0 : decode jCo_add.cc 0 = .ok (.aload_n 0, 1) := by decide +kernel
theorem d_Co_add_1 : decode jCo_add.cc 1 = .ok (.getfield 24, 3) := by decide +kernel
theorem d_Co_add_4 : decode jCo_add.cc 4 = .ok (.istore 4, 2) := by decide +kernel
theorem d_Co_add_6 : decode jCo_add.cc 6 = .ok (.iload 4, 2) := by decide +kernel
theorem d_Co_add_8 : decode jCo_add.cc 8 = .ok (.sipush 1024, 3) := by decide +kernel
theorem d_Co_add_11 : decode jCo_add.cc 11 = .ok (.if_icmp .ge 48, 3) := by decide +kernel
theorem d_Co_add_14 : decode jCo_add.cc 14 = .ok (.aload_n 0, 1) := by decide +kernel
theorem d_Co_add_15 : decode jCo_add.cc 15 = .ok (.getfield 11, 3) := by decide +kernel
theorem d_Co_add_18 : decode jCo_add.cc 18 = .ok (.iload 4, 2) := by decide +kernel
theorem d_Co_add_20 : decode jCo_add.cc 20 = .ok (.iload_n 1, 1) := by decide +kernel
theorem d_Co_add_21 : decode jCo_add.cc 21 = .ok (.iastore, 1) := by decide +kernel
theorem d_Co_add_22 : decode jCo_add.cc 22 = .ok (.aload_n 0, 1) := by decide +kernel
theorem d_Co_add_23 : decode jCo_add.cc 23 = .ok (.getfield 15, 3) := by decide +kernel
theorem d_Co_add_26 : decode jCo_add.cc 26 = .ok (.iload 4, 2) := by decide +kernel
theorem d_Co_add_28 : decode jCo_add.cc 28 = .ok (.iload_n 2, 1) := by decide +kernel
theorem d_Co_add_29 : decode jCo_add.cc 29 = .ok (.iastore, 1) := by decide +kernel
theorem d_Co_add_30 : decode jCo_add.cc 30 = .ok (.aload_n 0, 1) := by decide +kernel
theorem d_Co_add_31 : decode jCo_add.cc 31 = .ok (.getfield 18, 3) := by decide +kernel
theorem d_Co_add_34 : decode jCo_add.cc 34 = .ok (.iload 4, 2) := by decide +kernel
theorem d_Co_add_36 : decode jCo_add.cc 36 = .ok (.iload_n 3, 1) := by decide +kernel
theorem d_Co_add_37 : decode jCo_add.cc 37 = .ok (.iastore, 1) := by decide +kernel
theorem d_Co_add_38 : decode jCo_add.cc 38 = .ok (.aload_n 0, 1) := by decide +kernel
theorem d_Co_add_39 : decode jCo_add.cc 39 = .ok (.getfield 21, 3) := by decide +kernel
theorem d_Co_add_42 : decode jCo_add.cc 42 = .ok (.iload 4, 2) := by decide +kernel
theorem d_Co_add_44 : decode jCo_add.cc 44 = .ok (.aload_n 0, 1) := by decide +kernel
theorem d_Co_add_45 : decode jCo_add.cc 45 = .ok (.getfield 28, 3) := by decide +kernel
theorem d_Co_add_48 : decode jCo_add.cc 48 = .ok (.iastore, 1) := by decide +kernel
theorem d_Co_add_49 : decode jCo_add.cc 49 = .ok (.aload_n 0, 1) := by decide +kernel
theorem d_Co_add_50 : decode jCo_add.cc 50 = .ok (.dup, 1) := by decide +kernel
theorem d_Co_add_51 : decode jCo_add.cc 51 = .ok (.getfield 24, 3) := by decide +kernel
theorem d_Co_add_54 : decode jCo_add.cc 54 = .ok (.iconst 1, 1) := by decide +kernel
theorem d_Co_add_55 : decode jCo_add.cc 55 = .ok (.iadd, 1) := by decide +kernel
theorem d_Co_add_56 : decode jCo_add.cc 56 = .ok (.putfield 24, 3) := by decide +kernel
theorem d_Co_add_59 : decode jCo_add.cc 59 = .ok (.iload 4, 2) := by decide +kernel
theorem d_Co_add_61 : decode jCo_add.cc 61 = .ok (.ireturn, 1) := by decide +kernel
set_option maxHeartbeats 4000000 in
theorem s_Co_add {g : Mg} {d : Nat} {K : Ou → Wd → Prop} {w : Wd} {p1 : Int} {p2 : Int} {p3 : Int} (h : (1024 ≤ (w 19 4) → (K (.inl (some (vI (w 19 4)))) w)) ∧ (¬ 1024 ≤ (w 19 4) → ((0 ≤ (w 19 4) ∧ (w 19 4) < 1024) ∧ ((0 ≤ (w 19 4) ∧ (w 19 4) < 1024) ∧ ((0 ≤ (w 19 4) ∧ (w 19 4) < 1024) ∧ ((0 ≤ (w 19 4) ∧ (w 19 4) < 1024) ∧ (K (.inl (some (vI (w 19 4)))) (up (up (up (up (up w 20 ((w 19 4).toNat) p1) 21 ((w 19 4).toNat) p2) 22 ((w 19 4).toNat) p3) 23 ((w 19 4).toNat) (w 19 5)) 19 4 (wr ((w 19 4) + 1)))))))))) : V g LC jCo_add d K 0 [(0, vA 19), (1, vI p1), (2, vI p2), (3, vI p3)] [] w := by
  refine v_aload_n (pc := 0) d_Co_add_0 rfl (.head _) ?_
  refine v_geti (pc := 1) (x := (w 19 4)) d_Co_add_1 fl_Co_24 cC_19.1 cC_19.2 (Or.inl rfl) rfl ?_
  refine v_istore (pc := 4) (ls' := [(4, vI (w 19 4)), (0, vA 19), (1, vI p1), (2, vI p2), (3, vI p3)]) d_Co_add_4 (by decide) rfl ?_
  refine v_iload (pc := 6) d_Co_add_6 (.head _) ?_
  refine v_sipush (pc := 8) d_Co_add_8 (by decide) rfl ?_
  refine v_icmpge (pc := 11) (tgt := 59) d_Co_add_11 (by decide) (fun c => ?_) (fun c => ?_)
  · replace h := h.1 c
    refine v_iload (pc := 59) d_Co_add_59 (.head _) ?_
    exact v_iret (pc := 61) d_Co_add_61 rfl h
  · replace h := h.2 c
    refine v_aload_n (pc := 14) d_Co_add_14 rfl (.tail _ (.head _)) ?_
    refine v_getr (C := "") (pc := 15) (r := 20) d_Co_add_15 fl_Co_11 cC_19.1 cC_19.2 (Or.inr ⟨_, rfl⟩) rC_19_0 ?_
    refine v_iload (pc := 18) d_Co_add_18 (.head _) ?_
    refine v_iload_n (pc := 20) d_Co_add_20 rfl (.tail _ (.tail _ (.head _))) ?_
    refine v_iast (pc := 21) d_Co_add_21 cC_20.1 cC_20.2 (aC_20 _) h.1 ?_
    replace h := h.2
    refine v_aload_n (pc := 22) d_Co_add_22 rfl (.tail _ (.head _)) ?_
    refine v_getr (C := "") (pc := 23) (r := 21) d_Co_add_23 fl_Co_15 cC_19.1 cC_19.2 (Or.inr ⟨_, rfl⟩) rC_19_1 ?_
    refine v_iload (pc := 26) d_Co_add_26 (.head _) ?_
    refine v_iload_n (pc := 28) d_Co_add_28 rfl (.tail _ (.tail _ (.tail _ (.head _)))) ?_
    refine v_iast (pc := 29) d_Co_add_29 cC_21.1 cC_21.2 (aC_21 _) h.1 ?_
    replace h := h.2
    refine v_aload_n (pc := 30) d_Co_add_30 rfl (.tail _ (.head _)) ?_
    refine v_getr (C := "") (pc := 31) (r := 22) d_Co_add_31 fl_Co_18 cC_19.1 cC_19.2 (Or.inr ⟨_, rfl⟩) rC_19_2 ?_
    refine v_iload (pc := 34) d_Co_add_34 (.head _) ?_
    refine v_iload_n (pc := 36) d_Co_add_36 rfl (.tail _ (.tail _ (.tail _ (.tail _ (.head _))))) ?_
    refine v_iast (pc := 37) d_Co_add_37 cC_22.1 cC_22.2 (aC_22 _) h.1 ?_
    replace h := h.2
    refine v_aload_n (pc := 38) d_Co_add_38 rfl (.tail _ (.head _)) ?_
    refine v_getr (C := "") (pc := 39) (r := 23) d_Co_add_39 fl_Co_21 cC_19.1 cC_19.2 (Or.inr ⟨_, rfl⟩) rC_19_3 ?_
    refine v_iload (pc := 42) d_Co_add_42 (.head _) ?_
    refine v_aload_n (pc := 44) d_Co_add_44 rfl (.tail _ (.head _)) ?_
    refine v_geti (pc := 45) (x := (w 19 5)) d_Co_add_45 fl_Co_28 cC_19.1 cC_19.2 (Or.inl rfl) rfl ?_
    refine v_iast (pc := 48) d_Co_add_48 cC_23.1 cC_23.2 (aC_23 _) h.1 ?_
    replace h := h.2
    refine v_aload_n (pc := 49) d_Co_add_49 rfl (.tail _ (.head _)) ?_
    refine v_dup (pc := 50) d_Co_add_50 rfl ?_
    refine v_geti (pc := 51) (x := (w 19 4)) d_Co_add_51 fl_Co_24 cC_19.1 cC_19.2 (Or.inl rfl) rfl ?_
    refine v_iconst (pc := 54) d_Co_add_54 (by decide) ?_
    refine v_iadd (pc := 55) d_Co_add_55 ?_
    refine v_puti (pc := 56) d_Co_add_56 fp_Co_24 cC_19.1 cC_19.2 (by decide) rfl ?_
    refine v_iload (pc := 59) d_Co_add_59 (.head _) ?_
    exact v_iret (pc := 61) d_Co_add_61 rfl h
theorem d_Co_aimHere_0 : decode jCo_aimHere.cc 0 = .ok (.iload_n 1, 1) := by decide +kernel
theorem d_Co_aimHere_1 : decode jCo_aimHere.cc 1 = .ok (.ifCond .lt 20, 3) := by decide +kernel
theorem d_Co_aimHere_4 : decode jCo_aimHere.cc 4 = .ok (.iload_n 1, 1) := by decide +kernel
theorem d_Co_aimHere_5 : decode jCo_aimHere.cc 5 = .ok (.sipush 1024, 3) := by decide +kernel
theorem d_Co_aimHere_8 : decode jCo_aimHere.cc 8 = .ok (.if_icmp .ge 13, 3) := by decide +kernel
theorem d_Co_aimHere_11 : decode jCo_aimHere.cc 11 = .ok (.aload_n 0, 1) := by decide +kernel
theorem d_Co_aimHere_12 : decode jCo_aimHere.cc 12 = .ok (.getfield 15, 3) := by decide +kernel
theorem d_Co_aimHere_15 : decode jCo_aimHere.cc 15 = .ok (.iload_n 1, 1) := by decide +kernel
theorem d_Co_aimHere_16 : decode jCo_aimHere.cc 16 = .ok (.aload_n 0, 1) := by decide +kernel
theorem d_Co_aimHere_17 : decode jCo_aimHere.cc 17 = .ok (.getfield 24, 3) := by decide +kernel
theorem d_Co_aimHere_20 : decode jCo_aimHere.cc 20 = .ok (.iastore, 1) := by decide +kernel
theorem d_Co_aimHere_21 : decode jCo_aimHere.cc 21 = .ok (.return_, 1) := by decide +kernel
set_option maxHeartbeats 4000000 in
theorem s_Co_aimHere {g : Mg} {d : Nat} {K : Ou → Wd → Prop} {w : Wd} {p1 : Int} (h : (p1 < 0 → (K (.inl none) w)) ∧ (¬ p1 < 0 → ((1024 ≤ p1 → (K (.inl none) w)) ∧ (¬ 1024 ≤ p1 → ((0 ≤ p1 ∧ p1 < 1024) ∧ (K (.inl none) (up w 21 (p1.toNat) (w 19 4)))))))) : V g LC jCo_aimHere d K 0 [(0, vA 19), (1, vI p1)] [] w := by
  refine v_iload_n (pc := 0) d_Co_aimHere_0 rfl (.tail _ (.head _)) ?_
  refine v_iflt (pc := 1) (tgt := 21) d_Co_aimHere_1 (by decide) (fun c => ?_) (fun c => ?_)
  · replace h := h.1 c
    exact v_vret (pc := 21) d_Co_aimHere_21 rfl h
  · replace h := h.2 c
    refine v_iload_n (pc := 4) d_Co_aimHere_4 rfl (.tail _ (.head _)) ?_
    refine v_sipush (pc := 5) d_Co_aimHere_5 (by decide) rfl ?_
    refine v_icmpge (pc := 8) (tgt := 21) d_Co_aimHere_8 (by decide) (fun c => ?_) (fun c => ?_)
    · replace h := h.1 c
      exact v_vret (pc := 21) d_Co_aimHere_21 rfl h
    · replace h := h.2 c
      refine v_aload_n (pc := 11) d_Co_aimHere_11 rfl (.head _) ?_
      refine v_getr (C := "") (pc := 12) (r := 21) d_Co_aimHere_12 fl_Co_15 cC_19.1 cC_19.2 (Or.inr ⟨_, rfl⟩) rC_19_1 ?_
      refine v_iload_n (pc := 15) d_Co_aimHere_15 rfl (.tail _ (.head _)) ?_
      refine v_aload_n (pc := 16) d_Co_aimHere_16 rfl (.head _) ?_
      refine v_geti (pc := 17) (x := (w 19 4)) d_Co_aimHere_17 fl_Co_24 cC_19.1 cC_19.2 (Or.inl rfl) rfl ?_
      refine v_iast (pc := 20) d_Co_aimHere_20 cC_21.1 cC_21.2 (aC_21 _) h.1 ?_
      replace h := h.2
      exact v_vret (pc := 21) d_Co_aimHere_21 rfl h
theorem d_Co_mark_0 : decode jCo_mark.cc 0 = .ok (.iload_n 1, 1) := by decide +kernel
theorem d_Co_mark_1 : decode jCo_mark.cc 1 = .ok (.ifCond .lt 17, 3) := by decide +kernel
theorem d_Co_mark_4 : decode jCo_mark.cc 4 = .ok (.iload_n 1, 1) := by decide +kernel
theorem d_Co_mark_5 : decode jCo_mark.cc 5 = .ok (.sipush 1024, 3) := by decide +kernel
theorem d_Co_mark_8 : decode jCo_mark.cc 8 = .ok (.if_icmp .ge 10, 3) := by decide +kernel
theorem d_Co_mark_11 : decode jCo_mark.cc 11 = .ok (.aload_n 0, 1) := by decide +kernel
theorem d_Co_mark_12 : decode jCo_mark.cc 12 = .ok (.getfield 18, 3) := by decide +kernel
theorem d_Co_mark_15 : decode jCo_mark.cc 15 = .ok (.iload_n 1, 1) := by decide +kernel
theorem d_Co_mark_16 : decode jCo_mark.cc 16 = .ok (.iload_n 2, 1) := by decide +kernel
theorem d_Co_mark_17 : decode jCo_mark.cc 17 = .ok (.iastore, 1) := by decide +kernel
theorem d_Co_mark_18 : decode jCo_mark.cc 18 = .ok (.return_, 1) := by decide +kernel
set_option maxHeartbeats 4000000 in
theorem s_Co_mark {g : Mg} {d : Nat} {K : Ou → Wd → Prop} {w : Wd} {p1 : Int} {p2 : Int} (h : (p1 < 0 → (K (.inl none) w)) ∧ (¬ p1 < 0 → ((1024 ≤ p1 → (K (.inl none) w)) ∧ (¬ 1024 ≤ p1 → ((0 ≤ p1 ∧ p1 < 1024) ∧ (K (.inl none) (up w 22 (p1.toNat) p2))))))) : V g LC jCo_mark d K 0 [(0, vA 19), (1, vI p1), (2, vI p2)] [] w := by
  refine v_iload_n (pc := 0) d_Co_mark_0 rfl (.tail _ (.head _)) ?_
  refine v_iflt (pc := 1) (tgt := 18) d_Co_mark_1 (by decide) (fun c => ?_) (fun c => ?_)
  · replace h := h.1 c
    exact v_vret (pc := 18) d_Co_mark_18 rfl h
  · replace h := h.2 c
    refine v_iload_n (pc := 4) d_Co_mark_4 rfl (.tail _ (.head _)) ?_
    refine v_sipush (pc := 5) d_Co_mark_5 (by decide) rfl ?_
    refine v_icmpge (pc := 8) (tgt := 18) d_Co_mark_8 (by decide) (fun c => ?_) (fun c => ?_)
    · replace h := h.1 c
      exact v_vret (pc := 18) d_Co_mark_18 rfl h
    · replace h := h.2 c
      refine v_aload_n (pc := 11) d_Co_mark_11 rfl (.head _) ?_
      refine v_getr (C := "") (pc := 12) (r := 22) d_Co_mark_12 fl_Co_18 cC_19.1 cC_19.2 (Or.inr ⟨_, rfl⟩) rC_19_2 ?_
      refine v_iload_n (pc := 15) d_Co_mark_15 rfl (.tail _ (.head _)) ?_
      refine v_iload_n (pc := 16) d_Co_mark_16 rfl (.tail _ (.tail _ (.head _))) ?_
      refine v_iast (pc := 17) d_Co_mark_17 cC_22.1 cC_22.2 (aC_22 _) h.1 ?_
      replace h := h.2
      exact v_vret (pc := 18) d_Co_mark_18 rfl h
theorem d_Cu_rewind_0 : decode jCu_rewind.cc 0 = .ok (.aload_n 0, 1) := by decide +kernel
theorem d_Cu_rewind_1 : decode jCu_rewind.cc 1 = .ok (.iconst 0, 1) := by decide +kernel
theorem d_Cu_rewind_2 : decode jCu_rewind.cc 2 = .ok (.putfield 13, 3) := by decide +kernel
theorem d_Cu_rewind_5 : decode jCu_rewind.cc 5 = .ok (.aload_n 0, 1) := by decide +kernel
theorem d_Cu_rewind_6 : decode jCu_rewind.cc 6 = .ok (.iconst 0, 1) := by decide +kernel
theorem d_Cu_rewind_7 : decode jCu_rewind.cc 7 = .ok (.putfield 17, 3) := by decide +kernel
theorem d_Cu_rewind_10 : decode jCu_rewind.cc 10 = .ok (.aload_n 0, 1) := by decide +kernel
theorem d_Cu_rewind_11 : decode jCu_rewind.cc 11 = .ok (.iconst 0, 1) := by decide +kernel
theorem d_Cu_rewind_12 : decode jCu_rewind.cc 12 = .ok (.putfield 20, 3) := by decide +kernel
theorem d_Cu_rewind_15 : decode jCu_rewind.cc 15 = .ok (.return_, 1) := by decide +kernel
set_option maxHeartbeats 4000000 in
theorem s_Cu_rewind {g : Mg} {d : Nat} {K : Ou → Wd → Prop} {w : Wd} (h : K (.inl none) (up (up (up w 25 1 0) 25 2 0) 25 4 0)) : V g LC jCu_rewind d K 0 [(0, vA 25)] [] w := by
  refine v_aload_n (pc := 0) d_Cu_rewind_0 rfl (.head _) ?_
  refine v_iconst (pc := 1) d_Cu_rewind_1 (by decide) ?_
  refine v_puti (pc := 2) d_Cu_rewind_2 fp_Cu_13 cC_25.1 cC_25.2 (by decide) rfl ?_
  refine v_aload_n (pc := 5) d_Cu_rewind_5 rfl (.head _) ?_
  refine v_iconst (pc := 6) d_Cu_rewind_6 (by decide) ?_
  refine v_puti (pc := 7) d_Cu_rewind_7 fp_Cu_17 cC_25.1 cC_25.2 (by decide) rfl ?_
  refine v_aload_n (pc := 10) d_Cu_rewind_10 rfl (.head _) ?_
  refine v_iconst (pc := 11) d_Cu_rewind_11 (by decide) ?_
  refine v_puti (pc := 12) d_Cu_rewind_12 fp_Cu_20 cC_25.1 cC_25.2 (by decide) rfl ?_
  exact v_vret (pc := 15) d_Cu_rewind_15 rfl h
theorem d_Cu_here_0 : decode jCu_here.cc 0 = .ok (.aload_n 0, 1) := by decide +kernel
theorem d_Cu_here_1 : decode jCu_here.cc 1 = .ok (.getfield 13, 3) := by decide +kernel
theorem d_Cu_here_4 : decode jCu_here.cc 4 = .ok (.ireturn, 1) := by decide +kernel
set_option maxHeartbeats 4000000 in
theorem s_Cu_here {g : Mg} {d : Nat} {K : Ou → Wd → Prop} {w : Wd} (h : K (.inl (some (vI (w 25 1)))) w) : V g LC jCu_here d K 0 [(0, vA 25)] [] w := by
  refine v_aload_n (pc := 0) d_Cu_here_0 rfl (.head _) ?_
  refine v_geti (pc := 1) (x := (w 25 1)) d_Cu_here_1 fl_Cu_13 cC_25.1 cC_25.2 (Or.inl rfl) rfl ?_
  exact v_iret (pc := 4) d_Cu_here_4 rfl h
theorem d_Cu_kind_0 : decode jCu_kind.cc 0 = .ok (.aload_n 0, 1) := by decide +kernel
theorem d_Cu_kind_1 : decode jCu_kind.cc 1 = .ok (.getfield 7, 3) := by decide +kernel
theorem d_Cu_kind_4 : decode jCu_kind.cc 4 = .ok (.getfield 23, 3) := by decide +kernel
theorem d_Cu_kind_7 : decode jCu_kind.cc 7 = .ok (.aload_n 0, 1) := by decide +kernel
theorem d_Cu_kind_8 : decode jCu_kind.cc 8 = .ok (.getfield 13, 3) := by decide +kernel
theorem d_Cu_kind_11 : decode jCu_kind.cc 11 = .ok (.iaload, 1) := by decide +kernel
theorem d_Cu_kind_12 : decode jCu_kind.cc 12 = .ok (.ireturn, 1) := by decide +kernel
set_option maxHeartbeats 4000000 in
theorem s_Cu_kind {g : Mg} {d : Nat} {K : Ou → Wd → Prop} {w : Wd} (h : (0 ≤ (w 25 1) ∧ (w 25 1) < 1002) ∧ (K (.inl (some (vI (w 4 ((w 25 1).toNat))))) w)) : V g LC jCu_kind d K 0 [(0, vA 25)] [] w := by
  refine v_aload_n (pc := 0) d_Cu_kind_0 rfl (.head _) ?_
  refine v_getr (C := "") (pc := 1) (r := 2) d_Cu_kind_1 fl_Cu_7 cC_25.1 cC_25.2 (Or.inl ⟨_, rfl⟩) rC_25_0 ?_
  refine v_getr (C := "") (pc := 4) (r := 4) d_Cu_kind_4 fl_Cu_23 cC_2.1 cC_2.2 (Or.inr ⟨_, rfl⟩) rC_2_2 ?_
  refine v_aload_n (pc := 7) d_Cu_kind_7 rfl (.head _) ?_
  refine v_geti (pc := 8) (x := (w 25 1)) d_Cu_kind_8 fl_Cu_13 cC_25.1 cC_25.2 (Or.inl rfl) rfl ?_
  refine v_iald (pc := 11) (x := (w 4 ((w 25 1).toNat))) d_Cu_kind_11 cC_4.1 cC_4.2 rfl h.1 ?_
  replace h := h.2
  exact v_iret (pc := 12) d_Cu_kind_12 rfl h
theorem d_Cu_sees_0 : decode jCu_sees.cc 0 = .ok (.aload_n 0, 1) := by decide +kernel
theorem d_Cu_sees_1 : decode jCu_sees.cc 1 = .ok (.getfield 7, 3) := by decide +kernel
theorem d_Cu_sees_4 : decode jCu_sees.cc 4 = .ok (.getfield 23, 3) := by decide +kernel
theorem d_Cu_sees_7 : decode jCu_sees.cc 7 = .ok (.aload_n 0, 1) := by decide +kernel
theorem d_Cu_sees_8 : decode jCu_sees.cc 8 = .ok (.getfield 13, 3) := by decide +kernel
theorem d_Cu_sees_11 : decode jCu_sees.cc 11 = .ok (.iaload, 1) := by decide +kernel
theorem d_Cu_sees_12 : decode jCu_sees.cc 12 = .ok (.iload_n 1, 1) := by decide +kernel
theorem d_Cu_sees_13 : decode jCu_sees.cc 13 = .ok (.if_icmp .ne 7, 3) := by decide +kernel
theorem d_Cu_sees_16 : decode jCu_sees.cc 16 = .ok (.iconst 1, 1) := by decide +kernel
theorem d_Cu_sees_17 : decode jCu_sees.cc 17 = .ok (.goto 4, 3) := by decide +kernel
theorem d_Cu_sees_20 : decode jCu_sees.cc 20 = .ok (.iconst 0, 1) := by decide +kernel
theorem d_Cu_sees_21 : decode jCu_sees.cc 21 = .ok (.ireturn, 1) := by decide +kernel
set_option maxHeartbeats 4000000 in
theorem s_Cu_sees {g : Mg} {d : Nat} {K : Ou → Wd → Prop} {w : Wd} {p1 : Int} (h : (0 ≤ (w 25 1) ∧ (w 25 1) < 1002) ∧ ((¬ (w 4 ((w 25 1).toNat)) = p1 → (K (.inl (some (vI 0))) w)) ∧ ((w 4 ((w 25 1).toNat)) = p1 → (K (.inl (some (vI 1))) w)))) : V g LC jCu_sees d K 0 [(0, vA 25), (1, vI p1)] [] w := by
  refine v_aload_n (pc := 0) d_Cu_sees_0 rfl (.head _) ?_
  refine v_getr (C := "") (pc := 1) (r := 2) d_Cu_sees_1 fl_Cu_7 cC_25.1 cC_25.2 (Or.inl ⟨_, rfl⟩) rC_25_0 ?_
  refine v_getr (C := "") (pc := 4) (r := 4) d_Cu_sees_4 fl_Cu_23 cC_2.1 cC_2.2 (Or.inr ⟨_, rfl⟩) rC_2_2 ?_
  refine v_aload_n (pc := 7) d_Cu_sees_7 rfl (.head _) ?_
  refine v_geti (pc := 8) (x := (w 25 1)) d_Cu_sees_8 fl_Cu_13 cC_25.1 cC_25.2 (Or.inl rfl) rfl ?_
  refine v_iald (pc := 11) (x := (w 4 ((w 25 1).toNat))) d_Cu_sees_11 cC_4.1 cC_4.2 rfl h.1 ?_
  replace h := h.2
  refine v_iload_n (pc := 12) d_Cu_sees_12 rfl (.tail _ (.head _)) ?_
  refine v_icmpne (pc := 13) (tgt := 20) d_Cu_sees_13 (by decide) (fun c => ?_) (fun c => ?_)
  · replace h := h.1 c
    refine v_iconst (pc := 20) d_Cu_sees_20 (by decide) ?_
    exact v_zret (pc := 21) d_Cu_sees_21 rfl (by decide) h
  · replace h := h.2 c
    refine v_iconst (pc := 16) d_Cu_sees_16 (by decide) ?_
    refine v_goto (pc := 17) (tgt := 21) d_Cu_sees_17 (by decide) ?_
    exact v_zret (pc := 21) d_Cu_sees_21 rfl (by decide) h
theorem d_Cu_take_0 : decode jCu_take.cc 0 = .ok (.aload_n 0, 1) := by decide +kernel
theorem d_Cu_take_1 : decode jCu_take.cc 1 = .ok (.getfield 13, 3) := by decide +kernel
theorem d_Cu_take_4 : decode jCu_take.cc 4 = .ok (.istore_n 2, 1) := by decide +kernel
theorem d_Cu_take_5 : decode jCu_take.cc 5 = .ok (.aload_n 0, 1) := by decide +kernel
theorem d_Cu_take_6 : decode jCu_take.cc 6 = .ok (.getfield 7, 3) := by decide +kernel
theorem d_Cu_take_9 : decode jCu_take.cc 9 = .ok (.getfield 23, 3) := by decide +kernel
theorem d_Cu_take_12 : decode jCu_take.cc 12 = .ok (.iload_n 2, 1) := by decide +kernel
theorem d_Cu_take_13 : decode jCu_take.cc 13 = .ok (.iaload, 1) := by decide +kernel
theorem d_Cu_take_14 : decode jCu_take.cc 14 = .ok (.iload_n 1, 1) := by decide +kernel
theorem d_Cu_take_15 : decode jCu_take.cc 15 = .ok (.if_icmp .ne 14, 3) := by decide +kernel
theorem d_Cu_take_18 : decode jCu_take.cc 18 = .ok (.iload_n 2, 1) := by decide +kernel
theorem d_Cu_take_19 : decode jCu_take.cc 19 = .ok (.aload_n 0, 1) := by decide +kernel
theorem d_Cu_take_20 : decode jCu_take.cc 20 = .ok (.getfield 7, 3) := by decide +kernel
theorem d_Cu_take_23 : decode jCu_take.cc 23 = .ok (.getfield 29, 3) := by decide +kernel
theorem d_Cu_take_26 : decode jCu_take.cc 26 = .ok (.if_icmp .lt 11, 3) := by decide +kernel
theorem d_Cu_take_29 : decode jCu_take.cc 29 = .ok (.aload_n 0, 1) := by decide +kernel
theorem d_Cu_take_30 : decode jCu_take.cc 30 = .ok (.iconst 1, 1) := by decide +kernel
theorem d_Cu_take_31 : decode jCu_take.cc 31 = .ok (.invokevirtual 32, 3) := by decide +kernel
theorem d_Cu_take_34 : decode jCu_take.cc 34 = .ok (.goto 28, 3) := by decide +kernel
theorem d_Cu_take_37 : decode jCu_take.cc 37 = .ok (.iload_n 2, 1) := by decide +kernel
theorem d_Cu_take_38 : decode jCu_take.cc 38 = .ok (.sipush 1000, 3) := by decide +kernel
theorem d_Cu_take_41 : decode jCu_take.cc 41 = .ok (.if_icmp .lt 11, 3) := by decide +kernel
theorem d_Cu_take_44 : decode jCu_take.cc 44 = .ok (.aload_n 0, 1) := by decide +kernel
theorem d_Cu_take_45 : decode jCu_take.cc 45 = .ok (.iconst 2, 1) := by decide +kernel
theorem d_Cu_take_46 : decode jCu_take.cc 46 = .ok (.invokevirtual 32, 3) := by decide +kernel
theorem d_Cu_take_49 : decode jCu_take.cc 49 = .ok (.goto 13, 3) := by decide +kernel
theorem d_Cu_take_52 : decode jCu_take.cc 52 = .ok (.aload_n 0, 1) := by decide +kernel
theorem d_Cu_take_53 : decode jCu_take.cc 53 = .ok (.dup, 1) := by decide +kernel
theorem d_Cu_take_54 : decode jCu_take.cc 54 = .ok (.getfield 13, 3) := by decide +kernel
theorem d_Cu_take_57 : decode jCu_take.cc 57 = .ok (.iconst 1, 1) := by decide +kernel
theorem d_Cu_take_58 : decode jCu_take.cc 58 = .ok (.iadd, 1) := by decide +kernel
theorem d_Cu_take_59 : decode jCu_take.cc 59 = .ok (.putfield 13, 3) := by decide +kernel
theorem d_Cu_take_62 : decode jCu_take.cc 62 = .ok (.iload_n 2, 1) := by decide +kernel
theorem d_Cu_take_63 : decode jCu_take.cc 63 = .ok (.ireturn, 1) := by decide +kernel
set_option maxHeartbeats 4000000 in
theorem s_Cu_take {g : Mg} {d : Nat} {K : Ou → Wd → Prop} {w : Wd} {p1 : Int} (h : (0 ≤ (w 25 1) ∧ (w 25 1) < 1002) ∧ ((¬ (w 4 ((w 25 1).toNat)) = p1 → (Cal g LC jCu_stop d [vA 25, vI 1] w (fun o w1 => rV o (K (.inl (some (vI (w 25 1)))) w1)))) ∧ ((w 4 ((w 25 1).toNat)) = p1 → (((w 25 1) < (w 2 6) → (((w 25 1) < 1000 → (K (.inl (some (vI (w 25 1)))) (up w 25 1 (wr ((w 25 1) + 1))))) ∧ (¬ (w 25 1) < 1000 → (Cal g LC jCu_stop d [vA 25, vI 2] w (fun o w2 => rV o (K (.inl (some (vI (w 25 1)))) w2)))))) ∧ (¬ (w 25 1) < (w 2 6) → (Cal g LC jCu_stop d [vA 25, vI 1] w (fun o w3 => rV o (K (.inl (some (vI (w 25 1)))) w3)))))))) : V g LC jCu_take (d + 1) K 0 [(0, vA 25), (1, vI p1)] [] w := by
  refine v_aload_n (pc := 0) d_Cu_take_0 rfl (.head _) ?_
  refine v_geti (pc := 1) (x := (w 25 1)) d_Cu_take_1 fl_Cu_13 cC_25.1 cC_25.2 (Or.inl rfl) rfl ?_
  refine v_istore_n (pc := 4) (ls' := [(2, vI (w 25 1)), (0, vA 25), (1, vI p1)]) d_Cu_take_4 rfl (by decide) rfl ?_
  refine v_aload_n (pc := 5) d_Cu_take_5 rfl (.tail _ (.head _)) ?_
  refine v_getr (C := "") (pc := 6) (r := 2) d_Cu_take_6 fl_Cu_7 cC_25.1 cC_25.2 (Or.inl ⟨_, rfl⟩) rC_25_0 ?_
  refine v_getr (C := "") (pc := 9) (r := 4) d_Cu_take_9 fl_Cu_23 cC_2.1 cC_2.2 (Or.inr ⟨_, rfl⟩) rC_2_2 ?_
  refine v_iload_n (pc := 12) d_Cu_take_12 rfl (.head _) ?_
  refine v_iald (pc := 13) (x := (w 4 ((w 25 1).toNat))) d_Cu_take_13 cC_4.1 cC_4.2 rfl h.1 ?_
  replace h := h.2
  refine v_iload_n (pc := 14) d_Cu_take_14 rfl (.tail _ (.tail _ (.head _))) ?_
  refine v_icmpne (pc := 15) (tgt := 29) d_Cu_take_15 (by decide) (fun c => ?_) (fun c => ?_)
  · replace h := h.1 c
    refine v_aload_n (pc := 29) d_Cu_take_29 rfl (.tail _ (.head _)) ?_
    refine v_iconst (pc := 30) d_Cu_take_30 (by decide) ?_
    refine v_callV (pc := 31) (J' := jCu_stop) (d' := d) (o := 25) (ci := 1) (N := 6) (T := cT1) (As := [vI 1]) d_Cu_take_31 ml_Cu_32 cC_25.1 cC_25.2 (by decide) rfl rfl (Nat.le_of_ble_eq_true rfl) (Nat.le_refl _) rfl (Cal.weak h (fun o w1 h => ?_))
    rcases rV_of h with ⟨rfl, h⟩
    refine v_goto (pc := 34) (tgt := 62) d_Cu_take_34 (by decide) ?_
    refine v_iload_n (pc := 62) d_Cu_take_62 rfl (.head _) ?_
    exact v_iret (pc := 63) d_Cu_take_63 rfl h
  · replace h := h.2 c
    refine v_iload_n (pc := 18) d_Cu_take_18 rfl (.head _) ?_
    refine v_aload_n (pc := 19) d_Cu_take_19 rfl (.tail _ (.head _)) ?_
    refine v_getr (C := "") (pc := 20) (r := 2) d_Cu_take_20 fl_Cu_7 cC_25.1 cC_25.2 (Or.inl ⟨_, rfl⟩) rC_25_0 ?_
    refine v_geti (pc := 23) (x := (w 2 6)) d_Cu_take_23 fl_Cu_29 cC_2.1 cC_2.2 (Or.inl rfl) rfl ?_
    refine v_icmplt (pc := 26) (tgt := 37) d_Cu_take_26 (by decide) (fun c => ?_) (fun c => ?_)
    · replace h := h.1 c
      refine v_iload_n (pc := 37) d_Cu_take_37 rfl (.head _) ?_
      refine v_sipush (pc := 38) d_Cu_take_38 (by decide) rfl ?_
      refine v_icmplt (pc := 41) (tgt := 52) d_Cu_take_41 (by decide) (fun c => ?_) (fun c => ?_)
      · replace h := h.1 c
        refine v_aload_n (pc := 52) d_Cu_take_52 rfl (.tail _ (.head _)) ?_
        refine v_dup (pc := 53) d_Cu_take_53 rfl ?_
        refine v_geti (pc := 54) (x := (w 25 1)) d_Cu_take_54 fl_Cu_13 cC_25.1 cC_25.2 (Or.inl rfl) rfl ?_
        refine v_iconst (pc := 57) d_Cu_take_57 (by decide) ?_
        refine v_iadd (pc := 58) d_Cu_take_58 ?_
        refine v_puti (pc := 59) d_Cu_take_59 fp_Cu_13 cC_25.1 cC_25.2 (by decide) rfl ?_
        refine v_iload_n (pc := 62) d_Cu_take_62 rfl (.head _) ?_
        exact v_iret (pc := 63) d_Cu_take_63 rfl h
      · replace h := h.2 c
        refine v_aload_n (pc := 44) d_Cu_take_44 rfl (.tail _ (.head _)) ?_
        refine v_iconst (pc := 45) d_Cu_take_45 (by decide) ?_
        refine v_callV (pc := 46) (J' := jCu_stop) (d' := d) (o := 25) (ci := 1) (N := 6) (T := cT1) (As := [vI 2]) d_Cu_take_46 ml_Cu_32 cC_25.1 cC_25.2 (by decide) rfl rfl (Nat.le_of_ble_eq_true rfl) (Nat.le_refl _) rfl (Cal.weak h (fun o w2 h => ?_))
        rcases rV_of h with ⟨rfl, h⟩
        refine v_goto (pc := 49) (tgt := 62) d_Cu_take_49 (by decide) ?_
        refine v_iload_n (pc := 62) d_Cu_take_62 rfl (.head _) ?_
        exact v_iret (pc := 63) d_Cu_take_63 rfl h
    · replace h := h.2 c
      refine v_aload_n (pc := 29) d_Cu_take_29 rfl (.tail _ (.head _)) ?_
      refine v_iconst (pc := 30) d_Cu_take_30 (by decide) ?_
      refine v_callV (pc := 31) (J' := jCu_stop) (d' := d) (o := 25) (ci := 1) (N := 6) (T := cT1) (As := [vI 1]) d_Cu_take_31 ml_Cu_32 cC_25.1 cC_25.2 (by decide) rfl rfl (Nat.le_of_ble_eq_true rfl) (Nat.le_refl _) rfl (Cal.weak h (fun o w3 h => ?_))
      rcases rV_of h with ⟨rfl, h⟩
      refine v_goto (pc := 34) (tgt := 62) d_Cu_take_34 (by decide) ?_
      refine v_iload_n (pc := 62) d_Cu_take_62 rfl (.head _) ?_
      exact v_iret (pc := 63) d_Cu_take_63 rfl h
theorem d_Cu_stop_0 : decode jCu_stop.cc 0 = .ok (.aload_n 0, 1) := by decide +kernel
theorem d_Cu_stop_1 : decode jCu_stop.cc 1 = .ok (.getfield 17, 3) := by decide +kernel
theorem d_Cu_stop_4 : decode jCu_stop.cc 4 = .ok (.ifCond .ne 24, 3) := by decide +kernel
theorem d_Cu_stop_7 : decode jCu_stop.cc 7 = .ok (.aload_n 0, 1) := by decide +kernel
theorem d_Cu_stop_8 : decode jCu_stop.cc 8 = .ok (.iload_n 1, 1) := by decide +kernel
theorem d_Cu_stop_9 : decode jCu_stop.cc 9 = .ok (.putfield 17, 3) := by decide +kernel
theorem d_Cu_stop_12 : decode jCu_stop.cc 12 = .ok (.aload_n 0, 1) := by decide +kernel
theorem d_Cu_stop_13 : decode jCu_stop.cc 13 = .ok (.aload_n 0, 1) := by decide +kernel
theorem d_Cu_stop_14 : decode jCu_stop.cc 14 = .ok (.getfield 7, 3) := by decide +kernel
theorem d_Cu_stop_17 : decode jCu_stop.cc 17 = .ok (.getfield 36, 3) := by decide +kernel
theorem d_Cu_stop_20 : decode jCu_stop.cc 20 = .ok (.aload_n 0, 1) := by decide +kernel
theorem d_Cu_stop_21 : decode jCu_stop.cc 21 = .ok (.getfield 13, 3) := by decide +kernel
theorem d_Cu_stop_24 : decode jCu_stop.cc 24 = .ok (.iaload, 1) := by decide +kernel
theorem d_Cu_stop_25 : decode jCu_stop.cc 25 = .ok (.putfield 39, 3) := by decide +kernel
theorem d_Cu_stop_28 : decode jCu_stop.cc 28 = .ok (.aload_n 0, 1) := by decide +kernel
theorem d_Cu_stop_29 : decode jCu_stop.cc 29 = .ok (.aload_n 0, 1) := by decide +kernel
theorem d_Cu_stop_30 : decode jCu_stop.cc 30 = .ok (.getfield 7, 3) := by decide +kernel
theorem d_Cu_stop_33 : decode jCu_stop.cc 33 = .ok (.getfield 29, 3) := by decide +kernel
theorem d_Cu_stop_36 : decode jCu_stop.cc 36 = .ok (.putfield 13, 3) := by decide +kernel
theorem d_Cu_stop_39 : decode jCu_stop.cc 39 = .ok (.return_, 1) := by decide +kernel
set_option maxHeartbeats 4000000 in
theorem s_Cu_stop {g : Mg} {d : Nat} {K : Ou → Wd → Prop} {w : Wd} {p1 : Int} (h : (¬ (w 25 2) = 0 → (K (.inl none) (up w 25 1 (w 2 6)))) ∧ ((w 25 2) = 0 → ((0 ≤ (w 25 1) ∧ (w 25 1) < 1002) ∧ (K (.inl none) (up (up (up w 25 2 p1) 25 3 (w 5 ((w 25 1).toNat))) 25 1 (w 2 6)))))) : V g LC jCu_stop d K 0 [(0, vA 25), (1, vI p1)] [] w := by
  refine v_aload_n (pc := 0) d_Cu_stop_0 rfl (.head _) ?_
  refine v_geti (pc := 1) (x := (w 25 2)) d_Cu_stop_1 fl_Cu_17 cC_25.1 cC_25.2 (Or.inl rfl) rfl ?_
  refine v_ifne (pc := 4) (tgt := 28) d_Cu_stop_4 (by decide) (fun c => ?_) (fun c => ?_)
  · replace h := h.1 c
    refine v_aload_n (pc := 28) d_Cu_stop_28 rfl (.head _) ?_
    refine v_aload_n (pc := 29) d_Cu_stop_29 rfl (.head _) ?_
    refine v_getr (C := "") (pc := 30) (r := 2) d_Cu_stop_30 fl_Cu_7 cC_25.1 cC_25.2 (Or.inl ⟨_, rfl⟩) rC_25_0 ?_
    refine v_geti (pc := 33) (x := (w 2 6)) d_Cu_stop_33 fl_Cu_29 cC_2.1 cC_2.2 (Or.inl rfl) rfl ?_
    refine v_puti (pc := 36) d_Cu_stop_36 fp_Cu_13 cC_25.1 cC_25.2 (by decide) rfl ?_
    exact v_vret (pc := 39) d_Cu_stop_39 rfl h
  · replace h := h.2 c
    refine v_aload_n (pc := 7) d_Cu_stop_7 rfl (.head _) ?_
    refine v_iload_n (pc := 8) d_Cu_stop_8 rfl (.tail _ (.head _)) ?_
    refine v_puti (pc := 9) d_Cu_stop_9 fp_Cu_17 cC_25.1 cC_25.2 (by decide) rfl ?_
    refine v_aload_n (pc := 12) d_Cu_stop_12 rfl (.head _) ?_
    refine v_aload_n (pc := 13) d_Cu_stop_13 rfl (.head _) ?_
    refine v_getr (C := "") (pc := 14) (r := 2) d_Cu_stop_14 fl_Cu_7 cC_25.1 cC_25.2 (Or.inl ⟨_, rfl⟩) rC_25_0 ?_
    refine v_getr (C := "") (pc := 17) (r := 5) d_Cu_stop_17 fl_Cu_36 cC_2.1 cC_2.2 (Or.inr ⟨_, rfl⟩) rC_2_3 ?_
    refine v_aload_n (pc := 20) d_Cu_stop_20 rfl (.head _) ?_
    refine v_geti (pc := 21) (x := (w 25 1)) d_Cu_stop_21 fl_Cu_13 cC_25.1 cC_25.2 (Or.inl rfl) rfl ?_
    refine v_iald (pc := 24) (x := (w 5 ((w 25 1).toNat))) d_Cu_stop_24 cC_5.1 cC_5.2 rfl h.1 ?_
    replace h := h.2
    refine v_puti (pc := 25) d_Cu_stop_25 fp_Cu_39 cC_25.1 cC_25.2 (by decide) rfl ?_
    refine v_aload_n (pc := 28) d_Cu_stop_28 rfl (.head _) ?_
    refine v_aload_n (pc := 29) d_Cu_stop_29 rfl (.head _) ?_
    refine v_getr (C := "") (pc := 30) (r := 2) d_Cu_stop_30 fl_Cu_7 cC_25.1 cC_25.2 (Or.inl ⟨_, rfl⟩) rC_25_0 ?_
    refine v_geti (pc := 33) (x := (w 2 6)) d_Cu_stop_33 fl_Cu_29 cC_2.1 cC_2.2 (Or.inl rfl) rfl ?_
    refine v_puti (pc := 36) d_Cu_stop_36 fp_Cu_13 cC_25.1 cC_25.2 (by decide) rfl ?_
    exact v_vret (pc := 39) d_Cu_stop_39 rfl h
theorem d_Cu_blame_0 : decode jCu_blame.cc 0 = .ok (.aload_n 0, 1) := by decide +kernel
theorem d_Cu_blame_1 : decode jCu_blame.cc 1 = .ok (.getfield 7, 3) := by decide +kernel
theorem d_Cu_blame_4 : decode jCu_blame.cc 4 = .ok (.getfield 36, 3) := by decide +kernel
theorem d_Cu_blame_7 : decode jCu_blame.cc 7 = .ok (.iload_n 2, 1) := by decide +kernel
theorem d_Cu_blame_8 : decode jCu_blame.cc 8 = .ok (.iaload, 1) := by decide +kernel
theorem d_Cu_blame_9 : decode jCu_blame.cc 9 = .ok (.istore_n 3, 1) := by decide +kernel
theorem d_Cu_blame_10 : decode jCu_blame.cc 10 = .ok (.aload_n 0, 1) := by decide +kernel
theorem d_Cu_blame_11 : decode jCu_blame.cc 11 = .ok (.getfield 20, 3) := by decide +kernel
theorem d_Cu_blame_14 : decode jCu_blame.cc 14 = .ok (.ifCond .eq 27, 3) := by decide +kernel
theorem d_Cu_blame_17 : decode jCu_blame.cc 17 = .ok (.iload_n 3, 1) := by decide +kernel
theorem d_Cu_blame_18 : decode jCu_blame.cc 18 = .ok (.aload_n 0, 1) := by decide +kernel
theorem d_Cu_blame_19 : decode jCu_blame.cc 19 = .ok (.getfield 42, 3) := by decide +kernel
theorem d_Cu_blame_22 : decode jCu_blame.cc 22 = .ok (.if_icmp .lt 19, 3) := by decide +kernel
theorem d_Cu_blame_25 : decode jCu_blame.cc 25 = .ok (.iload_n 3, 1) := by decide +kernel
theorem d_Cu_blame_26 : decode jCu_blame.cc 26 = .ok (.aload_n 0, 1) := by decide +kernel
theorem d_Cu_blame_27 : decode jCu_blame.cc 27 = .ok (.getfield 42, 3) := by decide +kernel
theorem d_Cu_blame_30 : decode jCu_blame.cc 30 = .ok (.if_icmp .ne 21, 3) := by decide +kernel
theorem d_Cu_blame_33 : decode jCu_blame.cc 33 = .ok (.iload_n 1, 1) := by decide +kernel
theorem d_Cu_blame_34 : decode jCu_blame.cc 34 = .ok (.aload_n 0, 1) := by decide +kernel
theorem d_Cu_blame_35 : decode jCu_blame.cc 35 = .ok (.getfield 20, 3) := by decide +kernel
theorem d_Cu_blame_38 : decode jCu_blame.cc 38 = .ok (.if_icmp .ge 13, 3) := by decide +kernel
theorem d_Cu_blame_41 : decode jCu_blame.cc 41 = .ok (.aload_n 0, 1) := by decide +kernel
theorem d_Cu_blame_42 : decode jCu_blame.cc 42 = .ok (.iload_n 1, 1) := by decide +kernel
theorem d_Cu_blame_43 : decode jCu_blame.cc 43 = .ok (.putfield 20, 3) := by decide +kernel
theorem d_Cu_blame_46 : decode jCu_blame.cc 46 = .ok (.aload_n 0, 1) := by decide +kernel
theorem d_Cu_blame_47 : decode jCu_blame.cc 47 = .ok (.iload_n 3, 1) := by decide +kernel
theorem d_Cu_blame_48 : decode jCu_blame.cc 48 = .ok (.putfield 42, 3) := by decide +kernel
theorem d_Cu_blame_51 : decode jCu_blame.cc 51 = .ok (.return_, 1) := by decide +kernel
set_option maxHeartbeats 4000000 in
theorem s_Cu_blame {g : Mg} {d : Nat} {K : Ou → Wd → Prop} {w : Wd} {p1 : Int} {p2 : Int} (h : (0 ≤ p2 ∧ p2 < 1002) ∧ (((w 25 4) = 0 → (K (.inl none) (up (up w 25 4 p1) 25 5 (w 5 p2.toNat)))) ∧ (¬ (w 25 4) = 0 → (((w 5 p2.toNat) < (w 25 5) → (K (.inl none) (up (up w 25 4 p1) 25 5 (w 5 p2.toNat)))) ∧ (¬ (w 5 p2.toNat) < (w 25 5) → ((¬ (w 5 p2.toNat) = (w 25 5) → (K (.inl none) w)) ∧ ((w 5 p2.toNat) = (w 25 5) → (((w 25 4) ≤ p1 → (K (.inl none) w)) ∧ (¬ (w 25 4) ≤ p1 → (K (.inl none) (up (up w 25 4 p1) 25 5 (w 5 p2.toNat)))))))))))) : V g LC jCu_blame d K 0 [(0, vA 25), (1, vI p1), (2, vI p2)] [] w := by
  refine v_aload_n (pc := 0) d_Cu_blame_0 rfl (.head _) ?_
  refine v_getr (C := "") (pc := 1) (r := 2) d_Cu_blame_1 fl_Cu_7 cC_25.1 cC_25.2 (Or.inl ⟨_, rfl⟩) rC_25_0 ?_
  refine v_getr (C := "") (pc := 4) (r := 5) d_Cu_blame_4 fl_Cu_36 cC_2.1 cC_2.2 (Or.inr ⟨_, rfl⟩) rC_2_3 ?_
  refine v_iload_n (pc := 7) d_Cu_blame_7 rfl (.tail _ (.tail _ (.head _))) ?_
  refine v_iald (pc := 8) (x := (w 5 p2.toNat)) d_Cu_blame_8 cC_5.1 cC_5.2 rfl h.1 ?_
  replace h := h.2
  refine v_istore_n (pc := 9) (ls' := [(3, vI (w 5 p2.toNat)), (0, vA 25), (1, vI p1), (2, vI p2)]) d_Cu_blame_9 rfl (by decide) rfl ?_
  refine v_aload_n (pc := 10) d_Cu_blame_10 rfl (.tail _ (.head _)) ?_
  refine v_geti (pc := 11) (x := (w 25 4)) d_Cu_blame_11 fl_Cu_20 cC_25.1 cC_25.2 (Or.inl rfl) rfl ?_
  refine v_ifeq (pc := 14) (tgt := 41) d_Cu_blame_14 (by decide) (fun c => ?_) (fun c => ?_)
  · replace h := h.1 c
    refine v_aload_n (pc := 41) d_Cu_blame_41 rfl (.tail _ (.head _)) ?_
    refine v_iload_n (pc := 42) d_Cu_blame_42 rfl (.tail _ (.tail _ (.head _))) ?_
    refine v_puti (pc := 43) d_Cu_blame_43 fp_Cu_20 cC_25.1 cC_25.2 (by decide) rfl ?_
    refine v_aload_n (pc := 46) d_Cu_blame_46 rfl (.tail _ (.head _)) ?_
    refine v_iload_n (pc := 47) d_Cu_blame_47 rfl (.head _) ?_
    refine v_puti (pc := 48) d_Cu_blame_48 fp_Cu_42 cC_25.1 cC_25.2 (by decide) rfl ?_
    exact v_vret (pc := 51) d_Cu_blame_51 rfl h
  · replace h := h.2 c
    refine v_iload_n (pc := 17) d_Cu_blame_17 rfl (.head _) ?_
    refine v_aload_n (pc := 18) d_Cu_blame_18 rfl (.tail _ (.head _)) ?_
    refine v_geti (pc := 19) (x := (w 25 5)) d_Cu_blame_19 fl_Cu_42 cC_25.1 cC_25.2 (Or.inl rfl) rfl ?_
    refine v_icmplt (pc := 22) (tgt := 41) d_Cu_blame_22 (by decide) (fun c => ?_) (fun c => ?_)
    · replace h := h.1 c
      refine v_aload_n (pc := 41) d_Cu_blame_41 rfl (.tail _ (.head _)) ?_
      refine v_iload_n (pc := 42) d_Cu_blame_42 rfl (.tail _ (.tail _ (.head _))) ?_
      refine v_puti (pc := 43) d_Cu_blame_43 fp_Cu_20 cC_25.1 cC_25.2 (by decide) rfl ?_
      refine v_aload_n (pc := 46) d_Cu_blame_46 rfl (.tail _ (.head _)) ?_
      refine v_iload_n (pc := 47) d_Cu_blame_47 rfl (.head _) ?_
      refine v_puti (pc := 48) d_Cu_blame_48 fp_Cu_42 cC_25.1 cC_25.2 (by decide) rfl ?_
      exact v_vret (pc := 51) d_Cu_blame_51 rfl h
    · replace h := h.2 c
      refine v_iload_n (pc := 25) d_Cu_blame_25 rfl (.head _) ?_
      refine v_aload_n (pc := 26) d_Cu_blame_26 rfl (.tail _ (.head _)) ?_
      refine v_geti (pc := 27) (x := (w 25 5)) d_Cu_blame_27 fl_Cu_42 cC_25.1 cC_25.2 (Or.inl rfl) rfl ?_
      refine v_icmpne (pc := 30) (tgt := 51) d_Cu_blame_30 (by decide) (fun c => ?_) (fun c => ?_)
      · replace h := h.1 c
        exact v_vret (pc := 51) d_Cu_blame_51 rfl h
      · replace h := h.2 c
        refine v_iload_n (pc := 33) d_Cu_blame_33 rfl (.tail _ (.tail _ (.head _))) ?_
        refine v_aload_n (pc := 34) d_Cu_blame_34 rfl (.tail _ (.head _)) ?_
        refine v_geti (pc := 35) (x := (w 25 4)) d_Cu_blame_35 fl_Cu_20 cC_25.1 cC_25.2 (Or.inl rfl) rfl ?_
        refine v_icmpge (pc := 38) (tgt := 51) d_Cu_blame_38 (by decide) (fun c => ?_) (fun c => ?_)
        · replace h := h.1 c
          exact v_vret (pc := 51) d_Cu_blame_51 rfl h
        · replace h := h.2 c
          refine v_aload_n (pc := 41) d_Cu_blame_41 rfl (.tail _ (.head _)) ?_
          refine v_iload_n (pc := 42) d_Cu_blame_42 rfl (.tail _ (.tail _ (.head _))) ?_
          refine v_puti (pc := 43) d_Cu_blame_43 fp_Cu_20 cC_25.1 cC_25.2 (by decide) rfl ?_
          refine v_aload_n (pc := 46) d_Cu_blame_46 rfl (.tail _ (.head _)) ?_
          refine v_iload_n (pc := 47) d_Cu_blame_47 rfl (.head _) ?_
          refine v_puti (pc := 48) d_Cu_blame_48 fp_Cu_42 cC_25.1 cC_25.2 (by decide) rfl ?_
          exact v_vret (pc := 51) d_Cu_blame_51 rfl h
theorem d_Cu_worst_0 : decode jCu_worst.cc 0 = .ok (.aload_n 0, 1) := by decide +kernel
theorem d_Cu_worst_1 : decode jCu_worst.cc 1 = .ok (.getfield 17, 3) := by decide +kernel
theorem d_Cu_worst_4 : decode jCu_worst.cc 4 = .ok (.ifCond .eq 10, 3) := by decide +kernel
theorem d_Cu_worst_7 : decode jCu_worst.cc 7 = .ok (.aload_n 0, 1) := by decide +kernel
theorem d_Cu_worst_8 : decode jCu_worst.cc 8 = .ok (.getfield 17, 3) := by decide +kernel
theorem d_Cu_worst_11 : decode jCu_worst.cc 11 = .ok (.goto 7, 3) := by decide +kernel
theorem d_Cu_worst_14 : decode jCu_worst.cc 14 = .ok (.aload_n 0, 1) := by decide +kernel
theorem d_Cu_worst_15 : decode jCu_worst.cc 15 = .ok (.getfield 20, 3) := by decide +kernel
theorem d_Cu_worst_18 : decode jCu_worst.cc 18 = .ok (.ireturn, 1) := by decide +kernel
set_option maxHeartbeats 4000000 in
theorem s_Cu_worst {g : Mg} {d : Nat} {K : Ou → Wd → Prop} {w : Wd} (h : ((w 25 2) = 0 → (K (.inl (some (vI (w 25 4)))) w)) ∧ (¬ (w 25 2) = 0 → (K (.inl (some (vI (w 25 2)))) w))) : V g LC jCu_worst d K 0 [(0, vA 25)] [] w := by
  refine v_aload_n (pc := 0) d_Cu_worst_0 rfl (.head _) ?_
  refine v_geti (pc := 1) (x := (w 25 2)) d_Cu_worst_1 fl_Cu_17 cC_25.1 cC_25.2 (Or.inl rfl) rfl ?_
  refine v_ifeq (pc := 4) (tgt := 14) d_Cu_worst_4 (by decide) (fun c => ?_) (fun c => ?_)
  · replace h := h.1 c
    refine v_aload_n (pc := 14) d_Cu_worst_14 rfl (.head _) ?_
    refine v_geti (pc := 15) (x := (w 25 4)) d_Cu_worst_15 fl_Cu_20 cC_25.1 cC_25.2 (Or.inl rfl) rfl ?_
    exact v_iret (pc := 18) d_Cu_worst_18 rfl h
  · replace h := h.2 c
    refine v_aload_n (pc := 7) d_Cu_worst_7 rfl (.head _) ?_
    refine v_geti (pc := 8) (x := (w 25 2)) d_Cu_worst_8 fl_Cu_17 cC_25.1 cC_25.2 (Or.inl rfl) rfl ?_
    refine v_goto (pc := 11) (tgt := 18) d_Cu_worst_11 (by decide) ?_
    exact v_iret (pc := 18) d_Cu_worst_18 rfl h
theorem d_Cu_worstPlace_0 : decode jCu_worstPlace.cc 0 = .ok (.aload_n 0, 1) := by decide +kernel
theorem d_Cu_worstPlace_1 : decode jCu_worstPlace.cc 1 = .ok (.getfield 17, 3) := by decide +kernel
theorem d_Cu_worstPlace_4 : decode jCu_worstPlace.cc 4 = .ok (.ifCond .eq 10, 3) := by decide +kernel
theorem d_Cu_worstPlace_7 : decode jCu_worstPlace.cc 7 = .ok (.aload_n 0, 1) := by decide +kernel
theorem d_Cu_worstPlace_8 : decode jCu_worstPlace.cc 8 = .ok (.getfield 39, 3) := by decide +kernel
theorem d_Cu_worstPlace_11 : decode jCu_worstPlace.cc 11 = .ok (.goto 7, 3) := by decide +kernel
theorem d_Cu_worstPlace_14 : decode jCu_worstPlace.cc 14 = .ok (.aload_n 0, 1) := by decide +kernel
theorem d_Cu_worstPlace_15 : decode jCu_worstPlace.cc 15 = .ok (.getfield 42, 3) := by decide +kernel
theorem d_Cu_worstPlace_18 : decode jCu_worstPlace.cc 18 = .ok (.ireturn, 1) := by decide +kernel
set_option maxHeartbeats 4000000 in
theorem s_Cu_worstPlace {g : Mg} {d : Nat} {K : Ou → Wd → Prop} {w : Wd} (h : ((w 25 2) = 0 → (K (.inl (some (vI (w 25 5)))) w)) ∧ (¬ (w 25 2) = 0 → (K (.inl (some (vI (w 25 3)))) w))) : V g LC jCu_worstPlace d K 0 [(0, vA 25)] [] w := by
  refine v_aload_n (pc := 0) d_Cu_worstPlace_0 rfl (.head _) ?_
  refine v_geti (pc := 1) (x := (w 25 2)) d_Cu_worstPlace_1 fl_Cu_17 cC_25.1 cC_25.2 (Or.inl rfl) rfl ?_
  refine v_ifeq (pc := 4) (tgt := 14) d_Cu_worstPlace_4 (by decide) (fun c => ?_) (fun c => ?_)
  · replace h := h.1 c
    refine v_aload_n (pc := 14) d_Cu_worstPlace_14 rfl (.head _) ?_
    refine v_geti (pc := 15) (x := (w 25 5)) d_Cu_worstPlace_15 fl_Cu_42 cC_25.1 cC_25.2 (Or.inl rfl) rfl ?_
    exact v_iret (pc := 18) d_Cu_worstPlace_18 rfl h
  · replace h := h.2 c
    refine v_aload_n (pc := 7) d_Cu_worstPlace_7 rfl (.head _) ?_
    refine v_geti (pc := 8) (x := (w 25 3)) d_Cu_worstPlace_8 fl_Cu_39 cC_25.1 cC_25.2 (Or.inl rfl) rfl ?_
    refine v_goto (pc := 11) (tgt := 18) d_Cu_worstPlace_11 (by decide) ?_
    exact v_iret (pc := 18) d_Cu_worstPlace_18 rfl h
theorem d_Lo_clear_0 : decode jLo_clear.cc 0 = .ok (.aload_n 0, 1) := by decide +kernel
theorem d_Lo_clear_1 : decode jLo_clear.cc 1 = .ok (.iconst 0, 1) := by decide +kernel
theorem d_Lo_clear_2 : decode jLo_clear.cc 2 = .ok (.putfield 32, 3) := by decide +kernel
theorem d_Lo_clear_5 : decode jLo_clear.cc 5 = .ok (.aload_n 0, 1) := by decide +kernel
theorem d_Lo_clear_6 : decode jLo_clear.cc 6 = .ok (.getfield 25, 3) := by decide +kernel
theorem d_Lo_clear_9 : decode jLo_clear.cc 9 = .ok (.iconst 0, 1) := by decide +kernel
theorem d_Lo_clear_10 : decode jLo_clear.cc 10 = .ok (.invokestatic 36, 3) := by decide +kernel
theorem d_Lo_clear_13 : decode jLo_clear.cc 13 = .ok (.return_, 1) := by decide +kernel
set_option maxHeartbeats 4000000 in
theorem s_Lo_clear {g : Mg} {d : Nat} {K : Ou → Wd → Prop} {w : Wd} (h : Cal g LC jAr_fill d [vA 18, vI 0] (up w 13 6 0) (fun o w1 => rV o (K (.inl none) w1))) : V g LC jLo_clear (d + 1) K 0 [(0, vA 13)] [] w := by
  refine v_aload_n (pc := 0) d_Lo_clear_0 rfl (.head _) ?_
  refine v_iconst (pc := 1) d_Lo_clear_1 (by decide) ?_
  refine v_puti (pc := 2) d_Lo_clear_2 fp_Lo_32 cC_13.1 cC_13.2 (by decide) rfl ?_
  refine v_aload_n (pc := 5) d_Lo_clear_5 rfl (.head _) ?_
  refine v_getr (C := "") (pc := 6) (r := 18) d_Lo_clear_6 fl_Lo_25 cC_13.1 cC_13.2 (Or.inr ⟨_, rfl⟩) rC_13_5 ?_
  refine v_iconst (pc := 9) d_Lo_clear_9 (by decide) ?_
  refine v_callS (pc := 10) (J' := jAr_fill) (d' := d) (As := [vA 18, vI 0]) d_Lo_clear_10 ml_Lo_36 rfl (Nat.le_of_ble_eq_true rfl) (Nat.le_refl _) rfl (Cal.weak h (fun o w1 h => ?_))
  rcases rV_of h with ⟨rfl, h⟩
  exact v_vret (pc := 13) d_Lo_clear_13 rfl h
theorem d_Lo_size_0 : decode jLo_size.cc 0 = .ok (.aload_n 0, 1) := by decide +kernel
theorem d_Lo_size_1 : decode jLo_size.cc 1 = .ok (.getfield 32, 3) := by decide +kernel
theorem d_Lo_size_4 : decode jLo_size.cc 4 = .ok (.ireturn, 1) := by decide +kernel
set_option maxHeartbeats 4000000 in
theorem s_Lo_size {g : Mg} {d : Nat} {K : Ou → Wd → Prop} {w : Wd} (h : K (.inl (some (vI (w 13 6)))) w) : V g LC jLo_size d K 0 [(0, vA 13)] [] w := by
  refine v_aload_n (pc := 0) d_Lo_size_0 rfl (.head _) ?_
  refine v_geti (pc := 1) (x := (w 13 6)) d_Lo_size_1 fl_Lo_32 cC_13.1 cC_13.2 (Or.inl rfl) rfl ?_
  exact v_iret (pc := 4) d_Lo_size_4 rfl h
theorem d_Lo_howMany_0 : decode jLo_howMany.cc 0 = .ok (.aload_n 0, 1) := by decide +kernel
theorem d_Lo_howMany_1 : decode jLo_howMany.cc 1 = .ok (.getfield 25, 3) := by decide +kernel
theorem d_Lo_howMany_4 : decode jLo_howMany.cc 4 = .ok (.iload_n 1, 1) := by decide +kernel
theorem d_Lo_howMany_5 : decode jLo_howMany.cc 5 = .ok (.iaload, 1) := by decide +kernel
theorem d_Lo_howMany_6 : decode jLo_howMany.cc 6 = .ok (.ireturn, 1) := by decide +kernel
set_option maxHeartbeats 4000000 in
theorem s_Lo_howMany {g : Mg} {d : Nat} {K : Ou → Wd → Prop} {w : Wd} {p1 : Int} (h : (0 ≤ p1 ∧ p1 < 5) ∧ (K (.inl (some (vI (w 18 p1.toNat)))) w)) : V g LC jLo_howMany d K 0 [(0, vA 13), (1, vI p1)] [] w := by
  refine v_aload_n (pc := 0) d_Lo_howMany_0 rfl (.head _) ?_
  refine v_getr (C := "") (pc := 1) (r := 18) d_Lo_howMany_1 fl_Lo_25 cC_13.1 cC_13.2 (Or.inr ⟨_, rfl⟩) rC_13_5 ?_
  refine v_iload_n (pc := 4) d_Lo_howMany_4 rfl (.tail _ (.head _)) ?_
  refine v_iald (pc := 5) (x := (w 18 p1.toNat)) d_Lo_howMany_5 cC_18.1 cC_18.2 rfl h.1 ?_
  replace h := h.2
  exact v_iret (pc := 6) d_Lo_howMany_6 rfl h
theorem d_Lo_isFull_0 : decode jLo_isFull.cc 0 = .ok (.aload_n 0, 1) := by decide +kernel
theorem d_Lo_isFull_1 : decode jLo_isFull.cc 1 = .ok (.getfield 25, 3) := by decide +kernel
theorem d_Lo_isFull_4 : decode jLo_isFull.cc 4 = .ok (.iload_n 1, 1) := by decide +kernel
theorem d_Lo_isFull_5 : decode jLo_isFull.cc 5 = .ok (.iaload, 1) := by decide +kernel
theorem d_Lo_isFull_6 : decode jLo_isFull.cc 6 = .ok (.getstatic 22, 3) := by decide +kernel
theorem d_Lo_isFull_9 : decode jLo_isFull.cc 9 = .ok (.iload_n 1, 1) := by decide +kernel
theorem d_Lo_isFull_10 : decode jLo_isFull.cc 10 = .ok (.iaload, 1) := by decide +kernel
theorem d_Lo_isFull_11 : decode jLo_isFull.cc 11 = .ok (.if_icmp .lt 7, 3) := by decide +kernel
theorem d_Lo_isFull_14 : decode jLo_isFull.cc 14 = .ok (.iconst 1, 1) := by decide +kernel
theorem d_Lo_isFull_15 : decode jLo_isFull.cc 15 = .ok (.goto 4, 3) := by decide +kernel
theorem d_Lo_isFull_18 : decode jLo_isFull.cc 18 = .ok (.iconst 0, 1) := by decide +kernel
theorem d_Lo_isFull_19 : decode jLo_isFull.cc 19 = .ok (.ireturn, 1) := by decide +kernel
set_option maxHeartbeats 4000000 in
theorem s_Lo_isFull {g : Mg} {d : Nat} {K : Ou → Wd → Prop} {w : Wd} {p1 : Int} (h : (0 ≤ p1 ∧ p1 < 5) ∧ ((0 ≤ p1 ∧ p1 < 5) ∧ (((w 18 p1.toNat) < (mostL.getD p1.toNat 0) → (K (.inl (some (vI 0))) w)) ∧ (¬ (w 18 p1.toNat) < (mostL.getD p1.toNat 0) → (K (.inl (some (vI 1))) w))))) : V g LC jLo_isFull d K 0 [(0, vA 13), (1, vI p1)] [] w := by
  refine v_aload_n (pc := 0) d_Lo_isFull_0 rfl (.head _) ?_
  refine v_getr (C := "") (pc := 1) (r := 18) d_Lo_isFull_1 fl_Lo_25 cC_13.1 cC_13.2 (Or.inr ⟨_, rfl⟩) rC_13_5 ?_
  refine v_iload_n (pc := 4) d_Lo_isFull_4 rfl (.tail _ (.head _)) ?_
  refine v_iald (pc := 5) (x := (w 18 p1.toNat)) d_Lo_isFull_5 cC_18.1 cC_18.2 rfl h.1 ?_
  replace h := h.2
  refine v_most (pc := 6) d_Lo_isFull_6 (mt_1 89 rfl rfl) ?_
  refine v_iload_n (pc := 9) d_Lo_isFull_9 rfl (.tail _ (.head _)) ?_
  refine v_mald (pc := 10) d_Lo_isFull_10 h.1 ?_
  replace h := h.2
  refine v_icmplt (pc := 11) (tgt := 18) d_Lo_isFull_11 (by decide) (fun c => ?_) (fun c => ?_)
  · replace h := h.1 c
    refine v_iconst (pc := 18) d_Lo_isFull_18 (by decide) ?_
    exact v_zret (pc := 19) d_Lo_isFull_19 rfl (by decide) h
  · replace h := h.2 c
    refine v_iconst (pc := 14) d_Lo_isFull_14 (by decide) ?_
    refine v_goto (pc := 15) (tgt := 19) d_Lo_isFull_15 (by decide) ?_
    exact v_zret (pc := 19) d_Lo_isFull_19 rfl (by decide) h
theorem d_Lo_find_0 : decode jLo_find.cc 0 = .ok (.iconst 0, 1) := by decide +kernel
theorem d_Lo_find_1 : decode jLo_find.cc 1 = .ok (.istore_n 2, 1) := by decide +kernel
theorem d_Lo_find_2 : decode jLo_find.cc 2 = .ok (.iload_n 2, 1) := by decide +kernel
theorem d_Lo_find_3 : decode jLo_find.cc 3 = .ok (.aload_n 0, 1) := by decide +kernel
theorem d_Lo_find_4 : decode jLo_find.cc 4 = .ok (.getfield 32, 3) := by decide +kernel
theorem d_Lo_find_7 : decode jLo_find.cc 7 = .ok (.if_icmp .ge 52, 3) := by decide +kernel
theorem d_Lo_find_10 : decode jLo_find.cc 10 = .ok (.aload_n 0, 1) := by decide +kernel
theorem d_Lo_find_11 : decode jLo_find.cc 11 = .ok (.getfield 28, 3) := by decide +kernel
theorem d_Lo_find_14 : decode jLo_find.cc 14 = .ok (.aload_n 0, 1) := by decide +kernel
theorem d_Lo_find_15 : decode jLo_find.cc 15 = .ok (.getfield 9, 3) := by decide +kernel
theorem d_Lo_find_18 : decode jLo_find.cc 18 = .ok (.iload_n 2, 1) := by decide +kernel
theorem d_Lo_find_19 : decode jLo_find.cc 19 = .ok (.iaload, 1) := by decide +kernel
theorem d_Lo_find_20 : decode jLo_find.cc 20 = .ok (.aload_n 0, 1) := by decide +kernel
theorem d_Lo_find_21 : decode jLo_find.cc 21 = .ok (.getfield 28, 3) := by decide +kernel
theorem d_Lo_find_24 : decode jLo_find.cc 24 = .ok (.getfield 42, 3) := by decide +kernel
theorem d_Lo_find_27 : decode jLo_find.cc 27 = .ok (.aload_n 0, 1) := by decide +kernel
theorem d_Lo_find_28 : decode jLo_find.cc 28 = .ok (.getfield 28, 3) := by decide +kernel
theorem d_Lo_find_31 : decode jLo_find.cc 31 = .ok (.getfield 48, 3) := by decide +kernel
theorem d_Lo_find_34 : decode jLo_find.cc 34 = .ok (.iload_n 1, 1) := by decide +kernel
theorem d_Lo_find_35 : decode jLo_find.cc 35 = .ok (.iaload, 1) := by decide +kernel
theorem d_Lo_find_36 : decode jLo_find.cc 36 = .ok (.aload_n 0, 1) := by decide +kernel
theorem d_Lo_find_37 : decode jLo_find.cc 37 = .ok (.getfield 28, 3) := by decide +kernel
theorem d_Lo_find_40 : decode jLo_find.cc 40 = .ok (.getfield 51, 3) := by decide +kernel
theorem d_Lo_find_43 : decode jLo_find.cc 43 = .ok (.iload_n 1, 1) := by decide +kernel
theorem d_Lo_find_44 : decode jLo_find.cc 44 = .ok (.iaload, 1) := by decide +kernel
theorem d_Lo_find_45 : decode jLo_find.cc 45 = .ok (.invokevirtual 54, 3) := by decide +kernel
theorem d_Lo_find_48 : decode jLo_find.cc 48 = .ok (.ifCond .eq 5, 3) := by decide +kernel
theorem d_Lo_find_51 : decode jLo_find.cc 51 = .ok (.iload_n 2, 1) := by decide +kernel
theorem d_Lo_find_52 : decode jLo_find.cc 52 = .ok (.ireturn, 1) := by decide +kernel
theorem d_Lo_find_53 : decode jLo_find.cc 53 = .ok (.iinc 2 1, 3) := by decide +kernel
theorem d_Lo_find_56 : decode jLo_find.cc 56 = .ok (.goto (-54), 3) := by decide +kernel
theorem d_Lo_find_59 : decode jLo_find.cc 59 = .ok (.iconst (-1), 1) := by decide +kernel
theorem d_Lo_find_60 : decode jLo_find.cc 60 = .ok (.ireturn, 1) := by decide +kernel
set_option maxHeartbeats 4000000 in
theorem s_Lo_find {g : Mg} {d : Nat} {K : Ou → Wd → Prop} {w : Wd} {p1 : Int} (h : V g LC jLo_find (d + 1) K 2 [(0, vA 13), (1, vI p1), (2, vI 0)] [] w) : V g LC jLo_find (d + 1) K 0 [(0, vA 13), (1, vI p1)] [] w := by
  refine v_iconst (pc := 0) d_Lo_find_0 (by decide) ?_
  refine v_istore_n (pc := 1) (ls' := [(2, vI 0), (0, vA 13), (1, vI p1)]) d_Lo_find_1 rfl (by decide) rfl ?_
  exact v_sub (List.forall_mem_cons.mpr ⟨(.tail _ (.head _)), (List.forall_mem_cons.mpr ⟨(.tail _ (.tail _ (.head _))), (List.forall_mem_cons.mpr ⟨(.head _), (fun _ z => absurd z List.not_mem_nil)⟩)⟩)⟩) h
set_option maxHeartbeats 4000000 in
theorem s_Lo_find_2 {g : Mg} {d : Nat} {K : Ou → Wd → Prop} {w : Wd} {x1_ : Int} {x2_ : Int} (h : ((w 13 6) ≤ x2_ → (K (.inl (some (vI (-1)))) w)) ∧ (¬ (w 13 6) ≤ x2_ → ((0 ≤ x2_ ∧ x2_ < 28) ∧ ((0 ≤ x1_ ∧ x1_ < 1002) ∧ ((0 ≤ x1_ ∧ x1_ < 1002) ∧ (Cal g LC jTe_reads d [vA 2, vI (w 14 x2_.toNat), vA 3, vI (w 5 x1_.toNat), vI (w 6 x1_.toNat)] w (fun o w1 => rI o (fun x2 => (x2 = 0 → (V g LC jLo_find (d + 1) K 2 [(0, vA 13), (1, vI x1_), (2, vI (wr (x2_ + 1)))] [] w1)) ∧ (¬ x2 = 0 → (K (.inl (some (vI x2_))) w1)))))))))) : V g LC jLo_find (d + 1) K 2 [(0, vA 13), (1, vI x1_), (2, vI x2_)] [] w := by
  refine v_iload_n (pc := 2) d_Lo_find_2 rfl (.tail _ (.tail _ (.head _))) ?_
  refine v_aload_n (pc := 3) d_Lo_find_3 rfl (.head _) ?_
  refine v_geti (pc := 4) (x := (w 13 6)) d_Lo_find_4 fl_Lo_32 cC_13.1 cC_13.2 (Or.inl rfl) rfl ?_
  refine v_icmpge (pc := 7) (tgt := 59) d_Lo_find_7 (by decide) (fun c => ?_) (fun c => ?_)
  · replace h := h.1 c
    refine v_iconst (pc := 59) d_Lo_find_59 (by decide) ?_
    exact v_iret (pc := 60) d_Lo_find_60 rfl h
  · replace h := h.2 c
    refine v_aload_n (pc := 10) d_Lo_find_10 rfl (.head _) ?_
    refine v_getr (C := "") (pc := 11) (r := 2) d_Lo_find_11 fl_Lo_28 cC_13.1 cC_13.2 (Or.inl ⟨_, rfl⟩) rC_13_0 ?_
    refine v_aload_n (pc := 14) d_Lo_find_14 rfl (.head _) ?_
    refine v_getr (C := "") (pc := 15) (r := 14) d_Lo_find_15 fl_Lo_9 cC_13.1 cC_13.2 (Or.inr ⟨_, rfl⟩) rC_13_1 ?_
    refine v_iload_n (pc := 18) d_Lo_find_18 rfl (.tail _ (.tail _ (.head _))) ?_
    refine v_iald (pc := 19) (x := (w 14 x2_.toNat)) d_Lo_find_19 cC_14.1 cC_14.2 rfl h.1 ?_
    replace h := h.2
    refine v_aload_n (pc := 20) d_Lo_find_20 rfl (.head _) ?_
    refine v_getr (C := "") (pc := 21) (r := 2) d_Lo_find_21 fl_Lo_28 cC_13.1 cC_13.2 (Or.inl ⟨_, rfl⟩) rC_13_0 ?_
    refine v_getr (C := "") (pc := 24) (r := 3) d_Lo_find_24 fl_Lo_42 cC_2.1 cC_2.2 (Or.inr ⟨_, rfl⟩) rC_2_0 ?_
    refine v_aload_n (pc := 27) d_Lo_find_27 rfl (.head _) ?_
    refine v_getr (C := "") (pc := 28) (r := 2) d_Lo_find_28 fl_Lo_28 cC_13.1 cC_13.2 (Or.inl ⟨_, rfl⟩) rC_13_0 ?_
    refine v_getr (C := "") (pc := 31) (r := 5) d_Lo_find_31 fl_Lo_48 cC_2.1 cC_2.2 (Or.inr ⟨_, rfl⟩) rC_2_3 ?_
    refine v_iload_n (pc := 34) d_Lo_find_34 rfl (.tail _ (.head _)) ?_
    refine v_iald (pc := 35) (x := (w 5 x1_.toNat)) d_Lo_find_35 cC_5.1 cC_5.2 rfl h.1 ?_
    replace h := h.2
    refine v_aload_n (pc := 36) d_Lo_find_36 rfl (.head _) ?_
    refine v_getr (C := "") (pc := 37) (r := 2) d_Lo_find_37 fl_Lo_28 cC_13.1 cC_13.2 (Or.inl ⟨_, rfl⟩) rC_13_0 ?_
    refine v_getr (C := "") (pc := 40) (r := 6) d_Lo_find_40 fl_Lo_51 cC_2.1 cC_2.2 (Or.inr ⟨_, rfl⟩) rC_2_4 ?_
    refine v_iload_n (pc := 43) d_Lo_find_43 rfl (.tail _ (.head _)) ?_
    refine v_iald (pc := 44) (x := (w 6 x1_.toNat)) d_Lo_find_44 cC_6.1 cC_6.2 rfl h.1 ?_
    replace h := h.2
    refine v_callV (pc := 45) (J' := jTe_reads) (d' := d) (o := 2) (ci := 9) (N := 7) (T := cT9) (As := [vI (w 14 x2_.toNat), vA 3, vI (w 5 x1_.toNat), vI (w 6 x1_.toNat)]) d_Lo_find_45 ml_Lo_54 cC_2.1 cC_2.2 (by decide) rfl rfl (Nat.le_of_ble_eq_true rfl) (Nat.le_refl _) rfl (Cal.weak h (fun o w1 h => ?_))
    rcases rI_of h with ⟨x2, rfl, h⟩
    refine v_ifeq (pc := 48) (tgt := 53) d_Lo_find_48 (by decide) (fun c => ?_) (fun c => ?_)
    · replace h := h.1 c
      refine v_iinc (pc := 53) (ls' := [(2, vI (wr (x2_ + 1))), (0, vA 13), (1, vI x1_)]) d_Lo_find_53 (.tail _ (.tail _ (.head _))) (by decide) rfl ?_
      refine v_goto (pc := 56) (tgt := 2) d_Lo_find_56 (by decide) ?_
      exact v_sub (List.forall_mem_cons.mpr ⟨(.tail _ (.head _)), (List.forall_mem_cons.mpr ⟨(.tail _ (.tail _ (.head _))), (List.forall_mem_cons.mpr ⟨(.head _), (fun _ z => absurd z List.not_mem_nil)⟩)⟩)⟩) h
    · replace h := h.2 c
      refine v_iload_n (pc := 51) d_Lo_find_51 rfl (.tail _ (.tail _ (.head _))) ?_
      exact v_iret (pc := 52) d_Lo_find_52 rfl h
theorem d_Lo_findBytes_0 : decode jLo_findBytes.cc 0 = .ok (.iconst 0, 1) := by decide +kernel
theorem d_Lo_findBytes_1 : decode jLo_findBytes.cc 1 = .ok (.istore_n 3, 1) := by decide +kernel
theorem d_Lo_findBytes_2 : decode jLo_findBytes.cc 2 = .ok (.iload_n 3, 1) := by decide +kernel
theorem d_Lo_findBytes_3 : decode jLo_findBytes.cc 3 = .ok (.aload_n 0, 1) := by decide +kernel
theorem d_Lo_findBytes_4 : decode jLo_findBytes.cc 4 = .ok (.getfield 32, 3) := by decide +kernel
theorem d_Lo_findBytes_7 : decode jLo_findBytes.cc 7 = .ok (.if_icmp .ge 30, 3) := by decide +kernel
theorem d_Lo_findBytes_10 : decode jLo_findBytes.cc 10 = .ok (.aload_n 0, 1) := by decide +kernel
theorem d_Lo_findBytes_11 : decode jLo_findBytes.cc 11 = .ok (.getfield 28, 3) := by decide +kernel
theorem d_Lo_findBytes_14 : decode jLo_findBytes.cc 14 = .ok (.aload_n 0, 1) := by decide +kernel
theorem d_Lo_findBytes_15 : decode jLo_findBytes.cc 15 = .ok (.getfield 9, 3) := by decide +kernel
theorem d_Lo_findBytes_18 : decode jLo_findBytes.cc 18 = .ok (.iload_n 3, 1) := by decide +kernel
theorem d_Lo_findBytes_19 : decode jLo_findBytes.cc 19 = .ok (.iaload, 1) := by decide +kernel
theorem d_Lo_findBytes_20 : decode jLo_findBytes.cc 20 = .ok (.aload_n 1, 1) := by decide +kernel
theorem d_Lo_findBytes_21 : decode jLo_findBytes.cc 21 = .ok (.iconst 0, 1) := by decide +kernel
theorem d_Lo_findBytes_22 : decode jLo_findBytes.cc 22 = .ok (.iload_n 2, 1) := by decide +kernel
theorem d_Lo_findBytes_23 : decode jLo_findBytes.cc 23 = .ok (.invokevirtual 54, 3) := by decide +kernel
theorem d_Lo_findBytes_26 : decode jLo_findBytes.cc 26 = .ok (.ifCond .eq 5, 3) := by decide +kernel
theorem d_Lo_findBytes_29 : decode jLo_findBytes.cc 29 = .ok (.iload_n 3, 1) := by decide +kernel
theorem d_Lo_findBytes_30 : decode jLo_findBytes.cc 30 = .ok (.ireturn, 1) := by decide +kernel
theorem d_Lo_findBytes_31 : decode jLo_findBytes.cc 31 = .ok (.iinc 3 1, 3) := by decide +kernel
theorem d_Lo_findBytes_34 : decode jLo_findBytes.cc 34 = .ok (.goto (-32), 3) := by decide +kernel
theorem d_Lo_findBytes_37 : decode jLo_findBytes.cc 37 = .ok (.iconst (-1), 1) := by decide +kernel
theorem d_Lo_findBytes_38 : decode jLo_findBytes.cc 38 = .ok (.ireturn, 1) := by decide +kernel
set_option maxHeartbeats 4000000 in
theorem s_Lo_findBytes {g : Mg} {d : Nat} {K : Ou → Wd → Prop} {w : Wd} {p2 : Int} (h : V g LC jLo_findBytes (d + 1) K 2 [(0, vA 13), (1, vA 1), (2, vI p2), (3, vI 0)] [] w) : V g LC jLo_findBytes (d + 1) K 0 [(0, vA 13), (1, vA 1), (2, vI p2)] [] w := by
  refine v_iconst (pc := 0) d_Lo_findBytes_0 (by decide) ?_
  refine v_istore_n (pc := 1) (ls' := [(3, vI 0), (0, vA 13), (1, vA 1), (2, vI p2)]) d_Lo_findBytes_1 rfl (by decide) rfl ?_
  exact v_sub (List.forall_mem_cons.mpr ⟨(.tail _ (.head _)), (List.forall_mem_cons.mpr ⟨(.tail _ (.tail _ (.head _))), (List.forall_mem_cons.mpr ⟨(.tail _ (.tail _ (.tail _ (.head _)))), (List.forall_mem_cons.mpr ⟨(.head _), (fun _ z => absurd z List.not_mem_nil)⟩)⟩)⟩)⟩) h
set_option maxHeartbeats 4000000 in
theorem s_Lo_findBytes_2 {g : Mg} {d : Nat} {K : Ou → Wd → Prop} {w : Wd} {x2_ : Int} {x3_ : Int} (h : ((w 13 6) ≤ x3_ → (K (.inl (some (vI (-1)))) w)) ∧ (¬ (w 13 6) ≤ x3_ → ((0 ≤ x3_ ∧ x3_ < 28) ∧ (Cal g LC jTe_reads d [vA 2, vI (w 14 x3_.toNat), vA 1, vI 0, vI x2_] w (fun o w1 => rI o (fun x2 => (x2 = 0 → (V g LC jLo_findBytes (d + 1) K 2 [(0, vA 13), (1, vA 1), (2, vI x2_), (3, vI (wr (x3_ + 1)))] [] w1)) ∧ (¬ x2 = 0 → (K (.inl (some (vI x3_))) w1)))))))) : V g LC jLo_findBytes (d + 1) K 2 [(0, vA 13), (1, vA 1), (2, vI x2_), (3, vI x3_)] [] w := by
  refine v_iload_n (pc := 2) d_Lo_findBytes_2 rfl (.tail _ (.tail _ (.tail _ (.head _)))) ?_
  refine v_aload_n (pc := 3) d_Lo_findBytes_3 rfl (.head _) ?_
  refine v_geti (pc := 4) (x := (w 13 6)) d_Lo_findBytes_4 fl_Lo_32 cC_13.1 cC_13.2 (Or.inl rfl) rfl ?_
  refine v_icmpge (pc := 7) (tgt := 37) d_Lo_findBytes_7 (by decide) (fun c => ?_) (fun c => ?_)
  · replace h := h.1 c
    refine v_iconst (pc := 37) d_Lo_findBytes_37 (by decide) ?_
    exact v_iret (pc := 38) d_Lo_findBytes_38 rfl h
  · replace h := h.2 c
    refine v_aload_n (pc := 10) d_Lo_findBytes_10 rfl (.head _) ?_
    refine v_getr (C := "") (pc := 11) (r := 2) d_Lo_findBytes_11 fl_Lo_28 cC_13.1 cC_13.2 (Or.inl ⟨_, rfl⟩) rC_13_0 ?_
    refine v_aload_n (pc := 14) d_Lo_findBytes_14 rfl (.head _) ?_
    refine v_getr (C := "") (pc := 15) (r := 14) d_Lo_findBytes_15 fl_Lo_9 cC_13.1 cC_13.2 (Or.inr ⟨_, rfl⟩) rC_13_1 ?_
    refine v_iload_n (pc := 18) d_Lo_findBytes_18 rfl (.tail _ (.tail _ (.tail _ (.head _)))) ?_
    refine v_iald (pc := 19) (x := (w 14 x3_.toNat)) d_Lo_findBytes_19 cC_14.1 cC_14.2 rfl h.1 ?_
    replace h := h.2
    refine v_aload_n (pc := 20) d_Lo_findBytes_20 rfl (.tail _ (.head _)) ?_
    refine v_iconst (pc := 21) d_Lo_findBytes_21 (by decide) ?_
    refine v_iload_n (pc := 22) d_Lo_findBytes_22 rfl (.tail _ (.tail _ (.head _))) ?_
    refine v_callV (pc := 23) (J' := jTe_reads) (d' := d) (o := 2) (ci := 9) (N := 7) (T := cT9) (As := [vI (w 14 x3_.toNat), vA 1, vI 0, vI x2_]) d_Lo_findBytes_23 ml_Lo_54 cC_2.1 cC_2.2 (by decide) rfl rfl (Nat.le_of_ble_eq_true rfl) (Nat.le_refl _) rfl (Cal.weak h (fun o w1 h => ?_))
    rcases rI_of h with ⟨x2, rfl, h⟩
    refine v_ifeq (pc := 26) (tgt := 31) d_Lo_findBytes_26 (by decide) (fun c => ?_) (fun c => ?_)
    · replace h := h.1 c
      refine v_iinc (pc := 31) (ls' := [(3, vI (wr (x3_ + 1))), (0, vA 13), (1, vA 1), (2, vI x2_)]) d_Lo_findBytes_31 (.tail _ (.tail _ (.tail _ (.head _)))) (by decide) rfl ?_
      refine v_goto (pc := 34) (tgt := 2) d_Lo_findBytes_34 (by decide) ?_
      exact v_sub (List.forall_mem_cons.mpr ⟨(.tail _ (.head _)), (List.forall_mem_cons.mpr ⟨(.tail _ (.tail _ (.head _))), (List.forall_mem_cons.mpr ⟨(.tail _ (.tail _ (.tail _ (.head _)))), (List.forall_mem_cons.mpr ⟨(.head _), (fun _ z => absurd z List.not_mem_nil)⟩)⟩)⟩)⟩) h
    · replace h := h.2 c
      refine v_iload_n (pc := 29) d_Lo_findBytes_29 rfl (.tail _ (.tail _ (.tail _ (.head _)))) ?_
      exact v_iret (pc := 30) d_Lo_findBytes_30 rfl h
theorem d_Lo_sortOf_0 : decode jLo_sortOf.cc 0 = .ok (.iload_n 1, 1) := by decide +kernel
theorem d_Lo_sortOf_1 : decode jLo_sortOf.cc 1 = .ok (.ifCond .lt 11, 3) := by decide +kernel
theorem d_Lo_sortOf_4 : decode jLo_sortOf.cc 4 = .ok (.iload_n 1, 1) := by decide +kernel
theorem d_Lo_sortOf_5 : decode jLo_sortOf.cc 5 = .ok (.aload_n 0, 1) := by decide +kernel
theorem d_Lo_sortOf_6 : decode jLo_sortOf.cc 6 = .ok (.getfield 32, 3) := by decide +kernel
theorem d_Lo_sortOf_9 : decode jLo_sortOf.cc 9 = .ok (.if_icmp .lt 7, 3) := by decide +kernel
theorem d_Lo_sortOf_12 : decode jLo_sortOf.cc 12 = .ok (.iconst (-1), 1) := by decide +kernel
theorem d_Lo_sortOf_13 : decode jLo_sortOf.cc 13 = .ok (.goto 9, 3) := by decide +kernel
theorem d_Lo_sortOf_16 : decode jLo_sortOf.cc 16 = .ok (.aload_n 0, 1) := by decide +kernel
theorem d_Lo_sortOf_17 : decode jLo_sortOf.cc 17 = .ok (.getfield 13, 3) := by decide +kernel
theorem d_Lo_sortOf_20 : decode jLo_sortOf.cc 20 = .ok (.iload_n 1, 1) := by decide +kernel
theorem d_Lo_sortOf_21 : decode jLo_sortOf.cc 21 = .ok (.iaload, 1) := by decide +kernel
theorem d_Lo_sortOf_22 : decode jLo_sortOf.cc 22 = .ok (.ireturn, 1) := by decide +kernel
set_option maxHeartbeats 4000000 in
theorem s_Lo_sortOf {g : Mg} {d : Nat} {K : Ou → Wd → Prop} {w : Wd} {p1 : Int} (h : (p1 < 0 → (K (.inl (some (vI (-1)))) w)) ∧ (¬ p1 < 0 → ((p1 < (w 13 6) → ((0 ≤ p1 ∧ p1 < 28) ∧ (K (.inl (some (vI (w 15 p1.toNat)))) w))) ∧ (¬ p1 < (w 13 6) → (K (.inl (some (vI (-1)))) w))))) : V g LC jLo_sortOf d K 0 [(0, vA 13), (1, vI p1)] [] w := by
  refine v_iload_n (pc := 0) d_Lo_sortOf_0 rfl (.tail _ (.head _)) ?_
  refine v_iflt (pc := 1) (tgt := 12) d_Lo_sortOf_1 (by decide) (fun c => ?_) (fun c => ?_)
  · replace h := h.1 c
    refine v_iconst (pc := 12) d_Lo_sortOf_12 (by decide) ?_
    refine v_goto (pc := 13) (tgt := 22) d_Lo_sortOf_13 (by decide) ?_
    exact v_iret (pc := 22) d_Lo_sortOf_22 rfl h
  · replace h := h.2 c
    refine v_iload_n (pc := 4) d_Lo_sortOf_4 rfl (.tail _ (.head _)) ?_
    refine v_aload_n (pc := 5) d_Lo_sortOf_5 rfl (.head _) ?_
    refine v_geti (pc := 6) (x := (w 13 6)) d_Lo_sortOf_6 fl_Lo_32 cC_13.1 cC_13.2 (Or.inl rfl) rfl ?_
    refine v_icmplt (pc := 9) (tgt := 16) d_Lo_sortOf_9 (by decide) (fun c => ?_) (fun c => ?_)
    · replace h := h.1 c
      refine v_aload_n (pc := 16) d_Lo_sortOf_16 rfl (.head _) ?_
      refine v_getr (C := "") (pc := 17) (r := 15) d_Lo_sortOf_17 fl_Lo_13 cC_13.1 cC_13.2 (Or.inr ⟨_, rfl⟩) rC_13_2 ?_
      refine v_iload_n (pc := 20) d_Lo_sortOf_20 rfl (.tail _ (.head _)) ?_
      refine v_iald (pc := 21) (x := (w 15 p1.toNat)) d_Lo_sortOf_21 cC_15.1 cC_15.2 rfl h.1 ?_
      replace h := h.2
      exact v_iret (pc := 22) d_Lo_sortOf_22 rfl h
    · replace h := h.2 c
      refine v_iconst (pc := 12) d_Lo_sortOf_12 (by decide) ?_
      refine v_goto (pc := 13) (tgt := 22) d_Lo_sortOf_13 (by decide) ?_
      exact v_iret (pc := 22) d_Lo_sortOf_22 rfl h
theorem d_Lo_numberOf_0 : decode jLo_numberOf.cc 0 = .ok (.iload_n 1, 1) := by decide +kernel
theorem d_Lo_numberOf_1 : decode jLo_numberOf.cc 1 = .ok (.ifCond .lt 11, 3) := by decide +kernel
theorem d_Lo_numberOf_4 : decode jLo_numberOf.cc 4 = .ok (.iload_n 1, 1) := by decide +kernel
theorem d_Lo_numberOf_5 : decode jLo_numberOf.cc 5 = .ok (.aload_n 0, 1) := by decide +kernel
theorem d_Lo_numberOf_6 : decode jLo_numberOf.cc 6 = .ok (.getfield 32, 3) := by decide +kernel
theorem d_Lo_numberOf_9 : decode jLo_numberOf.cc 9 = .ok (.if_icmp .lt 7, 3) := by decide +kernel
theorem d_Lo_numberOf_12 : decode jLo_numberOf.cc 12 = .ok (.iconst 0, 1) := by decide +kernel
theorem d_Lo_numberOf_13 : decode jLo_numberOf.cc 13 = .ok (.goto 9, 3) := by decide +kernel
theorem d_Lo_numberOf_16 : decode jLo_numberOf.cc 16 = .ok (.aload_n 0, 1) := by decide +kernel
theorem d_Lo_numberOf_17 : decode jLo_numberOf.cc 17 = .ok (.getfield 16, 3) := by decide +kernel
theorem d_Lo_numberOf_20 : decode jLo_numberOf.cc 20 = .ok (.iload_n 1, 1) := by decide +kernel
theorem d_Lo_numberOf_21 : decode jLo_numberOf.cc 21 = .ok (.iaload, 1) := by decide +kernel
theorem d_Lo_numberOf_22 : decode jLo_numberOf.cc 22 = .ok (.ireturn, 1) := by decide +kernel
set_option maxHeartbeats 4000000 in
theorem s_Lo_numberOf {g : Mg} {d : Nat} {K : Ou → Wd → Prop} {w : Wd} {p1 : Int} (h : (p1 < 0 → (K (.inl (some (vI 0))) w)) ∧ (¬ p1 < 0 → ((p1 < (w 13 6) → ((0 ≤ p1 ∧ p1 < 28) ∧ (K (.inl (some (vI (w 16 p1.toNat)))) w))) ∧ (¬ p1 < (w 13 6) → (K (.inl (some (vI 0))) w))))) : V g LC jLo_numberOf d K 0 [(0, vA 13), (1, vI p1)] [] w := by
  refine v_iload_n (pc := 0) d_Lo_numberOf_0 rfl (.tail _ (.head _)) ?_
  refine v_iflt (pc := 1) (tgt := 12) d_Lo_numberOf_1 (by decide) (fun c => ?_) (fun c => ?_)
  · replace h := h.1 c
    refine v_iconst (pc := 12) d_Lo_numberOf_12 (by decide) ?_
    refine v_goto (pc := 13) (tgt := 22) d_Lo_numberOf_13 (by decide) ?_
    exact v_iret (pc := 22) d_Lo_numberOf_22 rfl h
  · replace h := h.2 c
    refine v_iload_n (pc := 4) d_Lo_numberOf_4 rfl (.tail _ (.head _)) ?_
    refine v_aload_n (pc := 5) d_Lo_numberOf_5 rfl (.head _) ?_
    refine v_geti (pc := 6) (x := (w 13 6)) d_Lo_numberOf_6 fl_Lo_32 cC_13.1 cC_13.2 (Or.inl rfl) rfl ?_
    refine v_icmplt (pc := 9) (tgt := 16) d_Lo_numberOf_9 (by decide) (fun c => ?_) (fun c => ?_)
    · replace h := h.1 c
      refine v_aload_n (pc := 16) d_Lo_numberOf_16 rfl (.head _) ?_
      refine v_getr (C := "") (pc := 17) (r := 16) d_Lo_numberOf_17 fl_Lo_16 cC_13.1 cC_13.2 (Or.inr ⟨_, rfl⟩) rC_13_3 ?_
      refine v_iload_n (pc := 20) d_Lo_numberOf_20 rfl (.tail _ (.head _)) ?_
      refine v_iald (pc := 21) (x := (w 16 p1.toNat)) d_Lo_numberOf_21 cC_16.1 cC_16.2 rfl h.1 ?_
      replace h := h.2
      exact v_iret (pc := 22) d_Lo_numberOf_22 rfl h
    · replace h := h.2 c
      refine v_iconst (pc := 12) d_Lo_numberOf_12 (by decide) ?_
      refine v_goto (pc := 13) (tgt := 22) d_Lo_numberOf_13 (by decide) ?_
      exact v_iret (pc := 22) d_Lo_numberOf_22 rfl h
theorem d_Lo_kindOf_0 : decode jLo_kindOf.cc 0 = .ok (.iload_n 1, 1) := by decide +kernel
theorem d_Lo_kindOf_1 : decode jLo_kindOf.cc 1 = .ok (.ifCond .lt 11, 3) := by decide +kernel
theorem d_Lo_kindOf_4 : decode jLo_kindOf.cc 4 = .ok (.iload_n 1, 1) := by decide +kernel
theorem d_Lo_kindOf_5 : decode jLo_kindOf.cc 5 = .ok (.aload_n 0, 1) := by decide +kernel
theorem d_Lo_kindOf_6 : decode jLo_kindOf.cc 6 = .ok (.getfield 32, 3) := by decide +kernel
theorem d_Lo_kindOf_9 : decode jLo_kindOf.cc 9 = .ok (.if_icmp .lt 7, 3) := by decide +kernel
theorem d_Lo_kindOf_12 : decode jLo_kindOf.cc 12 = .ok (.iconst 0, 1) := by decide +kernel
theorem d_Lo_kindOf_13 : decode jLo_kindOf.cc 13 = .ok (.goto 9, 3) := by decide +kernel
theorem d_Lo_kindOf_16 : decode jLo_kindOf.cc 16 = .ok (.aload_n 0, 1) := by decide +kernel
theorem d_Lo_kindOf_17 : decode jLo_kindOf.cc 17 = .ok (.getfield 19, 3) := by decide +kernel
theorem d_Lo_kindOf_20 : decode jLo_kindOf.cc 20 = .ok (.iload_n 1, 1) := by decide +kernel
theorem d_Lo_kindOf_21 : decode jLo_kindOf.cc 21 = .ok (.iaload, 1) := by decide +kernel
theorem d_Lo_kindOf_22 : decode jLo_kindOf.cc 22 = .ok (.ireturn, 1) := by decide +kernel
set_option maxHeartbeats 4000000 in
theorem s_Lo_kindOf {g : Mg} {d : Nat} {K : Ou → Wd → Prop} {w : Wd} {p1 : Int} (h : (p1 < 0 → (K (.inl (some (vI 0))) w)) ∧ (¬ p1 < 0 → ((p1 < (w 13 6) → ((0 ≤ p1 ∧ p1 < 28) ∧ (K (.inl (some (vI (w 17 p1.toNat)))) w))) ∧ (¬ p1 < (w 13 6) → (K (.inl (some (vI 0))) w))))) : V g LC jLo_kindOf d K 0 [(0, vA 13), (1, vI p1)] [] w := by
  refine v_iload_n (pc := 0) d_Lo_kindOf_0 rfl (.tail _ (.head _)) ?_
  refine v_iflt (pc := 1) (tgt := 12) d_Lo_kindOf_1 (by decide) (fun c => ?_) (fun c => ?_)
  · replace h := h.1 c
    refine v_iconst (pc := 12) d_Lo_kindOf_12 (by decide) ?_
    refine v_goto (pc := 13) (tgt := 22) d_Lo_kindOf_13 (by decide) ?_
    exact v_iret (pc := 22) d_Lo_kindOf_22 rfl h
  · replace h := h.2 c
    refine v_iload_n (pc := 4) d_Lo_kindOf_4 rfl (.tail _ (.head _)) ?_
    refine v_aload_n (pc := 5) d_Lo_kindOf_5 rfl (.head _) ?_
    refine v_geti (pc := 6) (x := (w 13 6)) d_Lo_kindOf_6 fl_Lo_32 cC_13.1 cC_13.2 (Or.inl rfl) rfl ?_
    refine v_icmplt (pc := 9) (tgt := 16) d_Lo_kindOf_9 (by decide) (fun c => ?_) (fun c => ?_)
    · replace h := h.1 c
      refine v_aload_n (pc := 16) d_Lo_kindOf_16 rfl (.head _) ?_
      refine v_getr (C := "") (pc := 17) (r := 17) d_Lo_kindOf_17 fl_Lo_19 cC_13.1 cC_13.2 (Or.inr ⟨_, rfl⟩) rC_13_4 ?_
      refine v_iload_n (pc := 20) d_Lo_kindOf_20 rfl (.tail _ (.head _)) ?_
      refine v_iald (pc := 21) (x := (w 17 p1.toNat)) d_Lo_kindOf_21 cC_17.1 cC_17.2 rfl h.1 ?_
      replace h := h.2
      exact v_iret (pc := 22) d_Lo_kindOf_22 rfl h
    · replace h := h.2 c
      refine v_iconst (pc := 12) d_Lo_kindOf_12 (by decide) ?_
      refine v_goto (pc := 13) (tgt := 22) d_Lo_kindOf_13 (by decide) ?_
      exact v_iret (pc := 22) d_Lo_kindOf_22 rfl h
theorem d_Lo_add_0 : decode jLo_add.cc 0 = .ok (.aload_n 0, 1) := by decide +kernel
theorem d_Lo_add_1 : decode jLo_add.cc 1 = .ok (.iload_n 2, 1) := by decide +kernel
theorem d_Lo_add_2 : decode jLo_add.cc 2 = .ok (.invokevirtual 58, 3) := by decide +kernel
theorem d_Lo_add_5 : decode jLo_add.cc 5 = .ok (.ifCond .ne 12, 3) := by decide +kernel
theorem d_Lo_add_8 : decode jLo_add.cc 8 = .ok (.aload_n 0, 1) := by decide +kernel
theorem d_Lo_add_9 : decode jLo_add.cc 9 = .ok (.getfield 32, 3) := by decide +kernel
theorem d_Lo_add_12 : decode jLo_add.cc 12 = .ok (.bipush 28, 2) := by decide +kernel
theorem d_Lo_add_14 : decode jLo_add.cc 14 = .ok (.if_icmp .lt 5, 3) := by decide +kernel
theorem d_Lo_add_17 : decode jLo_add.cc 17 = .ok (.iconst (-1), 1) := by decide +kernel
theorem d_Lo_add_18 : decode jLo_add.cc 18 = .ok (.ireturn, 1) := by decide +kernel
theorem d_Lo_add_19 : decode jLo_add.cc 19 = .ok (.aload_n 0, 1) := by decide +kernel
theorem d_Lo_add_20 : decode jLo_add.cc 20 = .ok (.getfield 25, 3) := by decide +kernel
theorem d_Lo_add_23 : decode jLo_add.cc 23 = .ok (.iload_n 2, 1) := by decide +kernel
theorem d_Lo_add_24 : decode jLo_add.cc 24 = .ok (.iaload, 1) := by decide +kernel
theorem d_Lo_add_25 : decode jLo_add.cc 25 = .ok (.istore 4, 2) := by decide +kernel
theorem d_Lo_add_27 : decode jLo_add.cc 27 = .ok (.aload_n 0, 1) := by decide +kernel
theorem d_Lo_add_28 : decode jLo_add.cc 28 = .ok (.getfield 9, 3) := by decide +kernel
theorem d_Lo_add_31 : decode jLo_add.cc 31 = .ok (.aload_n 0, 1) := by decide +kernel
theorem d_Lo_add_32 : decode jLo_add.cc 32 = .ok (.getfield 32, 3) := by decide +kernel
theorem d_Lo_add_35 : decode jLo_add.cc 35 = .ok (.iload_n 1, 1) := by decide +kernel
theorem d_Lo_add_36 : decode jLo_add.cc 36 = .ok (.iastore, 1) := by decide +kernel
theorem d_Lo_add_37 : decode jLo_add.cc 37 = .ok (.aload_n 0, 1) := by decide +kernel
theorem d_Lo_add_38 : decode jLo_add.cc 38 = .ok (.getfield 13, 3) := by decide +kernel
theorem d_Lo_add_41 : decode jLo_add.cc 41 = .ok (.aload_n 0, 1) := by decide +kernel
theorem d_Lo_add_42 : decode jLo_add.cc 42 = .ok (.getfield 32, 3) := by decide +kernel
theorem d_Lo_add_45 : decode jLo_add.cc 45 = .ok (.iload_n 2, 1) := by decide +kernel
theorem d_Lo_add_46 : decode jLo_add.cc 46 = .ok (.iastore, 1) := by decide +kernel
theorem d_Lo_add_47 : decode jLo_add.cc 47 = .ok (.aload_n 0, 1) := by decide +kernel
theorem d_Lo_add_48 : decode jLo_add.cc 48 = .ok (.getfield 16, 3) := by decide +kernel
theorem d_Lo_add_51 : decode jLo_add.cc 51 = .ok (.aload_n 0, 1) := by decide +kernel
theorem d_Lo_add_52 : decode jLo_add.cc 52 = .ok (.getfield 32, 3) := by decide +kernel
theorem d_Lo_add_55 : decode jLo_add.cc 55 = .ok (.iload 4, 2) := by decide +kernel
theorem d_Lo_add_57 : decode jLo_add.cc 57 = .ok (.iastore, 1) := by decide +kernel
theorem d_Lo_add_58 : decode jLo_add.cc 58 = .ok (.aload_n 0, 1) := by decide +kernel
theorem d_Lo_add_59 : decode jLo_add.cc 59 = .ok (.getfield 19, 3) := by decide +kernel
theorem d_Lo_add_62 : decode jLo_add.cc 62 = .ok (.aload_n 0, 1) := by decide +kernel
theorem d_Lo_add_63 : decode jLo_add.cc 63 = .ok (.getfield 32, 3) := by decide +kernel
theorem d_Lo_add_66 : decode jLo_add.cc 66 = .ok (.iload_n 3, 1) := by decide +kernel
theorem d_Lo_add_67 : decode jLo_add.cc 67 = .ok (.iastore, 1) := by decide +kernel
theorem d_Lo_add_68 : decode jLo_add.cc 68 = .ok (.aload_n 0, 1) := by decide +kernel
theorem d_Lo_add_69 : decode jLo_add.cc 69 = .ok (.dup, 1) := by decide +kernel
theorem d_Lo_add_70 : decode jLo_add.cc 70 = .ok (.getfield 32, 3) := by decide +kernel
theorem d_Lo_add_73 : decode jLo_add.cc 73 = .ok (.iconst 1, 1) := by decide +kernel
theorem d_Lo_add_74 : decode jLo_add.cc 74 = .ok (.iadd, 1) := by decide +kernel
theorem d_Lo_add_75 : decode jLo_add.cc 75 = .ok (.putfield 32, 3) := by decide +kernel
theorem d_Lo_add_78 : decode jLo_add.cc 78 = .ok (.aload_n 0, 1) := by decide +kernel
theorem d_Lo_add_79 : decode jLo_add.cc 79 = .ok (.getfield 25, 3) := by decide +kernel
theorem d_Lo_add_82 : decode jLo_add.cc 82 = .ok (.iload_n 2, 1) := by decide +kernel
theorem d_Lo_add_83 : decode jLo_add.cc 83 = .ok (.dup2, 1) := by decide +kernel
theorem d_Lo_add_84 : decode jLo_add.cc 84 = .ok (.iaload, 1) := by decide +kernel
theorem d_Lo_add_85 : decode jLo_add.cc 85 = .ok (.iconst 1, 1) := by decide +kernel
theorem d_Lo_add_86 : decode jLo_add.cc 86 = .ok (.iadd, 1) := by decide +kernel
theorem d_Lo_add_87 : decode jLo_add.cc 87 = .ok (.iastore, 1) := by decide +kernel
theorem d_Lo_add_88 : decode jLo_add.cc 88 = .ok (.iload 4, 2) := by decide +kernel
theorem d_Lo_add_90 : decode jLo_add.cc 90 = .ok (.ireturn, 1) := by decide +kernel
set_option maxHeartbeats 4000000 in
theorem s_Lo_add {g : Mg} {d : Nat} {K : Ou → Wd → Prop} {w : Wd} {p1 : Int} {p2 : Int} {p3 : Int} (h : Cal g LC jLo_isFull d [vA 13, vI p2] w (fun o w1 => rI o (fun x2 => (¬ x2 = 0 → (K (.inl (some (vI (-1)))) w1)) ∧ (x2 = 0 → (((w1 13 6) < 28 → ((0 ≤ p2 ∧ p2 < 5) ∧ ((0 ≤ (w1 13 6) ∧ (w1 13 6) < 28) ∧ ((0 ≤ (w1 13 6) ∧ (w1 13 6) < 28) ∧ ((0 ≤ (w1 13 6) ∧ (w1 13 6) < 28) ∧ ((0 ≤ (w1 13 6) ∧ (w1 13 6) < 28) ∧ ((0 ≤ p2 ∧ p2 < 5) ∧ ((0 ≤ p2 ∧ p2 < 5) ∧ (K (.inl (some (vI (w1 18 p2.toNat)))) (up (up (up (up (up (up w1 14 ((w1 13 6).toNat) p1) 15 ((w1 13 6).toNat) p2) 16 ((w1 13 6).toNat) (w1 18 p2.toNat)) 17 ((w1 13 6).toNat) p3) 13 6 (wr ((w1 13 6) + 1))) 18 (p2.toNat) (wr ((w1 18 p2.toNat) + 1)))))))))))) ∧ (¬ (w1 13 6) < 28 → (K (.inl (some (vI (-1)))) w1))))))) : V g LC jLo_add (d + 1) K 0 [(0, vA 13), (1, vI p1), (2, vI p2), (3, vI p3)] [] w := by
  refine v_aload_n (pc := 0) d_Lo_add_0 rfl (.head _) ?_
  refine v_iload_n (pc := 1) d_Lo_add_1 rfl (.tail _ (.tail _ (.head _))) ?_
  refine v_callV (pc := 2) (J' := jLo_isFull) (d' := d) (o := 13) (ci := 4) (N := 7) (T := cT4) (As := [vI p2]) d_Lo_add_2 ml_Lo_58 cC_13.1 cC_13.2 (by decide) rfl rfl (Nat.le_of_ble_eq_true rfl) (Nat.le_refl _) rfl (Cal.weak h (fun o w1 h => ?_))
  rcases rI_of h with ⟨x2, rfl, h⟩
  refine v_ifne (pc := 5) (tgt := 17) d_Lo_add_5 (by decide) (fun c => ?_) (fun c => ?_)
  · replace h := h.1 c
    refine v_iconst (pc := 17) d_Lo_add_17 (by decide) ?_
    exact v_iret (pc := 18) d_Lo_add_18 rfl h
  · replace h := h.2 c
    refine v_aload_n (pc := 8) d_Lo_add_8 rfl (.head _) ?_
    refine v_geti (pc := 9) (x := (w1 13 6)) d_Lo_add_9 fl_Lo_32 cC_13.1 cC_13.2 (Or.inl rfl) rfl ?_
    refine v_bipush (pc := 12) d_Lo_add_12 (by decide) rfl ?_
    refine v_icmplt (pc := 14) (tgt := 19) d_Lo_add_14 (by decide) (fun c => ?_) (fun c => ?_)
    · replace h := h.1 c
      refine v_aload_n (pc := 19) d_Lo_add_19 rfl (.head _) ?_
      refine v_getr (C := "") (pc := 20) (r := 18) d_Lo_add_20 fl_Lo_25 cC_13.1 cC_13.2 (Or.inr ⟨_, rfl⟩) rC_13_5 ?_
      refine v_iload_n (pc := 23) d_Lo_add_23 rfl (.tail _ (.tail _ (.head _))) ?_
      refine v_iald (pc := 24) (x := (w1 18 p2.toNat)) d_Lo_add_24 cC_18.1 cC_18.2 rfl h.1 ?_
      replace h := h.2
      refine v_istore (pc := 25) (ls' := [(4, vI (w1 18 p2.toNat)), (0, vA 13), (1, vI p1), (2, vI p2), (3, vI p3)]) d_Lo_add_25 (by decide) rfl ?_
      refine v_aload_n (pc := 27) d_Lo_add_27 rfl (.tail _ (.head _)) ?_
      refine v_getr (C := "") (pc := 28) (r := 14) d_Lo_add_28 fl_Lo_9 cC_13.1 cC_13.2 (Or.inr ⟨_, rfl⟩) rC_13_1 ?_
      refine v_aload_n (pc := 31) d_Lo_add_31 rfl (.tail _ (.head _)) ?_
      refine v_geti (pc := 32) (x := (w1 13 6)) d_Lo_add_32 fl_Lo_32 cC_13.1 cC_13.2 (Or.inl rfl) rfl ?_
      refine v_iload_n (pc := 35) d_Lo_add_35 rfl (.tail _ (.tail _ (.head _))) ?_
      refine v_iast (pc := 36) d_Lo_add_36 cC_14.1 cC_14.2 (aC_14 _) h.1 ?_
      replace h := h.2
      refine v_aload_n (pc := 37) d_Lo_add_37 rfl (.tail _ (.head _)) ?_
      refine v_getr (C := "") (pc := 38) (r := 15) d_Lo_add_38 fl_Lo_13 cC_13.1 cC_13.2 (Or.inr ⟨_, rfl⟩) rC_13_2 ?_
      refine v_aload_n (pc := 41) d_Lo_add_41 rfl (.tail _ (.head _)) ?_
      refine v_geti (pc := 42) (x := (w1 13 6)) d_Lo_add_42 fl_Lo_32 cC_13.1 cC_13.2 (Or.inl rfl) rfl ?_
      refine v_iload_n (pc := 45) d_Lo_add_45 rfl (.tail _ (.tail _ (.tail _ (.head _)))) ?_
      refine v_iast (pc := 46) d_Lo_add_46 cC_15.1 cC_15.2 (aC_15 _) h.1 ?_
      replace h := h.2
      refine v_aload_n (pc := 47) d_Lo_add_47 rfl (.tail _ (.head _)) ?_
      refine v_getr (C := "") (pc := 48) (r := 16) d_Lo_add_48 fl_Lo_16 cC_13.1 cC_13.2 (Or.inr ⟨_, rfl⟩) rC_13_3 ?_
      refine v_aload_n (pc := 51) d_Lo_add_51 rfl (.tail _ (.head _)) ?_
      refine v_geti (pc := 52) (x := (w1 13 6)) d_Lo_add_52 fl_Lo_32 cC_13.1 cC_13.2 (Or.inl rfl) rfl ?_
      refine v_iload (pc := 55) d_Lo_add_55 (.head _) ?_
      refine v_iast (pc := 57) d_Lo_add_57 cC_16.1 cC_16.2 (aC_16 _) h.1 ?_
      replace h := h.2
      refine v_aload_n (pc := 58) d_Lo_add_58 rfl (.tail _ (.head _)) ?_
      refine v_getr (C := "") (pc := 59) (r := 17) d_Lo_add_59 fl_Lo_19 cC_13.1 cC_13.2 (Or.inr ⟨_, rfl⟩) rC_13_4 ?_
      refine v_aload_n (pc := 62) d_Lo_add_62 rfl (.tail _ (.head _)) ?_
      refine v_geti (pc := 63) (x := (w1 13 6)) d_Lo_add_63 fl_Lo_32 cC_13.1 cC_13.2 (Or.inl rfl) rfl ?_
      refine v_iload_n (pc := 66) d_Lo_add_66 rfl (.tail _ (.tail _ (.tail _ (.tail _ (.head _))))) ?_
      refine v_iast (pc := 67) d_Lo_add_67 cC_17.1 cC_17.2 (aC_17 _) h.1 ?_
      replace h := h.2
      refine v_aload_n (pc := 68) d_Lo_add_68 rfl (.tail _ (.head _)) ?_
      refine v_dup (pc := 69) d_Lo_add_69 rfl ?_
      refine v_geti (pc := 70) (x := (w1 13 6)) d_Lo_add_70 fl_Lo_32 cC_13.1 cC_13.2 (Or.inl rfl) rfl ?_
      refine v_iconst (pc := 73) d_Lo_add_73 (by decide) ?_
      refine v_iadd (pc := 74) d_Lo_add_74 ?_
      refine v_puti (pc := 75) d_Lo_add_75 fp_Lo_32 cC_13.1 cC_13.2 (by decide) rfl ?_
      refine v_aload_n (pc := 78) d_Lo_add_78 rfl (.tail _ (.head _)) ?_
      refine v_getr (C := "") (pc := 79) (r := 18) d_Lo_add_79 fl_Lo_25 cC_13.1 cC_13.2 (Or.inr ⟨_, rfl⟩) rC_13_5 ?_
      refine v_iload_n (pc := 82) d_Lo_add_82 rfl (.tail _ (.tail _ (.tail _ (.head _)))) ?_
      refine v_dup2 (pc := 83) d_Lo_add_83 rfl rfl ?_
      refine v_iald (pc := 84) (x := (w1 18 p2.toNat)) d_Lo_add_84 cC_18.1 cC_18.2 rfl h.1 ?_
      replace h := h.2
      refine v_iconst (pc := 85) d_Lo_add_85 (by decide) ?_
      refine v_iadd (pc := 86) d_Lo_add_86 ?_
      refine v_iast (pc := 87) d_Lo_add_87 cC_18.1 cC_18.2 (aC_18 _) h.1 ?_
      replace h := h.2
      refine v_iload (pc := 88) d_Lo_add_88 (.head _) ?_
      exact v_iret (pc := 90) d_Lo_add_90 rfl h
    · replace h := h.2 c
      refine v_iconst (pc := 17) d_Lo_add_17 (by decide) ?_
      exact v_iret (pc := 18) d_Lo_add_18 rfl h
theorem d_Lo_shrinkTo_0 : decode jLo_shrinkTo.cc 0 = .ok (.aload_n 0, 1) := by decide +kernel
theorem d_Lo_shrinkTo_1 : decode jLo_shrinkTo.cc 1 = .ok (.getfield 32, 3) := by decide +kernel
theorem d_Lo_shrinkTo_4 : decode jLo_shrinkTo.cc 4 = .ok (.iload_n 1, 1) := by decide +kernel
theorem d_Lo_shrinkTo_5 : decode jLo_shrinkTo.cc 5 = .ok (.if_icmp .le 41, 3) := by decide +kernel
theorem d_Lo_shrinkTo_8 : decode jLo_shrinkTo.cc 8 = .ok (.aload_n 0, 1) := by decide +kernel
theorem d_Lo_shrinkTo_9 : decode jLo_shrinkTo.cc 9 = .ok (.getfield 32, 3) := by decide +kernel
theorem d_Lo_shrinkTo_12 : decode jLo_shrinkTo.cc 12 = .ok (.ifCond .le 34, 3) := by decide +kernel
theorem d_Lo_shrinkTo_15 : decode jLo_shrinkTo.cc 15 = .ok (.aload_n 0, 1) := by decide +kernel
theorem d_Lo_shrinkTo_16 : decode jLo_shrinkTo.cc 16 = .ok (.dup, 1) := by decide +kernel
theorem d_Lo_shrinkTo_17 : decode jLo_shrinkTo.cc 17 = .ok (.getfield 32, 3) := by decide +kernel
theorem d_Lo_shrinkTo_20 : decode jLo_shrinkTo.cc 20 = .ok (.iconst 1, 1) := by decide +kernel
theorem d_Lo_shrinkTo_21 : decode jLo_shrinkTo.cc 21 = .ok (.isub, 1) := by decide +kernel
theorem d_Lo_shrinkTo_22 : decode jLo_shrinkTo.cc 22 = .ok (.putfield 32, 3) := by decide +kernel
theorem d_Lo_shrinkTo_25 : decode jLo_shrinkTo.cc 25 = .ok (.aload_n 0, 1) := by decide +kernel
theorem d_Lo_shrinkTo_26 : decode jLo_shrinkTo.cc 26 = .ok (.getfield 25, 3) := by decide +kernel
theorem d_Lo_shrinkTo_29 : decode jLo_shrinkTo.cc 29 = .ok (.aload_n 0, 1) := by decide +kernel
theorem d_Lo_shrinkTo_30 : decode jLo_shrinkTo.cc 30 = .ok (.getfield 13, 3) := by decide +kernel
theorem d_Lo_shrinkTo_33 : decode jLo_shrinkTo.cc 33 = .ok (.aload_n 0, 1) := by decide +kernel
theorem d_Lo_shrinkTo_34 : decode jLo_shrinkTo.cc 34 = .ok (.getfield 32, 3) := by decide +kernel
theorem d_Lo_shrinkTo_37 : decode jLo_shrinkTo.cc 37 = .ok (.iaload, 1) := by decide +kernel
theorem d_Lo_shrinkTo_38 : decode jLo_shrinkTo.cc 38 = .ok (.dup2, 1) := by decide +kernel
theorem d_Lo_shrinkTo_39 : decode jLo_shrinkTo.cc 39 = .ok (.iaload, 1) := by decide +kernel
theorem d_Lo_shrinkTo_40 : decode jLo_shrinkTo.cc 40 = .ok (.iconst 1, 1) := by decide +kernel
theorem d_Lo_shrinkTo_41 : decode jLo_shrinkTo.cc 41 = .ok (.isub, 1) := by decide +kernel
theorem d_Lo_shrinkTo_42 : decode jLo_shrinkTo.cc 42 = .ok (.iastore, 1) := by decide +kernel
theorem d_Lo_shrinkTo_43 : decode jLo_shrinkTo.cc 43 = .ok (.goto (-43), 3) := by decide +kernel
theorem d_Lo_shrinkTo_46 : decode jLo_shrinkTo.cc 46 = .ok (.return_, 1) := by decide +kernel
set_option maxHeartbeats 4000000 in
theorem s_Lo_shrinkTo {g : Mg} {d : Nat} {K : Ou → Wd → Prop} {w : Wd} {p1 : Int} (h : ((w 13 6) ≤ p1 → (K (.inl none) w)) ∧ (¬ (w 13 6) ≤ p1 → (((w 13 6) ≤ 0 → (K (.inl none) w)) ∧ (¬ (w 13 6) ≤ 0 → ((0 ≤ (wr ((w 13 6) - 1)) ∧ (wr ((w 13 6) - 1)) < 28) ∧ ((0 ≤ (w 15 ((wr ((w 13 6) - 1)).toNat)) ∧ (w 15 ((wr ((w 13 6) - 1)).toNat)) < 5) ∧ ((0 ≤ (w 15 ((wr ((w 13 6) - 1)).toNat)) ∧ (w 15 ((wr ((w 13 6) - 1)).toNat)) < 5) ∧ (V g LC jLo_shrinkTo d K 0 [(0, vA 13), (1, vI p1)] [] (up (up w 13 6 (wr ((w 13 6) - 1))) 18 ((w 15 ((wr ((w 13 6) - 1)).toNat)).toNat) (wr ((w 18 ((w 15 ((wr ((w 13 6) - 1)).toNat)).toNat)) - 1))))))))))) : V g LC jLo_shrinkTo d K 0 [(0, vA 13), (1, vI p1)] [] w := by
  refine v_aload_n (pc := 0) d_Lo_shrinkTo_0 rfl (.head _) ?_
  refine v_geti (pc := 1) (x := (w 13 6)) d_Lo_shrinkTo_1 fl_Lo_32 cC_13.1 cC_13.2 (Or.inl rfl) rfl ?_
  refine v_iload_n (pc := 4) d_Lo_shrinkTo_4 rfl (.tail _ (.head _)) ?_
  refine v_icmple (pc := 5) (tgt := 46) d_Lo_shrinkTo_5 (by decide) (fun c => ?_) (fun c => ?_)
  · replace h := h.1 c
    exact v_vret (pc := 46) d_Lo_shrinkTo_46 rfl h
  · replace h := h.2 c
    refine v_aload_n (pc := 8) d_Lo_shrinkTo_8 rfl (.head _) ?_
    refine v_geti (pc := 9) (x := (w 13 6)) d_Lo_shrinkTo_9 fl_Lo_32 cC_13.1 cC_13.2 (Or.inl rfl) rfl ?_
    refine v_ifle (pc := 12) (tgt := 46) d_Lo_shrinkTo_12 (by decide) (fun c => ?_) (fun c => ?_)
    · replace h := h.1 c
      exact v_vret (pc := 46) d_Lo_shrinkTo_46 rfl h
    · replace h := h.2 c
      refine v_aload_n (pc := 15) d_Lo_shrinkTo_15 rfl (.head _) ?_
      refine v_dup (pc := 16) d_Lo_shrinkTo_16 rfl ?_
      refine v_geti (pc := 17) (x := (w 13 6)) d_Lo_shrinkTo_17 fl_Lo_32 cC_13.1 cC_13.2 (Or.inl rfl) rfl ?_
      refine v_iconst (pc := 20) d_Lo_shrinkTo_20 (by decide) ?_
      refine v_isub (pc := 21) d_Lo_shrinkTo_21 ?_
      refine v_puti (pc := 22) d_Lo_shrinkTo_22 fp_Lo_32 cC_13.1 cC_13.2 (by decide) rfl ?_
      refine v_aload_n (pc := 25) d_Lo_shrinkTo_25 rfl (.head _) ?_
      refine v_getr (C := "") (pc := 26) (r := 18) d_Lo_shrinkTo_26 fl_Lo_25 cC_13.1 cC_13.2 (Or.inr ⟨_, rfl⟩) rC_13_5 ?_
      refine v_aload_n (pc := 29) d_Lo_shrinkTo_29 rfl (.head _) ?_
      refine v_getr (C := "") (pc := 30) (r := 15) d_Lo_shrinkTo_30 fl_Lo_13 cC_13.1 cC_13.2 (Or.inr ⟨_, rfl⟩) rC_13_2 ?_
      refine v_aload_n (pc := 33) d_Lo_shrinkTo_33 rfl (.head _) ?_
      refine v_geti (pc := 34) (x := (wr ((w 13 6) - 1))) d_Lo_shrinkTo_34 fl_Lo_32 cC_13.1 cC_13.2 (Or.inl rfl) rfl ?_
      refine v_iald (pc := 37) (x := (w 15 ((wr ((w 13 6) - 1)).toNat))) d_Lo_shrinkTo_37 cC_15.1 cC_15.2 rfl h.1 ?_
      replace h := h.2
      refine v_dup2 (pc := 38) d_Lo_shrinkTo_38 rfl rfl ?_
      refine v_iald (pc := 39) (x := (w 18 ((w 15 ((wr ((w 13 6) - 1)).toNat)).toNat))) d_Lo_shrinkTo_39 cC_18.1 cC_18.2 rfl h.1 ?_
      replace h := h.2
      refine v_iconst (pc := 40) d_Lo_shrinkTo_40 (by decide) ?_
      refine v_isub (pc := 41) d_Lo_shrinkTo_41 ?_
      refine v_iast (pc := 42) d_Lo_shrinkTo_42 cC_18.1 cC_18.2 (aC_18 _) h.1 ?_
      replace h := h.2
      refine v_goto (pc := 43) (tgt := 0) d_Lo_shrinkTo_43 (by decide) ?_
      exact v_sub (List.forall_mem_cons.mpr ⟨(.head _), (List.forall_mem_cons.mpr ⟨(.tail _ (.head _)), (fun _ z => absurd z List.not_mem_nil)⟩)⟩) h
set_option maxHeartbeats 4000000 in
theorem s_Lo_shrinkTo_0 {g : Mg} {d : Nat} {K : Ou → Wd → Prop} {w : Wd} {x1_ : Int} (h : ((w 13 6) ≤ x1_ → (K (.inl none) w)) ∧ (¬ (w 13 6) ≤ x1_ → (((w 13 6) ≤ 0 → (K (.inl none) w)) ∧ (¬ (w 13 6) ≤ 0 → ((0 ≤ (wr ((w 13 6) - 1)) ∧ (wr ((w 13 6) - 1)) < 28) ∧ ((0 ≤ (w 15 ((wr ((w 13 6) - 1)).toNat)) ∧ (w 15 ((wr ((w 13 6) - 1)).toNat)) < 5) ∧ ((0 ≤ (w 15 ((wr ((w 13 6) - 1)).toNat)) ∧ (w 15 ((wr ((w 13 6) - 1)).toNat)) < 5) ∧ (V g LC jLo_shrinkTo d K 0 [(0, vA 13), (1, vI x1_)] [] (up (up w 13 6 (wr ((w 13 6) - 1))) 18 ((w 15 ((wr ((w 13 6) - 1)).toNat)).toNat) (wr ((w 18 ((w 15 ((wr ((w 13 6) - 1)).toNat)).toNat)) - 1))))))))))) : V g LC jLo_shrinkTo d K 0 [(0, vA 13), (1, vI x1_)] [] w := by
  refine v_aload_n (pc := 0) d_Lo_shrinkTo_0 rfl (.head _) ?_
  refine v_geti (pc := 1) (x := (w 13 6)) d_Lo_shrinkTo_1 fl_Lo_32 cC_13.1 cC_13.2 (Or.inl rfl) rfl ?_
  refine v_iload_n (pc := 4) d_Lo_shrinkTo_4 rfl (.tail _ (.head _)) ?_
  refine v_icmple (pc := 5) (tgt := 46) d_Lo_shrinkTo_5 (by decide) (fun c => ?_) (fun c => ?_)
  · replace h := h.1 c
    exact v_vret (pc := 46) d_Lo_shrinkTo_46 rfl h
  · replace h := h.2 c
    refine v_aload_n (pc := 8) d_Lo_shrinkTo_8 rfl (.head _) ?_
    refine v_geti (pc := 9) (x := (w 13 6)) d_Lo_shrinkTo_9 fl_Lo_32 cC_13.1 cC_13.2 (Or.inl rfl) rfl ?_
    refine v_ifle (pc := 12) (tgt := 46) d_Lo_shrinkTo_12 (by decide) (fun c => ?_) (fun c => ?_)
    · replace h := h.1 c
      exact v_vret (pc := 46) d_Lo_shrinkTo_46 rfl h
    · replace h := h.2 c
      refine v_aload_n (pc := 15) d_Lo_shrinkTo_15 rfl (.head _) ?_
      refine v_dup (pc := 16) d_Lo_shrinkTo_16 rfl ?_
      refine v_geti (pc := 17) (x := (w 13 6)) d_Lo_shrinkTo_17 fl_Lo_32 cC_13.1 cC_13.2 (Or.inl rfl) rfl ?_
      refine v_iconst (pc := 20) d_Lo_shrinkTo_20 (by decide) ?_
      refine v_isub (pc := 21) d_Lo_shrinkTo_21 ?_
      refine v_puti (pc := 22) d_Lo_shrinkTo_22 fp_Lo_32 cC_13.1 cC_13.2 (by decide) rfl ?_
      refine v_aload_n (pc := 25) d_Lo_shrinkTo_25 rfl (.head _) ?_
      refine v_getr (C := "") (pc := 26) (r := 18) d_Lo_shrinkTo_26 fl_Lo_25 cC_13.1 cC_13.2 (Or.inr ⟨_, rfl⟩) rC_13_5 ?_
      refine v_aload_n (pc := 29) d_Lo_shrinkTo_29 rfl (.head _) ?_
      refine v_getr (C := "") (pc := 30) (r := 15) d_Lo_shrinkTo_30 fl_Lo_13 cC_13.1 cC_13.2 (Or.inr ⟨_, rfl⟩) rC_13_2 ?_
      refine v_aload_n (pc := 33) d_Lo_shrinkTo_33 rfl (.head _) ?_
      refine v_geti (pc := 34) (x := (wr ((w 13 6) - 1))) d_Lo_shrinkTo_34 fl_Lo_32 cC_13.1 cC_13.2 (Or.inl rfl) rfl ?_
      refine v_iald (pc := 37) (x := (w 15 ((wr ((w 13 6) - 1)).toNat))) d_Lo_shrinkTo_37 cC_15.1 cC_15.2 rfl h.1 ?_
      replace h := h.2
      refine v_dup2 (pc := 38) d_Lo_shrinkTo_38 rfl rfl ?_
      refine v_iald (pc := 39) (x := (w 18 ((w 15 ((wr ((w 13 6) - 1)).toNat)).toNat))) d_Lo_shrinkTo_39 cC_18.1 cC_18.2 rfl h.1 ?_
      replace h := h.2
      refine v_iconst (pc := 40) d_Lo_shrinkTo_40 (by decide) ?_
      refine v_isub (pc := 41) d_Lo_shrinkTo_41 ?_
      refine v_iast (pc := 42) d_Lo_shrinkTo_42 cC_18.1 cC_18.2 (aC_18 _) h.1 ?_
      replace h := h.2
      refine v_goto (pc := 43) (tgt := 0) d_Lo_shrinkTo_43 (by decide) ?_
      exact v_sub (List.forall_mem_cons.mpr ⟨(.head _), (List.forall_mem_cons.mpr ⟨(.tail _ (.head _)), (fun _ z => absurd z List.not_mem_nil)⟩)⟩) h
theorem d_Gr_clear_0 : decode jGr_clear.cc 0 = .ok (.aload_n 0, 1) := by decide +kernel
theorem d_Gr_clear_1 : decode jGr_clear.cc 1 = .ok (.iload_n 1, 1) := by decide +kernel
theorem d_Gr_clear_2 : decode jGr_clear.cc 2 = .ok (.putfield 47, 3) := by decide +kernel
theorem d_Gr_clear_5 : decode jGr_clear.cc 5 = .ok (.aload_n 0, 1) := by decide +kernel
theorem d_Gr_clear_6 : decode jGr_clear.cc 6 = .ok (.iconst 0, 1) := by decide +kernel
theorem d_Gr_clear_7 : decode jGr_clear.cc 7 = .ok (.putfield 51, 3) := by decide +kernel
theorem d_Gr_clear_10 : decode jGr_clear.cc 10 = .ok (.aload_n 0, 1) := by decide +kernel
theorem d_Gr_clear_11 : decode jGr_clear.cc 11 = .ok (.getfield 16, 3) := by decide +kernel
theorem d_Gr_clear_14 : decode jGr_clear.cc 14 = .ok (.iconst 0, 1) := by decide +kernel
theorem d_Gr_clear_15 : decode jGr_clear.cc 15 = .ok (.invokestatic 54, 3) := by decide +kernel
theorem d_Gr_clear_18 : decode jGr_clear.cc 18 = .ok (.aload_n 0, 1) := by decide +kernel
theorem d_Gr_clear_19 : decode jGr_clear.cc 19 = .ok (.getfield 19, 3) := by decide +kernel
theorem d_Gr_clear_22 : decode jGr_clear.cc 22 = .ok (.iconst 0, 1) := by decide +kernel
theorem d_Gr_clear_23 : decode jGr_clear.cc 23 = .ok (.invokestatic 54, 3) := by decide +kernel
theorem d_Gr_clear_26 : decode jGr_clear.cc 26 = .ok (.aload_n 0, 1) := by decide +kernel
theorem d_Gr_clear_27 : decode jGr_clear.cc 27 = .ok (.getfield 22, 3) := by decide +kernel
theorem d_Gr_clear_30 : decode jGr_clear.cc 30 = .ok (.iconst 0, 1) := by decide +kernel
theorem d_Gr_clear_31 : decode jGr_clear.cc 31 = .ok (.invokestatic 54, 3) := by decide +kernel
theorem d_Gr_clear_34 : decode jGr_clear.cc 34 = .ok (.aload_n 0, 1) := by decide +kernel
theorem d_Gr_clear_35 : decode jGr_clear.cc 35 = .ok (.getfield 25, 3) := by decide +kernel
theorem d_Gr_clear_38 : decode jGr_clear.cc 38 = .ok (.iconst (-1), 1) := by decide +kernel
theorem d_Gr_clear_39 : decode jGr_clear.cc 39 = .ok (.invokestatic 54, 3) := by decide +kernel
theorem d_Gr_clear_42 : decode jGr_clear.cc 42 = .ok (.aload_n 0, 1) := by decide +kernel
theorem d_Gr_clear_43 : decode jGr_clear.cc 43 = .ok (.getfield 34, 3) := by decide +kernel
theorem d_Gr_clear_46 : decode jGr_clear.cc 46 = .ok (.iconst (-1), 1) := by decide +kernel
theorem d_Gr_clear_47 : decode jGr_clear.cc 47 = .ok (.invokestatic 54, 3) := by decide +kernel
theorem d_Gr_clear_50 : decode jGr_clear.cc 50 = .ok (.return_, 1) := by decide +kernel
set_option maxHeartbeats 4000000 in
theorem s_Gr_clear {g : Mg} {d : Nat} {K : Ou → Wd → Prop} {w : Wd} {p1 : Int} (h : Cal g LC jAr_fill d [vA 34, vI 0] (up (up w 31 0 p1) 31 1 0) (fun o w1 => rV o (Cal g LC jAr_fill d [vA 35, vI 0] w1 (fun o w2 => rV o (Cal g LC jAr_fill d [vA 36, vI 0] w2 (fun o w3 => rV o (Cal g LC jAr_fill d [vA 37, vI (-1)] w3 (fun o w4 => rV o (Cal g LC jAr_fill d [vA 40, vI (-1)] w4 (fun o w5 => rV o (K (.inl none) w5))))))))))) : V g LC jGr_clear (d + 1) K 0 [(0, vA 31), (1, vI p1)] [] w := by
  refine v_aload_n (pc := 0) d_Gr_clear_0 rfl (.head _) ?_
  refine v_iload_n (pc := 1) d_Gr_clear_1 rfl (.tail _ (.head _)) ?_
  refine v_puti (pc := 2) d_Gr_clear_2 fp_Gr_47 cC_31.1 cC_31.2 (by decide) rfl ?_
  refine v_aload_n (pc := 5) d_Gr_clear_5 rfl (.head _) ?_
  refine v_iconst (pc := 6) d_Gr_clear_6 (by decide) ?_
  refine v_puti (pc := 7) d_Gr_clear_7 fp_Gr_51 cC_31.1 cC_31.2 (by decide) rfl ?_
  refine v_aload_n (pc := 10) d_Gr_clear_10 rfl (.head _) ?_
  refine v_getr (C := "") (pc := 11) (r := 34) d_Gr_clear_11 fl_Gr_16 cC_31.1 cC_31.2 (Or.inr ⟨_, rfl⟩) rC_31_4 ?_
  refine v_iconst (pc := 14) d_Gr_clear_14 (by decide) ?_
  refine v_callS (pc := 15) (J' := jAr_fill) (d' := d) (As := [vA 34, vI 0]) d_Gr_clear_15 ml_Gr_54 rfl (Nat.le_of_ble_eq_true rfl) (Nat.le_refl _) rfl (Cal.weak h (fun o w1 h => ?_))
  rcases rV_of h with ⟨rfl, h⟩
  refine v_aload_n (pc := 18) d_Gr_clear_18 rfl (.head _) ?_
  refine v_getr (C := "") (pc := 19) (r := 35) d_Gr_clear_19 fl_Gr_19 cC_31.1 cC_31.2 (Or.inr ⟨_, rfl⟩) rC_31_5 ?_
  refine v_iconst (pc := 22) d_Gr_clear_22 (by decide) ?_
  refine v_callS (pc := 23) (J' := jAr_fill) (d' := d) (As := [vA 35, vI 0]) d_Gr_clear_23 ml_Gr_54 rfl (Nat.le_of_ble_eq_true rfl) (Nat.le_refl _) rfl (Cal.weak h (fun o w2 h => ?_))
  rcases rV_of h with ⟨rfl, h⟩
  refine v_aload_n (pc := 26) d_Gr_clear_26 rfl (.head _) ?_
  refine v_getr (C := "") (pc := 27) (r := 36) d_Gr_clear_27 fl_Gr_22 cC_31.1 cC_31.2 (Or.inr ⟨_, rfl⟩) rC_31_6 ?_
  refine v_iconst (pc := 30) d_Gr_clear_30 (by decide) ?_
  refine v_callS (pc := 31) (J' := jAr_fill) (d' := d) (As := [vA 36, vI 0]) d_Gr_clear_31 ml_Gr_54 rfl (Nat.le_of_ble_eq_true rfl) (Nat.le_refl _) rfl (Cal.weak h (fun o w3 h => ?_))
  rcases rV_of h with ⟨rfl, h⟩
  refine v_aload_n (pc := 34) d_Gr_clear_34 rfl (.head _) ?_
  refine v_getr (C := "") (pc := 35) (r := 37) d_Gr_clear_35 fl_Gr_25 cC_31.1 cC_31.2 (Or.inr ⟨_, rfl⟩) rC_31_7 ?_
  refine v_iconst (pc := 38) d_Gr_clear_38 (by decide) ?_
  refine v_callS (pc := 39) (J' := jAr_fill) (d' := d) (As := [vA 37, vI (-1)]) d_Gr_clear_39 ml_Gr_54 rfl (Nat.le_of_ble_eq_true rfl) (Nat.le_refl _) rfl (Cal.weak h (fun o w4 h => ?_))
  rcases rV_of h with ⟨rfl, h⟩
  refine v_aload_n (pc := 42) d_Gr_clear_42 rfl (.head _) ?_
  refine v_getr (C := "") (pc := 43) (r := 40) d_Gr_clear_43 fl_Gr_34 cC_31.1 cC_31.2 (Or.inr ⟨_, rfl⟩) rC_31_10 ?_
  refine v_iconst (pc := 46) d_Gr_clear_46 (by decide) ?_
  refine v_callS (pc := 47) (J' := jAr_fill) (d' := d) (As := [vA 40, vI (-1)]) d_Gr_clear_47 ml_Gr_54 rfl (Nat.le_of_ble_eq_true rfl) (Nat.le_refl _) rfl (Cal.weak h (fun o w5 h => ?_))
  rcases rV_of h with ⟨rfl, h⟩
  exact v_vret (pc := 50) d_Gr_clear_50 rfl h
theorem d_Gr_hasNode_0 : decode jGr_hasNode.cc 0 = .ok (.iload_n 1, 1) := by decide +kernel
theorem d_Gr_hasNode_1 : decode jGr_hasNode.cc 1 = .ok (.ifCond .lt 15, 3) := by decide +kernel
theorem d_Gr_hasNode_4 : decode jGr_hasNode.cc 4 = .ok (.iload_n 1, 1) := by decide +kernel
theorem d_Gr_hasNode_5 : decode jGr_hasNode.cc 5 = .ok (.aload_n 0, 1) := by decide +kernel
theorem d_Gr_hasNode_6 : decode jGr_hasNode.cc 6 = .ok (.getfield 47, 3) := by decide +kernel
theorem d_Gr_hasNode_9 : decode jGr_hasNode.cc 9 = .ok (.if_icmp .ge 7, 3) := by decide +kernel
theorem d_Gr_hasNode_12 : decode jGr_hasNode.cc 12 = .ok (.iconst 1, 1) := by decide +kernel
theorem d_Gr_hasNode_13 : decode jGr_hasNode.cc 13 = .ok (.goto 4, 3) := by decide +kernel
theorem d_Gr_hasNode_16 : decode jGr_hasNode.cc 16 = .ok (.iconst 0, 1) := by decide +kernel
theorem d_Gr_hasNode_17 : decode jGr_hasNode.cc 17 = .ok (.ireturn, 1) := by decide +kernel
set_option maxHeartbeats 4000000 in
theorem s_Gr_hasNode {g : Mg} {d : Nat} {K : Ou → Wd → Prop} {w : Wd} {p1 : Int} (h : (p1 < 0 → (K (.inl (some (vI 0))) w)) ∧ (¬ p1 < 0 → (((w 31 0) ≤ p1 → (K (.inl (some (vI 0))) w)) ∧ (¬ (w 31 0) ≤ p1 → (K (.inl (some (vI 1))) w))))) : V g LC jGr_hasNode d K 0 [(0, vA 31), (1, vI p1)] [] w := by
  refine v_iload_n (pc := 0) d_Gr_hasNode_0 rfl (.tail _ (.head _)) ?_
  refine v_iflt (pc := 1) (tgt := 16) d_Gr_hasNode_1 (by decide) (fun c => ?_) (fun c => ?_)
  · replace h := h.1 c
    refine v_iconst (pc := 16) d_Gr_hasNode_16 (by decide) ?_
    exact v_zret (pc := 17) d_Gr_hasNode_17 rfl (by decide) h
  · replace h := h.2 c
    refine v_iload_n (pc := 4) d_Gr_hasNode_4 rfl (.tail _ (.head _)) ?_
    refine v_aload_n (pc := 5) d_Gr_hasNode_5 rfl (.head _) ?_
    refine v_geti (pc := 6) (x := (w 31 0)) d_Gr_hasNode_6 fl_Gr_47 cC_31.1 cC_31.2 (Or.inl rfl) rfl ?_
    refine v_icmpge (pc := 9) (tgt := 16) d_Gr_hasNode_9 (by decide) (fun c => ?_) (fun c => ?_)
    · replace h := h.1 c
      refine v_iconst (pc := 16) d_Gr_hasNode_16 (by decide) ?_
      exact v_zret (pc := 17) d_Gr_hasNode_17 rfl (by decide) h
    · replace h := h.2 c
      refine v_iconst (pc := 12) d_Gr_hasNode_12 (by decide) ?_
      refine v_goto (pc := 13) (tgt := 17) d_Gr_hasNode_13 (by decide) ?_
      exact v_zret (pc := 17) d_Gr_hasNode_17 rfl (by decide) h
theorem d_Gr_add_0 : decode jGr_add.cc 0 = .ok (.aload_n 0, 1) := by decide +kernel
theorem d_Gr_add_1 : decode jGr_add.cc 1 = .ok (.getfield 51, 3) := by decide +kernel
theorem d_Gr_add_4 : decode jGr_add.cc 4 = .ok (.istore_n 3, 1) := by decide +kernel
theorem d_Gr_add_5 : decode jGr_add.cc 5 = .ok (.aload_n 0, 1) := by decide +kernel
theorem d_Gr_add_6 : decode jGr_add.cc 6 = .ok (.getfield 9, 3) := by decide +kernel
theorem d_Gr_add_9 : decode jGr_add.cc 9 = .ok (.iload_n 3, 1) := by decide +kernel
theorem d_Gr_add_10 : decode jGr_add.cc 10 = .ok (.iload_n 1, 1) := by decide +kernel
theorem d_Gr_add_11 : decode jGr_add.cc 11 = .ok (.iastore, 1) := by decide +kernel
theorem d_Gr_add_12 : decode jGr_add.cc 12 = .ok (.aload_n 0, 1) := by decide +kernel
theorem d_Gr_add_13 : decode jGr_add.cc 13 = .ok (.getfield 13, 3) := by decide +kernel
theorem d_Gr_add_16 : decode jGr_add.cc 16 = .ok (.iload_n 3, 1) := by decide +kernel
theorem d_Gr_add_17 : decode jGr_add.cc 17 = .ok (.iload_n 2, 1) := by decide +kernel
theorem d_Gr_add_18 : decode jGr_add.cc 18 = .ok (.iastore, 1) := by decide +kernel
theorem d_Gr_add_19 : decode jGr_add.cc 19 = .ok (.iload_n 3, 1) := by decide +kernel
theorem d_Gr_add_20 : decode jGr_add.cc 20 = .ok (.iload_n 1, 1) := by decide +kernel
theorem d_Gr_add_21 : decode jGr_add.cc 21 = .ok (.aload_n 0, 1) := by decide +kernel
theorem d_Gr_add_22 : decode jGr_add.cc 22 = .ok (.getfield 25, 3) := by decide +kernel
theorem d_Gr_add_25 : decode jGr_add.cc 25 = .ok (.aload_n 0, 1) := by decide +kernel
theorem d_Gr_add_26 : decode jGr_add.cc 26 = .ok (.getfield 28, 3) := by decide +kernel
theorem d_Gr_add_29 : decode jGr_add.cc 29 = .ok (.aload_n 0, 1) := by decide +kernel
theorem d_Gr_add_30 : decode jGr_add.cc 30 = .ok (.getfield 31, 3) := by decide +kernel
theorem d_Gr_add_33 : decode jGr_add.cc 33 = .ok (.invokestatic 60, 3) := by decide +kernel
theorem d_Gr_add_36 : decode jGr_add.cc 36 = .ok (.iload_n 3, 1) := by decide +kernel
theorem d_Gr_add_37 : decode jGr_add.cc 37 = .ok (.iload_n 2, 1) := by decide +kernel
theorem d_Gr_add_38 : decode jGr_add.cc 38 = .ok (.aload_n 0, 1) := by decide +kernel
theorem d_Gr_add_39 : decode jGr_add.cc 39 = .ok (.getfield 34, 3) := by decide +kernel
theorem d_Gr_add_42 : decode jGr_add.cc 42 = .ok (.aload_n 0, 1) := by decide +kernel
theorem d_Gr_add_43 : decode jGr_add.cc 43 = .ok (.getfield 37, 3) := by decide +kernel
theorem d_Gr_add_46 : decode jGr_add.cc 46 = .ok (.aload_n 0, 1) := by decide +kernel
theorem d_Gr_add_47 : decode jGr_add.cc 47 = .ok (.getfield 40, 3) := by decide +kernel
theorem d_Gr_add_50 : decode jGr_add.cc 50 = .ok (.invokestatic 60, 3) := by decide +kernel
theorem d_Gr_add_53 : decode jGr_add.cc 53 = .ok (.aload_n 0, 1) := by decide +kernel
theorem d_Gr_add_54 : decode jGr_add.cc 54 = .ok (.getfield 19, 3) := by decide +kernel
theorem d_Gr_add_57 : decode jGr_add.cc 57 = .ok (.iload_n 1, 1) := by decide +kernel
theorem d_Gr_add_58 : decode jGr_add.cc 58 = .ok (.dup2, 1) := by decide +kernel
theorem d_Gr_add_59 : decode jGr_add.cc 59 = .ok (.iaload, 1) := by decide +kernel
theorem d_Gr_add_60 : decode jGr_add.cc 60 = .ok (.iconst 1, 1) := by decide +kernel
theorem d_Gr_add_61 : decode jGr_add.cc 61 = .ok (.iadd, 1) := by decide +kernel
theorem d_Gr_add_62 : decode jGr_add.cc 62 = .ok (.iastore, 1) := by decide +kernel
theorem d_Gr_add_63 : decode jGr_add.cc 63 = .ok (.aload_n 0, 1) := by decide +kernel
theorem d_Gr_add_64 : decode jGr_add.cc 64 = .ok (.getfield 22, 3) := by decide +kernel
theorem d_Gr_add_67 : decode jGr_add.cc 67 = .ok (.iload_n 2, 1) := by decide +kernel
theorem d_Gr_add_68 : decode jGr_add.cc 68 = .ok (.dup2, 1) := by decide +kernel
theorem d_Gr_add_69 : decode jGr_add.cc 69 = .ok (.iaload, 1) := by decide +kernel
theorem d_Gr_add_70 : decode jGr_add.cc 70 = .ok (.iconst 1, 1) := by decide +kernel
theorem d_Gr_add_71 : decode jGr_add.cc 71 = .ok (.iadd, 1) := by decide +kernel
theorem d_Gr_add_72 : decode jGr_add.cc 72 = .ok (.iastore, 1) := by decide +kernel
theorem d_Gr_add_73 : decode jGr_add.cc 73 = .ok (.aload_n 0, 1) := by decide +kernel
theorem d_Gr_add_74 : decode jGr_add.cc 74 = .ok (.dup, 1) := by decide +kernel
theorem d_Gr_add_75 : decode jGr_add.cc 75 = .ok (.getfield 51, 3) := by decide +kernel
theorem d_Gr_add_78 : decode jGr_add.cc 78 = .ok (.iconst 1, 1) := by decide +kernel
theorem d_Gr_add_79 : decode jGr_add.cc 79 = .ok (.iadd, 1) := by decide +kernel
theorem d_Gr_add_80 : decode jGr_add.cc 80 = .ok (.putfield 51, 3) := by decide +kernel
theorem d_Gr_add_83 : decode jGr_add.cc 83 = .ok (.iload_n 3, 1) := by decide +kernel
theorem d_Gr_add_84 : decode jGr_add.cc 84 = .ok (.ireturn, 1) := by decide +kernel
set_option maxHeartbeats 4000000 in
theorem s_Gr_add {g : Mg} {d : Nat} {K : Ou → Wd → Prop} {w : Wd} {p1 : Int} {p2 : Int} (h : (0 ≤ (w 31 1) ∧ (w 31 1) < 120) ∧ ((0 ≤ (w 31 1) ∧ (w 31 1) < 120) ∧ (Cal g LC jGr_hang d [vI (w 31 1), vI p1, vA 37, vA 38, vA 39] (up (up w 32 ((w 31 1).toNat) p1) 33 ((w 31 1).toNat) p2) (fun o w1 => rV o (Cal g LC jGr_hang d [vI (w 31 1), vI p2, vA 40, vA 41, vA 42] w1 (fun o w2 => rV o ((0 ≤ p1 ∧ p1 < 40) ∧ ((0 ≤ p1 ∧ p1 < 40) ∧ ((0 ≤ p2 ∧ p2 < 40) ∧ ((0 ≤ p2 ∧ p2 < 40) ∧ (K (.inl (some (vI (w 31 1)))) (up (up (up w2 35 (p1.toNat) (wr ((w2 35 p1.toNat) + 1))) 36 (p2.toNat) (wr ((w2 36 p2.toNat) + 1))) 31 1 (wr ((w2 31 1) + 1)))))))))))))) : V g LC jGr_add (d + 1) K 0 [(0, vA 31), (1, vI p1), (2, vI p2)] [] w := by
  refine v_aload_n (pc := 0) d_Gr_add_0 rfl (.head _) ?_
  refine v_geti (pc := 1) (x := (w 31 1)) d_Gr_add_1 fl_Gr_51 cC_31.1 cC_31.2 (Or.inl rfl) rfl ?_
  refine v_istore_n (pc := 4) (ls' := [(3, vI (w 31 1)), (0, vA 31), (1, vI p1), (2, vI p2)]) d_Gr_add_4 rfl (by decide) rfl ?_
  refine v_aload_n (pc := 5) d_Gr_add_5 rfl (.tail _ (.head _)) ?_
  refine v_getr (C := "") (pc := 6) (r := 32) d_Gr_add_6 fl_Gr_9 cC_31.1 cC_31.2 (Or.inr ⟨_, rfl⟩) rC_31_2 ?_
  refine v_iload_n (pc := 9) d_Gr_add_9 rfl (.head _) ?_
  refine v_iload_n (pc := 10) d_Gr_add_10 rfl (.tail _ (.tail _ (.head _))) ?_
  refine v_iast (pc := 11) d_Gr_add_11 cC_32.1 cC_32.2 (aC_32 _) h.1 ?_
  replace h := h.2
  refine v_aload_n (pc := 12) d_Gr_add_12 rfl (.tail _ (.head _)) ?_
  refine v_getr (C := "") (pc := 13) (r := 33) d_Gr_add_13 fl_Gr_13 cC_31.1 cC_31.2 (Or.inr ⟨_, rfl⟩) rC_31_3 ?_
  refine v_iload_n (pc := 16) d_Gr_add_16 rfl (.head _) ?_
  refine v_iload_n (pc := 17) d_Gr_add_17 rfl (.tail _ (.tail _ (.tail _ (.head _)))) ?_
  refine v_iast (pc := 18) d_Gr_add_18 cC_33.1 cC_33.2 (aC_33 _) h.1 ?_
  replace h := h.2
  refine v_iload_n (pc := 19) d_Gr_add_19 rfl (.head _) ?_
  refine v_iload_n (pc := 20) d_Gr_add_20 rfl (.tail _ (.tail _ (.head _))) ?_
  refine v_aload_n (pc := 21) d_Gr_add_21 rfl (.tail _ (.head _)) ?_
  refine v_getr (C := "") (pc := 22) (r := 37) d_Gr_add_22 fl_Gr_25 cC_31.1 cC_31.2 (Or.inr ⟨_, rfl⟩) rC_31_7 ?_
  refine v_aload_n (pc := 25) d_Gr_add_25 rfl (.tail _ (.head _)) ?_
  refine v_getr (C := "") (pc := 26) (r := 38) d_Gr_add_26 fl_Gr_28 cC_31.1 cC_31.2 (Or.inr ⟨_, rfl⟩) rC_31_8 ?_
  refine v_aload_n (pc := 29) d_Gr_add_29 rfl (.tail _ (.head _)) ?_
  refine v_getr (C := "") (pc := 30) (r := 39) d_Gr_add_30 fl_Gr_31 cC_31.1 cC_31.2 (Or.inr ⟨_, rfl⟩) rC_31_9 ?_
  refine v_callS (pc := 33) (J' := jGr_hang) (d' := d) (As := [vI (w 31 1), vI p1, vA 37, vA 38, vA 39]) d_Gr_add_33 ml_Gr_60 rfl (Nat.le_of_ble_eq_true rfl) (Nat.le_refl _) rfl (Cal.weak h (fun o w1 h => ?_))
  rcases rV_of h with ⟨rfl, h⟩
  refine v_iload_n (pc := 36) d_Gr_add_36 rfl (.head _) ?_
  refine v_iload_n (pc := 37) d_Gr_add_37 rfl (.tail _ (.tail _ (.tail _ (.head _)))) ?_
  refine v_aload_n (pc := 38) d_Gr_add_38 rfl (.tail _ (.head _)) ?_
  refine v_getr (C := "") (pc := 39) (r := 40) d_Gr_add_39 fl_Gr_34 cC_31.1 cC_31.2 (Or.inr ⟨_, rfl⟩) rC_31_10 ?_
  refine v_aload_n (pc := 42) d_Gr_add_42 rfl (.tail _ (.head _)) ?_
  refine v_getr (C := "") (pc := 43) (r := 41) d_Gr_add_43 fl_Gr_37 cC_31.1 cC_31.2 (Or.inr ⟨_, rfl⟩) rC_31_11 ?_
  refine v_aload_n (pc := 46) d_Gr_add_46 rfl (.tail _ (.head _)) ?_
  refine v_getr (C := "") (pc := 47) (r := 42) d_Gr_add_47 fl_Gr_40 cC_31.1 cC_31.2 (Or.inr ⟨_, rfl⟩) rC_31_12 ?_
  refine v_callS (pc := 50) (J' := jGr_hang) (d' := d) (As := [vI (w 31 1), vI p2, vA 40, vA 41, vA 42]) d_Gr_add_50 ml_Gr_60 rfl (Nat.le_of_ble_eq_true rfl) (Nat.le_refl _) rfl (Cal.weak h (fun o w2 h => ?_))
  rcases rV_of h with ⟨rfl, h⟩
  refine v_aload_n (pc := 53) d_Gr_add_53 rfl (.tail _ (.head _)) ?_
  refine v_getr (C := "") (pc := 54) (r := 35) d_Gr_add_54 fl_Gr_19 cC_31.1 cC_31.2 (Or.inr ⟨_, rfl⟩) rC_31_5 ?_
  refine v_iload_n (pc := 57) d_Gr_add_57 rfl (.tail _ (.tail _ (.head _))) ?_
  refine v_dup2 (pc := 58) d_Gr_add_58 rfl rfl ?_
  refine v_iald (pc := 59) (x := (w2 35 p1.toNat)) d_Gr_add_59 cC_35.1 cC_35.2 rfl h.1 ?_
  replace h := h.2
  refine v_iconst (pc := 60) d_Gr_add_60 (by decide) ?_
  refine v_iadd (pc := 61) d_Gr_add_61 ?_
  refine v_iast (pc := 62) d_Gr_add_62 cC_35.1 cC_35.2 (aC_35 _) h.1 ?_
  replace h := h.2
  refine v_aload_n (pc := 63) d_Gr_add_63 rfl (.tail _ (.head _)) ?_
  refine v_getr (C := "") (pc := 64) (r := 36) d_Gr_add_64 fl_Gr_22 cC_31.1 cC_31.2 (Or.inr ⟨_, rfl⟩) rC_31_6 ?_
  refine v_iload_n (pc := 67) d_Gr_add_67 rfl (.tail _ (.tail _ (.tail _ (.head _)))) ?_
  refine v_dup2 (pc := 68) d_Gr_add_68 rfl rfl ?_
  refine v_iald (pc := 69) (x := (w2 36 p2.toNat)) d_Gr_add_69 cC_36.1 cC_36.2 rfl h.1 ?_
  replace h := h.2
  refine v_iconst (pc := 70) d_Gr_add_70 (by decide) ?_
  refine v_iadd (pc := 71) d_Gr_add_71 ?_
  refine v_iast (pc := 72) d_Gr_add_72 cC_36.1 cC_36.2 (aC_36 _) h.1 ?_
  replace h := h.2
  refine v_aload_n (pc := 73) d_Gr_add_73 rfl (.tail _ (.head _)) ?_
  refine v_dup (pc := 74) d_Gr_add_74 rfl ?_
  refine v_geti (pc := 75) (x := (w2 31 1)) d_Gr_add_75 fl_Gr_51 cC_31.1 cC_31.2 (Or.inl rfl) rfl ?_
  refine v_iconst (pc := 78) d_Gr_add_78 (by decide) ?_
  refine v_iadd (pc := 79) d_Gr_add_79 ?_
  refine v_puti (pc := 80) d_Gr_add_80 fp_Gr_51 cC_31.1 cC_31.2 (by decide) rfl ?_
  refine v_iload_n (pc := 83) d_Gr_add_83 rfl (.head _) ?_
  exact v_iret (pc := 84) d_Gr_add_84 rfl h
theorem d_Gr_hang_0 : decode jGr_hang.cc 0 = .ok (.aload_n 2, 1) := by decide +kernel
theorem d_Gr_hang_1 : decode jGr_hang.cc 1 = .ok (.iload_n 1, 1) := by decide +kernel
theorem d_Gr_hang_2 : decode jGr_hang.cc 2 = .ok (.iaload, 1) := by decide +kernel
theorem d_Gr_hang_3 : decode jGr_hang.cc 3 = .ok (.ifCond .ge 10, 3) := by decide +kernel
theorem d_Gr_hang_6 : decode jGr_hang.cc 6 = .ok (.aload_n 2, 1) := by decide +kernel
theorem d_Gr_hang_7 : decode jGr_hang.cc 7 = .ok (.iload_n 1, 1) := by decide +kernel
theorem d_Gr_hang_8 : decode jGr_hang.cc 8 = .ok (.iload_n 0, 1) := by decide +kernel
theorem d_Gr_hang_9 : decode jGr_hang.cc 9 = .ok (.iastore, 1) := by decide +kernel
theorem d_Gr_hang_10 : decode jGr_hang.cc 10 = .ok (.goto 10, 3) := by decide +kernel
theorem d_Gr_hang_13 : decode jGr_hang.cc 13 = .ok (.aload 4, 2) := by decide +kernel
theorem d_Gr_hang_15 : decode jGr_hang.cc 15 = .ok (.aload_n 3, 1) := by decide +kernel
theorem d_Gr_hang_16 : decode jGr_hang.cc 16 = .ok (.iload_n 1, 1) := by decide +kernel
theorem d_Gr_hang_17 : decode jGr_hang.cc 17 = .ok (.iaload, 1) := by decide +kernel
theorem d_Gr_hang_18 : decode jGr_hang.cc 18 = .ok (.iload_n 0, 1) := by decide +kernel
theorem d_Gr_hang_19 : decode jGr_hang.cc 19 = .ok (.iastore, 1) := by decide +kernel
theorem d_Gr_hang_20 : decode jGr_hang.cc 20 = .ok (.aload_n 3, 1) := by decide +kernel
theorem d_Gr_hang_21 : decode jGr_hang.cc 21 = .ok (.iload_n 1, 1) := by decide +kernel
theorem d_Gr_hang_22 : decode jGr_hang.cc 22 = .ok (.iload_n 0, 1) := by decide +kernel
theorem d_Gr_hang_23 : decode jGr_hang.cc 23 = .ok (.iastore, 1) := by decide +kernel
theorem d_Gr_hang_24 : decode jGr_hang.cc 24 = .ok (.aload 4, 2) := by decide +kernel
theorem d_Gr_hang_26 : decode jGr_hang.cc 26 = .ok (.iload_n 0, 1) := by decide +kernel
theorem d_Gr_hang_27 : decode jGr_hang.cc 27 = .ok (.iconst (-1), 1) := by decide +kernel
theorem d_Gr_hang_28 : decode jGr_hang.cc 28 = .ok (.iastore, 1) := by decide +kernel
theorem d_Gr_hang_29 : decode jGr_hang.cc 29 = .ok (.return_, 1) := by decide +kernel
set_option maxHeartbeats 4000000 in
theorem s_Gr_hang {g : Mg} {d : Nat} {K : Ou → Wd → Prop} {w : Wd} {p0 : Int} {p1 : Int} {o3 : Nat} (ho3 : o3 < LC.nn ∧ LC.ly o3 = (100, 40)) (hr3 : ∀ k, LC.rf o3 k = none) {o4 : Nat} (ho4 : o4 < LC.nn ∧ LC.ly o4 = (100, 40)) (hr4 : ∀ k, LC.rf o4 k = none) {o5 : Nat} (ho5 : o5 < LC.nn ∧ LC.ly o5 = (100, 120)) (hr5 : ∀ k, LC.rf o5 k = none) (h : (0 ≤ p1 ∧ p1 < 40) ∧ ((0 ≤ (w o3 p1.toNat) → ((0 ≤ p1 ∧ p1 < 40) ∧ ((0 ≤ (w o4 p1.toNat) ∧ (w o4 p1.toNat) < 120) ∧ ((0 ≤ p1 ∧ p1 < 40) ∧ ((0 ≤ p0 ∧ p0 < 120) ∧ (K (.inl none) (up (up (up w o5 ((w o4 p1.toNat).toNat) p0) o4 (p1.toNat) p0) o5 (p0.toNat) (-1)))))))) ∧ (¬ 0 ≤ (w o3 p1.toNat) → ((0 ≤ p1 ∧ p1 < 40) ∧ ((0 ≤ p1 ∧ p1 < 40) ∧ ((0 ≤ p0 ∧ p0 < 120) ∧ (K (.inl none) (up (up (up w o3 (p1.toNat) p0) o4 (p1.toNat) p0) o5 (p0.toNat) (-1))))))))) : V g LC jGr_hang d K 0 [(0, vI p0), (1, vI p1), (2, vA o3), (3, vA o4), (4, vA o5)] [] w := by
  refine v_aload_n (pc := 0) d_Gr_hang_0 rfl (.tail _ (.tail _ (.head _))) ?_
  refine v_iload_n (pc := 1) d_Gr_hang_1 rfl (.tail _ (.head _)) ?_
  refine v_iald (pc := 2) (x := (w o3 p1.toNat)) d_Gr_hang_2 ho3.1 ho3.2 rfl h.1 ?_
  replace h := h.2
  refine v_ifge (pc := 3) (tgt := 13) d_Gr_hang_3 (by decide) (fun c => ?_) (fun c => ?_)
  · replace h := h.1 c
    refine v_aload (pc := 13) d_Gr_hang_13 (.tail _ (.tail _ (.tail _ (.tail _ (.head _))))) ?_
    refine v_aload_n (pc := 15) d_Gr_hang_15 rfl (.tail _ (.tail _ (.tail _ (.head _)))) ?_
    refine v_iload_n (pc := 16) d_Gr_hang_16 rfl (.tail _ (.head _)) ?_
    refine v_iald (pc := 17) (x := (w o4 p1.toNat)) d_Gr_hang_17 ho4.1 ho4.2 rfl h.1 ?_
    replace h := h.2
    refine v_iload_n (pc := 18) d_Gr_hang_18 rfl (.head _) ?_
    refine v_iast (pc := 19) d_Gr_hang_19 ho5.1 ho5.2 (hr5 _) h.1 ?_
    replace h := h.2
    refine v_aload_n (pc := 20) d_Gr_hang_20 rfl (.tail _ (.tail _ (.tail _ (.head _)))) ?_
    refine v_iload_n (pc := 21) d_Gr_hang_21 rfl (.tail _ (.head _)) ?_
    refine v_iload_n (pc := 22) d_Gr_hang_22 rfl (.head _) ?_
    refine v_iast (pc := 23) d_Gr_hang_23 ho4.1 ho4.2 (hr4 _) h.1 ?_
    replace h := h.2
    refine v_aload (pc := 24) d_Gr_hang_24 (.tail _ (.tail _ (.tail _ (.tail _ (.head _))))) ?_
    refine v_iload_n (pc := 26) d_Gr_hang_26 rfl (.head _) ?_
    refine v_iconst (pc := 27) d_Gr_hang_27 (by decide) ?_
    refine v_iast (pc := 28) d_Gr_hang_28 ho5.1 ho5.2 (hr5 _) h.1 ?_
    replace h := h.2
    exact v_vret (pc := 29) d_Gr_hang_29 rfl h
  · replace h := h.2 c
    refine v_aload_n (pc := 6) d_Gr_hang_6 rfl (.tail _ (.tail _ (.head _))) ?_
    refine v_iload_n (pc := 7) d_Gr_hang_7 rfl (.tail _ (.head _)) ?_
    refine v_iload_n (pc := 8) d_Gr_hang_8 rfl (.head _) ?_
    refine v_iast (pc := 9) d_Gr_hang_9 ho3.1 ho3.2 (hr3 _) h.1 ?_
    replace h := h.2
    refine v_goto (pc := 10) (tgt := 20) d_Gr_hang_10 (by decide) ?_
    refine v_aload_n (pc := 20) d_Gr_hang_20 rfl (.tail _ (.tail _ (.tail _ (.head _)))) ?_
    refine v_iload_n (pc := 21) d_Gr_hang_21 rfl (.tail _ (.head _)) ?_
    refine v_iload_n (pc := 22) d_Gr_hang_22 rfl (.head _) ?_
    refine v_iast (pc := 23) d_Gr_hang_23 ho4.1 ho4.2 (hr4 _) h.1 ?_
    replace h := h.2
    refine v_aload (pc := 24) d_Gr_hang_24 (.tail _ (.tail _ (.tail _ (.tail _ (.head _))))) ?_
    refine v_iload_n (pc := 26) d_Gr_hang_26 rfl (.head _) ?_
    refine v_iconst (pc := 27) d_Gr_hang_27 (by decide) ?_
    refine v_iast (pc := 28) d_Gr_hang_28 ho5.1 ho5.2 (hr5 _) h.1 ?_
    replace h := h.2
    exact v_vret (pc := 29) d_Gr_hang_29 rfl h
theorem d_Gr_firstArc_0 : decode jGr_firstArc.cc 0 = .ok (.iload_n 2, 1) := by decide +kernel
theorem d_Gr_firstArc_1 : decode jGr_firstArc.cc 1 = .ok (.ifCond .eq 12, 3) := by decide +kernel
theorem d_Gr_firstArc_4 : decode jGr_firstArc.cc 4 = .ok (.aload_n 0, 1) := by decide +kernel
theorem d_Gr_firstArc_5 : decode jGr_firstArc.cc 5 = .ok (.getfield 34, 3) := by decide +kernel
theorem d_Gr_firstArc_8 : decode jGr_firstArc.cc 8 = .ok (.iload_n 1, 1) := by decide +kernel
theorem d_Gr_firstArc_9 : decode jGr_firstArc.cc 9 = .ok (.iaload, 1) := by decide +kernel
theorem d_Gr_firstArc_10 : decode jGr_firstArc.cc 10 = .ok (.goto 9, 3) := by decide +kernel
theorem d_Gr_firstArc_13 : decode jGr_firstArc.cc 13 = .ok (.aload_n 0, 1) := by decide +kernel
theorem d_Gr_firstArc_14 : decode jGr_firstArc.cc 14 = .ok (.getfield 25, 3) := by decide +kernel
theorem d_Gr_firstArc_17 : decode jGr_firstArc.cc 17 = .ok (.iload_n 1, 1) := by decide +kernel
theorem d_Gr_firstArc_18 : decode jGr_firstArc.cc 18 = .ok (.iaload, 1) := by decide +kernel
theorem d_Gr_firstArc_19 : decode jGr_firstArc.cc 19 = .ok (.ireturn, 1) := by decide +kernel
set_option maxHeartbeats 4000000 in
theorem s_Gr_firstArc {g : Mg} {d : Nat} {K : Ou → Wd → Prop} {w : Wd} {p1 : Int} {p2 : Int} (h : (p2 = 0 → ((0 ≤ p1 ∧ p1 < 40) ∧ (K (.inl (some (vI (w 37 p1.toNat)))) w))) ∧ (¬ p2 = 0 → ((0 ≤ p1 ∧ p1 < 40) ∧ (K (.inl (some (vI (w 40 p1.toNat)))) w)))) : V g LC jGr_firstArc d K 0 [(0, vA 31), (1, vI p1), (2, vI p2)] [] w := by
  refine v_iload_n (pc := 0) d_Gr_firstArc_0 rfl (.tail _ (.tail _ (.head _))) ?_
  refine v_ifeq (pc := 1) (tgt := 13) d_Gr_firstArc_1 (by decide) (fun c => ?_) (fun c => ?_)
  · replace h := h.1 c
    refine v_aload_n (pc := 13) d_Gr_firstArc_13 rfl (.head _) ?_
    refine v_getr (C := "") (pc := 14) (r := 37) d_Gr_firstArc_14 fl_Gr_25 cC_31.1 cC_31.2 (Or.inr ⟨_, rfl⟩) rC_31_7 ?_
    refine v_iload_n (pc := 17) d_Gr_firstArc_17 rfl (.tail _ (.head _)) ?_
    refine v_iald (pc := 18) (x := (w 37 p1.toNat)) d_Gr_firstArc_18 cC_37.1 cC_37.2 rfl h.1 ?_
    replace h := h.2
    exact v_iret (pc := 19) d_Gr_firstArc_19 rfl h
  · replace h := h.2 c
    refine v_aload_n (pc := 4) d_Gr_firstArc_4 rfl (.head _) ?_
    refine v_getr (C := "") (pc := 5) (r := 40) d_Gr_firstArc_5 fl_Gr_34 cC_31.1 cC_31.2 (Or.inr ⟨_, rfl⟩) rC_31_10 ?_
    refine v_iload_n (pc := 8) d_Gr_firstArc_8 rfl (.tail _ (.head _)) ?_
    refine v_iald (pc := 9) (x := (w 40 p1.toNat)) d_Gr_firstArc_9 cC_40.1 cC_40.2 rfl h.1 ?_
    replace h := h.2
    refine v_goto (pc := 10) (tgt := 19) d_Gr_firstArc_10 (by decide) ?_
    exact v_iret (pc := 19) d_Gr_firstArc_19 rfl h
theorem d_Gr_nextArc_0 : decode jGr_nextArc.cc 0 = .ok (.iload_n 2, 1) := by decide +kernel
theorem d_Gr_nextArc_1 : decode jGr_nextArc.cc 1 = .ok (.ifCond .eq 12, 3) := by decide +kernel
theorem d_Gr_nextArc_4 : decode jGr_nextArc.cc 4 = .ok (.aload_n 0, 1) := by decide +kernel
theorem d_Gr_nextArc_5 : decode jGr_nextArc.cc 5 = .ok (.getfield 40, 3) := by decide +kernel
theorem d_Gr_nextArc_8 : decode jGr_nextArc.cc 8 = .ok (.iload_n 1, 1) := by decide +kernel
theorem d_Gr_nextArc_9 : decode jGr_nextArc.cc 9 = .ok (.iaload, 1) := by decide +kernel
theorem d_Gr_nextArc_10 : decode jGr_nextArc.cc 10 = .ok (.goto 9, 3) := by decide +kernel
theorem d_Gr_nextArc_13 : decode jGr_nextArc.cc 13 = .ok (.aload_n 0, 1) := by decide +kernel
theorem d_Gr_nextArc_14 : decode jGr_nextArc.cc 14 = .ok (.getfield 31, 3) := by decide +kernel
theorem d_Gr_nextArc_17 : decode jGr_nextArc.cc 17 = .ok (.iload_n 1, 1) := by decide +kernel
theorem d_Gr_nextArc_18 : decode jGr_nextArc.cc 18 = .ok (.iaload, 1) := by decide +kernel
theorem d_Gr_nextArc_19 : decode jGr_nextArc.cc 19 = .ok (.ireturn, 1) := by decide +kernel
set_option maxHeartbeats 4000000 in
theorem s_Gr_nextArc {g : Mg} {d : Nat} {K : Ou → Wd → Prop} {w : Wd} {p1 : Int} {p2 : Int} (h : (p2 = 0 → ((0 ≤ p1 ∧ p1 < 120) ∧ (K (.inl (some (vI (w 39 p1.toNat)))) w))) ∧ (¬ p2 = 0 → ((0 ≤ p1 ∧ p1 < 120) ∧ (K (.inl (some (vI (w 42 p1.toNat)))) w)))) : V g LC jGr_nextArc d K 0 [(0, vA 31), (1, vI p1), (2, vI p2)] [] w := by
  refine v_iload_n (pc := 0) d_Gr_nextArc_0 rfl (.tail _ (.tail _ (.head _))) ?_
  refine v_ifeq (pc := 1) (tgt := 13) d_Gr_nextArc_1 (by decide) (fun c => ?_) (fun c => ?_)
  · replace h := h.1 c
    refine v_aload_n (pc := 13) d_Gr_nextArc_13 rfl (.head _) ?_
    refine v_getr (C := "") (pc := 14) (r := 39) d_Gr_nextArc_14 fl_Gr_31 cC_31.1 cC_31.2 (Or.inr ⟨_, rfl⟩) rC_31_9 ?_
    refine v_iload_n (pc := 17) d_Gr_nextArc_17 rfl (.tail _ (.head _)) ?_
    refine v_iald (pc := 18) (x := (w 39 p1.toNat)) d_Gr_nextArc_18 cC_39.1 cC_39.2 rfl h.1 ?_
    replace h := h.2
    exact v_iret (pc := 19) d_Gr_nextArc_19 rfl h
  · replace h := h.2 c
    refine v_aload_n (pc := 4) d_Gr_nextArc_4 rfl (.head _) ?_
    refine v_getr (C := "") (pc := 5) (r := 42) d_Gr_nextArc_5 fl_Gr_40 cC_31.1 cC_31.2 (Or.inr ⟨_, rfl⟩) rC_31_12 ?_
    refine v_iload_n (pc := 8) d_Gr_nextArc_8 rfl (.tail _ (.head _)) ?_
    refine v_iald (pc := 9) (x := (w 42 p1.toNat)) d_Gr_nextArc_9 cC_42.1 cC_42.2 rfl h.1 ?_
    replace h := h.2
    refine v_goto (pc := 10) (tgt := 19) d_Gr_nextArc_10 (by decide) ?_
    exact v_iret (pc := 19) d_Gr_nextArc_19 rfl h
theorem d_Gr_otherEnd_0 : decode jGr_otherEnd.cc 0 = .ok (.iload_n 2, 1) := by decide +kernel
theorem d_Gr_otherEnd_1 : decode jGr_otherEnd.cc 1 = .ok (.ifCond .eq 12, 3) := by decide +kernel
theorem d_Gr_otherEnd_4 : decode jGr_otherEnd.cc 4 = .ok (.aload_n 0, 1) := by decide +kernel
theorem d_Gr_otherEnd_5 : decode jGr_otherEnd.cc 5 = .ok (.getfield 9, 3) := by decide +kernel
theorem d_Gr_otherEnd_8 : decode jGr_otherEnd.cc 8 = .ok (.iload_n 1, 1) := by decide +kernel
theorem d_Gr_otherEnd_9 : decode jGr_otherEnd.cc 9 = .ok (.iaload, 1) := by decide +kernel
theorem d_Gr_otherEnd_10 : decode jGr_otherEnd.cc 10 = .ok (.goto 9, 3) := by decide +kernel
theorem d_Gr_otherEnd_13 : decode jGr_otherEnd.cc 13 = .ok (.aload_n 0, 1) := by decide +kernel
theorem d_Gr_otherEnd_14 : decode jGr_otherEnd.cc 14 = .ok (.getfield 13, 3) := by decide +kernel
theorem d_Gr_otherEnd_17 : decode jGr_otherEnd.cc 17 = .ok (.iload_n 1, 1) := by decide +kernel
theorem d_Gr_otherEnd_18 : decode jGr_otherEnd.cc 18 = .ok (.iaload, 1) := by decide +kernel
theorem d_Gr_otherEnd_19 : decode jGr_otherEnd.cc 19 = .ok (.ireturn, 1) := by decide +kernel
set_option maxHeartbeats 4000000 in
theorem s_Gr_otherEnd {g : Mg} {d : Nat} {K : Ou → Wd → Prop} {w : Wd} {p1 : Int} {p2 : Int} (h : (p2 = 0 → ((0 ≤ p1 ∧ p1 < 120) ∧ (K (.inl (some (vI (w 33 p1.toNat)))) w))) ∧ (¬ p2 = 0 → ((0 ≤ p1 ∧ p1 < 120) ∧ (K (.inl (some (vI (w 32 p1.toNat)))) w)))) : V g LC jGr_otherEnd d K 0 [(0, vA 31), (1, vI p1), (2, vI p2)] [] w := by
  refine v_iload_n (pc := 0) d_Gr_otherEnd_0 rfl (.tail _ (.tail _ (.head _))) ?_
  refine v_ifeq (pc := 1) (tgt := 13) d_Gr_otherEnd_1 (by decide) (fun c => ?_) (fun c => ?_)
  · replace h := h.1 c
    refine v_aload_n (pc := 13) d_Gr_otherEnd_13 rfl (.head _) ?_
    refine v_getr (C := "") (pc := 14) (r := 33) d_Gr_otherEnd_14 fl_Gr_13 cC_31.1 cC_31.2 (Or.inr ⟨_, rfl⟩) rC_31_3 ?_
    refine v_iload_n (pc := 17) d_Gr_otherEnd_17 rfl (.tail _ (.head _)) ?_
    refine v_iald (pc := 18) (x := (w 33 p1.toNat)) d_Gr_otherEnd_18 cC_33.1 cC_33.2 rfl h.1 ?_
    replace h := h.2
    exact v_iret (pc := 19) d_Gr_otherEnd_19 rfl h
  · replace h := h.2 c
    refine v_aload_n (pc := 4) d_Gr_otherEnd_4 rfl (.head _) ?_
    refine v_getr (C := "") (pc := 5) (r := 32) d_Gr_otherEnd_5 fl_Gr_9 cC_31.1 cC_31.2 (Or.inr ⟨_, rfl⟩) rC_31_2 ?_
    refine v_iload_n (pc := 8) d_Gr_otherEnd_8 rfl (.tail _ (.head _)) ?_
    refine v_iald (pc := 9) (x := (w 32 p1.toNat)) d_Gr_otherEnd_9 cC_32.1 cC_32.2 rfl h.1 ?_
    replace h := h.2
    refine v_goto (pc := 10) (tgt := 19) d_Gr_otherEnd_10 (by decide) ?_
    exact v_iret (pc := 19) d_Gr_otherEnd_19 rfl h
theorem d_Gr_weightOf_0 : decode jGr_weightOf.cc 0 = .ok (.aload_n 0, 1) := by decide +kernel
theorem d_Gr_weightOf_1 : decode jGr_weightOf.cc 1 = .ok (.getfield 16, 3) := by decide +kernel
theorem d_Gr_weightOf_4 : decode jGr_weightOf.cc 4 = .ok (.iload_n 1, 1) := by decide +kernel
theorem d_Gr_weightOf_5 : decode jGr_weightOf.cc 5 = .ok (.iconst 4, 1) := by decide +kernel
theorem d_Gr_weightOf_6 : decode jGr_weightOf.cc 6 = .ok (.imul, 1) := by decide +kernel
theorem d_Gr_weightOf_7 : decode jGr_weightOf.cc 7 = .ok (.iload_n 2, 1) := by decide +kernel
theorem d_Gr_weightOf_8 : decode jGr_weightOf.cc 8 = .ok (.iadd, 1) := by decide +kernel
theorem d_Gr_weightOf_9 : decode jGr_weightOf.cc 9 = .ok (.iaload, 1) := by decide +kernel
theorem d_Gr_weightOf_10 : decode jGr_weightOf.cc 10 = .ok (.ireturn, 1) := by decide +kernel
set_option maxHeartbeats 4000000 in
theorem s_Gr_weightOf {g : Mg} {d : Nat} {K : Ou → Wd → Prop} {w : Wd} {p1 : Int} {p2 : Int} (h : (0 ≤ (wr ((wr (p1 * 4)) + p2)) ∧ (wr ((wr (p1 * 4)) + p2)) < 480) ∧ (K (.inl (some (vI (w 34 ((wr ((wr (p1 * 4)) + p2)).toNat))))) w)) : V g LC jGr_weightOf d K 0 [(0, vA 31), (1, vI p1), (2, vI p2)] [] w := by
  refine v_aload_n (pc := 0) d_Gr_weightOf_0 rfl (.head _) ?_
  refine v_getr (C := "") (pc := 1) (r := 34) d_Gr_weightOf_1 fl_Gr_16 cC_31.1 cC_31.2 (Or.inr ⟨_, rfl⟩) rC_31_4 ?_
  refine v_iload_n (pc := 4) d_Gr_weightOf_4 rfl (.tail _ (.head _)) ?_
  refine v_iconst (pc := 5) d_Gr_weightOf_5 (by decide) ?_
  refine v_imul (pc := 6) d_Gr_weightOf_6 ?_
  refine v_iload_n (pc := 7) d_Gr_weightOf_7 rfl (.tail _ (.tail _ (.head _))) ?_
  refine v_iadd (pc := 8) d_Gr_weightOf_8 ?_
  refine v_iald (pc := 9) (x := (w 34 ((wr ((wr (p1 * 4)) + p2)).toNat))) d_Gr_weightOf_9 cC_34.1 cC_34.2 rfl h.1 ?_
  replace h := h.2
  exact v_iret (pc := 10) d_Gr_weightOf_10 rfl h
theorem d_Gr_setWeight_0 : decode jGr_setWeight.cc 0 = .ok (.aload_n 0, 1) := by decide +kernel
theorem d_Gr_setWeight_1 : decode jGr_setWeight.cc 1 = .ok (.iload_n 1, 1) := by decide +kernel
theorem d_Gr_setWeight_2 : decode jGr_setWeight.cc 2 = .ok (.iload_n 2, 1) := by decide +kernel
theorem d_Gr_setWeight_3 : decode jGr_setWeight.cc 3 = .ok (.invokevirtual 64, 3) := by decide +kernel
theorem d_Gr_setWeight_6 : decode jGr_setWeight.cc 6 = .ok (.istore 4, 2) := by decide +kernel
theorem d_Gr_setWeight_8 : decode jGr_setWeight.cc 8 = .ok (.aload_n 0, 1) := by decide +kernel
theorem d_Gr_setWeight_9 : decode jGr_setWeight.cc 9 = .ok (.getfield 16, 3) := by decide +kernel
theorem d_Gr_setWeight_12 : decode jGr_setWeight.cc 12 = .ok (.iload_n 1, 1) := by decide +kernel
theorem d_Gr_setWeight_13 : decode jGr_setWeight.cc 13 = .ok (.iconst 4, 1) := by decide +kernel
theorem d_Gr_setWeight_14 : decode jGr_setWeight.cc 14 = .ok (.imul, 1) := by decide +kernel
theorem d_Gr_setWeight_15 : decode jGr_setWeight.cc 15 = .ok (.iload_n 2, 1) := by decide +kernel
theorem d_Gr_setWeight_16 : decode jGr_setWeight.cc 16 = .ok (.iadd, 1) := by decide +kernel
theorem d_Gr_setWeight_17 : decode jGr_setWeight.cc 17 = .ok (.iload_n 3, 1) := by decide +kernel
theorem d_Gr_setWeight_18 : decode jGr_setWeight.cc 18 = .ok (.iastore, 1) := by decide +kernel
theorem d_Gr_setWeight_19 : decode jGr_setWeight.cc 19 = .ok (.iload 4, 2) := by decide +kernel
theorem d_Gr_setWeight_21 : decode jGr_setWeight.cc 21 = .ok (.ireturn, 1) := by decide +kernel
set_option maxHeartbeats 4000000 in
theorem s_Gr_setWeight {g : Mg} {d : Nat} {K : Ou → Wd → Prop} {w : Wd} {p1 : Int} {p2 : Int} {p3 : Int} (h : Cal g LC jGr_weightOf d [vA 31, vI p1, vI p2] w (fun o w1 => rI o (fun x2 => (0 ≤ (wr ((wr (p1 * 4)) + p2)) ∧ (wr ((wr (p1 * 4)) + p2)) < 480) ∧ (K (.inl (some (vI x2))) (up w1 34 ((wr ((wr (p1 * 4)) + p2)).toNat) p3))))) : V g LC jGr_setWeight (d + 1) K 0 [(0, vA 31), (1, vI p1), (2, vI p2), (3, vI p3)] [] w := by
  refine v_aload_n (pc := 0) d_Gr_setWeight_0 rfl (.head _) ?_
  refine v_iload_n (pc := 1) d_Gr_setWeight_1 rfl (.tail _ (.head _)) ?_
  refine v_iload_n (pc := 2) d_Gr_setWeight_2 rfl (.tail _ (.tail _ (.head _))) ?_
  refine v_callV (pc := 3) (J' := jGr_weightOf) (d' := d) (o := 31) (ci := 3) (N := 13) (T := cT3) (As := [vI p1, vI p2]) d_Gr_setWeight_3 ml_Gr_64 cC_31.1 cC_31.2 (by decide) rfl rfl (Nat.le_of_ble_eq_true rfl) (Nat.le_refl _) rfl (Cal.weak h (fun o w1 h => ?_))
  rcases rI_of h with ⟨x2, rfl, h⟩
  refine v_istore (pc := 6) (ls' := [(4, vI x2), (0, vA 31), (1, vI p1), (2, vI p2), (3, vI p3)]) d_Gr_setWeight_6 (by decide) rfl ?_
  refine v_aload_n (pc := 8) d_Gr_setWeight_8 rfl (.tail _ (.head _)) ?_
  refine v_getr (C := "") (pc := 9) (r := 34) d_Gr_setWeight_9 fl_Gr_16 cC_31.1 cC_31.2 (Or.inr ⟨_, rfl⟩) rC_31_4 ?_
  refine v_iload_n (pc := 12) d_Gr_setWeight_12 rfl (.tail _ (.tail _ (.head _))) ?_
  refine v_iconst (pc := 13) d_Gr_setWeight_13 (by decide) ?_
  refine v_imul (pc := 14) d_Gr_setWeight_14 ?_
  refine v_iload_n (pc := 15) d_Gr_setWeight_15 rfl (.tail _ (.tail _ (.tail _ (.head _)))) ?_
  refine v_iadd (pc := 16) d_Gr_setWeight_16 ?_
  refine v_iload_n (pc := 17) d_Gr_setWeight_17 rfl (.tail _ (.tail _ (.tail _ (.tail _ (.head _))))) ?_
  refine v_iast (pc := 18) d_Gr_setWeight_18 cC_34.1 cC_34.2 (aC_34 _) h.1 ?_
  replace h := h.2
  refine v_iload (pc := 19) d_Gr_setWeight_19 (.head _) ?_
  exact v_iret (pc := 21) d_Gr_setWeight_21 rfl h
