theorem d_Mt_min_0 : decode jMt_min.cc 0 = .ok (.iload_n 0, 1) := by decide +kernel
theorem d_Mt_min_1 : decode jMt_min.cc 1 = .ok (.iload_n 1, 1) := by decide +kernel
theorem d_Mt_min_2 : decode jMt_min.cc 2 = .ok (.if_icmp .gt 7, 3) := by decide +kernel
theorem d_Mt_min_5 : decode jMt_min.cc 5 = .ok (.iload_n 0, 1) := by decide +kernel
theorem d_Mt_min_6 : decode jMt_min.cc 6 = .ok (.goto 4, 3) := by decide +kernel
theorem d_Mt_min_9 : decode jMt_min.cc 9 = .ok (.iload_n 1, 1) := by decide +kernel
theorem d_Mt_min_10 : decode jMt_min.cc 10 = .ok (.ireturn, 1) := by decide +kernel
set_option maxHeartbeats 4000000 in
theorem s_Mt_min {g : Mg} {d : Nat} {K : Ou → Wd → Prop} {w : Wd} {y : Ly} {p0 : Int} {p1 : Int} (h : (p1 < p0 → (K (.inl (some (vI p1))) w)) ∧ (¬ p1 < p0 → (K (.inl (some (vI p0))) w))) : V g y jMt_min d K 0 [(0, vI p0), (1, vI p1)] [] w := by
  refine v_iload_n (pc := 0) d_Mt_min_0 rfl (.head _) ?_
  refine v_iload_n (pc := 1) d_Mt_min_1 rfl (.tail _ (.head _)) ?_
  refine v_icmpgt (pc := 2) (tgt := 9) d_Mt_min_2 (by decide) (fun c => ?_) (fun c => ?_)
  · replace h := h.1 c
    refine v_iload_n (pc := 9) d_Mt_min_9 rfl (.tail _ (.head _)) ?_
    exact v_iret (pc := 10) d_Mt_min_10 rfl h
  · replace h := h.2 c
    refine v_iload_n (pc := 5) d_Mt_min_5 rfl (.head _) ?_
    refine v_goto (pc := 6) (tgt := 10) d_Mt_min_6 (by decide) ?_
    exact v_iret (pc := 10) d_Mt_min_10 rfl h
theorem d_Mt_max_0 : decode jMt_max.cc 0 = .ok (.iload_n 0, 1) := by decide +kernel
theorem d_Mt_max_1 : decode jMt_max.cc 1 = .ok (.iload_n 1, 1) := by decide +kernel
theorem d_Mt_max_2 : decode jMt_max.cc 2 = .ok (.if_icmp .lt 7, 3) := by decide +kernel
theorem d_Mt_max_5 : decode jMt_max.cc 5 = .ok (.iload_n 0, 1) := by decide +kernel
theorem d_Mt_max_6 : decode jMt_max.cc 6 = .ok (.goto 4, 3) := by decide +kernel
theorem d_Mt_max_9 : decode jMt_max.cc 9 = .ok (.iload_n 1, 1) := by decide +kernel
theorem d_Mt_max_10 : decode jMt_max.cc 10 = .ok (.ireturn, 1) := by decide +kernel
set_option maxHeartbeats 4000000 in
theorem s_Mt_max {g : Mg} {d : Nat} {K : Ou → Wd → Prop} {w : Wd} {y : Ly} {p0 : Int} {p1 : Int} (h : (p0 < p1 → (K (.inl (some (vI p1))) w)) ∧ (¬ p0 < p1 → (K (.inl (some (vI p0))) w))) : V g y jMt_max d K 0 [(0, vI p0), (1, vI p1)] [] w := by
  refine v_iload_n (pc := 0) d_Mt_max_0 rfl (.head _) ?_
  refine v_iload_n (pc := 1) d_Mt_max_1 rfl (.tail _ (.head _)) ?_
  refine v_icmplt (pc := 2) (tgt := 9) d_Mt_max_2 (by decide) (fun c => ?_) (fun c => ?_)
  · replace h := h.1 c
    refine v_iload_n (pc := 9) d_Mt_max_9 rfl (.tail _ (.head _)) ?_
    exact v_iret (pc := 10) d_Mt_max_10 rfl h
  · replace h := h.2 c
    refine v_iload_n (pc := 5) d_Mt_max_5 rfl (.head _) ?_
    refine v_goto (pc := 6) (tgt := 10) d_Mt_max_6 (by decide) ?_
    exact v_iret (pc := 10) d_Mt_max_10 rfl h
theorem d_Mt_min_2_0 : decode jMt_min_2.cc 0 = .ok (.lload_n 0, 1) := by decide +kernel
theorem d_Mt_min_2_1 : decode jMt_min_2.cc 1 = .ok (.lload_n 2, 1) := by decide +kernel
theorem d_Mt_min_2_2 : decode jMt_min_2.cc 2 = .ok (.lcmp, 1) := by decide +kernel
theorem d_Mt_min_2_3 : decode jMt_min_2.cc 3 = .ok (.ifCond .gt 7, 3) := by decide +kernel
theorem d_Mt_min_2_6 : decode jMt_min_2.cc 6 = .ok (.lload_n 0, 1) := by decide +kernel
theorem d_Mt_min_2_7 : decode jMt_min_2.cc 7 = .ok (.goto 4, 3) := by decide +kernel
theorem d_Mt_min_2_10 : decode jMt_min_2.cc 10 = .ok (.lload_n 2, 1) := by decide +kernel
theorem d_Mt_min_2_11 : decode jMt_min_2.cc 11 = .ok (.lreturn, 1) := by decide +kernel
set_option maxHeartbeats 4000000 in
theorem s_Mt_min_2 {g : Mg} {d : Nat} {K : Ou → Wd → Prop} {w : Wd} {y : Ly} {p0 : Int} {p2 : Int} (h : (0 < (lCmp p0 p2) → (K (.inl (some (vL p2))) w)) ∧ (¬ 0 < (lCmp p0 p2) → (K (.inl (some (vL p0))) w))) : V g y jMt_min_2 d K 0 [(0, vL p0), (2, vL p2)] [] w := by
  refine v_lload_n (pc := 0) d_Mt_min_2_0 rfl (.head _) ?_
  refine v_lload_n (pc := 1) d_Mt_min_2_1 rfl (.tail _ (.head _)) ?_
  refine v_lcmp (pc := 2) d_Mt_min_2_2 ?_
  refine v_ifgt (pc := 3) (tgt := 10) d_Mt_min_2_3 (by decide) (fun c => ?_) (fun c => ?_)
  · replace h := h.1 c
    refine v_lload_n (pc := 10) d_Mt_min_2_10 rfl (.tail _ (.head _)) ?_
    exact v_lret (pc := 11) d_Mt_min_2_11 rfl h
  · replace h := h.2 c
    refine v_lload_n (pc := 6) d_Mt_min_2_6 rfl (.head _) ?_
    refine v_goto (pc := 7) (tgt := 11) d_Mt_min_2_7 (by decide) ?_
    exact v_lret (pc := 11) d_Mt_min_2_11 rfl h
theorem d_SL_charAt_0 : decode jSL_charAt.cc 0 = .ok (.iload_n 1, 1) := by decide +kernel
theorem d_SL_charAt_1 : decode jSL_charAt.cc 1 = .ok (.aload_n 0, 1) := by decide +kernel
theorem d_SL_charAt_2 : decode jSL_charAt.cc 2 = .ok (.arraylength, 1) := by decide +kernel
theorem d_SL_charAt_3 : decode jSL_charAt.cc 3 = .ok (.invokestatic 9, 3) := by decide +kernel
theorem d_SL_charAt_6 : decode jSL_charAt.cc 6 = .ok (.aload_n 0, 1) := by decide +kernel
theorem d_SL_charAt_7 : decode jSL_charAt.cc 7 = .ok (.iload_n 1, 1) := by decide +kernel
theorem d_SL_charAt_8 : decode jSL_charAt.cc 8 = .ok (.baload, 1) := by decide +kernel
theorem d_SL_charAt_9 : decode jSL_charAt.cc 9 = .ok (.sipush 255, 3) := by decide +kernel
theorem d_SL_charAt_12 : decode jSL_charAt.cc 12 = .ok (.iand, 1) := by decide +kernel
theorem d_SL_charAt_13 : decode jSL_charAt.cc 13 = .ok (.i2c, 1) := by decide +kernel
theorem d_SL_charAt_14 : decode jSL_charAt.cc 14 = .ok (.ireturn, 1) := by decide +kernel
set_option maxHeartbeats 4000000 in
theorem s_SL_charAt {g : Mg} {d : Nat} {K : Ou → Wd → Prop} {w : Wd} {y : Ly} {p0 : Nat} (hp0 : 2001 ≤ p0 ∧ p0 < 2060) {p1 : Int} (h : Cal g y jSg_checkIndex d [vI p1, vI ((sB (p0 - 2001)).length : Int)] w (fun o w1 => rV o ((0 ≤ p1 ∧ p1 < ((sB (p0 - 2001)).length : Int)) ∧ (narrow .char (.int (Int32.ofInt (i2cF (iAnd ((sB (p0 - 2001)).getD p1.toNat 0) 255)))) = .int (Int32.ofInt (i2cF (iAnd ((sB (p0 - 2001)).getD p1.toNat 0) 255))) ∧ K (.inl (some (vI (i2cF (iAnd ((sB (p0 - 2001)).getD p1.toNat 0) 255))))) w1)))) : V g y jSL_charAt (d + 1) K 0 [(0, vA p0), (1, vI p1)] [] w := by
  refine v_iload_n (pc := 0) d_SL_charAt_0 rfl (.tail _ (.head _)) ?_
  refine v_aload_n (pc := 1) d_SL_charAt_1 rfl (.head _) ?_
  refine v_slen (pc := 2) d_SL_charAt_2 (by omega) ?_
  refine v_callS (pc := 3) (J' := jSg_checkIndex) (d' := d) (As := [vI p1, vI ((sB (p0 - 2001)).length : Int)]) d_SL_charAt_3 ml_SL_9 rfl (Nat.le_of_ble_eq_true rfl) (Nat.le_refl _) rfl (Cal.weak h (fun o w1 h => ?_))
  rcases rV_of h with ⟨rfl, h⟩
  refine v_aload_n (pc := 6) d_SL_charAt_6 rfl (.head _) ?_
  refine v_iload_n (pc := 7) d_SL_charAt_7 rfl (.tail _ (.head _)) ?_
  refine v_sald (pc := 8) d_SL_charAt_8 (by omega) h.1 ?_
  replace h := h.2
  refine v_sipush (pc := 9) d_SL_charAt_9 (by decide) rfl ?_
  refine v_iand (pc := 12) d_SL_charAt_12 ?_
  refine v_i2c (pc := 13) d_SL_charAt_13 ?_
  exact v_nret (pc := 14) d_SL_charAt_14 rfl h.1 h.2
theorem d_SL_indexOf_0 : decode jSL_indexOf.cc 0 = .ok (.iload_n 1, 1) := by decide +kernel
theorem d_SL_indexOf_1 : decode jSL_indexOf.cc 1 = .ok (.invokestatic 88, 3) := by decide +kernel
theorem d_SL_indexOf_4 : decode jSL_indexOf.cc 4 = .ok (.ifCond .ne 5, 3) := by decide +kernel
theorem d_SL_indexOf_7 : decode jSL_indexOf.cc 7 = .ok (.iconst (-1), 1) := by decide +kernel
theorem d_SL_indexOf_8 : decode jSL_indexOf.cc 8 = .ok (.ireturn, 1) := by decide +kernel
theorem d_SL_indexOf_9 : decode jSL_indexOf.cc 9 = .ok (.iload_n 2, 1) := by decide +kernel
theorem d_SL_indexOf_10 : decode jSL_indexOf.cc 10 = .ok (.iconst 0, 1) := by decide +kernel
theorem d_SL_indexOf_11 : decode jSL_indexOf.cc 11 = .ok (.invokestatic 92, 3) := by decide +kernel
theorem d_SL_indexOf_14 : decode jSL_indexOf.cc 14 = .ok (.istore_n 2, 1) := by decide +kernel
theorem d_SL_indexOf_15 : decode jSL_indexOf.cc 15 = .ok (.iload_n 3, 1) := by decide +kernel
theorem d_SL_indexOf_16 : decode jSL_indexOf.cc 16 = .ok (.aload_n 0, 1) := by decide +kernel
theorem d_SL_indexOf_17 : decode jSL_indexOf.cc 17 = .ok (.arraylength, 1) := by decide +kernel
theorem d_SL_indexOf_18 : decode jSL_indexOf.cc 18 = .ok (.invokestatic 38, 3) := by decide +kernel
theorem d_SL_indexOf_21 : decode jSL_indexOf.cc 21 = .ok (.istore_n 3, 1) := by decide +kernel
theorem d_SL_indexOf_22 : decode jSL_indexOf.cc 22 = .ok (.iload_n 2, 1) := by decide +kernel
theorem d_SL_indexOf_23 : decode jSL_indexOf.cc 23 = .ok (.iload_n 3, 1) := by decide +kernel
theorem d_SL_indexOf_24 : decode jSL_indexOf.cc 24 = .ok (.if_icmp .lt 5, 3) := by decide +kernel
theorem d_SL_indexOf_27 : decode jSL_indexOf.cc 27 = .ok (.iconst (-1), 1) := by decide +kernel
theorem d_SL_indexOf_28 : decode jSL_indexOf.cc 28 = .ok (.ireturn, 1) := by decide +kernel
theorem d_SL_indexOf_29 : decode jSL_indexOf.cc 29 = .ok (.aload_n 0, 1) := by decide +kernel
theorem d_SL_indexOf_30 : decode jSL_indexOf.cc 30 = .ok (.iload_n 1, 1) := by decide +kernel
theorem d_SL_indexOf_31 : decode jSL_indexOf.cc 31 = .ok (.iload_n 2, 1) := by decide +kernel
theorem d_SL_indexOf_32 : decode jSL_indexOf.cc 32 = .ok (.iload_n 3, 1) := by decide +kernel
theorem d_SL_indexOf_33 : decode jSL_indexOf.cc 33 = .ok (.invokestatic 95, 3) := by decide +kernel
theorem d_SL_indexOf_36 : decode jSL_indexOf.cc 36 = .ok (.ireturn, 1) := by decide +kernel
set_option maxHeartbeats 4000000 in
theorem s_SL_indexOf {g : Mg} {d : Nat} {K : Ou → Wd → Prop} {w : Wd} {y : Ly} {p0 : Nat} (hp0 : 2001 ≤ p0 ∧ p0 < 2060) {p1 : Int} {p2 : Int} {p3 : Int} (h : Cal g y jSL_canEncode d [vI p1] w (fun o w1 => rI o (fun x2 => (¬ x2 = 0 → (Cal g y jMt_max d [vI p2, vI 0] w1 (fun o w3 => rI o (fun x4 => Cal g y jMt_min d [vI p3, vI ((sB (p0 - 2001)).length : Int)] w3 (fun o w5 => rI o (fun x6 => (x4 < x6 → (Cal g y jSL_indexOfChar d [vA p0, vI p1, vI x4, vI x6] w5 (fun o w7 => rI o (fun x8 => K (.inl (some (vI x8))) w7)))) ∧ (¬ x4 < x6 → (K (.inl (some (vI (-1)))) w5)))))))) ∧ (x2 = 0 → (K (.inl (some (vI (-1)))) w1))))) : V g y jSL_indexOf (d + 1) K 0 [(0, vA p0), (1, vI p1), (2, vI p2), (3, vI p3)] [] w := by
  refine v_iload_n (pc := 0) d_SL_indexOf_0 rfl (.tail _ (.head _)) ?_
  refine v_callS (pc := 1) (J' := jSL_canEncode) (d' := d) (As := [vI p1]) d_SL_indexOf_1 ml_SL_88 rfl (Nat.le_of_ble_eq_true rfl) (Nat.le_refl _) rfl (Cal.weak h (fun o w1 h => ?_))
  rcases rI_of h with ⟨x2, rfl, h⟩
  refine v_ifne (pc := 4) (tgt := 9) d_SL_indexOf_4 (by decide) (fun c => ?_) (fun c => ?_)
  · replace h := h.1 c
    refine v_iload_n (pc := 9) d_SL_indexOf_9 rfl (.tail _ (.tail _ (.head _))) ?_
    refine v_iconst (pc := 10) d_SL_indexOf_10 (by decide) ?_
    refine v_callS (pc := 11) (J' := jMt_max) (d' := d) (As := [vI p2, vI 0]) d_SL_indexOf_11 ml_SL_92 rfl (Nat.le_of_ble_eq_true rfl) (Nat.le_refl _) rfl (Cal.weak h (fun o w3 h => ?_))
    rcases rI_of h with ⟨x4, rfl, h⟩
    refine v_istore_n (pc := 14) (ls' := [(2, vI x4), (0, vA p0), (1, vI p1), (3, vI p3)]) d_SL_indexOf_14 rfl (by decide) rfl ?_
    refine v_iload_n (pc := 15) d_SL_indexOf_15 rfl (.tail _ (.tail _ (.tail _ (.head _)))) ?_
    refine v_aload_n (pc := 16) d_SL_indexOf_16 rfl (.tail _ (.head _)) ?_
    refine v_slen (pc := 17) d_SL_indexOf_17 (by omega) ?_
    refine v_callS (pc := 18) (J' := jMt_min) (d' := d) (As := [vI p3, vI ((sB (p0 - 2001)).length : Int)]) d_SL_indexOf_18 ml_SL_38 rfl (Nat.le_of_ble_eq_true rfl) (Nat.le_refl _) rfl (Cal.weak h (fun o w5 h => ?_))
    rcases rI_of h with ⟨x6, rfl, h⟩
    refine v_istore_n (pc := 21) (ls' := [(3, vI x6), (2, vI x4), (0, vA p0), (1, vI p1)]) d_SL_indexOf_21 rfl (by decide) rfl ?_
    refine v_iload_n (pc := 22) d_SL_indexOf_22 rfl (.tail _ (.head _)) ?_
    refine v_iload_n (pc := 23) d_SL_indexOf_23 rfl (.head _) ?_
    refine v_icmplt (pc := 24) (tgt := 29) d_SL_indexOf_24 (by decide) (fun c => ?_) (fun c => ?_)
    · replace h := h.1 c
      refine v_aload_n (pc := 29) d_SL_indexOf_29 rfl (.tail _ (.tail _ (.head _))) ?_
      refine v_iload_n (pc := 30) d_SL_indexOf_30 rfl (.tail _ (.tail _ (.tail _ (.head _)))) ?_
      refine v_iload_n (pc := 31) d_SL_indexOf_31 rfl (.tail _ (.head _)) ?_
      refine v_iload_n (pc := 32) d_SL_indexOf_32 rfl (.head _) ?_
      refine v_callS (pc := 33) (J' := jSL_indexOfChar) (d' := d) (As := [vA p0, vI p1, vI x4, vI x6]) d_SL_indexOf_33 ml_SL_95 rfl (Nat.le_of_ble_eq_true rfl) (Nat.le_refl _) rfl (Cal.weak h (fun o w7 h => ?_))
      rcases rI_of h with ⟨x8, rfl, h⟩
      exact v_iret (pc := 36) d_SL_indexOf_36 rfl h
    · replace h := h.2 c
      refine v_iconst (pc := 27) d_SL_indexOf_27 (by decide) ?_
      exact v_iret (pc := 28) d_SL_indexOf_28 rfl h
  · replace h := h.2 c
    refine v_iconst (pc := 7) d_SL_indexOf_7 (by decide) ?_
    exact v_iret (pc := 8) d_SL_indexOf_8 rfl h
theorem d_SL_canEncode_0 : decode jSL_canEncode.cc 0 = .ok (.iload_n 0, 1) := by decide +kernel
theorem d_SL_canEncode_1 : decode jSL_canEncode.cc 1 = .ok (.ifCond .lt 14, 3) := by decide +kernel
theorem d_SL_canEncode_4 : decode jSL_canEncode.cc 4 = .ok (.iload_n 0, 1) := by decide +kernel
theorem d_SL_canEncode_5 : decode jSL_canEncode.cc 5 = .ok (.sipush 255, 3) := by decide +kernel
theorem d_SL_canEncode_8 : decode jSL_canEncode.cc 8 = .ok (.if_icmp .gt 7, 3) := by decide +kernel
theorem d_SL_canEncode_11 : decode jSL_canEncode.cc 11 = .ok (.iconst 1, 1) := by decide +kernel
theorem d_SL_canEncode_12 : decode jSL_canEncode.cc 12 = .ok (.goto 4, 3) := by decide +kernel
theorem d_SL_canEncode_15 : decode jSL_canEncode.cc 15 = .ok (.iconst 0, 1) := by decide +kernel
theorem d_SL_canEncode_16 : decode jSL_canEncode.cc 16 = .ok (.ireturn, 1) := by decide +kernel
set_option maxHeartbeats 4000000 in
theorem s_SL_canEncode {g : Mg} {d : Nat} {K : Ou → Wd → Prop} {w : Wd} {y : Ly} {p0 : Int} (h : (p0 < 0 → (K (.inl (some (vI 0))) w)) ∧ (¬ p0 < 0 → ((255 < p0 → (K (.inl (some (vI 0))) w)) ∧ (¬ 255 < p0 → (K (.inl (some (vI 1))) w))))) : V g y jSL_canEncode d K 0 [(0, vI p0)] [] w := by
  refine v_iload_n (pc := 0) d_SL_canEncode_0 rfl (.head _) ?_
  refine v_iflt (pc := 1) (tgt := 15) d_SL_canEncode_1 (by decide) (fun c => ?_) (fun c => ?_)
  · replace h := h.1 c
    refine v_iconst (pc := 15) d_SL_canEncode_15 (by decide) ?_
    exact v_zret (pc := 16) d_SL_canEncode_16 rfl (by decide) h
  · replace h := h.2 c
    refine v_iload_n (pc := 4) d_SL_canEncode_4 rfl (.head _) ?_
    refine v_sipush (pc := 5) d_SL_canEncode_5 (by decide) rfl ?_
    refine v_icmpgt (pc := 8) (tgt := 15) d_SL_canEncode_8 (by decide) (fun c => ?_) (fun c => ?_)
    · replace h := h.1 c
      refine v_iconst (pc := 15) d_SL_canEncode_15 (by decide) ?_
      exact v_zret (pc := 16) d_SL_canEncode_16 rfl (by decide) h
    · replace h := h.2 c
      refine v_iconst (pc := 11) d_SL_canEncode_11 (by decide) ?_
      refine v_goto (pc := 12) (tgt := 16) d_SL_canEncode_12 (by decide) ?_
      exact v_zret (pc := 16) d_SL_canEncode_16 rfl (by decide) h
theorem d_SL_indexOfChar_0 : decode jSL_indexOfChar.cc 0 = .ok (.iload_n 1, 1) := by decide +kernel
theorem d_SL_indexOfChar_1 : decode jSL_indexOfChar.cc 1 = .ok (.i2b, 1) := by decide +kernel
theorem d_SL_indexOfChar_2 : decode jSL_indexOfChar.cc 2 = .ok (.istore 4, 2) := by decide +kernel
theorem d_SL_indexOfChar_4 : decode jSL_indexOfChar.cc 4 = .ok (.iload_n 2, 1) := by decide +kernel
theorem d_SL_indexOfChar_5 : decode jSL_indexOfChar.cc 5 = .ok (.istore 5, 2) := by decide +kernel
theorem d_SL_indexOfChar_7 : decode jSL_indexOfChar.cc 7 = .ok (.iload 5, 2) := by decide +kernel
theorem d_SL_indexOfChar_9 : decode jSL_indexOfChar.cc 9 = .ok (.iload_n 3, 1) := by decide +kernel
theorem d_SL_indexOfChar_10 : decode jSL_indexOfChar.cc 10 = .ok (.if_icmp .ge 21, 3) := by decide +kernel
theorem d_SL_indexOfChar_13 : decode jSL_indexOfChar.cc 13 = .ok (.aload_n 0, 1) := by decide +kernel
theorem d_SL_indexOfChar_14 : decode jSL_indexOfChar.cc 14 = .ok (.iload 5, 2) := by decide +kernel
theorem d_SL_indexOfChar_16 : decode jSL_indexOfChar.cc 16 = .ok (.baload, 1) := by decide +kernel
theorem d_SL_indexOfChar_17 : decode jSL_indexOfChar.cc 17 = .ok (.iload 4, 2) := by decide +kernel
theorem d_SL_indexOfChar_19 : decode jSL_indexOfChar.cc 19 = .ok (.if_icmp .ne 6, 3) := by decide +kernel
theorem d_SL_indexOfChar_22 : decode jSL_indexOfChar.cc 22 = .ok (.iload 5, 2) := by decide +kernel
theorem d_SL_indexOfChar_24 : decode jSL_indexOfChar.cc 24 = .ok (.ireturn, 1) := by decide +kernel
theorem d_SL_indexOfChar_25 : decode jSL_indexOfChar.cc 25 = .ok (.iinc 5 1, 3) := by decide +kernel
theorem d_SL_indexOfChar_28 : decode jSL_indexOfChar.cc 28 = .ok (.goto (-21), 3) := by decide +kernel
theorem d_SL_indexOfChar_31 : decode jSL_indexOfChar.cc 31 = .ok (.iconst (-1), 1) := by decide +kernel
theorem d_SL_indexOfChar_32 : decode jSL_indexOfChar.cc 32 = .ok (.ireturn, 1) := by decide +kernel
set_option maxHeartbeats 4000000 in
theorem s_SL_indexOfChar {g : Mg} {d : Nat} {K : Ou → Wd → Prop} {w : Wd} {y : Ly} {p0 : Nat} (hp0 : 2001 ≤ p0 ∧ p0 < 2060) {p1 : Int} {p2 : Int} {p3 : Int} (h : V g y jSL_indexOfChar d K 7 [(0, vA p0), (3, vI p3), (4, vI (i2bF p1)), (5, vI p2)] [] w) : V g y jSL_indexOfChar d K 0 [(0, vA p0), (1, vI p1), (2, vI p2), (3, vI p3)] [] w := by
  refine v_iload_n (pc := 0) d_SL_indexOfChar_0 rfl (.tail _ (.head _)) ?_
  refine v_i2b (pc := 1) d_SL_indexOfChar_1 ?_
  refine v_istore (pc := 2) (ls' := [(4, vI (i2bF p1)), (0, vA p0), (1, vI p1), (2, vI p2), (3, vI p3)]) d_SL_indexOfChar_2 (by decide) rfl ?_
  refine v_iload_n (pc := 4) d_SL_indexOfChar_4 rfl (.tail _ (.tail _ (.tail _ (.head _)))) ?_
  refine v_istore (pc := 5) (ls' := [(5, vI p2), (4, vI (i2bF p1)), (0, vA p0), (1, vI p1), (2, vI p2), (3, vI p3)]) d_SL_indexOfChar_5 (by decide) rfl ?_
  exact v_sub (List.forall_mem_cons.mpr ⟨(.tail _ (.tail _ (.head _))), (List.forall_mem_cons.mpr ⟨(.tail _ (.tail _ (.tail _ (.tail _ (.tail _ (.head _)))))), (List.forall_mem_cons.mpr ⟨(.tail _ (.head _)), (List.forall_mem_cons.mpr ⟨(.head _), (fun _ z => absurd z List.not_mem_nil)⟩)⟩)⟩)⟩) h
set_option maxHeartbeats 4000000 in
theorem s_SL_indexOfChar_7 {g : Mg} {d : Nat} {K : Ou → Wd → Prop} {w : Wd} {y : Ly} {a0 : Nat} (ha0 : 2001 ≤ a0 ∧ a0 < 2060) {x3_ : Int} {x4_ : Int} {x5_ : Int} (h : (x3_ ≤ x5_ → (K (.inl (some (vI (-1)))) w)) ∧ (¬ x3_ ≤ x5_ → ((0 ≤ x5_ ∧ x5_ < ((sB (a0 - 2001)).length : Int)) ∧ ((¬ ((sB (a0 - 2001)).getD x5_.toNat 0) = x4_ → (V g y jSL_indexOfChar d K 7 [(0, vA a0), (3, vI x3_), (4, vI x4_), (5, vI (wr (x5_ + 1)))] [] w)) ∧ (((sB (a0 - 2001)).getD x5_.toNat 0) = x4_ → (K (.inl (some (vI x5_))) w)))))) : V g y jSL_indexOfChar d K 7 [(0, vA a0), (3, vI x3_), (4, vI x4_), (5, vI x5_)] [] w := by
  refine v_iload (pc := 7) d_SL_indexOfChar_7 (.tail _ (.tail _ (.tail _ (.head _)))) ?_
  refine v_iload_n (pc := 9) d_SL_indexOfChar_9 rfl (.tail _ (.head _)) ?_
  refine v_icmpge (pc := 10) (tgt := 31) d_SL_indexOfChar_10 (by decide) (fun c => ?_) (fun c => ?_)
  · replace h := h.1 c
    refine v_iconst (pc := 31) d_SL_indexOfChar_31 (by decide) ?_
    exact v_iret (pc := 32) d_SL_indexOfChar_32 rfl h
  · replace h := h.2 c
    refine v_aload_n (pc := 13) d_SL_indexOfChar_13 rfl (.head _) ?_
    refine v_iload (pc := 14) d_SL_indexOfChar_14 (.tail _ (.tail _ (.tail _ (.head _)))) ?_
    refine v_sald (pc := 16) d_SL_indexOfChar_16 (by omega) h.1 ?_
    replace h := h.2
    refine v_iload (pc := 17) d_SL_indexOfChar_17 (.tail _ (.tail _ (.head _))) ?_
    refine v_icmpne (pc := 19) (tgt := 25) d_SL_indexOfChar_19 (by decide) (fun c => ?_) (fun c => ?_)
    · replace h := h.1 c
      refine v_iinc (pc := 25) (ls' := [(5, vI (wr (x5_ + 1))), (0, vA a0), (3, vI x3_), (4, vI x4_)]) d_SL_indexOfChar_25 (.tail _ (.tail _ (.tail _ (.head _)))) (by decide) rfl ?_
      refine v_goto (pc := 28) (tgt := 7) d_SL_indexOfChar_28 (by decide) ?_
      exact v_sub (List.forall_mem_cons.mpr ⟨(.tail _ (.head _)), (List.forall_mem_cons.mpr ⟨(.tail _ (.tail _ (.head _))), (List.forall_mem_cons.mpr ⟨(.tail _ (.tail _ (.tail _ (.head _)))), (List.forall_mem_cons.mpr ⟨(.head _), (fun _ z => absurd z List.not_mem_nil)⟩)⟩)⟩)⟩) h
    · replace h := h.2 c
      refine v_iload (pc := 22) d_SL_indexOfChar_22 (.tail _ (.tail _ (.tail _ (.head _)))) ?_
      exact v_iret (pc := 24) d_SL_indexOfChar_24 rfl h
theorem d_Sg_length_0 : decode jSg_length.cc 0 = .ok (.aload_n 0, 1) := by decide +kernel
theorem d_Sg_length_1 : decode jSg_length.cc 1 = .ok (.getfield 9, 3) := by decide +kernel
theorem d_Sg_length_4 : decode jSg_length.cc 4 = .ok (.arraylength, 1) := by decide +kernel
theorem d_Sg_length_5 : decode jSg_length.cc 5 = .ok (.aload_n 0, 1) := by decide +kernel
theorem d_Sg_length_6 : decode jSg_length.cc 6 = .ok (.invokevirtual 335, 3) := by decide +kernel
theorem d_Sg_length_9 : decode jSg_length.cc 9 = .ok (.ishr, 1) := by decide +kernel
theorem d_Sg_length_10 : decode jSg_length.cc 10 = .ok (.ireturn, 1) := by decide +kernel
set_option maxHeartbeats 4000000 in
theorem s_Sg_length {g : Mg} {d : Nat} {K : Ou → Wd → Prop} {w : Wd} {y : Ly} {p0 : Nat} (hp0 : 1001 ≤ p0 ∧ p0 < 1060) (h : Cal g y jSg_coder d [vA p0] w (fun o w1 => rI o (fun x2 => K (.inl (some (vI (iShr ((sB (p0 + 1000 - 2001)).length : Int) x2)))) w1))) : V g y jSg_length (d + 1) K 0 [(0, vA p0)] [] w := by
  refine v_aload_n (pc := 0) d_Sg_length_0 rfl (.head _) ?_
  refine v_sval (pc := 1) d_Sg_length_1 (mt_9 93 rfl rfl) hp0 ?_
  refine v_slen (pc := 4) d_Sg_length_4 (by omega) ?_
  refine v_aload_n (pc := 5) d_Sg_length_5 rfl (.head _) ?_
  refine v_callG (pc := 6) (J' := jSg_coder) (d' := d) (o := p0) (As := []) d_Sg_length_6 ml_Sg_335 rfl hp0 rfl (Nat.le_of_ble_eq_true rfl) (Nat.le_refl _) rfl (Cal.weak h (fun o w1 h => ?_))
  rcases rI_of h with ⟨x2, rfl, h⟩
  refine v_ishr (pc := 9) d_Sg_length_9 ?_
  exact v_iret (pc := 10) d_Sg_length_10 rfl h
theorem d_Sg_coder_0 : decode jSg_coder.cc 0 = .ok (.getstatic 38, 3) := by decide +kernel
theorem d_Sg_coder_3 : decode jSg_coder.cc 3 = .ok (.ifCond .eq 10, 3) := by decide +kernel
theorem d_Sg_coder_6 : decode jSg_coder.cc 6 = .ok (.aload_n 0, 1) := by decide +kernel
theorem d_Sg_coder_7 : decode jSg_coder.cc 7 = .ok (.getfield 15, 3) := by decide +kernel
theorem d_Sg_coder_10 : decode jSg_coder.cc 10 = .ok (.goto 4, 3) := by decide +kernel
theorem d_Sg_coder_14 : decode jSg_coder.cc 14 = .ok (.ireturn, 1) := by decide +kernel
set_option maxHeartbeats 4000000 in
theorem s_Sg_coder {g : Mg} {d : Nat} {K : Ou → Wd → Prop} {w : Wd} {y : Ly} {p0 : Nat} (hp0 : 1001 ≤ p0 ∧ p0 < 1060) (h : narrow .byte (.int (Int32.ofInt 0)) = .int (Int32.ofInt 0) ∧ K (.inl (some (vI 0))) w) : V g y jSg_coder d K 0 [(0, vA p0)] [] w := by
  refine v_scmp (pc := 0) d_Sg_coder_0 (mt_3 112 rfl rfl) ?_
  refine v_ifeq (pc := 3) (tgt := 13) d_Sg_coder_3 (by decide) (fun z => absurd z (by decide)) (fun _ => ?_)
  refine v_aload_n (pc := 6) d_Sg_coder_6 rfl (.head _) ?_
  refine v_scod (pc := 7) d_Sg_coder_7 (mt_9 94 rfl rfl) hp0 ?_
  refine v_goto (pc := 10) (tgt := 14) d_Sg_coder_10 (by decide) ?_
  exact v_nret (pc := 14) d_Sg_coder_14 rfl h.1 h.2
theorem d_Sg_charAt_0 : decode jSg_charAt.cc 0 = .ok (.aload_n 0, 1) := by decide +kernel
theorem d_Sg_charAt_1 : decode jSg_charAt.cc 1 = .ok (.invokevirtual 492, 3) := by decide +kernel
theorem d_Sg_charAt_4 : decode jSg_charAt.cc 4 = .ok (.ifCond .eq 12, 3) := by decide +kernel
theorem d_Sg_charAt_7 : decode jSg_charAt.cc 7 = .ok (.aload_n 0, 1) := by decide +kernel
theorem d_Sg_charAt_8 : decode jSg_charAt.cc 8 = .ok (.getfield 9, 3) := by decide +kernel
theorem d_Sg_charAt_11 : decode jSg_charAt.cc 11 = .ok (.iload_n 1, 1) := by decide +kernel
theorem d_Sg_charAt_12 : decode jSg_charAt.cc 12 = .ok (.invokestatic 495, 3) := by decide +kernel
theorem d_Sg_charAt_15 : decode jSg_charAt.cc 15 = .ok (.ireturn, 1) := by decide +kernel
theorem d_Sg_charAt_16 : decode jSg_charAt.cc 16 = .ok (.aload_n 0, 1) := by decide +kernel
theorem d_Sg_charAt_17 : decode jSg_charAt.cc 17 = .ok (.getfield 9, 3) := by decide +kernel
theorem d_Sg_charAt_20 : decode jSg_charAt.cc 20 = .ok (.iload_n 1, 1) := by decide +kernel
set_option maxHeartbeats 4000000 in
theorem s_Sg_charAt {g : Mg} {d : Nat} {K : Ou → Wd → Prop} {w : Wd} {y : Ly} {p0 : Nat} (hp0 : 1001 ≤ p0 ∧ p0 < 1060) {p1 : Int} (h : Cal g y jSg_isLatin1 d [vA p0] w (fun o w1 => rI o (fun x2 => (x2 = 0 → False) ∧ (¬ x2 = 0 → (Cal g y jSL_charAt d [vA (p0 + 1000), vI p1] w1 (fun o w3 => rI o (fun x4 => narrow .char (.int (Int32.ofInt x4)) = .int (Int32.ofInt x4) ∧ K (.inl (some (vI x4))) w3))))))) : V g y jSg_charAt (d + 1) K 0 [(0, vA p0), (1, vI p1)] [] w := by
  refine v_aload_n (pc := 0) d_Sg_charAt_0 rfl (.head _) ?_
  refine v_callG (pc := 1) (J' := jSg_isLatin1) (d' := d) (o := p0) (As := []) d_Sg_charAt_1 ml_Sg_492 rfl hp0 rfl (Nat.le_of_ble_eq_true rfl) (Nat.le_refl _) rfl (Cal.weak h (fun o w1 h => ?_))
  rcases rI_of h with ⟨x2, rfl, h⟩
  refine v_ifeq (pc := 4) (tgt := 16) d_Sg_charAt_4 (by decide) (fun c => ?_) (fun c => ?_)
  · replace h := h.1 c
    refine v_aload_n (pc := 16) d_Sg_charAt_16 rfl (.head _) ?_
    refine v_sval (pc := 17) d_Sg_charAt_17 (mt_9 93 rfl rfl) hp0 ?_
    refine v_iload_n (pc := 20) d_Sg_charAt_20 rfl (.tail _ (.head _)) ?_
    exact h.elim
  · replace h := h.2 c
    refine v_aload_n (pc := 7) d_Sg_charAt_7 rfl (.head _) ?_
    refine v_sval (pc := 8) d_Sg_charAt_8 (mt_9 93 rfl rfl) hp0 ?_
    refine v_iload_n (pc := 11) d_Sg_charAt_11 rfl (.tail _ (.head _)) ?_
    refine v_callS (pc := 12) (J' := jSL_charAt) (d' := d) (As := [vA (p0 + 1000), vI p1]) d_Sg_charAt_12 ml_Sg_495 rfl (Nat.le_of_ble_eq_true rfl) (Nat.le_refl _) rfl (Cal.weak h (fun o w3 h => ?_))
    rcases rI_of h with ⟨x4, rfl, h⟩
    exact v_nret (pc := 15) d_Sg_charAt_15 rfl h.1 h.2
theorem d_Sg_isLatin1_0 : decode jSg_isLatin1.cc 0 = .ok (.getstatic 38, 3) := by decide +kernel
theorem d_Sg_isLatin1_3 : decode jSg_isLatin1.cc 3 = .ok (.ifCond .eq 14, 3) := by decide +kernel
theorem d_Sg_isLatin1_6 : decode jSg_isLatin1.cc 6 = .ok (.aload_n 0, 1) := by decide +kernel
theorem d_Sg_isLatin1_7 : decode jSg_isLatin1.cc 7 = .ok (.getfield 15, 3) := by decide +kernel
theorem d_Sg_isLatin1_10 : decode jSg_isLatin1.cc 10 = .ok (.ifCond .ne 7, 3) := by decide +kernel
theorem d_Sg_isLatin1_13 : decode jSg_isLatin1.cc 13 = .ok (.iconst 1, 1) := by decide +kernel
theorem d_Sg_isLatin1_14 : decode jSg_isLatin1.cc 14 = .ok (.goto 4, 3) := by decide +kernel
theorem d_Sg_isLatin1_18 : decode jSg_isLatin1.cc 18 = .ok (.ireturn, 1) := by decide +kernel
set_option maxHeartbeats 4000000 in
theorem s_Sg_isLatin1 {g : Mg} {d : Nat} {K : Ou → Wd → Prop} {w : Wd} {y : Ly} {p0 : Nat} (hp0 : 1001 ≤ p0 ∧ p0 < 1060) (h : K (.inl (some (vI 1))) w) : V g y jSg_isLatin1 d K 0 [(0, vA p0)] [] w := by
  refine v_scmp (pc := 0) d_Sg_isLatin1_0 (mt_3 112 rfl rfl) ?_
  refine v_ifeq (pc := 3) (tgt := 17) d_Sg_isLatin1_3 (by decide) (fun z => absurd z (by decide)) (fun _ => ?_)
  refine v_aload_n (pc := 6) d_Sg_isLatin1_6 rfl (.head _) ?_
  refine v_scod (pc := 7) d_Sg_isLatin1_7 (mt_9 94 rfl rfl) hp0 ?_
  refine v_ifne (pc := 10) (tgt := 17) d_Sg_isLatin1_10 (by decide) (fun z => absurd z (by decide)) (fun _ => ?_)
  refine v_iconst (pc := 13) d_Sg_isLatin1_13 (by decide) ?_
  refine v_goto (pc := 14) (tgt := 18) d_Sg_isLatin1_14 (by decide) ?_
  exact v_zret (pc := 18) d_Sg_isLatin1_18 rfl (by decide) h
theorem d_Sg_indexOf_0 : decode jSg_indexOf.cc 0 = .ok (.aload_n 0, 1) := by decide +kernel
theorem d_Sg_indexOf_1 : decode jSg_indexOf.cc 1 = .ok (.iload_n 1, 1) := by decide +kernel
theorem d_Sg_indexOf_2 : decode jSg_indexOf.cc 2 = .ok (.iconst 0, 1) := by decide +kernel
theorem d_Sg_indexOf_3 : decode jSg_indexOf.cc 3 = .ok (.invokevirtual 633, 3) := by decide +kernel
theorem d_Sg_indexOf_6 : decode jSg_indexOf.cc 6 = .ok (.ireturn, 1) := by decide +kernel
set_option maxHeartbeats 4000000 in
theorem s_Sg_indexOf {g : Mg} {d : Nat} {K : Ou → Wd → Prop} {w : Wd} {y : Ly} {p0 : Nat} (hp0 : 1001 ≤ p0 ∧ p0 < 1060) {p1 : Int} (h : Cal g y jSg_indexOf_2 d [vA p0, vI p1, vI 0] w (fun o w1 => rI o (fun x2 => K (.inl (some (vI x2))) w1))) : V g y jSg_indexOf (d + 1) K 0 [(0, vA p0), (1, vI p1)] [] w := by
  refine v_aload_n (pc := 0) d_Sg_indexOf_0 rfl (.head _) ?_
  refine v_iload_n (pc := 1) d_Sg_indexOf_1 rfl (.tail _ (.head _)) ?_
  refine v_iconst (pc := 2) d_Sg_indexOf_2 (by decide) ?_
  refine v_callG (pc := 3) (J' := jSg_indexOf_2) (d' := d) (o := p0) (As := [vI p1, vI 0]) d_Sg_indexOf_3 ml_Sg_633 rfl hp0 rfl (Nat.le_of_ble_eq_true rfl) (Nat.le_refl _) rfl (Cal.weak h (fun o w1 h => ?_))
  rcases rI_of h with ⟨x2, rfl, h⟩
  exact v_iret (pc := 6) d_Sg_indexOf_6 rfl h
theorem d_Sg_indexOf_2_0 : decode jSg_indexOf_2.cc 0 = .ok (.aload_n 0, 1) := by decide +kernel
theorem d_Sg_indexOf_2_1 : decode jSg_indexOf_2.cc 1 = .ok (.invokevirtual 492, 3) := by decide +kernel
theorem d_Sg_indexOf_2_4 : decode jSg_indexOf_2.cc 4 = .ok (.ifCond .eq 19, 3) := by decide +kernel
theorem d_Sg_indexOf_2_7 : decode jSg_indexOf_2.cc 7 = .ok (.aload_n 0, 1) := by decide +kernel
theorem d_Sg_indexOf_2_8 : decode jSg_indexOf_2.cc 8 = .ok (.getfield 9, 3) := by decide +kernel
theorem d_Sg_indexOf_2_11 : decode jSg_indexOf_2.cc 11 = .ok (.iload_n 1, 1) := by decide +kernel
theorem d_Sg_indexOf_2_12 : decode jSg_indexOf_2.cc 12 = .ok (.iload_n 2, 1) := by decide +kernel
theorem d_Sg_indexOf_2_13 : decode jSg_indexOf_2.cc 13 = .ok (.aload_n 0, 1) := by decide +kernel
theorem d_Sg_indexOf_2_14 : decode jSg_indexOf_2.cc 14 = .ok (.invokevirtual 505, 3) := by decide +kernel
theorem d_Sg_indexOf_2_17 : decode jSg_indexOf_2.cc 17 = .ok (.invokestatic 637, 3) := by decide +kernel
theorem d_Sg_indexOf_2_20 : decode jSg_indexOf_2.cc 20 = .ok (.goto 16, 3) := by decide +kernel
theorem d_Sg_indexOf_2_23 : decode jSg_indexOf_2.cc 23 = .ok (.aload_n 0, 1) := by decide +kernel
theorem d_Sg_indexOf_2_24 : decode jSg_indexOf_2.cc 24 = .ok (.getfield 9, 3) := by decide +kernel
theorem d_Sg_indexOf_2_27 : decode jSg_indexOf_2.cc 27 = .ok (.iload_n 1, 1) := by decide +kernel
theorem d_Sg_indexOf_2_28 : decode jSg_indexOf_2.cc 28 = .ok (.iload_n 2, 1) := by decide +kernel
theorem d_Sg_indexOf_2_29 : decode jSg_indexOf_2.cc 29 = .ok (.aload_n 0, 1) := by decide +kernel
theorem d_Sg_indexOf_2_30 : decode jSg_indexOf_2.cc 30 = .ok (.invokevirtual 505, 3) := by decide +kernel
theorem d_Sg_indexOf_2_36 : decode jSg_indexOf_2.cc 36 = .ok (.ireturn, 1) := by decide +kernel
set_option maxHeartbeats 4000000 in
theorem s_Sg_indexOf_2 {g : Mg} {d : Nat} {K : Ou → Wd → Prop} {w : Wd} {y : Ly} {p0 : Nat} (hp0 : 1001 ≤ p0 ∧ p0 < 1060) {p1 : Int} {p2 : Int} (h : Cal g y jSg_isLatin1 d [vA p0] w (fun o w1 => rI o (fun x2 => (x2 = 0 → (Cal g y jSg_length d [vA p0] w1 (fun o w3 => rI o (fun x4 => False)))) ∧ (¬ x2 = 0 → (Cal g y jSg_length d [vA p0] w1 (fun o w5 => rI o (fun x6 => Cal g y jSL_indexOf d [vA (p0 + 1000), vI p1, vI p2, vI x6] w5 (fun o w7 => rI o (fun x8 => K (.inl (some (vI x8))) w7))))))))) : V g y jSg_indexOf_2 (d + 1) K 0 [(0, vA p0), (1, vI p1), (2, vI p2)] [] w := by
  refine v_aload_n (pc := 0) d_Sg_indexOf_2_0 rfl (.head _) ?_
  refine v_callG (pc := 1) (J' := jSg_isLatin1) (d' := d) (o := p0) (As := []) d_Sg_indexOf_2_1 ml_Sg_492 rfl hp0 rfl (Nat.le_of_ble_eq_true rfl) (Nat.le_refl _) rfl (Cal.weak h (fun o w1 h => ?_))
  rcases rI_of h with ⟨x2, rfl, h⟩
  refine v_ifeq (pc := 4) (tgt := 23) d_Sg_indexOf_2_4 (by decide) (fun c => ?_) (fun c => ?_)
  · replace h := h.1 c
    refine v_aload_n (pc := 23) d_Sg_indexOf_2_23 rfl (.head _) ?_
    refine v_sval (pc := 24) d_Sg_indexOf_2_24 (mt_9 93 rfl rfl) hp0 ?_
    refine v_iload_n (pc := 27) d_Sg_indexOf_2_27 rfl (.tail _ (.head _)) ?_
    refine v_iload_n (pc := 28) d_Sg_indexOf_2_28 rfl (.tail _ (.tail _ (.head _))) ?_
    refine v_aload_n (pc := 29) d_Sg_indexOf_2_29 rfl (.head _) ?_
    refine v_callG (pc := 30) (J' := jSg_length) (d' := d) (o := p0) (As := []) d_Sg_indexOf_2_30 ml_Sg_505 rfl hp0 rfl (Nat.le_of_ble_eq_true rfl) (Nat.le_refl _) rfl (Cal.weak h (fun o w3 h => ?_))
    rcases rI_of h with ⟨x4, rfl, h⟩
    exact h.elim
  · replace h := h.2 c
    refine v_aload_n (pc := 7) d_Sg_indexOf_2_7 rfl (.head _) ?_
    refine v_sval (pc := 8) d_Sg_indexOf_2_8 (mt_9 93 rfl rfl) hp0 ?_
    refine v_iload_n (pc := 11) d_Sg_indexOf_2_11 rfl (.tail _ (.head _)) ?_
    refine v_iload_n (pc := 12) d_Sg_indexOf_2_12 rfl (.tail _ (.tail _ (.head _))) ?_
    refine v_aload_n (pc := 13) d_Sg_indexOf_2_13 rfl (.head _) ?_
    refine v_callG (pc := 14) (J' := jSg_length) (d' := d) (o := p0) (As := []) d_Sg_indexOf_2_14 ml_Sg_505 rfl hp0 rfl (Nat.le_of_ble_eq_true rfl) (Nat.le_refl _) rfl (Cal.weak h (fun o w5 h => ?_))
    rcases rI_of h with ⟨x6, rfl, h⟩
    refine v_callS (pc := 17) (J' := jSL_indexOf) (d' := d) (As := [vA (p0 + 1000), vI p1, vI p2, vI x6]) d_Sg_indexOf_2_17 ml_Sg_637 rfl (Nat.le_of_ble_eq_true rfl) (Nat.le_refl _) rfl (Cal.weak h (fun o w7 h => ?_))
    rcases rI_of h with ⟨x8, rfl, h⟩
    refine v_goto (pc := 20) (tgt := 36) d_Sg_indexOf_2_20 (by decide) ?_
    exact v_iret (pc := 36) d_Sg_indexOf_2_36 rfl h
