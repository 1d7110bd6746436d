theorem d_Ma_now_0 : decode jMa_now.cc 0 = .ok (.aload_n 0, 1) := by decide +kernel
theorem d_Ma_now_1 : decode jMa_now.cc 1 = .ok (.getfield 13, 3) := by decide +kernel
theorem d_Ma_now_4 : decode jMa_now.cc 4 = .ok (.aload_n 0, 1) := by decide +kernel
theorem d_Ma_now_5 : decode jMa_now.cc 5 = .ok (.getfield 35, 3) := by decide +kernel
theorem d_Ma_now_8 : decode jMa_now.cc 8 = .ok (.aaload, 1) := by decide +kernel
theorem d_Ma_now_9 : decode jMa_now.cc 9 = .ok (.areturn, 1) := by decide +kernel
set_option maxHeartbeats 4000000 in
theorem s_Ma_now {g : Mg} {d : Nat} {K : Ou → Wd → Prop} {w : Wd} (h : (0 ≤ (w 43 4) ∧ (w 43 4) < 8) ∧ (K (.inl (some (vA (45 + 7 * (w 43 4).toNat)))) w)) : V g LC jMa_now d K 0 [(0, vA 43)] [] w := by
  refine v_aload_n (pc := 0) d_Ma_now_0 rfl (.head _) ?_
  refine v_getr (C := "") (pc := 1) (r := 44) d_Ma_now_1 fl_Ma_13 cC_43.1 cC_43.2 (Or.inr ⟨_, rfl⟩) rC_43_3 ?_
  refine v_aload_n (pc := 4) d_Ma_now_4 rfl (.head _) ?_
  refine v_geti (pc := 5) (x := (w 43 4)) d_Ma_now_5 fl_Ma_35 cC_43.1 cC_43.2 (Or.inl rfl) rfl ?_
  have hb_ := h.1
  have hm1 : isMo (45 + 7 * (w 43 4).toNat) := ⟨(w 43 4).toNat, by omega, rfl⟩
  refine v_aald (pc := 8) (r := 45 + 7 * (w 43 4).toNat) d_Ma_now_8 cC_44.1 cC_44.2 (by decide) h.1 (rc_mom (by omega)) ?_
  replace h := h.2
  exact v_aret (pc := 9) d_Ma_now_9 rfl h
theorem d_Ma_setOut_0 : decode jMa_setOut.cc 0 = .ok (.aload_n 0, 1) := by decide +kernel
theorem d_Ma_setOut_1 : decode jMa_setOut.cc 1 = .ok (.iconst 1, 1) := by decide +kernel
theorem d_Ma_setOut_2 : decode jMa_setOut.cc 2 = .ok (.putfield 39, 3) := by decide +kernel
theorem d_Ma_setOut_5 : decode jMa_setOut.cc 5 = .ok (.aload_n 0, 1) := by decide +kernel
theorem d_Ma_setOut_6 : decode jMa_setOut.cc 6 = .ok (.iload_n 1, 1) := by decide +kernel
theorem d_Ma_setOut_7 : decode jMa_setOut.cc 7 = .ok (.putfield 43, 3) := by decide +kernel
theorem d_Ma_setOut_10 : decode jMa_setOut.cc 10 = .ok (.aload_n 0, 1) := by decide +kernel
theorem d_Ma_setOut_11 : decode jMa_setOut.cc 11 = .ok (.iconst 0, 1) := by decide +kernel
theorem d_Ma_setOut_12 : decode jMa_setOut.cc 12 = .ok (.putfield 35, 3) := by decide +kernel
theorem d_Ma_setOut_15 : decode jMa_setOut.cc 15 = .ok (.aload_n 0, 1) := by decide +kernel
theorem d_Ma_setOut_16 : decode jMa_setOut.cc 16 = .ok (.iconst 0, 1) := by decide +kernel
theorem d_Ma_setOut_17 : decode jMa_setOut.cc 17 = .ok (.putfield 46, 3) := by decide +kernel
theorem d_Ma_setOut_20 : decode jMa_setOut.cc 20 = .ok (.aload_n 0, 1) := by decide +kernel
theorem d_Ma_setOut_21 : decode jMa_setOut.cc 21 = .ok (.iconst 0, 1) := by decide +kernel
theorem d_Ma_setOut_22 : decode jMa_setOut.cc 22 = .ok (.putfield 49, 3) := by decide +kernel
theorem d_Ma_setOut_25 : decode jMa_setOut.cc 25 = .ok (.aload_n 0, 1) := by decide +kernel
theorem d_Ma_setOut_26 : decode jMa_setOut.cc 26 = .ok (.iconst 0, 1) := by decide +kernel
theorem d_Ma_setOut_27 : decode jMa_setOut.cc 27 = .ok (.putfield 52, 3) := by decide +kernel
theorem d_Ma_setOut_30 : decode jMa_setOut.cc 30 = .ok (.aload_n 0, 1) := by decide +kernel
theorem d_Ma_setOut_31 : decode jMa_setOut.cc 31 = .ok (.iconst 0, 1) := by decide +kernel
theorem d_Ma_setOut_32 : decode jMa_setOut.cc 32 = .ok (.putfield 55, 3) := by decide +kernel
theorem d_Ma_setOut_35 : decode jMa_setOut.cc 35 = .ok (.aload_n 0, 1) := by decide +kernel
theorem d_Ma_setOut_36 : decode jMa_setOut.cc 36 = .ok (.iconst 0, 1) := by decide +kernel
theorem d_Ma_setOut_37 : decode jMa_setOut.cc 37 = .ok (.putfield 58, 3) := by decide +kernel
theorem d_Ma_setOut_40 : decode jMa_setOut.cc 40 = .ok (.aload_n 0, 1) := by decide +kernel
theorem d_Ma_setOut_41 : decode jMa_setOut.cc 41 = .ok (.iconst 0, 1) := by decide +kernel
theorem d_Ma_setOut_42 : decode jMa_setOut.cc 42 = .ok (.putfield 61, 3) := by decide +kernel
theorem d_Ma_setOut_45 : decode jMa_setOut.cc 45 = .ok (.aload_n 0, 1) := by decide +kernel
theorem d_Ma_setOut_46 : decode jMa_setOut.cc 46 = .ok (.invokevirtual 64, 3) := by decide +kernel
theorem d_Ma_setOut_49 : decode jMa_setOut.cc 49 = .ok (.aload_n 0, 1) := by decide +kernel
theorem d_Ma_setOut_50 : decode jMa_setOut.cc 50 = .ok (.getfield 17, 3) := by decide +kernel
theorem d_Ma_setOut_53 : decode jMa_setOut.cc 53 = .ok (.invokevirtual 68, 3) := by decide +kernel
theorem d_Ma_setOut_56 : decode jMa_setOut.cc 56 = .ok (.return_, 1) := by decide +kernel
set_option maxHeartbeats 4000000 in
theorem s_Ma_setOut {g : Mg} {d : Nat} {K : Ou → Wd → Prop} {w : Wd} {p1 : Int} (h : Cal g LC jMa_now d [vA 43] (up (up (up (up (up (up (up (up (up w 43 11 1) 43 5 p1) 43 4 0) 43 12 0) 43 6 0) 43 7 0) 43 8 0) 43 9 0) 43 10 0) (fun o w1 => rA o (fun x2 => isMo x2 ∧ (Cal g LC jMo_beginAs d [vA x2, vA 8] w1 (fun o w3 => rV o (K (.inl none) w3)))))) : V g LC jMa_setOut (d + 1) K 0 [(0, vA 43), (1, vI p1)] [] w := by
  refine v_aload_n (pc := 0) d_Ma_setOut_0 rfl (.head _) ?_
  refine v_iconst (pc := 1) d_Ma_setOut_1 (by decide) ?_
  refine v_putz (pc := 2) d_Ma_setOut_2 fp_Ma_39 cC_43.1 cC_43.2 (by decide) rfl (by decide) ?_
  refine v_aload_n (pc := 5) d_Ma_setOut_5 rfl (.head _) ?_
  refine v_iload_n (pc := 6) d_Ma_setOut_6 rfl (.tail _ (.head _)) ?_
  refine v_puti (pc := 7) d_Ma_setOut_7 fp_Ma_43 cC_43.1 cC_43.2 (by decide) rfl ?_
  refine v_aload_n (pc := 10) d_Ma_setOut_10 rfl (.head _) ?_
  refine v_iconst (pc := 11) d_Ma_setOut_11 (by decide) ?_
  refine v_puti (pc := 12) d_Ma_setOut_12 fp_Ma_35 cC_43.1 cC_43.2 (by decide) rfl ?_
  refine v_aload_n (pc := 15) d_Ma_setOut_15 rfl (.head _) ?_
  refine v_iconst (pc := 16) d_Ma_setOut_16 (by decide) ?_
  refine v_puti (pc := 17) d_Ma_setOut_17 fp_Ma_46 cC_43.1 cC_43.2 (by decide) rfl ?_
  refine v_aload_n (pc := 20) d_Ma_setOut_20 rfl (.head _) ?_
  refine v_iconst (pc := 21) d_Ma_setOut_21 (by decide) ?_
  refine v_puti (pc := 22) d_Ma_setOut_22 fp_Ma_49 cC_43.1 cC_43.2 (by decide) rfl ?_
  refine v_aload_n (pc := 25) d_Ma_setOut_25 rfl (.head _) ?_
  refine v_iconst (pc := 26) d_Ma_setOut_26 (by decide) ?_
  refine v_puti (pc := 27) d_Ma_setOut_27 fp_Ma_52 cC_43.1 cC_43.2 (by decide) rfl ?_
  refine v_aload_n (pc := 30) d_Ma_setOut_30 rfl (.head _) ?_
  refine v_iconst (pc := 31) d_Ma_setOut_31 (by decide) ?_
  refine v_puti (pc := 32) d_Ma_setOut_32 fp_Ma_55 cC_43.1 cC_43.2 (by decide) rfl ?_
  refine v_aload_n (pc := 35) d_Ma_setOut_35 rfl (.head _) ?_
  refine v_iconst (pc := 36) d_Ma_setOut_36 (by decide) ?_
  refine v_puti (pc := 37) d_Ma_setOut_37 fp_Ma_58 cC_43.1 cC_43.2 (by decide) rfl ?_
  refine v_aload_n (pc := 40) d_Ma_setOut_40 rfl (.head _) ?_
  refine v_iconst (pc := 41) d_Ma_setOut_41 (by decide) ?_
  refine v_puti (pc := 42) d_Ma_setOut_42 fp_Ma_61 cC_43.1 cC_43.2 (by decide) rfl ?_
  refine v_aload_n (pc := 45) d_Ma_setOut_45 rfl (.head _) ?_
  refine v_callV (pc := 46) (J' := jMa_now) (d' := d) (o := 43) (ci := 5) (N := 13) (T := cT5) (As := []) d_Ma_setOut_46 ml_Ma_64 cC_43.1 cC_43.2 (by decide) rfl rfl (Nat.le_of_ble_eq_true rfl) (Nat.le_refl _) rfl (Cal.weak h (fun o w1 h => ?_))
  obtain ⟨x2, rfl, hx2, h⟩ := rA_of h
  refine v_aload_n (pc := 49) d_Ma_setOut_49 rfl (.head _) ?_
  refine v_getr (C := "") (pc := 50) (r := 8) d_Ma_setOut_50 fl_Ma_17 cC_43.1 cC_43.2 (Or.inl ⟨_, rfl⟩) rC_43_0 ?_
  refine v_callV (pc := 53) (J' := jMo_beginAs) (d' := d) (o := x2) (ci := 6) (N := 8) (T := cT6) (As := [vA 8]) d_Ma_setOut_53 ml_Ma_68 (mo_0 hx2).1 (mo_0 hx2).2 (by decide) rfl rfl (Nat.le_of_ble_eq_true rfl) (Nat.le_refl _) rfl (Cal.weak h (fun o w3 h => ?_))
  rcases rV_of h with ⟨rfl, h⟩
  exact v_vret (pc := 56) d_Ma_setOut_56 rfl h
theorem d_Ma_hasEnded_0 : decode jMa_hasEnded.cc 0 = .ok (.aload_n 0, 1) := by decide +kernel
theorem d_Ma_hasEnded_1 : decode jMa_hasEnded.cc 1 = .ok (.invokevirtual 64, 3) := by decide +kernel
theorem d_Ma_hasEnded_4 : decode jMa_hasEnded.cc 4 = .ok (.getfield 72, 3) := by decide +kernel
theorem d_Ma_hasEnded_7 : decode jMa_hasEnded.cc 7 = .ok (.ifCond .ne 31, 3) := by decide +kernel
theorem d_Ma_hasEnded_10 : decode jMa_hasEnded.cc 10 = .ok (.aload_n 0, 1) := by decide +kernel
theorem d_Ma_hasEnded_11 : decode jMa_hasEnded.cc 11 = .ok (.invokevirtual 64, 3) := by decide +kernel
theorem d_Ma_hasEnded_14 : decode jMa_hasEnded.cc 14 = .ok (.aload_n 0, 1) := by decide +kernel
theorem d_Ma_hasEnded_15 : decode jMa_hasEnded.cc 15 = .ok (.getfield 21, 3) := by decide +kernel
theorem d_Ma_hasEnded_18 : decode jMa_hasEnded.cc 18 = .ok (.getfield 75, 3) := by decide +kernel
theorem d_Ma_hasEnded_21 : decode jMa_hasEnded.cc 21 = .ok (.invokevirtual 80, 3) := by decide +kernel
theorem d_Ma_hasEnded_24 : decode jMa_hasEnded.cc 24 = .ok (.aload_n 0, 1) := by decide +kernel
theorem d_Ma_hasEnded_25 : decode jMa_hasEnded.cc 25 = .ok (.getfield 21, 3) := by decide +kernel
theorem d_Ma_hasEnded_28 : decode jMa_hasEnded.cc 28 = .ok (.getfield 75, 3) := by decide +kernel
theorem d_Ma_hasEnded_31 : decode jMa_hasEnded.cc 31 = .ok (.if_icmp .ne 7, 3) := by decide +kernel
theorem d_Ma_hasEnded_34 : decode jMa_hasEnded.cc 34 = .ok (.iconst 1, 1) := by decide +kernel
theorem d_Ma_hasEnded_35 : decode jMa_hasEnded.cc 35 = .ok (.goto 4, 3) := by decide +kernel
theorem d_Ma_hasEnded_38 : decode jMa_hasEnded.cc 38 = .ok (.iconst 0, 1) := by decide +kernel
theorem d_Ma_hasEnded_39 : decode jMa_hasEnded.cc 39 = .ok (.ireturn, 1) := by decide +kernel
set_option maxHeartbeats 4000000 in
theorem s_Ma_hasEnded {g : Mg} {d : Nat} {K : Ou → Wd → Prop} {w : Wd} (h : Cal g LC jMa_now d [vA 43] w (fun o w1 => rA o (fun x2 => isMo x2 ∧ ((¬ (w1 x2 1) = 0 → (K (.inl (some (vI 0))) w1)) ∧ ((w1 x2 1) = 0 → (Cal g LC jMa_now d [vA 43] w1 (fun o w3 => rA o (fun x4 => isMo x4 ∧ (Cal g LC jMo_restingOf d [vA x4, vI (w3 31 0)] w3 (fun o w5 => rI o (fun x6 => (¬ x6 = (w5 31 0) → (K (.inl (some (vI 0))) w5)) ∧ (x6 = (w5 31 0) → (K (.inl (some (vI 1))) w5))))))))))))) : V g LC jMa_hasEnded (d + 1) K 0 [(0, vA 43)] [] w := by
  refine v_aload_n (pc := 0) d_Ma_hasEnded_0 rfl (.head _) ?_
  refine v_callV (pc := 1) (J' := jMa_now) (d' := d) (o := 43) (ci := 5) (N := 13) (T := cT5) (As := []) d_Ma_hasEnded_1 ml_Ma_64 cC_43.1 cC_43.2 (by decide) rfl rfl (Nat.le_of_ble_eq_true rfl) (Nat.le_refl _) rfl (Cal.weak h (fun o w1 h => ?_))
  obtain ⟨x2, rfl, hx2, h⟩ := rA_of h
  refine v_geti (pc := 4) (x := (w1 x2 1)) d_Ma_hasEnded_4 fl_Ma_72 (mo_0 hx2).1 (mo_0 hx2).2 (Or.inl rfl) rfl ?_
  refine v_ifne (pc := 7) (tgt := 38) d_Ma_hasEnded_7 (by decide) (fun c => ?_) (fun c => ?_)
  · replace h := h.1 c
    refine v_iconst (pc := 38) d_Ma_hasEnded_38 (by decide) ?_
    exact v_zret (pc := 39) d_Ma_hasEnded_39 rfl (by decide) h
  · replace h := h.2 c
    refine v_aload_n (pc := 10) d_Ma_hasEnded_10 rfl (.head _) ?_
    refine v_callV (pc := 11) (J' := jMa_now) (d' := d) (o := 43) (ci := 5) (N := 13) (T := cT5) (As := []) d_Ma_hasEnded_11 ml_Ma_64 cC_43.1 cC_43.2 (by decide) rfl rfl (Nat.le_of_ble_eq_true rfl) (Nat.le_refl _) rfl (Cal.weak h (fun o w3 h => ?_))
    obtain ⟨x4, rfl, hx4, h⟩ := rA_of h
    refine v_aload_n (pc := 14) d_Ma_hasEnded_14 rfl (.head _) ?_
    refine v_getr (C := "") (pc := 15) (r := 31) d_Ma_hasEnded_15 fl_Ma_21 cC_43.1 cC_43.2 (Or.inl ⟨_, rfl⟩) rC_43_1 ?_
    refine v_geti (pc := 18) (x := (w3 31 0)) d_Ma_hasEnded_18 fl_Ma_75 cC_31.1 cC_31.2 (Or.inl rfl) rfl ?_
    refine v_callV (pc := 21) (J' := jMo_restingOf) (d' := d) (o := x4) (ci := 6) (N := 8) (T := cT6) (As := [vI (w3 31 0)]) d_Ma_hasEnded_21 ml_Ma_80 (mo_0 hx4).1 (mo_0 hx4).2 (by decide) rfl rfl (Nat.le_of_ble_eq_true rfl) (Nat.le_refl _) rfl (Cal.weak h (fun o w5 h => ?_))
    rcases rI_of h with ⟨x6, rfl, h⟩
    refine v_aload_n (pc := 24) d_Ma_hasEnded_24 rfl (.head _) ?_
    refine v_getr (C := "") (pc := 25) (r := 31) d_Ma_hasEnded_25 fl_Ma_21 cC_43.1 cC_43.2 (Or.inl ⟨_, rfl⟩) rC_43_1 ?_
    refine v_geti (pc := 28) (x := (w5 31 0)) d_Ma_hasEnded_28 fl_Ma_75 cC_31.1 cC_31.2 (Or.inl rfl) rfl ?_
    refine v_icmpne (pc := 31) (tgt := 38) d_Ma_hasEnded_31 (by decide) (fun c => ?_) (fun c => ?_)
    · replace h := h.1 c
      refine v_iconst (pc := 38) d_Ma_hasEnded_38 (by decide) ?_
      exact v_zret (pc := 39) d_Ma_hasEnded_39 rfl (by decide) h
    · replace h := h.2 c
      refine v_iconst (pc := 34) d_Ma_hasEnded_34 (by decide) ?_
      refine v_goto (pc := 35) (tgt := 39) d_Ma_hasEnded_35 (by decide) ?_
      exact v_zret (pc := 39) d_Ma_hasEnded_39 rfl (by decide) h
theorem d_Ma_doTurn_0 : decode jMa_doTurn.cc 0 = .ok (.aload_n 0, 1) := by decide +kernel
theorem d_Ma_doTurn_1 : decode jMa_doTurn.cc 1 = .ok (.invokevirtual 64, 3) := by decide +kernel
theorem d_Ma_doTurn_4 : decode jMa_doTurn.cc 4 = .ok (.astore_n 1, 1) := by decide +kernel
theorem d_Ma_doTurn_5 : decode jMa_doTurn.cc 5 = .ok (.aload_n 0, 1) := by decide +kernel
theorem d_Ma_doTurn_6 : decode jMa_doTurn.cc 6 = .ok (.getfield 35, 3) := by decide +kernel
theorem d_Ma_doTurn_9 : decode jMa_doTurn.cc 9 = .ok (.iconst 1, 1) := by decide +kernel
theorem d_Ma_doTurn_10 : decode jMa_doTurn.cc 10 = .ok (.iadd, 1) := by decide +kernel
theorem d_Ma_doTurn_11 : decode jMa_doTurn.cc 11 = .ok (.bipush 8, 2) := by decide +kernel
theorem d_Ma_doTurn_13 : decode jMa_doTurn.cc 13 = .ok (.irem, 1) := by decide +kernel
theorem d_Ma_doTurn_14 : decode jMa_doTurn.cc 14 = .ok (.istore_n 2, 1) := by decide +kernel
theorem d_Ma_doTurn_15 : decode jMa_doTurn.cc 15 = .ok (.aload_n 0, 1) := by decide +kernel
theorem d_Ma_doTurn_16 : decode jMa_doTurn.cc 16 = .ok (.getfield 13, 3) := by decide +kernel
theorem d_Ma_doTurn_19 : decode jMa_doTurn.cc 19 = .ok (.iload_n 2, 1) := by decide +kernel
theorem d_Ma_doTurn_20 : decode jMa_doTurn.cc 20 = .ok (.aaload, 1) := by decide +kernel
theorem d_Ma_doTurn_21 : decode jMa_doTurn.cc 21 = .ok (.astore_n 3, 1) := by decide +kernel
theorem d_Ma_doTurn_22 : decode jMa_doTurn.cc 22 = .ok (.aload_n 3, 1) := by decide +kernel
theorem d_Ma_doTurn_23 : decode jMa_doTurn.cc 23 = .ok (.aload_n 1, 1) := by decide +kernel
theorem d_Ma_doTurn_24 : decode jMa_doTurn.cc 24 = .ok (.aload_n 0, 1) := by decide +kernel
theorem d_Ma_doTurn_25 : decode jMa_doTurn.cc 25 = .ok (.getfield 17, 3) := by decide +kernel
theorem d_Ma_doTurn_28 : decode jMa_doTurn.cc 28 = .ok (.invokevirtual 84, 3) := by decide +kernel
theorem d_Ma_doTurn_31 : decode jMa_doTurn.cc 31 = .ok (.aload_n 0, 1) := by decide +kernel
theorem d_Ma_doTurn_32 : decode jMa_doTurn.cc 32 = .ok (.getfield 31, 3) := by decide +kernel
theorem d_Ma_doTurn_35 : decode jMa_doTurn.cc 35 = .ok (.aload_n 0, 1) := by decide +kernel
theorem d_Ma_doTurn_36 : decode jMa_doTurn.cc 36 = .ok (.getfield 43, 3) := by decide +kernel
theorem d_Ma_doTurn_39 : decode jMa_doTurn.cc 39 = .ok (.aload_n 1, 1) := by decide +kernel
theorem d_Ma_doTurn_40 : decode jMa_doTurn.cc 40 = .ok (.aload_n 3, 1) := by decide +kernel
theorem d_Ma_doTurn_41 : decode jMa_doTurn.cc 41 = .ok (.invokevirtual 88, 3) := by decide +kernel
theorem d_Ma_doTurn_44 : decode jMa_doTurn.cc 44 = .ok (.iconst 0, 1) := by decide +kernel
theorem d_Ma_doTurn_45 : decode jMa_doTurn.cc 45 = .ok (.istore 4, 2) := by decide +kernel
theorem d_Ma_doTurn_47 : decode jMa_doTurn.cc 47 = .ok (.iconst 0, 1) := by decide +kernel
theorem d_Ma_doTurn_48 : decode jMa_doTurn.cc 48 = .ok (.istore 5, 2) := by decide +kernel
theorem d_Ma_doTurn_50 : decode jMa_doTurn.cc 50 = .ok (.iload 5, 2) := by decide +kernel
theorem d_Ma_doTurn_52 : decode jMa_doTurn.cc 52 = .ok (.aload_n 0, 1) := by decide +kernel
theorem d_Ma_doTurn_53 : decode jMa_doTurn.cc 53 = .ok (.getfield 21, 3) := by decide +kernel
theorem d_Ma_doTurn_56 : decode jMa_doTurn.cc 56 = .ok (.getfield 75, 3) := by decide +kernel
theorem d_Ma_doTurn_59 : decode jMa_doTurn.cc 59 = .ok (.if_icmp .ge 79, 3) := by decide +kernel
theorem d_Ma_doTurn_62 : decode jMa_doTurn.cc 62 = .ok (.aload_n 1, 1) := by decide +kernel
theorem d_Ma_doTurn_63 : decode jMa_doTurn.cc 63 = .ok (.getfield 92, 3) := by decide +kernel
theorem d_Ma_doTurn_66 : decode jMa_doTurn.cc 66 = .ok (.iload 5, 2) := by decide +kernel
theorem d_Ma_doTurn_68 : decode jMa_doTurn.cc 68 = .ok (.baload, 1) := by decide +kernel
theorem d_Ma_doTurn_69 : decode jMa_doTurn.cc 69 = .ok (.ifCond .eq 12, 3) := by decide +kernel
theorem d_Ma_doTurn_72 : decode jMa_doTurn.cc 72 = .ok (.aload_n 1, 1) := by decide +kernel
theorem d_Ma_doTurn_73 : decode jMa_doTurn.cc 73 = .ok (.iload 5, 2) := by decide +kernel
theorem d_Ma_doTurn_75 : decode jMa_doTurn.cc 75 = .ok (.invokevirtual 96, 3) := by decide +kernel
theorem d_Ma_doTurn_78 : decode jMa_doTurn.cc 78 = .ok (.ifCond .eq 54, 3) := by decide +kernel
theorem d_Ma_doTurn_81 : decode jMa_doTurn.cc 81 = .ok (.aload_n 3, 1) := by decide +kernel
theorem d_Ma_doTurn_82 : decode jMa_doTurn.cc 82 = .ok (.getfield 92, 3) := by decide +kernel
theorem d_Ma_doTurn_85 : decode jMa_doTurn.cc 85 = .ok (.iload 5, 2) := by decide +kernel
theorem d_Ma_doTurn_87 : decode jMa_doTurn.cc 87 = .ok (.iconst 0, 1) := by decide +kernel
theorem d_Ma_doTurn_88 : decode jMa_doTurn.cc 88 = .ok (.bastore, 1) := by decide +kernel
theorem d_Ma_doTurn_89 : decode jMa_doTurn.cc 89 = .ok (.aload_n 0, 1) := by decide +kernel
theorem d_Ma_doTurn_90 : decode jMa_doTurn.cc 90 = .ok (.getfield 31, 3) := by decide +kernel
theorem d_Ma_doTurn_93 : decode jMa_doTurn.cc 93 = .ok (.iload 5, 2) := by decide +kernel
theorem d_Ma_doTurn_95 : decode jMa_doTurn.cc 95 = .ok (.invokevirtual 100, 3) := by decide +kernel
theorem d_Ma_doTurn_98 : decode jMa_doTurn.cc 98 = .ok (.aload_n 0, 1) := by decide +kernel
theorem d_Ma_doTurn_99 : decode jMa_doTurn.cc 99 = .ok (.getfield 31, 3) := by decide +kernel
theorem d_Ma_doTurn_102 : decode jMa_doTurn.cc 102 = .ok (.getfield 104, 3) := by decide +kernel
theorem d_Ma_doTurn_105 : decode jMa_doTurn.cc 105 = .ok (.ifCond .eq 15, 3) := by decide +kernel
theorem d_Ma_doTurn_108 : decode jMa_doTurn.cc 108 = .ok (.aload_n 0, 1) := by decide +kernel
theorem d_Ma_doTurn_109 : decode jMa_doTurn.cc 109 = .ok (.iload 5, 2) := by decide +kernel
theorem d_Ma_doTurn_111 : decode jMa_doTurn.cc 111 = .ok (.aload_n 1, 1) := by decide +kernel
theorem d_Ma_doTurn_112 : decode jMa_doTurn.cc 112 = .ok (.getfield 105, 3) := by decide +kernel
theorem d_Ma_doTurn_115 : decode jMa_doTurn.cc 115 = .ok (.invokevirtual 108, 3) := by decide +kernel
theorem d_Ma_doTurn_118 : decode jMa_doTurn.cc 118 = .ok (.iconst 0, 1) := by decide +kernel
theorem d_Ma_doTurn_119 : decode jMa_doTurn.cc 119 = .ok (.ireturn, 1) := by decide +kernel
theorem d_Ma_doTurn_120 : decode jMa_doTurn.cc 120 = .ok (.iload 4, 2) := by decide +kernel
theorem d_Ma_doTurn_122 : decode jMa_doTurn.cc 122 = .ok (.aload_n 0, 1) := by decide +kernel
theorem d_Ma_doTurn_123 : decode jMa_doTurn.cc 123 = .ok (.getfield 31, 3) := by decide +kernel
theorem d_Ma_doTurn_126 : decode jMa_doTurn.cc 126 = .ok (.getfield 112, 3) := by decide +kernel
theorem d_Ma_doTurn_129 : decode jMa_doTurn.cc 129 = .ok (.iadd, 1) := by decide +kernel
theorem d_Ma_doTurn_130 : decode jMa_doTurn.cc 130 = .ok (.istore 4, 2) := by decide +kernel
theorem d_Ma_doTurn_132 : decode jMa_doTurn.cc 132 = .ok (.iinc 5 1, 3) := by decide +kernel
theorem d_Ma_doTurn_135 : decode jMa_doTurn.cc 135 = .ok (.goto (-85), 3) := by decide +kernel
theorem d_Ma_doTurn_138 : decode jMa_doTurn.cc 138 = .ok (.aload_n 0, 1) := by decide +kernel
theorem d_Ma_doTurn_139 : decode jMa_doTurn.cc 139 = .ok (.iload 4, 2) := by decide +kernel
theorem d_Ma_doTurn_141 : decode jMa_doTurn.cc 141 = .ok (.putfield 49, 3) := by decide +kernel
theorem d_Ma_doTurn_144 : decode jMa_doTurn.cc 144 = .ok (.aload_n 0, 1) := by decide +kernel
theorem d_Ma_doTurn_145 : decode jMa_doTurn.cc 145 = .ok (.iload_n 2, 1) := by decide +kernel
theorem d_Ma_doTurn_146 : decode jMa_doTurn.cc 146 = .ok (.putfield 35, 3) := by decide +kernel
theorem d_Ma_doTurn_149 : decode jMa_doTurn.cc 149 = .ok (.aload_n 0, 1) := by decide +kernel
theorem d_Ma_doTurn_150 : decode jMa_doTurn.cc 150 = .ok (.aload_n 0, 1) := by decide +kernel
theorem d_Ma_doTurn_151 : decode jMa_doTurn.cc 151 = .ok (.getfield 46, 3) := by decide +kernel
theorem d_Ma_doTurn_154 : decode jMa_doTurn.cc 154 = .ok (.iconst 1, 1) := by decide +kernel
theorem d_Ma_doTurn_155 : decode jMa_doTurn.cc 155 = .ok (.iadd, 1) := by decide +kernel
theorem d_Ma_doTurn_156 : decode jMa_doTurn.cc 156 = .ok (.bipush 6, 2) := by decide +kernel
theorem d_Ma_doTurn_158 : decode jMa_doTurn.cc 158 = .ok (.invokestatic 115, 3) := by decide +kernel
theorem d_Ma_doTurn_161 : decode jMa_doTurn.cc 161 = .ok (.putfield 46, 3) := by decide +kernel
theorem d_Ma_doTurn_164 : decode jMa_doTurn.cc 164 = .ok (.iconst 1, 1) := by decide +kernel
theorem d_Ma_doTurn_165 : decode jMa_doTurn.cc 165 = .ok (.ireturn, 1) := by decide +kernel
set_option maxHeartbeats 4000000 in
theorem s_Ma_doTurn {g : Mg} {d : Nat} {K : Ou → Wd → Prop} {w : Wd} (h : Cal g LC jMa_now d [vA 43] w (fun o w1 => rA o (fun x2 => isMo x2 ∧ ((0 ≤ (iRem (wr ((w1 43 4) + 1)) 8) ∧ (iRem (wr ((w1 43 4) + 1)) 8) < 8) ∧ (Cal g LC jMo_follow d [vA (45 + 7 * (iRem (wr ((w1 43 4) + 1)) 8).toNat), vA x2, vA 8] w1 (fun o w4 => rV o (Cal g LC jWo_setTurn d [vA 101, vI (w4 43 5), vA x2, vA (45 + 7 * (iRem (wr ((w1 43 4) + 1)) 8).toNat)] w4 (fun o w5 => rV o (V g LC jMa_doTurn (d + 1) K 50 [(0, vA 43), (1, vA x2), (2, vI (iRem (wr ((w1 43 4) + 1)) 8)), (3, vA (45 + 7 * (iRem (wr ((w1 43 4) + 1)) 8).toNat)), (4, vI 0), (5, vI 0)] [] w5))))))))) : V g LC jMa_doTurn (d + 1) K 0 [(0, vA 43)] [] w := by
  refine v_aload_n (pc := 0) d_Ma_doTurn_0 rfl (.head _) ?_
  refine v_callV (pc := 1) (J' := jMa_now) (d' := d) (o := 43) (ci := 5) (N := 13) (T := cT5) (As := []) d_Ma_doTurn_1 ml_Ma_64 cC_43.1 cC_43.2 (by decide) rfl rfl (Nat.le_of_ble_eq_true rfl) (Nat.le_refl _) rfl (Cal.weak h (fun o w1 h => ?_))
  obtain ⟨x2, rfl, hx2, h⟩ := rA_of h
  refine v_astore_n (pc := 4) (ls' := [(1, vA x2), (0, vA 43)]) d_Ma_doTurn_4 rfl (by decide) rfl ?_
  refine v_aload_n (pc := 5) d_Ma_doTurn_5 rfl (.tail _ (.head _)) ?_
  refine v_geti (pc := 6) (x := (w1 43 4)) d_Ma_doTurn_6 fl_Ma_35 cC_43.1 cC_43.2 (Or.inl rfl) rfl ?_
  refine v_iconst (pc := 9) d_Ma_doTurn_9 (by decide) ?_
  refine v_iadd (pc := 10) d_Ma_doTurn_10 ?_
  refine v_bipush (pc := 11) d_Ma_doTurn_11 (by decide) rfl ?_
  refine v_irem (pc := 13) d_Ma_doTurn_13 (by decide) ?_
  refine v_istore_n (pc := 14) (ls' := [(2, vI (iRem (wr ((w1 43 4) + 1)) 8)), (1, vA x2), (0, vA 43)]) d_Ma_doTurn_14 rfl (by decide) rfl ?_
  refine v_aload_n (pc := 15) d_Ma_doTurn_15 rfl (.tail _ (.tail _ (.head _))) ?_
  refine v_getr (C := "") (pc := 16) (r := 44) d_Ma_doTurn_16 fl_Ma_13 cC_43.1 cC_43.2 (Or.inr ⟨_, rfl⟩) rC_43_3 ?_
  refine v_iload_n (pc := 19) d_Ma_doTurn_19 rfl (.head _) ?_
  have hb_ := h.1
  have hm3 : isMo (45 + 7 * (iRem (wr ((w1 43 4) + 1)) 8).toNat) := ⟨(iRem (wr ((w1 43 4) + 1)) 8).toNat, by omega, rfl⟩
  refine v_aald (pc := 20) (r := 45 + 7 * (iRem (wr ((w1 43 4) + 1)) 8).toNat) d_Ma_doTurn_20 cC_44.1 cC_44.2 (by decide) h.1 (rc_mom (by omega)) ?_
  replace h := h.2
  refine v_astore_n (pc := 21) (ls' := [(3, vA (45 + 7 * (iRem (wr ((w1 43 4) + 1)) 8).toNat)), (2, vI (iRem (wr ((w1 43 4) + 1)) 8)), (1, vA x2), (0, vA 43)]) d_Ma_doTurn_21 rfl (by decide) rfl ?_
  refine v_aload_n (pc := 22) d_Ma_doTurn_22 rfl (.head _) ?_
  refine v_aload_n (pc := 23) d_Ma_doTurn_23 rfl (.tail _ (.tail _ (.head _))) ?_
  refine v_aload_n (pc := 24) d_Ma_doTurn_24 rfl (.tail _ (.tail _ (.tail _ (.head _)))) ?_
  refine v_getr (C := "") (pc := 25) (r := 8) d_Ma_doTurn_25 fl_Ma_17 cC_43.1 cC_43.2 (Or.inl ⟨_, rfl⟩) rC_43_0 ?_
  refine v_callV (pc := 28) (J' := jMo_follow) (d' := d) (o := (45 + 7 * (iRem (wr ((w1 43 4) + 1)) 8).toNat)) (ci := 6) (N := 8) (T := cT6) (As := [vA x2, vA 8]) d_Ma_doTurn_28 ml_Ma_84 (mo_0 hm3).1 (mo_0 hm3).2 (by decide) rfl rfl (Nat.le_of_ble_eq_true rfl) (Nat.le_refl _) rfl (Cal.weak h (fun o w4 h => ?_))
  rcases rV_of h with ⟨rfl, h⟩
  refine v_aload_n (pc := 31) d_Ma_doTurn_31 rfl (.tail _ (.tail _ (.tail _ (.head _)))) ?_
  refine v_getr (C := "") (pc := 32) (r := 101) d_Ma_doTurn_32 fl_Ma_31 cC_43.1 cC_43.2 (Or.inl ⟨_, rfl⟩) rC_43_2 ?_
  refine v_aload_n (pc := 35) d_Ma_doTurn_35 rfl (.tail _ (.tail _ (.tail _ (.head _)))) ?_
  refine v_geti (pc := 36) (x := (w4 43 5)) d_Ma_doTurn_36 fl_Ma_43 cC_43.1 cC_43.2 (Or.inl rfl) rfl ?_
  refine v_aload_n (pc := 39) d_Ma_doTurn_39 rfl (.tail _ (.tail _ (.head _))) ?_
  refine v_aload_n (pc := 40) d_Ma_doTurn_40 rfl (.head _) ?_
  refine v_callV (pc := 41) (J' := jWo_setTurn) (d' := d) (o := 101) (ci := 10) (N := 18) (T := cT10) (As := [vI (w4 43 5), vA x2, vA (45 + 7 * (iRem (wr ((w1 43 4) + 1)) 8).toNat)]) d_Ma_doTurn_41 ml_Ma_88 cC_101.1 cC_101.2 (by decide) rfl rfl (Nat.le_of_ble_eq_true rfl) (Nat.le_refl _) rfl (Cal.weak h (fun o w5 h => ?_))
  rcases rV_of h with ⟨rfl, h⟩
  refine v_iconst (pc := 44) d_Ma_doTurn_44 (by decide) ?_
  refine v_istore (pc := 45) (ls' := [(4, vI 0), (3, vA (45 + 7 * (iRem (wr ((w1 43 4) + 1)) 8).toNat)), (2, vI (iRem (wr ((w1 43 4) + 1)) 8)), (1, vA x2), (0, vA 43)]) d_Ma_doTurn_45 (by decide) rfl ?_
  refine v_iconst (pc := 47) d_Ma_doTurn_47 (by decide) ?_
  refine v_istore (pc := 48) (ls' := [(5, vI 0), (4, vI 0), (3, vA (45 + 7 * (iRem (wr ((w1 43 4) + 1)) 8).toNat)), (2, vI (iRem (wr ((w1 43 4) + 1)) 8)), (1, vA x2), (0, vA 43)]) d_Ma_doTurn_48 (by decide) rfl ?_
  exact v_sub (List.forall_mem_cons.mpr ⟨(.tail _ (.tail _ (.tail _ (.tail _ (.tail _ (.head _)))))), (List.forall_mem_cons.mpr ⟨(.tail _ (.tail _ (.tail _ (.tail _ (.head _))))), (List.forall_mem_cons.mpr ⟨(.tail _ (.tail _ (.tail _ (.head _)))), (List.forall_mem_cons.mpr ⟨(.tail _ (.tail _ (.head _))), (List.forall_mem_cons.mpr ⟨(.tail _ (.head _)), (List.forall_mem_cons.mpr ⟨(.head _), (fun _ z => absurd z List.not_mem_nil)⟩)⟩)⟩)⟩)⟩)⟩) h
set_option maxHeartbeats 4000000 in
theorem s_Ma_doTurn_50 {g : Mg} {d : Nat} {K : Ou → Wd → Prop} {w : Wd} {q1 : Nat} (hq1 : isMo q1) {x2_ : Int} {q3 : Nat} (hq3 : isMo q3) {x4_ : Int} {x5_ : Int} (h : ((w 31 0) ≤ x5_ → (Cal g LC jMt_min d [vI (wr ((w 43 12) + 1)), vI 6] (up (up w 43 6 x4_) 43 4 x2_) (fun o w1 => rI o (fun x2 => K (.inl (some (vI 1))) (up w1 43 12 x2))))) ∧ (¬ (w 31 0) ≤ x5_ → ((0 ≤ x5_ ∧ x5_ < 40) ∧ (((w (q1 + 2) x5_.toNat) = 0 → ((0 ≤ x5_ ∧ x5_ < 40) ∧ (Cal g LC jWo_work d [vA 101, vI x5_] (up w (q3 + 2) (x5_.toNat) 0) (fun o w3 => rV o (((w3 101 16) = 0 → (V g LC jMa_doTurn (d + 1) K 50 [(0, vA 43), (1, vA q1), (2, vI x2_), (3, vA q3), (4, vI (wr (x4_ + (w3 101 15)))), (5, vI (wr (x5_ + 1)))] [] w3)) ∧ (¬ (w3 101 16) = 0 → (Cal g LC jMa_noteFailure d [vA 43, vI x5_, vI (w3 q1 0)] w3 (fun o w4 => rV o (K (.inl (some (vI 0))) w4))))))))) ∧ (¬ (w (q1 + 2) x5_.toNat) = 0 → (Cal g LC jMo_wakes d [vA q1, vI x5_] w (fun o w5 => rI o (fun x6 => (x6 = 0 → (V g LC jMa_doTurn (d + 1) K 50 [(0, vA 43), (1, vA q1), (2, vI x2_), (3, vA q3), (4, vI x4_), (5, vI (wr (x5_ + 1)))] [] w5)) ∧ (¬ x6 = 0 → ((0 ≤ x5_ ∧ x5_ < 40) ∧ (Cal g LC jWo_work d [vA 101, vI x5_] (up w5 (q3 + 2) (x5_.toNat) 0) (fun o w7 => rV o (((w7 101 16) = 0 → (V g LC jMa_doTurn (d + 1) K 50 [(0, vA 43), (1, vA q1), (2, vI x2_), (3, vA q3), (4, vI (wr (x4_ + (w7 101 15)))), (5, vI (wr (x5_ + 1)))] [] w7)) ∧ (¬ (w7 101 16) = 0 → (Cal g LC jMa_noteFailure d [vA 43, vI x5_, vI (w7 q1 0)] w7 (fun o w8 => rV o (K (.inl (some (vI 0))) w8))))))))))))))))) : V g LC jMa_doTurn (d + 1) K 50 [(0, vA 43), (1, vA q1), (2, vI x2_), (3, vA q3), (4, vI x4_), (5, vI x5_)] [] w := by
  refine v_iload (pc := 50) d_Ma_doTurn_50 (.tail _ (.tail _ (.tail _ (.tail _ (.tail _ (.head _)))))) ?_
  refine v_aload_n (pc := 52) d_Ma_doTurn_52 rfl (.head _) ?_
  refine v_getr (C := "") (pc := 53) (r := 31) d_Ma_doTurn_53 fl_Ma_21 cC_43.1 cC_43.2 (Or.inl ⟨_, rfl⟩) rC_43_1 ?_
  refine v_geti (pc := 56) (x := (w 31 0)) d_Ma_doTurn_56 fl_Ma_75 cC_31.1 cC_31.2 (Or.inl rfl) rfl ?_
  refine v_icmpge (pc := 59) (tgt := 138) d_Ma_doTurn_59 (by decide) (fun c => ?_) (fun c => ?_)
  · replace h := h.1 c
    refine v_aload_n (pc := 138) d_Ma_doTurn_138 rfl (.head _) ?_
    refine v_iload (pc := 139) d_Ma_doTurn_139 (.tail _ (.tail _ (.tail _ (.tail _ (.head _))))) ?_
    refine v_puti (pc := 141) d_Ma_doTurn_141 fp_Ma_49 cC_43.1 cC_43.2 (by decide) rfl ?_
    refine v_aload_n (pc := 144) d_Ma_doTurn_144 rfl (.head _) ?_
    refine v_iload_n (pc := 145) d_Ma_doTurn_145 rfl (.tail _ (.tail _ (.head _))) ?_
    refine v_puti (pc := 146) d_Ma_doTurn_146 fp_Ma_35 cC_43.1 cC_43.2 (by decide) rfl ?_
    refine v_aload_n (pc := 149) d_Ma_doTurn_149 rfl (.head _) ?_
    refine v_aload_n (pc := 150) d_Ma_doTurn_150 rfl (.head _) ?_
    refine v_geti (pc := 151) (x := (w 43 12)) d_Ma_doTurn_151 fl_Ma_46 cC_43.1 cC_43.2 (Or.inl rfl) rfl ?_
    refine v_iconst (pc := 154) d_Ma_doTurn_154 (by decide) ?_
    refine v_iadd (pc := 155) d_Ma_doTurn_155 ?_
    refine v_bipush (pc := 156) d_Ma_doTurn_156 (by decide) rfl ?_
    refine v_callS (pc := 158) (J' := jMt_min) (d' := d) (As := [vI (wr ((w 43 12) + 1)), vI 6]) d_Ma_doTurn_158 ml_Ma_115 rfl (Nat.le_of_ble_eq_true rfl) (Nat.le_refl _) rfl (Cal.weak h (fun o w1 h => ?_))
    rcases rI_of h with ⟨x2, rfl, h⟩
    refine v_puti (pc := 161) d_Ma_doTurn_161 fp_Ma_46 cC_43.1 cC_43.2 (by decide) rfl ?_
    refine v_iconst (pc := 164) d_Ma_doTurn_164 (by decide) ?_
    exact v_zret (pc := 165) d_Ma_doTurn_165 rfl (by decide) h
  · replace h := h.2 c
    refine v_aload_n (pc := 62) d_Ma_doTurn_62 rfl (.tail _ (.head _)) ?_
    refine v_getr (C := "") (pc := 63) (r := q1 + 2) d_Ma_doTurn_63 fl_Ma_92 (mo_0 hq1).1 (mo_0 hq1).2 (Or.inr ⟨_, rfl⟩) (mor_3 hq1) ?_
    refine v_iload (pc := 66) d_Ma_doTurn_66 (.tail _ (.tail _ (.tail _ (.tail _ (.tail _ (.head _)))))) ?_
    refine v_zald (pc := 68) (x := (w (q1 + 2) x5_.toNat)) d_Ma_doTurn_68 (mo_2 hq1).1 (mo_2 hq1).2 rfl h.1 ?_
    replace h := h.2
    refine v_ifeq (pc := 69) (tgt := 81) d_Ma_doTurn_69 (by decide) (fun c => ?_) (fun c => ?_)
    · replace h := h.1 c
      refine v_aload_n (pc := 81) d_Ma_doTurn_81 rfl (.tail _ (.tail _ (.tail _ (.head _)))) ?_
      refine v_getr (C := "") (pc := 82) (r := q3 + 2) d_Ma_doTurn_82 fl_Ma_92 (mo_0 hq3).1 (mo_0 hq3).2 (Or.inr ⟨_, rfl⟩) (mor_3 hq3) ?_
      refine v_iload (pc := 85) d_Ma_doTurn_85 (.tail _ (.tail _ (.tail _ (.tail _ (.tail _ (.head _)))))) ?_
      refine v_iconst (pc := 87) d_Ma_doTurn_87 (by decide) ?_
      refine v_zast (pc := 88) d_Ma_doTurn_88 (mo_2 hq3).1 (mo_2 hq3).2 (moa_2 hq3 _) (by decide) h.1 ?_
      replace h := h.2
      refine v_aload_n (pc := 89) d_Ma_doTurn_89 rfl (.head _) ?_
      refine v_getr (C := "") (pc := 90) (r := 101) d_Ma_doTurn_90 fl_Ma_31 cC_43.1 cC_43.2 (Or.inl ⟨_, rfl⟩) rC_43_2 ?_
      refine v_iload (pc := 93) d_Ma_doTurn_93 (.tail _ (.tail _ (.tail _ (.tail _ (.tail _ (.head _)))))) ?_
      refine v_callV (pc := 95) (J' := jWo_work) (d' := d) (o := 101) (ci := 10) (N := 18) (T := cT10) (As := [vI x5_]) d_Ma_doTurn_95 ml_Ma_100 cC_101.1 cC_101.2 (by decide) rfl rfl (Nat.le_of_ble_eq_true rfl) (Nat.le_refl _) rfl (Cal.weak h (fun o w3 h => ?_))
      rcases rV_of h with ⟨rfl, h⟩
      refine v_aload_n (pc := 98) d_Ma_doTurn_98 rfl (.head _) ?_
      refine v_getr (C := "") (pc := 99) (r := 101) d_Ma_doTurn_99 fl_Ma_31 cC_43.1 cC_43.2 (Or.inl ⟨_, rfl⟩) rC_43_2 ?_
      refine v_geti (pc := 102) (x := (w3 101 16)) d_Ma_doTurn_102 fl_Ma_104 cC_101.1 cC_101.2 (Or.inl rfl) rfl ?_
      refine v_ifeq (pc := 105) (tgt := 120) d_Ma_doTurn_105 (by decide) (fun c => ?_) (fun c => ?_)
      · replace h := h.1 c
        refine v_iload (pc := 120) d_Ma_doTurn_120 (.tail _ (.tail _ (.tail _ (.tail _ (.head _))))) ?_
        refine v_aload_n (pc := 122) d_Ma_doTurn_122 rfl (.head _) ?_
        refine v_getr (C := "") (pc := 123) (r := 101) d_Ma_doTurn_123 fl_Ma_31 cC_43.1 cC_43.2 (Or.inl ⟨_, rfl⟩) rC_43_2 ?_
        refine v_geti (pc := 126) (x := (w3 101 15)) d_Ma_doTurn_126 fl_Ma_112 cC_101.1 cC_101.2 (Or.inl rfl) rfl ?_
        refine v_iadd (pc := 129) d_Ma_doTurn_129 ?_
        refine v_istore (pc := 130) (ls' := [(4, vI (wr (x4_ + (w3 101 15)))), (0, vA 43), (1, vA q1), (2, vI x2_), (3, vA q3), (5, vI x5_)]) d_Ma_doTurn_130 (by decide) rfl ?_
        refine v_iinc (pc := 132) (ls' := [(5, vI (wr (x5_ + 1))), (4, vI (wr (x4_ + (w3 101 15)))), (0, vA 43), (1, vA q1), (2, vI x2_), (3, vA q3)]) d_Ma_doTurn_132 (.tail _ (.tail _ (.tail _ (.tail _ (.tail _ (.head _)))))) (by decide) rfl ?_
        refine v_goto (pc := 135) (tgt := 50) d_Ma_doTurn_135 (by decide) ?_
        exact v_sub (List.forall_mem_cons.mpr ⟨(.tail _ (.tail _ (.head _))), (List.forall_mem_cons.mpr ⟨(.tail _ (.tail _ (.tail _ (.head _)))), (List.forall_mem_cons.mpr ⟨(.tail _ (.tail _ (.tail _ (.tail _ (.head _))))), (List.forall_mem_cons.mpr ⟨(.tail _ (.tail _ (.tail _ (.tail _ (.tail _ (.head _)))))), (List.forall_mem_cons.mpr ⟨(.tail _ (.head _)), (List.forall_mem_cons.mpr ⟨(.head _), (fun _ z => absurd z List.not_mem_nil)⟩)⟩)⟩)⟩)⟩)⟩) h
      · replace h := h.2 c
        refine v_aload_n (pc := 108) d_Ma_doTurn_108 rfl (.head _) ?_
        refine v_iload (pc := 109) d_Ma_doTurn_109 (.tail _ (.tail _ (.tail _ (.tail _ (.tail _ (.head _)))))) ?_
        refine v_aload_n (pc := 111) d_Ma_doTurn_111 rfl (.tail _ (.head _)) ?_
        refine v_geti (pc := 112) (x := (w3 q1 0)) d_Ma_doTurn_112 fl_Ma_105 (mo_0 hq1).1 (mo_0 hq1).2 (Or.inl rfl) rfl ?_
        refine v_callV (pc := 115) (J' := jMa_noteFailure) (d' := d) (o := 43) (ci := 5) (N := 13) (T := cT5) (As := [vI x5_, vI (w3 q1 0)]) d_Ma_doTurn_115 ml_Ma_108 cC_43.1 cC_43.2 (by decide) rfl rfl (Nat.le_of_ble_eq_true rfl) (Nat.le_refl _) rfl (Cal.weak h (fun o w4 h => ?_))
        rcases rV_of h with ⟨rfl, h⟩
        refine v_iconst (pc := 118) d_Ma_doTurn_118 (by decide) ?_
        exact v_zret (pc := 119) d_Ma_doTurn_119 rfl (by decide) h
    · replace h := h.2 c
      refine v_aload_n (pc := 72) d_Ma_doTurn_72 rfl (.tail _ (.head _)) ?_
      refine v_iload (pc := 73) d_Ma_doTurn_73 (.tail _ (.tail _ (.tail _ (.tail _ (.tail _ (.head _)))))) ?_
      refine v_callV (pc := 75) (J' := jMo_wakes) (d' := d) (o := q1) (ci := 6) (N := 8) (T := cT6) (As := [vI x5_]) d_Ma_doTurn_75 ml_Ma_96 (mo_0 hq1).1 (mo_0 hq1).2 (by decide) rfl rfl (Nat.le_of_ble_eq_true rfl) (Nat.le_refl _) rfl (Cal.weak h (fun o w5 h => ?_))
      rcases rI_of h with ⟨x6, rfl, h⟩
      refine v_ifeq (pc := 78) (tgt := 132) d_Ma_doTurn_78 (by decide) (fun c => ?_) (fun c => ?_)
      · replace h := h.1 c
        refine v_iinc (pc := 132) (ls' := [(5, vI (wr (x5_ + 1))), (0, vA 43), (1, vA q1), (2, vI x2_), (3, vA q3), (4, vI x4_)]) d_Ma_doTurn_132 (.tail _ (.tail _ (.tail _ (.tail _ (.tail _ (.head _)))))) (by decide) rfl ?_
        refine v_goto (pc := 135) (tgt := 50) d_Ma_doTurn_135 (by decide) ?_
        exact v_sub (List.forall_mem_cons.mpr ⟨(.tail _ (.head _)), (List.forall_mem_cons.mpr ⟨(.tail _ (.tail _ (.head _))), (List.forall_mem_cons.mpr ⟨(.tail _ (.tail _ (.tail _ (.head _)))), (List.forall_mem_cons.mpr ⟨(.tail _ (.tail _ (.tail _ (.tail _ (.head _))))), (List.forall_mem_cons.mpr ⟨(.tail _ (.tail _ (.tail _ (.tail _ (.tail _ (.head _)))))), (List.forall_mem_cons.mpr ⟨(.head _), (fun _ z => absurd z List.not_mem_nil)⟩)⟩)⟩)⟩)⟩)⟩) h
      · replace h := h.2 c
        refine v_aload_n (pc := 81) d_Ma_doTurn_81 rfl (.tail _ (.tail _ (.tail _ (.head _)))) ?_
        refine v_getr (C := "") (pc := 82) (r := q3 + 2) d_Ma_doTurn_82 fl_Ma_92 (mo_0 hq3).1 (mo_0 hq3).2 (Or.inr ⟨_, rfl⟩) (mor_3 hq3) ?_
        refine v_iload (pc := 85) d_Ma_doTurn_85 (.tail _ (.tail _ (.tail _ (.tail _ (.tail _ (.head _)))))) ?_
        refine v_iconst (pc := 87) d_Ma_doTurn_87 (by decide) ?_
        refine v_zast (pc := 88) d_Ma_doTurn_88 (mo_2 hq3).1 (mo_2 hq3).2 (moa_2 hq3 _) (by decide) h.1 ?_
        replace h := h.2
        refine v_aload_n (pc := 89) d_Ma_doTurn_89 rfl (.head _) ?_
        refine v_getr (C := "") (pc := 90) (r := 101) d_Ma_doTurn_90 fl_Ma_31 cC_43.1 cC_43.2 (Or.inl ⟨_, rfl⟩) rC_43_2 ?_
        refine v_iload (pc := 93) d_Ma_doTurn_93 (.tail _ (.tail _ (.tail _ (.tail _ (.tail _ (.head _)))))) ?_
        refine v_callV (pc := 95) (J' := jWo_work) (d' := d) (o := 101) (ci := 10) (N := 18) (T := cT10) (As := [vI x5_]) d_Ma_doTurn_95 ml_Ma_100 cC_101.1 cC_101.2 (by decide) rfl rfl (Nat.le_of_ble_eq_true rfl) (Nat.le_refl _) rfl (Cal.weak h (fun o w7 h => ?_))
        rcases rV_of h with ⟨rfl, h⟩
        refine v_aload_n (pc := 98) d_Ma_doTurn_98 rfl (.head _) ?_
        refine v_getr (C := "") (pc := 99) (r := 101) d_Ma_doTurn_99 fl_Ma_31 cC_43.1 cC_43.2 (Or.inl ⟨_, rfl⟩) rC_43_2 ?_
        refine v_geti (pc := 102) (x := (w7 101 16)) d_Ma_doTurn_102 fl_Ma_104 cC_101.1 cC_101.2 (Or.inl rfl) rfl ?_
        refine v_ifeq (pc := 105) (tgt := 120) d_Ma_doTurn_105 (by decide) (fun c => ?_) (fun c => ?_)
        · replace h := h.1 c
          refine v_iload (pc := 120) d_Ma_doTurn_120 (.tail _ (.tail _ (.tail _ (.tail _ (.head _))))) ?_
          refine v_aload_n (pc := 122) d_Ma_doTurn_122 rfl (.head _) ?_
          refine v_getr (C := "") (pc := 123) (r := 101) d_Ma_doTurn_123 fl_Ma_31 cC_43.1 cC_43.2 (Or.inl ⟨_, rfl⟩) rC_43_2 ?_
          refine v_geti (pc := 126) (x := (w7 101 15)) d_Ma_doTurn_126 fl_Ma_112 cC_101.1 cC_101.2 (Or.inl rfl) rfl ?_
          refine v_iadd (pc := 129) d_Ma_doTurn_129 ?_
          refine v_istore (pc := 130) (ls' := [(4, vI (wr (x4_ + (w7 101 15)))), (0, vA 43), (1, vA q1), (2, vI x2_), (3, vA q3), (5, vI x5_)]) d_Ma_doTurn_130 (by decide) rfl ?_
          refine v_iinc (pc := 132) (ls' := [(5, vI (wr (x5_ + 1))), (4, vI (wr (x4_ + (w7 101 15)))), (0, vA 43), (1, vA q1), (2, vI x2_), (3, vA q3)]) d_Ma_doTurn_132 (.tail _ (.tail _ (.tail _ (.tail _ (.tail _ (.head _)))))) (by decide) rfl ?_
          refine v_goto (pc := 135) (tgt := 50) d_Ma_doTurn_135 (by decide) ?_
          exact v_sub (List.forall_mem_cons.mpr ⟨(.tail _ (.tail _ (.head _))), (List.forall_mem_cons.mpr ⟨(.tail _ (.tail _ (.tail _ (.head _)))), (List.forall_mem_cons.mpr ⟨(.tail _ (.tail _ (.tail _ (.tail _ (.head _))))), (List.forall_mem_cons.mpr ⟨(.tail _ (.tail _ (.tail _ (.tail _ (.tail _ (.head _)))))), (List.forall_mem_cons.mpr ⟨(.tail _ (.head _)), (List.forall_mem_cons.mpr ⟨(.head _), (fun _ z => absurd z List.not_mem_nil)⟩)⟩)⟩)⟩)⟩)⟩) h
        · replace h := h.2 c
          refine v_aload_n (pc := 108) d_Ma_doTurn_108 rfl (.head _) ?_
          refine v_iload (pc := 109) d_Ma_doTurn_109 (.tail _ (.tail _ (.tail _ (.tail _ (.tail _ (.head _)))))) ?_
          refine v_aload_n (pc := 111) d_Ma_doTurn_111 rfl (.tail _ (.head _)) ?_
          refine v_geti (pc := 112) (x := (w7 q1 0)) d_Ma_doTurn_112 fl_Ma_105 (mo_0 hq1).1 (mo_0 hq1).2 (Or.inl rfl) rfl ?_
          refine v_callV (pc := 115) (J' := jMa_noteFailure) (d' := d) (o := 43) (ci := 5) (N := 13) (T := cT5) (As := [vI x5_, vI (w7 q1 0)]) d_Ma_doTurn_115 ml_Ma_108 cC_43.1 cC_43.2 (by decide) rfl rfl (Nat.le_of_ble_eq_true rfl) (Nat.le_refl _) rfl (Cal.weak h (fun o w8 h => ?_))
          rcases rV_of h with ⟨rfl, h⟩
          refine v_iconst (pc := 118) d_Ma_doTurn_118 (by decide) ?_
          exact v_zret (pc := 119) d_Ma_doTurn_119 rfl (by decide) h
theorem d_Ma_noteFailure_0 : decode jMa_noteFailure.cc 0 = .ok (.aload_n 0, 1) := by decide +kernel
theorem d_Ma_noteFailure_1 : decode jMa_noteFailure.cc 1 = .ok (.aload_n 0, 1) := by decide +kernel
theorem d_Ma_noteFailure_2 : decode jMa_noteFailure.cc 2 = .ok (.getfield 31, 3) := by decide +kernel
theorem d_Ma_noteFailure_5 : decode jMa_noteFailure.cc 5 = .ok (.getfield 104, 3) := by decide +kernel
theorem d_Ma_noteFailure_8 : decode jMa_noteFailure.cc 8 = .ok (.putfield 52, 3) := by decide +kernel
theorem d_Ma_noteFailure_11 : decode jMa_noteFailure.cc 11 = .ok (.aload_n 0, 1) := by decide +kernel
theorem d_Ma_noteFailure_12 : decode jMa_noteFailure.cc 12 = .ok (.iload_n 1, 1) := by decide +kernel
theorem d_Ma_noteFailure_13 : decode jMa_noteFailure.cc 13 = .ok (.putfield 55, 3) := by decide +kernel
theorem d_Ma_noteFailure_16 : decode jMa_noteFailure.cc 16 = .ok (.aload_n 0, 1) := by decide +kernel
theorem d_Ma_noteFailure_17 : decode jMa_noteFailure.cc 17 = .ok (.aload_n 0, 1) := by decide +kernel
theorem d_Ma_noteFailure_18 : decode jMa_noteFailure.cc 18 = .ok (.getfield 31, 3) := by decide +kernel
theorem d_Ma_noteFailure_21 : decode jMa_noteFailure.cc 21 = .ok (.getfield 121, 3) := by decide +kernel
theorem d_Ma_noteFailure_24 : decode jMa_noteFailure.cc 24 = .ok (.putfield 58, 3) := by decide +kernel
theorem d_Ma_noteFailure_27 : decode jMa_noteFailure.cc 27 = .ok (.aload_n 0, 1) := by decide +kernel
theorem d_Ma_noteFailure_28 : decode jMa_noteFailure.cc 28 = .ok (.iload_n 2, 1) := by decide +kernel
theorem d_Ma_noteFailure_29 : decode jMa_noteFailure.cc 29 = .ok (.putfield 61, 3) := by decide +kernel
theorem d_Ma_noteFailure_32 : decode jMa_noteFailure.cc 32 = .ok (.return_, 1) := by decide +kernel
set_option maxHeartbeats 4000000 in
theorem s_Ma_noteFailure {g : Mg} {d : Nat} {K : Ou → Wd → Prop} {w : Wd} {p1 : Int} {p2 : Int} (h : K (.inl none) (up (up (up (up w 43 7 (w 101 16)) 43 8 p1) 43 9 (w 101 17)) 43 10 p2)) : V g LC jMa_noteFailure d K 0 [(0, vA 43), (1, vI p1), (2, vI p2)] [] w := by
  refine v_aload_n (pc := 0) d_Ma_noteFailure_0 rfl (.head _) ?_
  refine v_aload_n (pc := 1) d_Ma_noteFailure_1 rfl (.head _) ?_
  refine v_getr (C := "") (pc := 2) (r := 101) d_Ma_noteFailure_2 fl_Ma_31 cC_43.1 cC_43.2 (Or.inl ⟨_, rfl⟩) rC_43_2 ?_
  refine v_geti (pc := 5) (x := (w 101 16)) d_Ma_noteFailure_5 fl_Ma_104 cC_101.1 cC_101.2 (Or.inl rfl) rfl ?_
  refine v_puti (pc := 8) d_Ma_noteFailure_8 fp_Ma_52 cC_43.1 cC_43.2 (by decide) rfl ?_
  refine v_aload_n (pc := 11) d_Ma_noteFailure_11 rfl (.head _) ?_
  refine v_iload_n (pc := 12) d_Ma_noteFailure_12 rfl (.tail _ (.head _)) ?_
  refine v_puti (pc := 13) d_Ma_noteFailure_13 fp_Ma_55 cC_43.1 cC_43.2 (by decide) rfl ?_
  refine v_aload_n (pc := 16) d_Ma_noteFailure_16 rfl (.head _) ?_
  refine v_aload_n (pc := 17) d_Ma_noteFailure_17 rfl (.head _) ?_
  refine v_getr (C := "") (pc := 18) (r := 101) d_Ma_noteFailure_18 fl_Ma_31 cC_43.1 cC_43.2 (Or.inl ⟨_, rfl⟩) rC_43_2 ?_
  refine v_geti (pc := 21) (x := (w 101 17)) d_Ma_noteFailure_21 fl_Ma_121 cC_101.1 cC_101.2 (Or.inl rfl) rfl ?_
  refine v_puti (pc := 24) d_Ma_noteFailure_24 fp_Ma_58 cC_43.1 cC_43.2 (by decide) rfl ?_
  refine v_aload_n (pc := 27) d_Ma_noteFailure_27 rfl (.head _) ?_
  refine v_iload_n (pc := 28) d_Ma_noteFailure_28 rfl (.tail _ (.tail _ (.head _))) ?_
  refine v_puti (pc := 29) d_Ma_noteFailure_29 fp_Ma_61 cC_43.1 cC_43.2 (by decide) rfl ?_
  exact v_vret (pc := 32) d_Ma_noteFailure_32 rfl h
theorem d_Ma_goBack_0 : decode jMa_goBack.cc 0 = .ok (.aload_n 0, 1) := by decide +kernel
theorem d_Ma_goBack_1 : decode jMa_goBack.cc 1 = .ok (.getfield 46, 3) := by decide +kernel
theorem d_Ma_goBack_4 : decode jMa_goBack.cc 4 = .ok (.ifCond .le 29, 3) := by decide +kernel
theorem d_Ma_goBack_7 : decode jMa_goBack.cc 7 = .ok (.aload_n 0, 1) := by decide +kernel
theorem d_Ma_goBack_8 : decode jMa_goBack.cc 8 = .ok (.dup, 1) := by decide +kernel
theorem d_Ma_goBack_9 : decode jMa_goBack.cc 9 = .ok (.getfield 46, 3) := by decide +kernel
theorem d_Ma_goBack_12 : decode jMa_goBack.cc 12 = .ok (.iconst 1, 1) := by decide +kernel
theorem d_Ma_goBack_13 : decode jMa_goBack.cc 13 = .ok (.isub, 1) := by decide +kernel
theorem d_Ma_goBack_14 : decode jMa_goBack.cc 14 = .ok (.putfield 46, 3) := by decide +kernel
theorem d_Ma_goBack_17 : decode jMa_goBack.cc 17 = .ok (.aload_n 0, 1) := by decide +kernel
theorem d_Ma_goBack_18 : decode jMa_goBack.cc 18 = .ok (.aload_n 0, 1) := by decide +kernel
theorem d_Ma_goBack_19 : decode jMa_goBack.cc 19 = .ok (.getfield 35, 3) := by decide +kernel
theorem d_Ma_goBack_22 : decode jMa_goBack.cc 22 = .ok (.bipush 8, 2) := by decide +kernel
theorem d_Ma_goBack_24 : decode jMa_goBack.cc 24 = .ok (.iadd, 1) := by decide +kernel
theorem d_Ma_goBack_25 : decode jMa_goBack.cc 25 = .ok (.iconst 1, 1) := by decide +kernel
theorem d_Ma_goBack_26 : decode jMa_goBack.cc 26 = .ok (.isub, 1) := by decide +kernel
theorem d_Ma_goBack_27 : decode jMa_goBack.cc 27 = .ok (.bipush 8, 2) := by decide +kernel
theorem d_Ma_goBack_29 : decode jMa_goBack.cc 29 = .ok (.irem, 1) := by decide +kernel
theorem d_Ma_goBack_30 : decode jMa_goBack.cc 30 = .ok (.putfield 35, 3) := by decide +kernel
theorem d_Ma_goBack_33 : decode jMa_goBack.cc 33 = .ok (.return_, 1) := by decide +kernel
set_option maxHeartbeats 4000000 in
theorem s_Ma_goBack {g : Mg} {d : Nat} {K : Ou → Wd → Prop} {w : Wd} (h : ((w 43 12) ≤ 0 → (K (.inl none) w)) ∧ (¬ (w 43 12) ≤ 0 → (K (.inl none) (up (up w 43 12 (wr ((w 43 12) - 1))) 43 4 (iRem (wr ((wr ((w 43 4) + 8)) - 1)) 8))))) : V g LC jMa_goBack d K 0 [(0, vA 43)] [] w := by
  refine v_aload_n (pc := 0) d_Ma_goBack_0 rfl (.head _) ?_
  refine v_geti (pc := 1) (x := (w 43 12)) d_Ma_goBack_1 fl_Ma_46 cC_43.1 cC_43.2 (Or.inl rfl) rfl ?_
  refine v_ifle (pc := 4) (tgt := 33) d_Ma_goBack_4 (by decide) (fun c => ?_) (fun c => ?_)
  · replace h := h.1 c
    exact v_vret (pc := 33) d_Ma_goBack_33 rfl h
  · replace h := h.2 c
    refine v_aload_n (pc := 7) d_Ma_goBack_7 rfl (.head _) ?_
    refine v_dup (pc := 8) d_Ma_goBack_8 rfl ?_
    refine v_geti (pc := 9) (x := (w 43 12)) d_Ma_goBack_9 fl_Ma_46 cC_43.1 cC_43.2 (Or.inl rfl) rfl ?_
    refine v_iconst (pc := 12) d_Ma_goBack_12 (by decide) ?_
    refine v_isub (pc := 13) d_Ma_goBack_13 ?_
    refine v_puti (pc := 14) d_Ma_goBack_14 fp_Ma_46 cC_43.1 cC_43.2 (by decide) rfl ?_
    refine v_aload_n (pc := 17) d_Ma_goBack_17 rfl (.head _) ?_
    refine v_aload_n (pc := 18) d_Ma_goBack_18 rfl (.head _) ?_
    refine v_geti (pc := 19) (x := (w 43 4)) d_Ma_goBack_19 fl_Ma_35 cC_43.1 cC_43.2 (Or.inl rfl) rfl ?_
    refine v_bipush (pc := 22) d_Ma_goBack_22 (by decide) rfl ?_
    refine v_iadd (pc := 24) d_Ma_goBack_24 ?_
    refine v_iconst (pc := 25) d_Ma_goBack_25 (by decide) ?_
    refine v_isub (pc := 26) d_Ma_goBack_26 ?_
    refine v_bipush (pc := 27) d_Ma_goBack_27 (by decide) rfl ?_
    refine v_irem (pc := 29) d_Ma_goBack_29 (by decide) ?_
    refine v_puti (pc := 30) d_Ma_goBack_30 fp_Ma_35 cC_43.1 cC_43.2 (by decide) rfl ?_
    exact v_vret (pc := 33) d_Ma_goBack_33 rfl h
theorem d_Ma_tell_0 : decode jMa_tell.cc 0 = .ok (.iload_n 1, 1) := by decide +kernel
theorem d_Ma_tell_1 : decode jMa_tell.cc 1 = .ok (.tableswitch 129 0 9 #[55, 63, 76, 84, 99, 104, 109, 114, 119, 124], 55) := by decide +kernel
theorem d_Ma_tell_56 : decode jMa_tell.cc 56 = .ok (.aload_n 0, 1) := by decide +kernel
theorem d_Ma_tell_57 : decode jMa_tell.cc 57 = .ok (.invokevirtual 64, 3) := by decide +kernel
theorem d_Ma_tell_60 : decode jMa_tell.cc 60 = .ok (.getfield 105, 3) := by decide +kernel
theorem d_Ma_tell_63 : decode jMa_tell.cc 63 = .ok (.ireturn, 1) := by decide +kernel
theorem d_Ma_tell_64 : decode jMa_tell.cc 64 = .ok (.aload_n 0, 1) := by decide +kernel
theorem d_Ma_tell_65 : decode jMa_tell.cc 65 = .ok (.invokevirtual 122, 3) := by decide +kernel
theorem d_Ma_tell_68 : decode jMa_tell.cc 68 = .ok (.ifCond .eq 7, 3) := by decide +kernel
theorem d_Ma_tell_71 : decode jMa_tell.cc 71 = .ok (.iconst 1, 1) := by decide +kernel
theorem d_Ma_tell_72 : decode jMa_tell.cc 72 = .ok (.goto 4, 3) := by decide +kernel
theorem d_Ma_tell_75 : decode jMa_tell.cc 75 = .ok (.iconst 0, 1) := by decide +kernel
theorem d_Ma_tell_76 : decode jMa_tell.cc 76 = .ok (.ireturn, 1) := by decide +kernel
theorem d_Ma_tell_77 : decode jMa_tell.cc 77 = .ok (.aload_n 0, 1) := by decide +kernel
theorem d_Ma_tell_78 : decode jMa_tell.cc 78 = .ok (.invokevirtual 64, 3) := by decide +kernel
theorem d_Ma_tell_81 : decode jMa_tell.cc 81 = .ok (.getfield 72, 3) := by decide +kernel
theorem d_Ma_tell_84 : decode jMa_tell.cc 84 = .ok (.ireturn, 1) := by decide +kernel
theorem d_Ma_tell_85 : decode jMa_tell.cc 85 = .ok (.aload_n 0, 1) := by decide +kernel
theorem d_Ma_tell_86 : decode jMa_tell.cc 86 = .ok (.invokevirtual 64, 3) := by decide +kernel
theorem d_Ma_tell_89 : decode jMa_tell.cc 89 = .ok (.aload_n 0, 1) := by decide +kernel
theorem d_Ma_tell_90 : decode jMa_tell.cc 90 = .ok (.getfield 21, 3) := by decide +kernel
theorem d_Ma_tell_93 : decode jMa_tell.cc 93 = .ok (.getfield 75, 3) := by decide +kernel
theorem d_Ma_tell_96 : decode jMa_tell.cc 96 = .ok (.invokevirtual 80, 3) := by decide +kernel
theorem d_Ma_tell_99 : decode jMa_tell.cc 99 = .ok (.ireturn, 1) := by decide +kernel
theorem d_Ma_tell_100 : decode jMa_tell.cc 100 = .ok (.aload_n 0, 1) := by decide +kernel
theorem d_Ma_tell_101 : decode jMa_tell.cc 101 = .ok (.getfield 52, 3) := by decide +kernel
theorem d_Ma_tell_104 : decode jMa_tell.cc 104 = .ok (.ireturn, 1) := by decide +kernel
theorem d_Ma_tell_105 : decode jMa_tell.cc 105 = .ok (.aload_n 0, 1) := by decide +kernel
theorem d_Ma_tell_106 : decode jMa_tell.cc 106 = .ok (.getfield 55, 3) := by decide +kernel
theorem d_Ma_tell_109 : decode jMa_tell.cc 109 = .ok (.ireturn, 1) := by decide +kernel
theorem d_Ma_tell_110 : decode jMa_tell.cc 110 = .ok (.aload_n 0, 1) := by decide +kernel
theorem d_Ma_tell_111 : decode jMa_tell.cc 111 = .ok (.getfield 58, 3) := by decide +kernel
theorem d_Ma_tell_114 : decode jMa_tell.cc 114 = .ok (.ireturn, 1) := by decide +kernel
theorem d_Ma_tell_115 : decode jMa_tell.cc 115 = .ok (.aload_n 0, 1) := by decide +kernel
theorem d_Ma_tell_116 : decode jMa_tell.cc 116 = .ok (.getfield 61, 3) := by decide +kernel
theorem d_Ma_tell_119 : decode jMa_tell.cc 119 = .ok (.ireturn, 1) := by decide +kernel
theorem d_Ma_tell_120 : decode jMa_tell.cc 120 = .ok (.aload_n 0, 1) := by decide +kernel
theorem d_Ma_tell_121 : decode jMa_tell.cc 121 = .ok (.getfield 46, 3) := by decide +kernel
theorem d_Ma_tell_124 : decode jMa_tell.cc 124 = .ok (.ireturn, 1) := by decide +kernel
theorem d_Ma_tell_125 : decode jMa_tell.cc 125 = .ok (.aload_n 0, 1) := by decide +kernel
theorem d_Ma_tell_126 : decode jMa_tell.cc 126 = .ok (.getfield 49, 3) := by decide +kernel
theorem d_Ma_tell_129 : decode jMa_tell.cc 129 = .ok (.ireturn, 1) := by decide +kernel
theorem d_Ma_tell_130 : decode jMa_tell.cc 130 = .ok (.iconst (-1), 1) := by decide +kernel
theorem d_Ma_tell_131 : decode jMa_tell.cc 131 = .ok (.ireturn, 1) := by decide +kernel
set_option maxHeartbeats 4000000 in
theorem s_Ma_tell {g : Mg} {d : Nat} {K : Ou → Wd → Prop} {w : Wd} {p1 : Int} (h : ((p1 < 0 ∨ 9 < p1) → (K (.inl (some (vI (-1)))) w)) ∧ (p1 = 0 → (Cal g LC jMa_now d [vA 43] w (fun o w1 => rA o (fun x2 => isMo x2 ∧ (K (.inl (some (vI (w1 x2 0)))) w1))))) ∧ (p1 = 1 → (Cal g LC jMa_hasEnded d [vA 43] w (fun o w3 => rI o (fun x4 => (x4 = 0 → (K (.inl (some (vI 0))) w3)) ∧ (¬ x4 = 0 → (K (.inl (some (vI 1))) w3)))))) ∧ (p1 = 2 → (Cal g LC jMa_now d [vA 43] w (fun o w5 => rA o (fun x6 => isMo x6 ∧ (K (.inl (some (vI (w5 x6 1)))) w5))))) ∧ (p1 = 3 → (Cal g LC jMa_now d [vA 43] w (fun o w7 => rA o (fun x8 => isMo x8 ∧ (Cal g LC jMo_restingOf d [vA x8, vI (w7 31 0)] w7 (fun o w9 => rI o (fun x10 => K (.inl (some (vI x10))) w9))))))) ∧ (p1 = 4 → (K (.inl (some (vI (w 43 7)))) w)) ∧ (p1 = 5 → (K (.inl (some (vI (w 43 8)))) w)) ∧ (p1 = 6 → (K (.inl (some (vI (w 43 9)))) w)) ∧ (p1 = 7 → (K (.inl (some (vI (w 43 10)))) w)) ∧ (p1 = 8 → (K (.inl (some (vI (w 43 12)))) w)) ∧ (p1 = 9 → (K (.inl (some (vI (w 43 6)))) w))) : V g LC jMa_tell (d + 1) K 0 [(0, vA 43), (1, vI p1)] [] w := by
  refine v_iload_n (pc := 0) d_Ma_tell_0 rfl (.tail _ (.head _)) ?_
  refine v_table (pc := 1) (tgd := 130) (tgs := [56, 64, 77, 85, 100, 105, 110, 115, 120, 125]) d_Ma_tell_1 (by decide) (by decide) (by decide) (fun c => ?_) ⟨fun c => ?_, fun c => ?_, fun c => ?_, fun c => ?_, fun c => ?_, fun c => ?_, fun c => ?_, fun c => ?_, fun c => ?_, fun c => ?_, trivial⟩
  · replace h := h.1 c
    refine v_iconst (pc := 130) d_Ma_tell_130 (by decide) ?_
    exact v_iret (pc := 131) d_Ma_tell_131 rfl h
  · replace h := h.2.1 c
    refine v_aload_n (pc := 56) d_Ma_tell_56 rfl (.head _) ?_
    refine v_callV (pc := 57) (J' := jMa_now) (d' := d) (o := 43) (ci := 5) (N := 13) (T := cT5) (As := []) d_Ma_tell_57 ml_Ma_64 cC_43.1 cC_43.2 (by decide) rfl rfl (Nat.le_of_ble_eq_true rfl) (Nat.le_refl _) rfl (Cal.weak h (fun o w1 h => ?_))
    obtain ⟨x2, rfl, hx2, h⟩ := rA_of h
    refine v_geti (pc := 60) (x := (w1 x2 0)) d_Ma_tell_60 fl_Ma_105 (mo_0 hx2).1 (mo_0 hx2).2 (Or.inl rfl) rfl ?_
    exact v_iret (pc := 63) d_Ma_tell_63 rfl h
  · replace h := h.2.2.1 c
    refine v_aload_n (pc := 64) d_Ma_tell_64 rfl (.head _) ?_
    refine v_callV (pc := 65) (J' := jMa_hasEnded) (d' := d) (o := 43) (ci := 5) (N := 13) (T := cT5) (As := []) d_Ma_tell_65 ml_Ma_122 cC_43.1 cC_43.2 (by decide) rfl rfl (Nat.le_of_ble_eq_true rfl) (Nat.le_refl _) rfl (Cal.weak h (fun o w3 h => ?_))
    rcases rI_of h with ⟨x4, rfl, h⟩
    refine v_ifeq (pc := 68) (tgt := 75) d_Ma_tell_68 (by decide) (fun c => ?_) (fun c => ?_)
    · replace h := h.1 c
      refine v_iconst (pc := 75) d_Ma_tell_75 (by decide) ?_
      exact v_iret (pc := 76) d_Ma_tell_76 rfl h
    · replace h := h.2 c
      refine v_iconst (pc := 71) d_Ma_tell_71 (by decide) ?_
      refine v_goto (pc := 72) (tgt := 76) d_Ma_tell_72 (by decide) ?_
      exact v_iret (pc := 76) d_Ma_tell_76 rfl h
  · replace h := h.2.2.2.1 c
    refine v_aload_n (pc := 77) d_Ma_tell_77 rfl (.head _) ?_
    refine v_callV (pc := 78) (J' := jMa_now) (d' := d) (o := 43) (ci := 5) (N := 13) (T := cT5) (As := []) d_Ma_tell_78 ml_Ma_64 cC_43.1 cC_43.2 (by decide) rfl rfl (Nat.le_of_ble_eq_true rfl) (Nat.le_refl _) rfl (Cal.weak h (fun o w5 h => ?_))
    obtain ⟨x6, rfl, hx6, h⟩ := rA_of h
    refine v_geti (pc := 81) (x := (w5 x6 1)) d_Ma_tell_81 fl_Ma_72 (mo_0 hx6).1 (mo_0 hx6).2 (Or.inl rfl) rfl ?_
    exact v_iret (pc := 84) d_Ma_tell_84 rfl h
  · replace h := h.2.2.2.2.1 c
    refine v_aload_n (pc := 85) d_Ma_tell_85 rfl (.head _) ?_
    refine v_callV (pc := 86) (J' := jMa_now) (d' := d) (o := 43) (ci := 5) (N := 13) (T := cT5) (As := []) d_Ma_tell_86 ml_Ma_64 cC_43.1 cC_43.2 (by decide) rfl rfl (Nat.le_of_ble_eq_true rfl) (Nat.le_refl _) rfl (Cal.weak h (fun o w7 h => ?_))
    obtain ⟨x8, rfl, hx8, h⟩ := rA_of h
    refine v_aload_n (pc := 89) d_Ma_tell_89 rfl (.head _) ?_
    refine v_getr (C := "") (pc := 90) (r := 31) d_Ma_tell_90 fl_Ma_21 cC_43.1 cC_43.2 (Or.inl ⟨_, rfl⟩) rC_43_1 ?_
    refine v_geti (pc := 93) (x := (w7 31 0)) d_Ma_tell_93 fl_Ma_75 cC_31.1 cC_31.2 (Or.inl rfl) rfl ?_
    refine v_callV (pc := 96) (J' := jMo_restingOf) (d' := d) (o := x8) (ci := 6) (N := 8) (T := cT6) (As := [vI (w7 31 0)]) d_Ma_tell_96 ml_Ma_80 (mo_0 hx8).1 (mo_0 hx8).2 (by decide) rfl rfl (Nat.le_of_ble_eq_true rfl) (Nat.le_refl _) rfl (Cal.weak h (fun o w9 h => ?_))
    rcases rI_of h with ⟨x10, rfl, h⟩
    exact v_iret (pc := 99) d_Ma_tell_99 rfl h
  · replace h := h.2.2.2.2.2.1 c
    refine v_aload_n (pc := 100) d_Ma_tell_100 rfl (.head _) ?_
    refine v_geti (pc := 101) (x := (w 43 7)) d_Ma_tell_101 fl_Ma_52 cC_43.1 cC_43.2 (Or.inl rfl) rfl ?_
    exact v_iret (pc := 104) d_Ma_tell_104 rfl h
  · replace h := h.2.2.2.2.2.2.1 c
    refine v_aload_n (pc := 105) d_Ma_tell_105 rfl (.head _) ?_
    refine v_geti (pc := 106) (x := (w 43 8)) d_Ma_tell_106 fl_Ma_55 cC_43.1 cC_43.2 (Or.inl rfl) rfl ?_
    exact v_iret (pc := 109) d_Ma_tell_109 rfl h
  · replace h := h.2.2.2.2.2.2.2.1 c
    refine v_aload_n (pc := 110) d_Ma_tell_110 rfl (.head _) ?_
    refine v_geti (pc := 111) (x := (w 43 9)) d_Ma_tell_111 fl_Ma_58 cC_43.1 cC_43.2 (Or.inl rfl) rfl ?_
    exact v_iret (pc := 114) d_Ma_tell_114 rfl h
  · replace h := h.2.2.2.2.2.2.2.2.1 c
    refine v_aload_n (pc := 115) d_Ma_tell_115 rfl (.head _) ?_
    refine v_geti (pc := 116) (x := (w 43 10)) d_Ma_tell_116 fl_Ma_61 cC_43.1 cC_43.2 (Or.inl rfl) rfl ?_
    exact v_iret (pc := 119) d_Ma_tell_119 rfl h
  · replace h := h.2.2.2.2.2.2.2.2.2.1 c
    refine v_aload_n (pc := 120) d_Ma_tell_120 rfl (.head _) ?_
    refine v_geti (pc := 121) (x := (w 43 12)) d_Ma_tell_121 fl_Ma_46 cC_43.1 cC_43.2 (Or.inl rfl) rfl ?_
    exact v_iret (pc := 124) d_Ma_tell_124 rfl h
  · replace h := h.2.2.2.2.2.2.2.2.2.2 c
    refine v_aload_n (pc := 125) d_Ma_tell_125 rfl (.head _) ?_
    refine v_geti (pc := 126) (x := (w 43 6)) d_Ma_tell_126 fl_Ma_49 cC_43.1 cC_43.2 (Or.inl rfl) rfl ?_
    exact v_iret (pc := 129) d_Ma_tell_129 rfl h
theorem d_VL_feed_0 : decode jVL_feed.cc 0 = .ok (.aload_n 0, 1) := by decide +kernel
theorem d_VL_feed_1 : decode jVL_feed.cc 1 = .ok (.getfield 54, 3) := by decide +kernel
theorem d_VL_feed_4 : decode jVL_feed.cc 4 = .ok (.bipush 20, 2) := by decide +kernel
theorem d_VL_feed_6 : decode jVL_feed.cc 6 = .ok (.iadd, 1) := by decide +kernel
theorem d_VL_feed_7 : decode jVL_feed.cc 7 = .ok (.aload_n 0, 1) := by decide +kernel
theorem d_VL_feed_8 : decode jVL_feed.cc 8 = .ok (.getfield 9, 3) := by decide +kernel
theorem d_VL_feed_11 : decode jVL_feed.cc 11 = .ok (.arraylength, 1) := by decide +kernel
theorem d_VL_feed_12 : decode jVL_feed.cc 12 = .ok (.if_icmp .le 6, 3) := by decide +kernel
theorem d_VL_feed_15 : decode jVL_feed.cc 15 = .ok (.bipush (-3), 2) := by decide +kernel
theorem d_VL_feed_17 : decode jVL_feed.cc 17 = .ok (.ireturn, 1) := by decide +kernel
theorem d_VL_feed_18 : decode jVL_feed.cc 18 = .ok (.aload_n 0, 1) := by decide +kernel
theorem d_VL_feed_19 : decode jVL_feed.cc 19 = .ok (.iload_n 1, 1) := by decide +kernel
theorem d_VL_feed_20 : decode jVL_feed.cc 20 = .ok (.invokevirtual 58, 3) := by decide +kernel
theorem d_VL_feed_23 : decode jVL_feed.cc 23 = .ok (.aload_n 0, 1) := by decide +kernel
theorem d_VL_feed_24 : decode jVL_feed.cc 24 = .ok (.iload_n 2, 1) := by decide +kernel
theorem d_VL_feed_25 : decode jVL_feed.cc 25 = .ok (.invokevirtual 58, 3) := by decide +kernel
theorem d_VL_feed_28 : decode jVL_feed.cc 28 = .ok (.aload_n 0, 1) := by decide +kernel
theorem d_VL_feed_29 : decode jVL_feed.cc 29 = .ok (.iload_n 3, 1) := by decide +kernel
theorem d_VL_feed_30 : decode jVL_feed.cc 30 = .ok (.invokevirtual 58, 3) := by decide +kernel
theorem d_VL_feed_33 : decode jVL_feed.cc 33 = .ok (.aload_n 0, 1) := by decide +kernel
theorem d_VL_feed_34 : decode jVL_feed.cc 34 = .ok (.iload 4, 2) := by decide +kernel
theorem d_VL_feed_36 : decode jVL_feed.cc 36 = .ok (.invokevirtual 58, 3) := by decide +kernel
theorem d_VL_feed_39 : decode jVL_feed.cc 39 = .ok (.aload_n 0, 1) := by decide +kernel
theorem d_VL_feed_40 : decode jVL_feed.cc 40 = .ok (.iload 5, 2) := by decide +kernel
theorem d_VL_feed_42 : decode jVL_feed.cc 42 = .ok (.invokevirtual 58, 3) := by decide +kernel
theorem d_VL_feed_45 : decode jVL_feed.cc 45 = .ok (.aload_n 0, 1) := by decide +kernel
theorem d_VL_feed_46 : decode jVL_feed.cc 46 = .ok (.getfield 54, 3) := by decide +kernel
theorem d_VL_feed_49 : decode jVL_feed.cc 49 = .ok (.ireturn, 1) := by decide +kernel
set_option maxHeartbeats 4000000 in
theorem s_VL_feed {g : Mg} {d : Nat} {K : Ou → Wd → Prop} {w : Wd} {p1 : Int} {p2 : Int} {p3 : Int} {p4 : Int} {p5 : Int} (h : ((wr ((w 0 1) + 20)) ≤ 4000 → (Cal g LC jVL_putOnTape d [vA 0, vI p1] w (fun o w1 => rV o (Cal g LC jVL_putOnTape d [vA 0, vI p2] w1 (fun o w2 => rV o (Cal g LC jVL_putOnTape d [vA 0, vI p3] w2 (fun o w3 => rV o (Cal g LC jVL_putOnTape d [vA 0, vI p4] w3 (fun o w4 => rV o (Cal g LC jVL_putOnTape d [vA 0, vI p5] w4 (fun o w5 => rV o (K (.inl (some (vI (w5 0 1)))) w5)))))))))))) ∧ (¬ (wr ((w 0 1) + 20)) ≤ 4000 → (K (.inl (some (vI (-3)))) w))) : V g LC jVL_feed (d + 1) K 0 [(0, vA 0), (1, vI p1), (2, vI p2), (3, vI p3), (4, vI p4), (5, vI p5)] [] w := by
  refine v_aload_n (pc := 0) d_VL_feed_0 rfl (.head _) ?_
  refine v_geti (pc := 1) (x := (w 0 1)) d_VL_feed_1 fl_VL_54 cC_0.1 cC_0.2 (Or.inl rfl) rfl ?_
  refine v_bipush (pc := 4) d_VL_feed_4 (by decide) rfl ?_
  refine v_iadd (pc := 6) d_VL_feed_6 ?_
  refine v_aload_n (pc := 7) d_VL_feed_7 rfl (.head _) ?_
  refine v_getr (C := "") (pc := 8) (r := 1) d_VL_feed_8 fl_VL_9 cC_0.1 cC_0.2 (Or.inr ⟨_, rfl⟩) rC_0_0 ?_
  refine v_alen (pc := 11) (n := 4000) d_VL_feed_11 cC_1.1 cC_1.2 (by decide) (by decide) ?_
  refine v_icmple (pc := 12) (tgt := 18) d_VL_feed_12 (by decide) (fun c => ?_) (fun c => ?_)
  · replace h := h.1 c
    refine v_aload_n (pc := 18) d_VL_feed_18 rfl (.head _) ?_
    refine v_iload_n (pc := 19) d_VL_feed_19 rfl (.tail _ (.head _)) ?_
    refine v_callV (pc := 20) (J' := jVL_putOnTape) (d' := d) (o := 0) (ci := 11) (N := 7) (T := cT11) (As := [vI p1]) d_VL_feed_20 ml_VL_58 cC_0.1 cC_0.2 (by decide) rfl rfl (Nat.le_of_ble_eq_true rfl) (Nat.le_refl _) rfl (Cal.weak h (fun o w1 h => ?_))
    rcases rV_of h with ⟨rfl, h⟩
    refine v_aload_n (pc := 23) d_VL_feed_23 rfl (.head _) ?_
    refine v_iload_n (pc := 24) d_VL_feed_24 rfl (.tail _ (.tail _ (.head _))) ?_
    refine v_callV (pc := 25) (J' := jVL_putOnTape) (d' := d) (o := 0) (ci := 11) (N := 7) (T := cT11) (As := [vI p2]) d_VL_feed_25 ml_VL_58 cC_0.1 cC_0.2 (by decide) rfl rfl (Nat.le_of_ble_eq_true rfl) (Nat.le_refl _) rfl (Cal.weak h (fun o w2 h => ?_))
    rcases rV_of h with ⟨rfl, h⟩
    refine v_aload_n (pc := 28) d_VL_feed_28 rfl (.head _) ?_
    refine v_iload_n (pc := 29) d_VL_feed_29 rfl (.tail _ (.tail _ (.tail _ (.head _)))) ?_
    refine v_callV (pc := 30) (J' := jVL_putOnTape) (d' := d) (o := 0) (ci := 11) (N := 7) (T := cT11) (As := [vI p3]) d_VL_feed_30 ml_VL_58 cC_0.1 cC_0.2 (by decide) rfl rfl (Nat.le_of_ble_eq_true rfl) (Nat.le_refl _) rfl (Cal.weak h (fun o w3 h => ?_))
    rcases rV_of h with ⟨rfl, h⟩
    refine v_aload_n (pc := 33) d_VL_feed_33 rfl (.head _) ?_
    refine v_iload (pc := 34) d_VL_feed_34 (.tail _ (.tail _ (.tail _ (.tail _ (.head _))))) ?_
    refine v_callV (pc := 36) (J' := jVL_putOnTape) (d' := d) (o := 0) (ci := 11) (N := 7) (T := cT11) (As := [vI p4]) d_VL_feed_36 ml_VL_58 cC_0.1 cC_0.2 (by decide) rfl rfl (Nat.le_of_ble_eq_true rfl) (Nat.le_refl _) rfl (Cal.weak h (fun o w4 h => ?_))
    rcases rV_of h with ⟨rfl, h⟩
    refine v_aload_n (pc := 39) d_VL_feed_39 rfl (.head _) ?_
    refine v_iload (pc := 40) d_VL_feed_40 (.tail _ (.tail _ (.tail _ (.tail _ (.tail _ (.head _)))))) ?_
    refine v_callV (pc := 42) (J' := jVL_putOnTape) (d' := d) (o := 0) (ci := 11) (N := 7) (T := cT11) (As := [vI p5]) d_VL_feed_42 ml_VL_58 cC_0.1 cC_0.2 (by decide) rfl rfl (Nat.le_of_ble_eq_true rfl) (Nat.le_refl _) rfl (Cal.weak h (fun o w5 h => ?_))
    rcases rV_of h with ⟨rfl, h⟩
    refine v_aload_n (pc := 45) d_VL_feed_45 rfl (.head _) ?_
    refine v_geti (pc := 46) (x := (w5 0 1)) d_VL_feed_46 fl_VL_54 cC_0.1 cC_0.2 (Or.inl rfl) rfl ?_
    exact v_iret (pc := 49) d_VL_feed_49 rfl h
  · replace h := h.2 c
    refine v_bipush (pc := 15) d_VL_feed_15 (by decide) rfl ?_
    exact v_iret (pc := 17) d_VL_feed_17 rfl h
theorem d_VL_end_0 : decode jVL_end.cc 0 = .ok (.iload_n 1, 1) := by decide +kernel
theorem d_VL_end_1 : decode jVL_end.cc 1 = .ok (.ifCond .lt 18, 3) := by decide +kernel
theorem d_VL_end_4 : decode jVL_end.cc 4 = .ok (.iload_n 1, 1) := by decide +kernel
theorem d_VL_end_5 : decode jVL_end.cc 5 = .ok (.bipush 20, 2) := by decide +kernel
theorem d_VL_end_7 : decode jVL_end.cc 7 = .ok (.if_icmp .gt 12, 3) := by decide +kernel
theorem d_VL_end_10 : decode jVL_end.cc 10 = .ok (.aload_n 0, 1) := by decide +kernel
theorem d_VL_end_11 : decode jVL_end.cc 11 = .ok (.getfield 54, 3) := by decide +kernel
theorem d_VL_end_14 : decode jVL_end.cc 14 = .ok (.bipush 20, 2) := by decide +kernel
theorem d_VL_end_16 : decode jVL_end.cc 16 = .ok (.if_icmp .ge 5, 3) := by decide +kernel
theorem d_VL_end_19 : decode jVL_end.cc 19 = .ok (.iconst (-1), 1) := by decide +kernel
theorem d_VL_end_20 : decode jVL_end.cc 20 = .ok (.ireturn, 1) := by decide +kernel
theorem d_VL_end_21 : decode jVL_end.cc 21 = .ok (.aload_n 0, 1) := by decide +kernel
theorem d_VL_end_22 : decode jVL_end.cc 22 = .ok (.aload_n 0, 1) := by decide +kernel
theorem d_VL_end_23 : decode jVL_end.cc 23 = .ok (.getfield 54, 3) := by decide +kernel
theorem d_VL_end_26 : decode jVL_end.cc 26 = .ok (.bipush 20, 2) := by decide +kernel
theorem d_VL_end_28 : decode jVL_end.cc 28 = .ok (.isub, 1) := by decide +kernel
theorem d_VL_end_29 : decode jVL_end.cc 29 = .ok (.iload_n 1, 1) := by decide +kernel
theorem d_VL_end_30 : decode jVL_end.cc 30 = .ok (.iadd, 1) := by decide +kernel
theorem d_VL_end_31 : decode jVL_end.cc 31 = .ok (.putfield 54, 3) := by decide +kernel
theorem d_VL_end_34 : decode jVL_end.cc 34 = .ok (.aload_n 0, 1) := by decide +kernel
theorem d_VL_end_35 : decode jVL_end.cc 35 = .ok (.getfield 54, 3) := by decide +kernel
theorem d_VL_end_38 : decode jVL_end.cc 38 = .ok (.ireturn, 1) := by decide +kernel
set_option maxHeartbeats 4000000 in
theorem s_VL_end {g : Mg} {d : Nat} {K : Ou → Wd → Prop} {w : Wd} {p1 : Int} (h : (p1 < 0 → (K (.inl (some (vI (-1)))) w)) ∧ (¬ p1 < 0 → ((20 < p1 → (K (.inl (some (vI (-1)))) w)) ∧ (¬ 20 < p1 → ((20 ≤ (w 0 1) → (K (.inl (some (vI (wr ((wr ((w 0 1) - 20)) + p1))))) (up w 0 1 (wr ((wr ((w 0 1) - 20)) + p1))))) ∧ (¬ 20 ≤ (w 0 1) → (K (.inl (some (vI (-1)))) w))))))) : V g LC jVL_end d K 0 [(0, vA 0), (1, vI p1)] [] w := by
  refine v_iload_n (pc := 0) d_VL_end_0 rfl (.tail _ (.head _)) ?_
  refine v_iflt (pc := 1) (tgt := 19) d_VL_end_1 (by decide) (fun c => ?_) (fun c => ?_)
  · replace h := h.1 c
    refine v_iconst (pc := 19) d_VL_end_19 (by decide) ?_
    exact v_iret (pc := 20) d_VL_end_20 rfl h
  · replace h := h.2 c
    refine v_iload_n (pc := 4) d_VL_end_4 rfl (.tail _ (.head _)) ?_
    refine v_bipush (pc := 5) d_VL_end_5 (by decide) rfl ?_
    refine v_icmpgt (pc := 7) (tgt := 19) d_VL_end_7 (by decide) (fun c => ?_) (fun c => ?_)
    · replace h := h.1 c
      refine v_iconst (pc := 19) d_VL_end_19 (by decide) ?_
      exact v_iret (pc := 20) d_VL_end_20 rfl h
    · replace h := h.2 c
      refine v_aload_n (pc := 10) d_VL_end_10 rfl (.head _) ?_
      refine v_geti (pc := 11) (x := (w 0 1)) d_VL_end_11 fl_VL_54 cC_0.1 cC_0.2 (Or.inl rfl) rfl ?_
      refine v_bipush (pc := 14) d_VL_end_14 (by decide) rfl ?_
      refine v_icmpge (pc := 16) (tgt := 21) d_VL_end_16 (by decide) (fun c => ?_) (fun c => ?_)
      · replace h := h.1 c
        refine v_aload_n (pc := 21) d_VL_end_21 rfl (.head _) ?_
        refine v_aload_n (pc := 22) d_VL_end_22 rfl (.head _) ?_
        refine v_geti (pc := 23) (x := (w 0 1)) d_VL_end_23 fl_VL_54 cC_0.1 cC_0.2 (Or.inl rfl) rfl ?_
        refine v_bipush (pc := 26) d_VL_end_26 (by decide) rfl ?_
        refine v_isub (pc := 28) d_VL_end_28 ?_
        refine v_iload_n (pc := 29) d_VL_end_29 rfl (.tail _ (.head _)) ?_
        refine v_iadd (pc := 30) d_VL_end_30 ?_
        refine v_puti (pc := 31) d_VL_end_31 fp_VL_54 cC_0.1 cC_0.2 (by decide) rfl ?_
        refine v_aload_n (pc := 34) d_VL_end_34 rfl (.head _) ?_
        refine v_geti (pc := 35) (x := (wr ((wr ((w 0 1) - 20)) + p1))) d_VL_end_35 fl_VL_54 cC_0.1 cC_0.2 (Or.inl rfl) rfl ?_
        exact v_iret (pc := 38) d_VL_end_38 rfl h
      · replace h := h.2 c
        refine v_iconst (pc := 19) d_VL_end_19 (by decide) ?_
        exact v_iret (pc := 20) d_VL_end_20 rfl h
theorem d_VL_program_0 : decode jVL_program.cc 0 = .ok (.aload_n 0, 1) := by decide +kernel
theorem d_VL_program_1 : decode jVL_program.cc 1 = .ok (.getfield 50, 3) := by decide +kernel
theorem d_VL_program_4 : decode jVL_program.cc 4 = .ok (.iconst 0, 1) := by decide +kernel
theorem d_VL_program_5 : decode jVL_program.cc 5 = .ok (.putfield 62, 3) := by decide +kernel
theorem d_VL_program_8 : decode jVL_program.cc 8 = .ok (.aload_n 0, 1) := by decide +kernel
theorem d_VL_program_9 : decode jVL_program.cc 9 = .ok (.getfield 16, 3) := by decide +kernel
theorem d_VL_program_12 : decode jVL_program.cc 12 = .ok (.aload_n 0, 1) := by decide +kernel
theorem d_VL_program_13 : decode jVL_program.cc 13 = .ok (.getfield 9, 3) := by decide +kernel
theorem d_VL_program_16 : decode jVL_program.cc 16 = .ok (.aload_n 0, 1) := by decide +kernel
theorem d_VL_program_17 : decode jVL_program.cc 17 = .ok (.getfield 54, 3) := by decide +kernel
theorem d_VL_program_20 : decode jVL_program.cc 20 = .ok (.invokevirtual 66, 3) := by decide +kernel
theorem d_VL_program_23 : decode jVL_program.cc 23 = .ok (.aload_n 0, 1) := by decide +kernel
theorem d_VL_program_24 : decode jVL_program.cc 24 = .ok (.iconst 0, 1) := by decide +kernel
theorem d_VL_program_25 : decode jVL_program.cc 25 = .ok (.putfield 54, 3) := by decide +kernel
theorem d_VL_program_28 : decode jVL_program.cc 28 = .ok (.aload_n 0, 1) := by decide +kernel
theorem d_VL_program_29 : decode jVL_program.cc 29 = .ok (.getfield 34, 3) := by decide +kernel
theorem d_VL_program_32 : decode jVL_program.cc 32 = .ok (.invokevirtual 70, 3) := by decide +kernel
theorem d_VL_program_35 : decode jVL_program.cc 35 = .ok (.istore_n 1, 1) := by decide +kernel
theorem d_VL_program_36 : decode jVL_program.cc 36 = .ok (.iload_n 1, 1) := by decide +kernel
theorem d_VL_program_37 : decode jVL_program.cc 37 = .ok (.ifCond .ne 13, 3) := by decide +kernel
theorem d_VL_program_40 : decode jVL_program.cc 40 = .ok (.aload_n 0, 1) := by decide +kernel
theorem d_VL_program_41 : decode jVL_program.cc 41 = .ok (.getfield 25, 3) := by decide +kernel
theorem d_VL_program_44 : decode jVL_program.cc 44 = .ok (.getfield 74, 3) := by decide +kernel
theorem d_VL_program_47 : decode jVL_program.cc 47 = .ok (.goto 7, 3) := by decide +kernel
theorem d_VL_program_50 : decode jVL_program.cc 50 = .ok (.bipush (-10), 2) := by decide +kernel
theorem d_VL_program_52 : decode jVL_program.cc 52 = .ok (.iload_n 1, 1) := by decide +kernel
theorem d_VL_program_53 : decode jVL_program.cc 53 = .ok (.isub, 1) := by decide +kernel
theorem d_VL_program_54 : decode jVL_program.cc 54 = .ok (.ireturn, 1) := by decide +kernel
set_option maxHeartbeats 4000000 in
theorem s_VL_program {g : Mg} {d : Nat} {K : Ou → Wd → Prop} {w : Wd} (h : Cal g LC jTe_load d [vA 2, vA 1, vI (w 0 1)] (up w 43 11 0) (fun o w1 => rV o (Cal g LC jRe_read d [vA 24] (up w1 0 1 0) (fun o w2 => rI o (fun x3 => (¬ x3 = 0 → (K (.inl (some (vI (wr ((-10) - x3))))) w2)) ∧ (x3 = 0 → (K (.inl (some (vI (w2 8 3)))) w2))))))) : V g LC jVL_program (d + 1) K 0 [(0, vA 0)] [] w := by
  refine v_aload_n (pc := 0) d_VL_program_0 rfl (.head _) ?_
  refine v_getr (C := "") (pc := 1) (r := 43) d_VL_program_1 fl_VL_50 cC_0.1 cC_0.2 (Or.inl ⟨_, rfl⟩) rC_0_6 ?_
  refine v_iconst (pc := 4) d_VL_program_4 (by decide) ?_
  refine v_putz (pc := 5) d_VL_program_5 fp_VL_62 cC_43.1 cC_43.2 (by decide) rfl (by decide) ?_
  refine v_aload_n (pc := 8) d_VL_program_8 rfl (.head _) ?_
  refine v_getr (C := "") (pc := 9) (r := 2) d_VL_program_9 fl_VL_16 cC_0.1 cC_0.2 (Or.inl ⟨_, rfl⟩) rC_0_2 ?_
  refine v_aload_n (pc := 12) d_VL_program_12 rfl (.head _) ?_
  refine v_getr (C := "") (pc := 13) (r := 1) d_VL_program_13 fl_VL_9 cC_0.1 cC_0.2 (Or.inr ⟨_, rfl⟩) rC_0_0 ?_
  refine v_aload_n (pc := 16) d_VL_program_16 rfl (.head _) ?_
  refine v_geti (pc := 17) (x := (w 0 1)) d_VL_program_17 fl_VL_54 cC_0.1 cC_0.2 (Or.inl rfl) rfl ?_
  refine v_callV (pc := 20) (J' := jTe_load) (d' := d) (o := 2) (ci := 9) (N := 7) (T := cT9) (As := [vA 1, vI (w 0 1)]) d_VL_program_20 ml_VL_66 cC_2.1 cC_2.2 (by decide) rfl rfl (Nat.le_of_ble_eq_true rfl) (Nat.le_refl _) rfl (Cal.weak h (fun o w1 h => ?_))
  rcases rV_of h with ⟨rfl, h⟩
  refine v_aload_n (pc := 23) d_VL_program_23 rfl (.head _) ?_
  refine v_iconst (pc := 24) d_VL_program_24 (by decide) ?_
  refine v_puti (pc := 25) d_VL_program_25 fp_VL_54 cC_0.1 cC_0.2 (by decide) rfl ?_
  refine v_aload_n (pc := 28) d_VL_program_28 rfl (.head _) ?_
  refine v_getr (C := "") (pc := 29) (r := 24) d_VL_program_29 fl_VL_34 cC_0.1 cC_0.2 (Or.inl ⟨_, rfl⟩) rC_0_4 ?_
  refine v_callV (pc := 32) (J' := jRe_read) (d' := d) (o := 24) (ci := 8) (N := 7) (T := cT8) (As := []) d_VL_program_32 ml_VL_70 cC_24.1 cC_24.2 (by decide) rfl rfl (Nat.le_of_ble_eq_true rfl) (Nat.le_refl _) rfl (Cal.weak h (fun o w2 h => ?_))
  rcases rI_of h with ⟨x3, rfl, h⟩
  refine v_istore_n (pc := 35) (ls' := [(1, vI x3), (0, vA 0)]) d_VL_program_35 rfl (by decide) rfl ?_
  refine v_iload_n (pc := 36) d_VL_program_36 rfl (.head _) ?_
  refine v_ifne (pc := 37) (tgt := 50) d_VL_program_37 (by decide) (fun c => ?_) (fun c => ?_)
  · replace h := h.1 c
    refine v_bipush (pc := 50) d_VL_program_50 (by decide) rfl ?_
    refine v_iload_n (pc := 52) d_VL_program_52 rfl (.head _) ?_
    refine v_isub (pc := 53) d_VL_program_53 ?_
    exact v_iret (pc := 54) d_VL_program_54 rfl h
  · replace h := h.2 c
    refine v_aload_n (pc := 40) d_VL_program_40 rfl (.tail _ (.head _)) ?_
    refine v_getr (C := "") (pc := 41) (r := 8) d_VL_program_41 fl_VL_25 cC_0.1 cC_0.2 (Or.inl ⟨_, rfl⟩) rC_0_3 ?_
    refine v_geti (pc := 44) (x := (w2 8 3)) d_VL_program_44 fl_VL_74 cC_8.1 cC_8.2 (Or.inl rfl) rfl ?_
    refine v_goto (pc := 47) (tgt := 54) d_VL_program_47 (by decide) ?_
    exact v_iret (pc := 54) d_VL_program_54 rfl h
theorem d_VL_fault_0 : decode jVL_fault.cc 0 = .ok (.iload_n 1, 1) := by decide +kernel
theorem d_VL_fault_1 : decode jVL_fault.cc 1 = .ok (.ifCond .eq 10, 3) := by decide +kernel
theorem d_VL_fault_4 : decode jVL_fault.cc 4 = .ok (.iload_n 1, 1) := by decide +kernel
theorem d_VL_fault_5 : decode jVL_fault.cc 5 = .ok (.iconst 1, 1) := by decide +kernel
theorem d_VL_fault_6 : decode jVL_fault.cc 6 = .ok (.if_icmp .eq 5, 3) := by decide +kernel
theorem d_VL_fault_9 : decode jVL_fault.cc 9 = .ok (.iconst (-1), 1) := by decide +kernel
theorem d_VL_fault_10 : decode jVL_fault.cc 10 = .ok (.ireturn, 1) := by decide +kernel
theorem d_VL_fault_11 : decode jVL_fault.cc 11 = .ok (.aload_n 0, 1) := by decide +kernel
theorem d_VL_fault_12 : decode jVL_fault.cc 12 = .ok (.getfield 34, 3) := by decide +kernel
theorem d_VL_fault_15 : decode jVL_fault.cc 15 = .ok (.invokevirtual 77, 3) := by decide +kernel
theorem d_VL_fault_18 : decode jVL_fault.cc 18 = .ok (.ifCond .ge 6, 3) := by decide +kernel
theorem d_VL_fault_21 : decode jVL_fault.cc 21 = .ok (.bipush (-2), 2) := by decide +kernel
theorem d_VL_fault_23 : decode jVL_fault.cc 23 = .ok (.ireturn, 1) := by decide +kernel
theorem d_VL_fault_24 : decode jVL_fault.cc 24 = .ok (.iload_n 1, 1) := by decide +kernel
theorem d_VL_fault_25 : decode jVL_fault.cc 25 = .ok (.ifCond .ne 13, 3) := by decide +kernel
theorem d_VL_fault_28 : decode jVL_fault.cc 28 = .ok (.aload_n 0, 1) := by decide +kernel
theorem d_VL_fault_29 : decode jVL_fault.cc 29 = .ok (.getfield 34, 3) := by decide +kernel
theorem d_VL_fault_32 : decode jVL_fault.cc 32 = .ok (.invokevirtual 77, 3) := by decide +kernel
theorem d_VL_fault_35 : decode jVL_fault.cc 35 = .ok (.goto 17, 3) := by decide +kernel
theorem d_VL_fault_38 : decode jVL_fault.cc 38 = .ok (.aload_n 0, 1) := by decide +kernel
theorem d_VL_fault_39 : decode jVL_fault.cc 39 = .ok (.getfield 16, 3) := by decide +kernel
theorem d_VL_fault_42 : decode jVL_fault.cc 42 = .ok (.aload_n 0, 1) := by decide +kernel
theorem d_VL_fault_43 : decode jVL_fault.cc 43 = .ok (.getfield 34, 3) := by decide +kernel
theorem d_VL_fault_46 : decode jVL_fault.cc 46 = .ok (.invokevirtual 77, 3) := by decide +kernel
theorem d_VL_fault_49 : decode jVL_fault.cc 49 = .ok (.invokevirtual 80, 3) := by decide +kernel
theorem d_VL_fault_52 : decode jVL_fault.cc 52 = .ok (.ireturn, 1) := by decide +kernel
set_option maxHeartbeats 4000000 in
theorem s_VL_fault {g : Mg} {d : Nat} {K : Ou → Wd → Prop} {w : Wd} {p1 : Int} (h : (p1 = 0 → (Cal g LC jRe_faultPlace d [vA 24] w (fun o w1 => rI o (fun x2 => (0 ≤ x2 → ((¬ p1 = 0 → (Cal g LC jRe_faultPlace d [vA 24] w1 (fun o w3 => rI o (fun x4 => Cal g LC jTe_lineOf d [vA 2, vI x4] w3 (fun o w5 => rI o (fun x6 => K (.inl (some (vI x6))) w5)))))) ∧ (p1 = 0 → (Cal g LC jRe_faultPlace d [vA 24] w1 (fun o w7 => rI o (fun x8 => K (.inl (some (vI x8))) w7)))))) ∧ (¬ 0 ≤ x2 → (K (.inl (some (vI (-2)))) w1)))))) ∧ (¬ p1 = 0 → ((p1 = 1 → (Cal g LC jRe_faultPlace d [vA 24] w (fun o w9 => rI o (fun x10 => (0 ≤ x10 → ((¬ p1 = 0 → (Cal g LC jRe_faultPlace d [vA 24] w9 (fun o w11 => rI o (fun x12 => Cal g LC jTe_lineOf d [vA 2, vI x12] w11 (fun o w13 => rI o (fun x14 => K (.inl (some (vI x14))) w13)))))) ∧ (p1 = 0 → (Cal g LC jRe_faultPlace d [vA 24] w9 (fun o w15 => rI o (fun x16 => K (.inl (some (vI x16))) w15)))))) ∧ (¬ 0 ≤ x10 → (K (.inl (some (vI (-2)))) w9)))))) ∧ (¬ p1 = 1 → (K (.inl (some (vI (-1)))) w))))) : V g LC jVL_fault (d + 1) K 0 [(0, vA 0), (1, vI p1)] [] w := by
  refine v_iload_n (pc := 0) d_VL_fault_0 rfl (.tail _ (.head _)) ?_
  refine v_ifeq (pc := 1) (tgt := 11) d_VL_fault_1 (by decide) (fun c => ?_) (fun c => ?_)
  · replace h := h.1 c
    refine v_aload_n (pc := 11) d_VL_fault_11 rfl (.head _) ?_
    refine v_getr (C := "") (pc := 12) (r := 24) d_VL_fault_12 fl_VL_34 cC_0.1 cC_0.2 (Or.inl ⟨_, rfl⟩) rC_0_4 ?_
    refine v_callV (pc := 15) (J' := jRe_faultPlace) (d' := d) (o := 24) (ci := 8) (N := 7) (T := cT8) (As := []) d_VL_fault_15 ml_VL_77 cC_24.1 cC_24.2 (by decide) rfl rfl (Nat.le_of_ble_eq_true rfl) (Nat.le_refl _) rfl (Cal.weak h (fun o w1 h => ?_))
    rcases rI_of h with ⟨x2, rfl, h⟩
    refine v_ifge (pc := 18) (tgt := 24) d_VL_fault_18 (by decide) (fun c => ?_) (fun c => ?_)
    · replace h := h.1 c
      refine v_iload_n (pc := 24) d_VL_fault_24 rfl (.tail _ (.head _)) ?_
      refine v_ifne (pc := 25) (tgt := 38) d_VL_fault_25 (by decide) (fun c => ?_) (fun c => ?_)
      · replace h := h.1 c
        refine v_aload_n (pc := 38) d_VL_fault_38 rfl (.head _) ?_
        refine v_getr (C := "") (pc := 39) (r := 2) d_VL_fault_39 fl_VL_16 cC_0.1 cC_0.2 (Or.inl ⟨_, rfl⟩) rC_0_2 ?_
        refine v_aload_n (pc := 42) d_VL_fault_42 rfl (.head _) ?_
        refine v_getr (C := "") (pc := 43) (r := 24) d_VL_fault_43 fl_VL_34 cC_0.1 cC_0.2 (Or.inl ⟨_, rfl⟩) rC_0_4 ?_
        refine v_callV (pc := 46) (J' := jRe_faultPlace) (d' := d) (o := 24) (ci := 8) (N := 7) (T := cT8) (As := []) d_VL_fault_46 ml_VL_77 cC_24.1 cC_24.2 (by decide) rfl rfl (Nat.le_of_ble_eq_true rfl) (Nat.le_refl _) rfl (Cal.weak h (fun o w3 h => ?_))
        rcases rI_of h with ⟨x4, rfl, h⟩
        refine v_callV (pc := 49) (J' := jTe_lineOf) (d' := d) (o := 2) (ci := 9) (N := 7) (T := cT9) (As := [vI x4]) d_VL_fault_49 ml_VL_80 cC_2.1 cC_2.2 (by decide) rfl rfl (Nat.le_of_ble_eq_true rfl) (Nat.le_refl _) rfl (Cal.weak h (fun o w5 h => ?_))
        rcases rI_of h with ⟨x6, rfl, h⟩
        exact v_iret (pc := 52) d_VL_fault_52 rfl h
      · replace h := h.2 c
        refine v_aload_n (pc := 28) d_VL_fault_28 rfl (.head _) ?_
        refine v_getr (C := "") (pc := 29) (r := 24) d_VL_fault_29 fl_VL_34 cC_0.1 cC_0.2 (Or.inl ⟨_, rfl⟩) rC_0_4 ?_
        refine v_callV (pc := 32) (J' := jRe_faultPlace) (d' := d) (o := 24) (ci := 8) (N := 7) (T := cT8) (As := []) d_VL_fault_32 ml_VL_77 cC_24.1 cC_24.2 (by decide) rfl rfl (Nat.le_of_ble_eq_true rfl) (Nat.le_refl _) rfl (Cal.weak h (fun o w7 h => ?_))
        rcases rI_of h with ⟨x8, rfl, h⟩
        refine v_goto (pc := 35) (tgt := 52) d_VL_fault_35 (by decide) ?_
        exact v_iret (pc := 52) d_VL_fault_52 rfl h
    · replace h := h.2 c
      refine v_bipush (pc := 21) d_VL_fault_21 (by decide) rfl ?_
      exact v_iret (pc := 23) d_VL_fault_23 rfl h
  · replace h := h.2 c
    refine v_iload_n (pc := 4) d_VL_fault_4 rfl (.tail _ (.head _)) ?_
    refine v_iconst (pc := 5) d_VL_fault_5 (by decide) ?_
    refine v_icmpeq (pc := 6) (tgt := 11) d_VL_fault_6 (by decide) (fun c => ?_) (fun c => ?_)
    · replace h := h.1 c
      refine v_aload_n (pc := 11) d_VL_fault_11 rfl (.head _) ?_
      refine v_getr (C := "") (pc := 12) (r := 24) d_VL_fault_12 fl_VL_34 cC_0.1 cC_0.2 (Or.inl ⟨_, rfl⟩) rC_0_4 ?_
      refine v_callV (pc := 15) (J' := jRe_faultPlace) (d' := d) (o := 24) (ci := 8) (N := 7) (T := cT8) (As := []) d_VL_fault_15 ml_VL_77 cC_24.1 cC_24.2 (by decide) rfl rfl (Nat.le_of_ble_eq_true rfl) (Nat.le_refl _) rfl (Cal.weak h (fun o w9 h => ?_))
      rcases rI_of h with ⟨x10, rfl, h⟩
      refine v_ifge (pc := 18) (tgt := 24) d_VL_fault_18 (by decide) (fun c => ?_) (fun c => ?_)
      · replace h := h.1 c
        refine v_iload_n (pc := 24) d_VL_fault_24 rfl (.tail _ (.head _)) ?_
        refine v_ifne (pc := 25) (tgt := 38) d_VL_fault_25 (by decide) (fun c => ?_) (fun c => ?_)
        · replace h := h.1 c
          refine v_aload_n (pc := 38) d_VL_fault_38 rfl (.head _) ?_
          refine v_getr (C := "") (pc := 39) (r := 2) d_VL_fault_39 fl_VL_16 cC_0.1 cC_0.2 (Or.inl ⟨_, rfl⟩) rC_0_2 ?_
          refine v_aload_n (pc := 42) d_VL_fault_42 rfl (.head _) ?_
          refine v_getr (C := "") (pc := 43) (r := 24) d_VL_fault_43 fl_VL_34 cC_0.1 cC_0.2 (Or.inl ⟨_, rfl⟩) rC_0_4 ?_
          refine v_callV (pc := 46) (J' := jRe_faultPlace) (d' := d) (o := 24) (ci := 8) (N := 7) (T := cT8) (As := []) d_VL_fault_46 ml_VL_77 cC_24.1 cC_24.2 (by decide) rfl rfl (Nat.le_of_ble_eq_true rfl) (Nat.le_refl _) rfl (Cal.weak h (fun o w11 h => ?_))
          rcases rI_of h with ⟨x12, rfl, h⟩
          refine v_callV (pc := 49) (J' := jTe_lineOf) (d' := d) (o := 2) (ci := 9) (N := 7) (T := cT9) (As := [vI x12]) d_VL_fault_49 ml_VL_80 cC_2.1 cC_2.2 (by decide) rfl rfl (Nat.le_of_ble_eq_true rfl) (Nat.le_refl _) rfl (Cal.weak h (fun o w13 h => ?_))
          rcases rI_of h with ⟨x14, rfl, h⟩
          exact v_iret (pc := 52) d_VL_fault_52 rfl h
        · replace h := h.2 c
          refine v_aload_n (pc := 28) d_VL_fault_28 rfl (.head _) ?_
          refine v_getr (C := "") (pc := 29) (r := 24) d_VL_fault_29 fl_VL_34 cC_0.1 cC_0.2 (Or.inl ⟨_, rfl⟩) rC_0_4 ?_
          refine v_callV (pc := 32) (J' := jRe_faultPlace) (d' := d) (o := 24) (ci := 8) (N := 7) (T := cT8) (As := []) d_VL_fault_32 ml_VL_77 cC_24.1 cC_24.2 (by decide) rfl rfl (Nat.le_of_ble_eq_true rfl) (Nat.le_refl _) rfl (Cal.weak h (fun o w15 h => ?_))
          rcases rI_of h with ⟨x16, rfl, h⟩
          refine v_goto (pc := 35) (tgt := 52) d_VL_fault_35 (by decide) ?_
          exact v_iret (pc := 52) d_VL_fault_52 rfl h
      · replace h := h.2 c
        refine v_bipush (pc := 21) d_VL_fault_21 (by decide) rfl ?_
        exact v_iret (pc := 23) d_VL_fault_23 rfl h
    · replace h := h.2 c
      refine v_iconst (pc := 9) d_VL_fault_9 (by decide) ?_
      exact v_iret (pc := 10) d_VL_fault_10 rfl h
theorem d_VL_print_0 : decode jVL_print.cc 0 = .ok (.aload_n 0, 1) := by decide +kernel
theorem d_VL_print_1 : decode jVL_print.cc 1 = .ok (.getfield 25, 3) := by decide +kernel
theorem d_VL_print_4 : decode jVL_print.cc 4 = .ok (.getfield 84, 3) := by decide +kernel
theorem d_VL_print_7 : decode jVL_print.cc 7 = .ok (.ifCond .eq 19, 3) := by decide +kernel
theorem d_VL_print_10 : decode jVL_print.cc 10 = .ok (.iload_n 1, 1) := by decide +kernel
theorem d_VL_print_11 : decode jVL_print.cc 11 = .ok (.iconst (-1), 1) := by decide +kernel
theorem d_VL_print_12 : decode jVL_print.cc 12 = .ok (.if_icmp .lt 14, 3) := by decide +kernel
theorem d_VL_print_15 : decode jVL_print.cc 15 = .ok (.iload_n 1, 1) := by decide +kernel
theorem d_VL_print_16 : decode jVL_print.cc 16 = .ok (.aload_n 0, 1) := by decide +kernel
theorem d_VL_print_17 : decode jVL_print.cc 17 = .ok (.getfield 25, 3) := by decide +kernel
theorem d_VL_print_20 : decode jVL_print.cc 20 = .ok (.getfield 87, 3) := by decide +kernel
theorem d_VL_print_23 : decode jVL_print.cc 23 = .ok (.if_icmp .lt 5, 3) := by decide +kernel
theorem d_VL_print_26 : decode jVL_print.cc 26 = .ok (.iconst (-1), 1) := by decide +kernel
theorem d_VL_print_27 : decode jVL_print.cc 27 = .ok (.ireturn, 1) := by decide +kernel
theorem d_VL_print_28 : decode jVL_print.cc 28 = .ok (.iload_n 1, 1) := by decide +kernel
theorem d_VL_print_29 : decode jVL_print.cc 29 = .ok (.iconst (-1), 1) := by decide +kernel
theorem d_VL_print_30 : decode jVL_print.cc 30 = .ok (.if_icmp .ne 13, 3) := by decide +kernel
theorem d_VL_print_33 : decode jVL_print.cc 33 = .ok (.aload_n 0, 1) := by decide +kernel
theorem d_VL_print_34 : decode jVL_print.cc 34 = .ok (.getfield 25, 3) := by decide +kernel
theorem d_VL_print_37 : decode jVL_print.cc 37 = .ok (.getfield 87, 3) := by decide +kernel
theorem d_VL_print_40 : decode jVL_print.cc 40 = .ok (.goto 16, 3) := by decide +kernel
theorem d_VL_print_43 : decode jVL_print.cc 43 = .ok (.aload_n 0, 1) := by decide +kernel
theorem d_VL_print_44 : decode jVL_print.cc 44 = .ok (.getfield 25, 3) := by decide +kernel
theorem d_VL_print_47 : decode jVL_print.cc 47 = .ok (.getfield 90, 3) := by decide +kernel
theorem d_VL_print_50 : decode jVL_print.cc 50 = .ok (.iload_n 1, 1) := by decide +kernel
theorem d_VL_print_51 : decode jVL_print.cc 51 = .ok (.baload, 1) := by decide +kernel
theorem d_VL_print_52 : decode jVL_print.cc 52 = .ok (.sipush 255, 3) := by decide +kernel
theorem d_VL_print_55 : decode jVL_print.cc 55 = .ok (.iand, 1) := by decide +kernel
theorem d_VL_print_56 : decode jVL_print.cc 56 = .ok (.ireturn, 1) := by decide +kernel
set_option maxHeartbeats 4000000 in
theorem s_VL_print {g : Mg} {d : Nat} {K : Ou → Wd → Prop} {w : Wd} {p1 : Int} (h : ((w 8 2) = 0 → (K (.inl (some (vI (-1)))) w)) ∧ (¬ (w 8 2) = 0 → ((p1 < (-1) → (K (.inl (some (vI (-1)))) w)) ∧ (¬ p1 < (-1) → ((p1 < (w 8 10) → ((¬ p1 = (-1) → ((0 ≤ p1 ∧ p1 < 5000) ∧ (K (.inl (some (vI (iAnd (w 12 p1.toNat) 255)))) w))) ∧ (p1 = (-1) → (K (.inl (some (vI (w 8 10)))) w)))) ∧ (¬ p1 < (w 8 10) → (K (.inl (some (vI (-1)))) w))))))) : V g LC jVL_print d K 0 [(0, vA 0), (1, vI p1)] [] w := by
  refine v_aload_n (pc := 0) d_VL_print_0 rfl (.head _) ?_
  refine v_getr (C := "") (pc := 1) (r := 8) d_VL_print_1 fl_VL_25 cC_0.1 cC_0.2 (Or.inl ⟨_, rfl⟩) rC_0_3 ?_
  refine v_geti (pc := 4) (x := (w 8 2)) d_VL_print_4 fl_VL_84 cC_8.1 cC_8.2 (Or.inr rfl) rfl ?_
  refine v_ifeq (pc := 7) (tgt := 26) d_VL_print_7 (by decide) (fun c => ?_) (fun c => ?_)
  · replace h := h.1 c
    refine v_iconst (pc := 26) d_VL_print_26 (by decide) ?_
    exact v_iret (pc := 27) d_VL_print_27 rfl h
  · replace h := h.2 c
    refine v_iload_n (pc := 10) d_VL_print_10 rfl (.tail _ (.head _)) ?_
    refine v_iconst (pc := 11) d_VL_print_11 (by decide) ?_
    refine v_icmplt (pc := 12) (tgt := 26) d_VL_print_12 (by decide) (fun c => ?_) (fun c => ?_)
    · replace h := h.1 c
      refine v_iconst (pc := 26) d_VL_print_26 (by decide) ?_
      exact v_iret (pc := 27) d_VL_print_27 rfl h
    · replace h := h.2 c
      refine v_iload_n (pc := 15) d_VL_print_15 rfl (.tail _ (.head _)) ?_
      refine v_aload_n (pc := 16) d_VL_print_16 rfl (.head _) ?_
      refine v_getr (C := "") (pc := 17) (r := 8) d_VL_print_17 fl_VL_25 cC_0.1 cC_0.2 (Or.inl ⟨_, rfl⟩) rC_0_3 ?_
      refine v_geti (pc := 20) (x := (w 8 10)) d_VL_print_20 fl_VL_87 cC_8.1 cC_8.2 (Or.inl rfl) rfl ?_
      refine v_icmplt (pc := 23) (tgt := 28) d_VL_print_23 (by decide) (fun c => ?_) (fun c => ?_)
      · replace h := h.1 c
        refine v_iload_n (pc := 28) d_VL_print_28 rfl (.tail _ (.head _)) ?_
        refine v_iconst (pc := 29) d_VL_print_29 (by decide) ?_
        refine v_icmpne (pc := 30) (tgt := 43) d_VL_print_30 (by decide) (fun c => ?_) (fun c => ?_)
        · replace h := h.1 c
          refine v_aload_n (pc := 43) d_VL_print_43 rfl (.head _) ?_
          refine v_getr (C := "") (pc := 44) (r := 8) d_VL_print_44 fl_VL_25 cC_0.1 cC_0.2 (Or.inl ⟨_, rfl⟩) rC_0_3 ?_
          refine v_getr (C := "") (pc := 47) (r := 12) d_VL_print_47 fl_VL_90 cC_8.1 cC_8.2 (Or.inr ⟨_, rfl⟩) rC_8_9 ?_
          refine v_iload_n (pc := 50) d_VL_print_50 rfl (.tail _ (.head _)) ?_
          refine v_bald (pc := 51) (x := (w 12 p1.toNat)) d_VL_print_51 cC_12.1 cC_12.2 rfl h.1 ?_
          replace h := h.2
          refine v_sipush (pc := 52) d_VL_print_52 (by decide) rfl ?_
          refine v_iand (pc := 55) d_VL_print_55 ?_
          exact v_iret (pc := 56) d_VL_print_56 rfl h
        · replace h := h.2 c
          refine v_aload_n (pc := 33) d_VL_print_33 rfl (.head _) ?_
          refine v_getr (C := "") (pc := 34) (r := 8) d_VL_print_34 fl_VL_25 cC_0.1 cC_0.2 (Or.inl ⟨_, rfl⟩) rC_0_3 ?_
          refine v_geti (pc := 37) (x := (w 8 10)) d_VL_print_37 fl_VL_87 cC_8.1 cC_8.2 (Or.inl rfl) rfl ?_
          refine v_goto (pc := 40) (tgt := 56) d_VL_print_40 (by decide) ?_
          exact v_iret (pc := 56) d_VL_print_56 rfl h
      · replace h := h.2 c
        refine v_iconst (pc := 26) d_VL_print_26 (by decide) ?_
        exact v_iret (pc := 27) d_VL_print_27 rfl h
theorem d_VL_name_0 : decode jVL_name.cc 0 = .ok (.aload_n 0, 1) := by decide +kernel
theorem d_VL_name_1 : decode jVL_name.cc 1 = .ok (.getfield 25, 3) := by decide +kernel
theorem d_VL_name_4 : decode jVL_name.cc 4 = .ok (.getfield 84, 3) := by decide +kernel
theorem d_VL_name_7 : decode jVL_name.cc 7 = .ok (.ifCond .ne 5, 3) := by decide +kernel
theorem d_VL_name_10 : decode jVL_name.cc 10 = .ok (.iconst (-1), 1) := by decide +kernel
theorem d_VL_name_11 : decode jVL_name.cc 11 = .ok (.ireturn, 1) := by decide +kernel
theorem d_VL_name_12 : decode jVL_name.cc 12 = .ok (.aload_n 0, 1) := by decide +kernel
theorem d_VL_name_13 : decode jVL_name.cc 13 = .ok (.getfield 25, 3) := by decide +kernel
theorem d_VL_name_16 : decode jVL_name.cc 16 = .ok (.getfield 93, 3) := by decide +kernel
theorem d_VL_name_19 : decode jVL_name.cc 19 = .ok (.aload_n 0, 1) := by decide +kernel
theorem d_VL_name_20 : decode jVL_name.cc 20 = .ok (.getfield 9, 3) := by decide +kernel
theorem d_VL_name_23 : decode jVL_name.cc 23 = .ok (.aload_n 0, 1) := by decide +kernel
theorem d_VL_name_24 : decode jVL_name.cc 24 = .ok (.getfield 54, 3) := by decide +kernel
theorem d_VL_name_27 : decode jVL_name.cc 27 = .ok (.invokevirtual 97, 3) := by decide +kernel
theorem d_VL_name_30 : decode jVL_name.cc 30 = .ok (.istore_n 1, 1) := by decide +kernel
theorem d_VL_name_31 : decode jVL_name.cc 31 = .ok (.aload_n 0, 1) := by decide +kernel
theorem d_VL_name_32 : decode jVL_name.cc 32 = .ok (.iconst 0, 1) := by decide +kernel
theorem d_VL_name_33 : decode jVL_name.cc 33 = .ok (.putfield 54, 3) := by decide +kernel
theorem d_VL_name_36 : decode jVL_name.cc 36 = .ok (.iload_n 1, 1) := by decide +kernel
theorem d_VL_name_37 : decode jVL_name.cc 37 = .ok (.ifCond .ge 8, 3) := by decide +kernel
theorem d_VL_name_40 : decode jVL_name.cc 40 = .ok (.bipush (-2), 2) := by decide +kernel
theorem d_VL_name_42 : decode jVL_name.cc 42 = .ok (.goto 29, 3) := by decide +kernel
theorem d_VL_name_45 : decode jVL_name.cc 45 = .ok (.bipush 100, 2) := by decide +kernel
theorem d_VL_name_47 : decode jVL_name.cc 47 = .ok (.aload_n 0, 1) := by decide +kernel
theorem d_VL_name_48 : decode jVL_name.cc 48 = .ok (.getfield 25, 3) := by decide +kernel
theorem d_VL_name_51 : decode jVL_name.cc 51 = .ok (.getfield 93, 3) := by decide +kernel
theorem d_VL_name_54 : decode jVL_name.cc 54 = .ok (.iload_n 1, 1) := by decide +kernel
theorem d_VL_name_55 : decode jVL_name.cc 55 = .ok (.invokevirtual 103, 3) := by decide +kernel
theorem d_VL_name_58 : decode jVL_name.cc 58 = .ok (.imul, 1) := by decide +kernel
theorem d_VL_name_59 : decode jVL_name.cc 59 = .ok (.aload_n 0, 1) := by decide +kernel
theorem d_VL_name_60 : decode jVL_name.cc 60 = .ok (.getfield 25, 3) := by decide +kernel
theorem d_VL_name_63 : decode jVL_name.cc 63 = .ok (.getfield 93, 3) := by decide +kernel
theorem d_VL_name_66 : decode jVL_name.cc 66 = .ok (.iload_n 1, 1) := by decide +kernel
theorem d_VL_name_67 : decode jVL_name.cc 67 = .ok (.invokevirtual 106, 3) := by decide +kernel
theorem d_VL_name_70 : decode jVL_name.cc 70 = .ok (.iadd, 1) := by decide +kernel
theorem d_VL_name_71 : decode jVL_name.cc 71 = .ok (.ireturn, 1) := by decide +kernel
set_option maxHeartbeats 4000000 in
theorem s_VL_name {g : Mg} {d : Nat} {K : Ou → Wd → Prop} {w : Wd} (h : (¬ (w 8 2) = 0 → (Cal g LC jLo_findBytes d [vA 13, vA 1, vI (w 0 1)] w (fun o w1 => rI o (fun x2 => (0 ≤ x2 → (Cal g LC jLo_sortOf d [vA 13, vI x2] (up w1 0 1 0) (fun o w3 => rI o (fun x4 => Cal g LC jLo_numberOf d [vA 13, vI x2] w3 (fun o w5 => rI o (fun x6 => K (.inl (some (vI (wr ((wr (100 * x4)) + x6))))) w5)))))) ∧ (¬ 0 ≤ x2 → (K (.inl (some (vI (-2)))) (up w1 0 1 0))))))) ∧ ((w 8 2) = 0 → (K (.inl (some (vI (-1)))) w))) : V g LC jVL_name (d + 1) K 0 [(0, vA 0)] [] w := by
  refine v_aload_n (pc := 0) d_VL_name_0 rfl (.head _) ?_
  refine v_getr (C := "") (pc := 1) (r := 8) d_VL_name_1 fl_VL_25 cC_0.1 cC_0.2 (Or.inl ⟨_, rfl⟩) rC_0_3 ?_
  refine v_geti (pc := 4) (x := (w 8 2)) d_VL_name_4 fl_VL_84 cC_8.1 cC_8.2 (Or.inr rfl) rfl ?_
  refine v_ifne (pc := 7) (tgt := 12) d_VL_name_7 (by decide) (fun c => ?_) (fun c => ?_)
  · replace h := h.1 c
    refine v_aload_n (pc := 12) d_VL_name_12 rfl (.head _) ?_
    refine v_getr (C := "") (pc := 13) (r := 8) d_VL_name_13 fl_VL_25 cC_0.1 cC_0.2 (Or.inl ⟨_, rfl⟩) rC_0_3 ?_
    refine v_getr (C := "") (pc := 16) (r := 13) d_VL_name_16 fl_VL_93 cC_8.1 cC_8.2 (Or.inl ⟨_, rfl⟩) rC_8_0 ?_
    refine v_aload_n (pc := 19) d_VL_name_19 rfl (.head _) ?_
    refine v_getr (C := "") (pc := 20) (r := 1) d_VL_name_20 fl_VL_9 cC_0.1 cC_0.2 (Or.inr ⟨_, rfl⟩) rC_0_0 ?_
    refine v_aload_n (pc := 23) d_VL_name_23 rfl (.head _) ?_
    refine v_geti (pc := 24) (x := (w 0 1)) d_VL_name_24 fl_VL_54 cC_0.1 cC_0.2 (Or.inl rfl) rfl ?_
    refine v_callV (pc := 27) (J' := jLo_findBytes) (d' := d) (o := 13) (ci := 4) (N := 7) (T := cT4) (As := [vA 1, vI (w 0 1)]) d_VL_name_27 ml_VL_97 cC_13.1 cC_13.2 (by decide) rfl rfl (Nat.le_of_ble_eq_true rfl) (Nat.le_refl _) rfl (Cal.weak h (fun o w1 h => ?_))
    rcases rI_of h with ⟨x2, rfl, h⟩
    refine v_istore_n (pc := 30) (ls' := [(1, vI x2), (0, vA 0)]) d_VL_name_30 rfl (by decide) rfl ?_
    refine v_aload_n (pc := 31) d_VL_name_31 rfl (.tail _ (.head _)) ?_
    refine v_iconst (pc := 32) d_VL_name_32 (by decide) ?_
    refine v_puti (pc := 33) d_VL_name_33 fp_VL_54 cC_0.1 cC_0.2 (by decide) rfl ?_
    refine v_iload_n (pc := 36) d_VL_name_36 rfl (.head _) ?_
    refine v_ifge (pc := 37) (tgt := 45) d_VL_name_37 (by decide) (fun c => ?_) (fun c => ?_)
    · replace h := h.1 c
      refine v_bipush (pc := 45) d_VL_name_45 (by decide) rfl ?_
      refine v_aload_n (pc := 47) d_VL_name_47 rfl (.tail _ (.head _)) ?_
      refine v_getr (C := "") (pc := 48) (r := 8) d_VL_name_48 fl_VL_25 cC_0.1 cC_0.2 (Or.inl ⟨_, rfl⟩) rC_0_3 ?_
      refine v_getr (C := "") (pc := 51) (r := 13) d_VL_name_51 fl_VL_93 cC_8.1 cC_8.2 (Or.inl ⟨_, rfl⟩) rC_8_0 ?_
      refine v_iload_n (pc := 54) d_VL_name_54 rfl (.head _) ?_
      refine v_callV (pc := 55) (J' := jLo_sortOf) (d' := d) (o := 13) (ci := 4) (N := 7) (T := cT4) (As := [vI x2]) d_VL_name_55 ml_VL_103 cC_13.1 cC_13.2 (by decide) rfl rfl (Nat.le_of_ble_eq_true rfl) (Nat.le_refl _) rfl (Cal.weak h (fun o w3 h => ?_))
      rcases rI_of h with ⟨x4, rfl, h⟩
      refine v_imul (pc := 58) d_VL_name_58 ?_
      refine v_aload_n (pc := 59) d_VL_name_59 rfl (.tail _ (.head _)) ?_
      refine v_getr (C := "") (pc := 60) (r := 8) d_VL_name_60 fl_VL_25 cC_0.1 cC_0.2 (Or.inl ⟨_, rfl⟩) rC_0_3 ?_
      refine v_getr (C := "") (pc := 63) (r := 13) d_VL_name_63 fl_VL_93 cC_8.1 cC_8.2 (Or.inl ⟨_, rfl⟩) rC_8_0 ?_
      refine v_iload_n (pc := 66) d_VL_name_66 rfl (.head _) ?_
      refine v_callV (pc := 67) (J' := jLo_numberOf) (d' := d) (o := 13) (ci := 4) (N := 7) (T := cT4) (As := [vI x2]) d_VL_name_67 ml_VL_106 cC_13.1 cC_13.2 (by decide) rfl rfl (Nat.le_of_ble_eq_true rfl) (Nat.le_refl _) rfl (Cal.weak h (fun o w5 h => ?_))
      rcases rI_of h with ⟨x6, rfl, h⟩
      refine v_iadd (pc := 70) d_VL_name_70 ?_
      exact v_iret (pc := 71) d_VL_name_71 rfl h
    · replace h := h.2 c
      refine v_bipush (pc := 40) d_VL_name_40 (by decide) rfl ?_
      refine v_goto (pc := 42) (tgt := 71) d_VL_name_42 (by decide) ?_
      exact v_iret (pc := 71) d_VL_name_71 rfl h
  · replace h := h.2 c
    refine v_iconst (pc := 10) d_VL_name_10 (by decide) ?_
    exact v_iret (pc := 11) d_VL_name_11 rfl h
theorem d_VL_count_0 : decode jVL_count.cc 0 = .ok (.iload_n 1, 1) := by decide +kernel
theorem d_VL_count_1 : decode jVL_count.cc 1 = .ok (.tableswitch 90 0 6 #[43, 43, 43, 43, 52, 74, 82], 43) := by decide +kernel
theorem d_VL_count_44 : decode jVL_count.cc 44 = .ok (.aload_n 0, 1) := by decide +kernel
theorem d_VL_count_45 : decode jVL_count.cc 45 = .ok (.getfield 25, 3) := by decide +kernel
theorem d_VL_count_48 : decode jVL_count.cc 48 = .ok (.iload_n 1, 1) := by decide +kernel
theorem d_VL_count_49 : decode jVL_count.cc 49 = .ok (.invokevirtual 109, 3) := by decide +kernel
theorem d_VL_count_52 : decode jVL_count.cc 52 = .ok (.ireturn, 1) := by decide +kernel
theorem d_VL_count_53 : decode jVL_count.cc 53 = .ok (.aload_n 0, 1) := by decide +kernel
theorem d_VL_count_54 : decode jVL_count.cc 54 = .ok (.getfield 25, 3) := by decide +kernel
theorem d_VL_count_57 : decode jVL_count.cc 57 = .ok (.getfield 84, 3) := by decide +kernel
theorem d_VL_count_60 : decode jVL_count.cc 60 = .ok (.ifCond .eq 13, 3) := by decide +kernel
theorem d_VL_count_63 : decode jVL_count.cc 63 = .ok (.aload_n 0, 1) := by decide +kernel
theorem d_VL_count_64 : decode jVL_count.cc 64 = .ok (.getfield 25, 3) := by decide +kernel
theorem d_VL_count_67 : decode jVL_count.cc 67 = .ok (.getfield 74, 3) := by decide +kernel
theorem d_VL_count_70 : decode jVL_count.cc 70 = .ok (.goto 4, 3) := by decide +kernel
theorem d_VL_count_73 : decode jVL_count.cc 73 = .ok (.iconst 0, 1) := by decide +kernel
theorem d_VL_count_74 : decode jVL_count.cc 74 = .ok (.ireturn, 1) := by decide +kernel
theorem d_VL_count_75 : decode jVL_count.cc 75 = .ok (.aload_n 0, 1) := by decide +kernel
theorem d_VL_count_76 : decode jVL_count.cc 76 = .ok (.getfield 41, 3) := by decide +kernel
theorem d_VL_count_79 : decode jVL_count.cc 79 = .ok (.getfield 112, 3) := by decide +kernel
theorem d_VL_count_82 : decode jVL_count.cc 82 = .ok (.ireturn, 1) := by decide +kernel
theorem d_VL_count_83 : decode jVL_count.cc 83 = .ok (.aload_n 0, 1) := by decide +kernel
theorem d_VL_count_84 : decode jVL_count.cc 84 = .ok (.getfield 41, 3) := by decide +kernel
theorem d_VL_count_87 : decode jVL_count.cc 87 = .ok (.getfield 115, 3) := by decide +kernel
theorem d_VL_count_90 : decode jVL_count.cc 90 = .ok (.ireturn, 1) := by decide +kernel
theorem d_VL_count_91 : decode jVL_count.cc 91 = .ok (.iconst (-1), 1) := by decide +kernel
theorem d_VL_count_92 : decode jVL_count.cc 92 = .ok (.ireturn, 1) := by decide +kernel
set_option maxHeartbeats 4000000 in
theorem s_VL_count {g : Mg} {d : Nat} {K : Ou → Wd → Prop} {w : Wd} {p1 : Int} (h : ((p1 < 0 ∨ 6 < p1) → (K (.inl (some (vI (-1)))) w)) ∧ (p1 = 0 → (Cal g LC jPr_howMany d [vA 8, vI p1] w (fun o w1 => rI o (fun x2 => K (.inl (some (vI x2))) w1)))) ∧ (p1 = 1 → (Cal g LC jPr_howMany d [vA 8, vI p1] w (fun o w3 => rI o (fun x4 => K (.inl (some (vI x4))) w3)))) ∧ (p1 = 2 → (Cal g LC jPr_howMany d [vA 8, vI p1] w (fun o w5 => rI o (fun x6 => K (.inl (some (vI x6))) w5)))) ∧ (p1 = 3 → (Cal g LC jPr_howMany d [vA 8, vI p1] w (fun o w7 => rI o (fun x8 => K (.inl (some (vI x8))) w7)))) ∧ (p1 = 4 → (((w 8 2) = 0 → (K (.inl (some (vI 0))) w)) ∧ (¬ (w 8 2) = 0 → (K (.inl (some (vI (w 8 3)))) w)))) ∧ (p1 = 5 → (K (.inl (some (vI (w 31 0)))) w)) ∧ (p1 = 6 → (K (.inl (some (vI (w 31 1)))) w))) : V g LC jVL_count (d + 1) K 0 [(0, vA 0), (1, vI p1)] [] w := by
  refine v_iload_n (pc := 0) d_VL_count_0 rfl (.tail _ (.head _)) ?_
  refine v_table (pc := 1) (tgd := 91) (tgs := [44, 44, 44, 44, 53, 75, 83]) d_VL_count_1 (by decide) (by decide) (by decide) (fun c => ?_) ⟨fun c => ?_, fun c => ?_, fun c => ?_, fun c => ?_, fun c => ?_, fun c => ?_, fun c => ?_, trivial⟩
  · replace h := h.1 c
    refine v_iconst (pc := 91) d_VL_count_91 (by decide) ?_
    exact v_iret (pc := 92) d_VL_count_92 rfl h
  · replace h := h.2.1 c
    refine v_aload_n (pc := 44) d_VL_count_44 rfl (.head _) ?_
    refine v_getr (C := "") (pc := 45) (r := 8) d_VL_count_45 fl_VL_25 cC_0.1 cC_0.2 (Or.inl ⟨_, rfl⟩) rC_0_3 ?_
    refine v_iload_n (pc := 48) d_VL_count_48 rfl (.tail _ (.head _)) ?_
    refine v_callV (pc := 49) (J' := jPr_howMany) (d' := d) (o := 8) (ci := 7) (N := 11) (T := cT7) (As := [vI p1]) d_VL_count_49 ml_VL_109 cC_8.1 cC_8.2 (by decide) rfl rfl (Nat.le_of_ble_eq_true rfl) (Nat.le_refl _) rfl (Cal.weak h (fun o w1 h => ?_))
    rcases rI_of h with ⟨x2, rfl, h⟩
    exact v_iret (pc := 52) d_VL_count_52 rfl h
  · replace h := h.2.2.1 c
    refine v_aload_n (pc := 44) d_VL_count_44 rfl (.head _) ?_
    refine v_getr (C := "") (pc := 45) (r := 8) d_VL_count_45 fl_VL_25 cC_0.1 cC_0.2 (Or.inl ⟨_, rfl⟩) rC_0_3 ?_
    refine v_iload_n (pc := 48) d_VL_count_48 rfl (.tail _ (.head _)) ?_
    refine v_callV (pc := 49) (J' := jPr_howMany) (d' := d) (o := 8) (ci := 7) (N := 11) (T := cT7) (As := [vI p1]) d_VL_count_49 ml_VL_109 cC_8.1 cC_8.2 (by decide) rfl rfl (Nat.le_of_ble_eq_true rfl) (Nat.le_refl _) rfl (Cal.weak h (fun o w3 h => ?_))
    rcases rI_of h with ⟨x4, rfl, h⟩
    exact v_iret (pc := 52) d_VL_count_52 rfl h
  · replace h := h.2.2.2.1 c
    refine v_aload_n (pc := 44) d_VL_count_44 rfl (.head _) ?_
    refine v_getr (C := "") (pc := 45) (r := 8) d_VL_count_45 fl_VL_25 cC_0.1 cC_0.2 (Or.inl ⟨_, rfl⟩) rC_0_3 ?_
    refine v_iload_n (pc := 48) d_VL_count_48 rfl (.tail _ (.head _)) ?_
    refine v_callV (pc := 49) (J' := jPr_howMany) (d' := d) (o := 8) (ci := 7) (N := 11) (T := cT7) (As := [vI p1]) d_VL_count_49 ml_VL_109 cC_8.1 cC_8.2 (by decide) rfl rfl (Nat.le_of_ble_eq_true rfl) (Nat.le_refl _) rfl (Cal.weak h (fun o w5 h => ?_))
    rcases rI_of h with ⟨x6, rfl, h⟩
    exact v_iret (pc := 52) d_VL_count_52 rfl h
  · replace h := h.2.2.2.2.1 c
    refine v_aload_n (pc := 44) d_VL_count_44 rfl (.head _) ?_
    refine v_getr (C := "") (pc := 45) (r := 8) d_VL_count_45 fl_VL_25 cC_0.1 cC_0.2 (Or.inl ⟨_, rfl⟩) rC_0_3 ?_
    refine v_iload_n (pc := 48) d_VL_count_48 rfl (.tail _ (.head _)) ?_
    refine v_callV (pc := 49) (J' := jPr_howMany) (d' := d) (o := 8) (ci := 7) (N := 11) (T := cT7) (As := [vI p1]) d_VL_count_49 ml_VL_109 cC_8.1 cC_8.2 (by decide) rfl rfl (Nat.le_of_ble_eq_true rfl) (Nat.le_refl _) rfl (Cal.weak h (fun o w7 h => ?_))
    rcases rI_of h with ⟨x8, rfl, h⟩
    exact v_iret (pc := 52) d_VL_count_52 rfl h
  · replace h := h.2.2.2.2.2.1 c
    refine v_aload_n (pc := 53) d_VL_count_53 rfl (.head _) ?_
    refine v_getr (C := "") (pc := 54) (r := 8) d_VL_count_54 fl_VL_25 cC_0.1 cC_0.2 (Or.inl ⟨_, rfl⟩) rC_0_3 ?_
    refine v_geti (pc := 57) (x := (w 8 2)) d_VL_count_57 fl_VL_84 cC_8.1 cC_8.2 (Or.inr rfl) rfl ?_
    refine v_ifeq (pc := 60) (tgt := 73) d_VL_count_60 (by decide) (fun c => ?_) (fun c => ?_)
    · replace h := h.1 c
      refine v_iconst (pc := 73) d_VL_count_73 (by decide) ?_
      exact v_iret (pc := 74) d_VL_count_74 rfl h
    · replace h := h.2 c
      refine v_aload_n (pc := 63) d_VL_count_63 rfl (.head _) ?_
      refine v_getr (C := "") (pc := 64) (r := 8) d_VL_count_64 fl_VL_25 cC_0.1 cC_0.2 (Or.inl ⟨_, rfl⟩) rC_0_3 ?_
      refine v_geti (pc := 67) (x := (w 8 3)) d_VL_count_67 fl_VL_74 cC_8.1 cC_8.2 (Or.inl rfl) rfl ?_
      refine v_goto (pc := 70) (tgt := 74) d_VL_count_70 (by decide) ?_
      exact v_iret (pc := 74) d_VL_count_74 rfl h
  · replace h := h.2.2.2.2.2.2.1 c
    refine v_aload_n (pc := 75) d_VL_count_75 rfl (.head _) ?_
    refine v_getr (C := "") (pc := 76) (r := 31) d_VL_count_76 fl_VL_41 cC_0.1 cC_0.2 (Or.inl ⟨_, rfl⟩) rC_0_5 ?_
    refine v_geti (pc := 79) (x := (w 31 0)) d_VL_count_79 fl_VL_112 cC_31.1 cC_31.2 (Or.inl rfl) rfl ?_
    exact v_iret (pc := 82) d_VL_count_82 rfl h
  · replace h := h.2.2.2.2.2.2.2 c
    refine v_aload_n (pc := 83) d_VL_count_83 rfl (.head _) ?_
    refine v_getr (C := "") (pc := 84) (r := 31) d_VL_count_84 fl_VL_41 cC_0.1 cC_0.2 (Or.inl ⟨_, rfl⟩) rC_0_5 ?_
    refine v_geti (pc := 87) (x := (w 31 1)) d_VL_count_87 fl_VL_115 cC_31.1 cC_31.2 (Or.inl rfl) rfl ?_
    exact v_iret (pc := 90) d_VL_count_90 rfl h
theorem d_VL_nodes_0 : decode jVL_nodes.cc 0 = .ok (.iload_n 1, 1) := by decide +kernel
theorem d_VL_nodes_1 : decode jVL_nodes.cc 1 = .ok (.iconst 1, 1) := by decide +kernel
theorem d_VL_nodes_2 : decode jVL_nodes.cc 2 = .ok (.if_icmp .lt 9, 3) := by decide +kernel
theorem d_VL_nodes_5 : decode jVL_nodes.cc 5 = .ok (.iload_n 1, 1) := by decide +kernel
theorem d_VL_nodes_6 : decode jVL_nodes.cc 6 = .ok (.bipush 40, 2) := by decide +kernel
theorem d_VL_nodes_8 : decode jVL_nodes.cc 8 = .ok (.if_icmp .le 5, 3) := by decide +kernel
theorem d_VL_nodes_11 : decode jVL_nodes.cc 11 = .ok (.iconst (-1), 1) := by decide +kernel
theorem d_VL_nodes_12 : decode jVL_nodes.cc 12 = .ok (.ireturn, 1) := by decide +kernel
theorem d_VL_nodes_13 : decode jVL_nodes.cc 13 = .ok (.aload_n 0, 1) := by decide +kernel
theorem d_VL_nodes_14 : decode jVL_nodes.cc 14 = .ok (.getfield 50, 3) := by decide +kernel
theorem d_VL_nodes_17 : decode jVL_nodes.cc 17 = .ok (.iconst 0, 1) := by decide +kernel
theorem d_VL_nodes_18 : decode jVL_nodes.cc 18 = .ok (.putfield 62, 3) := by decide +kernel
theorem d_VL_nodes_21 : decode jVL_nodes.cc 21 = .ok (.aload_n 0, 1) := by decide +kernel
theorem d_VL_nodes_22 : decode jVL_nodes.cc 22 = .ok (.getfield 41, 3) := by decide +kernel
theorem d_VL_nodes_25 : decode jVL_nodes.cc 25 = .ok (.getfield 112, 3) := by decide +kernel
theorem d_VL_nodes_28 : decode jVL_nodes.cc 28 = .ok (.istore_n 2, 1) := by decide +kernel
theorem d_VL_nodes_29 : decode jVL_nodes.cc 29 = .ok (.aload_n 0, 1) := by decide +kernel
theorem d_VL_nodes_30 : decode jVL_nodes.cc 30 = .ok (.getfield 41, 3) := by decide +kernel
theorem d_VL_nodes_33 : decode jVL_nodes.cc 33 = .ok (.iload_n 1, 1) := by decide +kernel
theorem d_VL_nodes_34 : decode jVL_nodes.cc 34 = .ok (.invokevirtual 118, 3) := by decide +kernel
theorem d_VL_nodes_37 : decode jVL_nodes.cc 37 = .ok (.iload_n 2, 1) := by decide +kernel
theorem d_VL_nodes_38 : decode jVL_nodes.cc 38 = .ok (.ireturn, 1) := by decide +kernel
set_option maxHeartbeats 4000000 in
theorem s_VL_nodes {g : Mg} {d : Nat} {K : Ou → Wd → Prop} {w : Wd} {p1 : Int} (h : (p1 < 1 → (K (.inl (some (vI (-1)))) w)) ∧ (¬ p1 < 1 → ((p1 ≤ 40 → (Cal g LC jGr_clear d [vA 31, vI p1] (up w 43 11 0) (fun o w1 => rV o (K (.inl (some (vI (w 31 0)))) w1)))) ∧ (¬ p1 ≤ 40 → (K (.inl (some (vI (-1)))) w))))) : V g LC jVL_nodes (d + 1) K 0 [(0, vA 0), (1, vI p1)] [] w := by
  refine v_iload_n (pc := 0) d_VL_nodes_0 rfl (.tail _ (.head _)) ?_
  refine v_iconst (pc := 1) d_VL_nodes_1 (by decide) ?_
  refine v_icmplt (pc := 2) (tgt := 11) d_VL_nodes_2 (by decide) (fun c => ?_) (fun c => ?_)
  · replace h := h.1 c
    refine v_iconst (pc := 11) d_VL_nodes_11 (by decide) ?_
    exact v_iret (pc := 12) d_VL_nodes_12 rfl h
  · replace h := h.2 c
    refine v_iload_n (pc := 5) d_VL_nodes_5 rfl (.tail _ (.head _)) ?_
    refine v_bipush (pc := 6) d_VL_nodes_6 (by decide) rfl ?_
    refine v_icmple (pc := 8) (tgt := 13) d_VL_nodes_8 (by decide) (fun c => ?_) (fun c => ?_)
    · replace h := h.1 c
      refine v_aload_n (pc := 13) d_VL_nodes_13 rfl (.head _) ?_
      refine v_getr (C := "") (pc := 14) (r := 43) d_VL_nodes_14 fl_VL_50 cC_0.1 cC_0.2 (Or.inl ⟨_, rfl⟩) rC_0_6 ?_
      refine v_iconst (pc := 17) d_VL_nodes_17 (by decide) ?_
      refine v_putz (pc := 18) d_VL_nodes_18 fp_VL_62 cC_43.1 cC_43.2 (by decide) rfl (by decide) ?_
      refine v_aload_n (pc := 21) d_VL_nodes_21 rfl (.head _) ?_
      refine v_getr (C := "") (pc := 22) (r := 31) d_VL_nodes_22 fl_VL_41 cC_0.1 cC_0.2 (Or.inl ⟨_, rfl⟩) rC_0_5 ?_
      refine v_geti (pc := 25) (x := (w 31 0)) d_VL_nodes_25 fl_VL_112 cC_31.1 cC_31.2 (Or.inl rfl) rfl ?_
      refine v_istore_n (pc := 28) (ls' := [(2, vI (w 31 0)), (0, vA 0), (1, vI p1)]) d_VL_nodes_28 rfl (by decide) rfl ?_
      refine v_aload_n (pc := 29) d_VL_nodes_29 rfl (.tail _ (.head _)) ?_
      refine v_getr (C := "") (pc := 30) (r := 31) d_VL_nodes_30 fl_VL_41 cC_0.1 cC_0.2 (Or.inl ⟨_, rfl⟩) rC_0_5 ?_
      refine v_iload_n (pc := 33) d_VL_nodes_33 rfl (.tail _ (.tail _ (.head _))) ?_
      refine v_callV (pc := 34) (J' := jGr_clear) (d' := d) (o := 31) (ci := 3) (N := 13) (T := cT3) (As := [vI p1]) d_VL_nodes_34 ml_VL_118 cC_31.1 cC_31.2 (by decide) rfl rfl (Nat.le_of_ble_eq_true rfl) (Nat.le_refl _) rfl (Cal.weak h (fun o w1 h => ?_))
      rcases rV_of h with ⟨rfl, h⟩
      refine v_iload_n (pc := 37) d_VL_nodes_37 rfl (.head _) ?_
      exact v_iret (pc := 38) d_VL_nodes_38 rfl h
    · replace h := h.2 c
      refine v_iconst (pc := 11) d_VL_nodes_11 (by decide) ?_
      exact v_iret (pc := 12) d_VL_nodes_12 rfl h
theorem d_VL_arc_0 : decode jVL_arc.cc 0 = .ok (.aload_n 0, 1) := by decide +kernel
theorem d_VL_arc_1 : decode jVL_arc.cc 1 = .ok (.getfield 41, 3) := by decide +kernel
theorem d_VL_arc_4 : decode jVL_arc.cc 4 = .ok (.iload_n 1, 1) := by decide +kernel
theorem d_VL_arc_5 : decode jVL_arc.cc 5 = .ok (.invokevirtual 121, 3) := by decide +kernel
theorem d_VL_arc_8 : decode jVL_arc.cc 8 = .ok (.ifCond .eq 14, 3) := by decide +kernel
theorem d_VL_arc_11 : decode jVL_arc.cc 11 = .ok (.aload_n 0, 1) := by decide +kernel
theorem d_VL_arc_12 : decode jVL_arc.cc 12 = .ok (.getfield 41, 3) := by decide +kernel
theorem d_VL_arc_15 : decode jVL_arc.cc 15 = .ok (.iload_n 2, 1) := by decide +kernel
theorem d_VL_arc_16 : decode jVL_arc.cc 16 = .ok (.invokevirtual 121, 3) := by decide +kernel
theorem d_VL_arc_19 : decode jVL_arc.cc 19 = .ok (.ifCond .ne 5, 3) := by decide +kernel
theorem d_VL_arc_22 : decode jVL_arc.cc 22 = .ok (.iconst (-1), 1) := by decide +kernel
theorem d_VL_arc_23 : decode jVL_arc.cc 23 = .ok (.ireturn, 1) := by decide +kernel
theorem d_VL_arc_24 : decode jVL_arc.cc 24 = .ok (.aload_n 0, 1) := by decide +kernel
theorem d_VL_arc_25 : decode jVL_arc.cc 25 = .ok (.getfield 41, 3) := by decide +kernel
theorem d_VL_arc_28 : decode jVL_arc.cc 28 = .ok (.getfield 115, 3) := by decide +kernel
theorem d_VL_arc_31 : decode jVL_arc.cc 31 = .ok (.bipush 120, 2) := by decide +kernel
theorem d_VL_arc_33 : decode jVL_arc.cc 33 = .ok (.if_icmp .lt 6, 3) := by decide +kernel
theorem d_VL_arc_36 : decode jVL_arc.cc 36 = .ok (.bipush (-3), 2) := by decide +kernel
theorem d_VL_arc_38 : decode jVL_arc.cc 38 = .ok (.ireturn, 1) := by decide +kernel
theorem d_VL_arc_39 : decode jVL_arc.cc 39 = .ok (.aload_n 0, 1) := by decide +kernel
theorem d_VL_arc_40 : decode jVL_arc.cc 40 = .ok (.getfield 50, 3) := by decide +kernel
theorem d_VL_arc_43 : decode jVL_arc.cc 43 = .ok (.iconst 0, 1) := by decide +kernel
theorem d_VL_arc_44 : decode jVL_arc.cc 44 = .ok (.putfield 62, 3) := by decide +kernel
theorem d_VL_arc_47 : decode jVL_arc.cc 47 = .ok (.aload_n 0, 1) := by decide +kernel
theorem d_VL_arc_48 : decode jVL_arc.cc 48 = .ok (.getfield 41, 3) := by decide +kernel
theorem d_VL_arc_51 : decode jVL_arc.cc 51 = .ok (.iload_n 1, 1) := by decide +kernel
theorem d_VL_arc_52 : decode jVL_arc.cc 52 = .ok (.iload_n 2, 1) := by decide +kernel
theorem d_VL_arc_53 : decode jVL_arc.cc 53 = .ok (.invokevirtual 125, 3) := by decide +kernel
theorem d_VL_arc_56 : decode jVL_arc.cc 56 = .ok (.ireturn, 1) := by decide +kernel
set_option maxHeartbeats 4000000 in
theorem s_VL_arc {g : Mg} {d : Nat} {K : Ou → Wd → Prop} {w : Wd} {p1 : Int} {p2 : Int} (h : Cal g LC jGr_hasNode d [vA 31, vI p1] w (fun o w1 => rI o (fun x2 => (x2 = 0 → (K (.inl (some (vI (-1)))) w1)) ∧ (¬ x2 = 0 → (Cal g LC jGr_hasNode d [vA 31, vI p2] w1 (fun o w3 => rI o (fun x4 => (¬ x4 = 0 → (((w3 31 1) < 120 → (Cal g LC jGr_add d [vA 31, vI p1, vI p2] (up w3 43 11 0) (fun o w5 => rI o (fun x6 => K (.inl (some (vI x6))) w5)))) ∧ (¬ (w3 31 1) < 120 → (K (.inl (some (vI (-3)))) w3)))) ∧ (x4 = 0 → (K (.inl (some (vI (-1)))) w3))))))))) : V g LC jVL_arc (d + 1) K 0 [(0, vA 0), (1, vI p1), (2, vI p2)] [] w := by
  refine v_aload_n (pc := 0) d_VL_arc_0 rfl (.head _) ?_
  refine v_getr (C := "") (pc := 1) (r := 31) d_VL_arc_1 fl_VL_41 cC_0.1 cC_0.2 (Or.inl ⟨_, rfl⟩) rC_0_5 ?_
  refine v_iload_n (pc := 4) d_VL_arc_4 rfl (.tail _ (.head _)) ?_
  refine v_callV (pc := 5) (J' := jGr_hasNode) (d' := d) (o := 31) (ci := 3) (N := 13) (T := cT3) (As := [vI p1]) d_VL_arc_5 ml_VL_121 cC_31.1 cC_31.2 (by decide) rfl rfl (Nat.le_of_ble_eq_true rfl) (Nat.le_refl _) rfl (Cal.weak h (fun o w1 h => ?_))
  rcases rI_of h with ⟨x2, rfl, h⟩
  refine v_ifeq (pc := 8) (tgt := 22) d_VL_arc_8 (by decide) (fun c => ?_) (fun c => ?_)
  · replace h := h.1 c
    refine v_iconst (pc := 22) d_VL_arc_22 (by decide) ?_
    exact v_iret (pc := 23) d_VL_arc_23 rfl h
  · replace h := h.2 c
    refine v_aload_n (pc := 11) d_VL_arc_11 rfl (.head _) ?_
    refine v_getr (C := "") (pc := 12) (r := 31) d_VL_arc_12 fl_VL_41 cC_0.1 cC_0.2 (Or.inl ⟨_, rfl⟩) rC_0_5 ?_
    refine v_iload_n (pc := 15) d_VL_arc_15 rfl (.tail _ (.tail _ (.head _))) ?_
    refine v_callV (pc := 16) (J' := jGr_hasNode) (d' := d) (o := 31) (ci := 3) (N := 13) (T := cT3) (As := [vI p2]) d_VL_arc_16 ml_VL_121 cC_31.1 cC_31.2 (by decide) rfl rfl (Nat.le_of_ble_eq_true rfl) (Nat.le_refl _) rfl (Cal.weak h (fun o w3 h => ?_))
    rcases rI_of h with ⟨x4, rfl, h⟩
    refine v_ifne (pc := 19) (tgt := 24) d_VL_arc_19 (by decide) (fun c => ?_) (fun c => ?_)
    · replace h := h.1 c
      refine v_aload_n (pc := 24) d_VL_arc_24 rfl (.head _) ?_
      refine v_getr (C := "") (pc := 25) (r := 31) d_VL_arc_25 fl_VL_41 cC_0.1 cC_0.2 (Or.inl ⟨_, rfl⟩) rC_0_5 ?_
      refine v_geti (pc := 28) (x := (w3 31 1)) d_VL_arc_28 fl_VL_115 cC_31.1 cC_31.2 (Or.inl rfl) rfl ?_
      refine v_bipush (pc := 31) d_VL_arc_31 (by decide) rfl ?_
      refine v_icmplt (pc := 33) (tgt := 39) d_VL_arc_33 (by decide) (fun c => ?_) (fun c => ?_)
      · replace h := h.1 c
        refine v_aload_n (pc := 39) d_VL_arc_39 rfl (.head _) ?_
        refine v_getr (C := "") (pc := 40) (r := 43) d_VL_arc_40 fl_VL_50 cC_0.1 cC_0.2 (Or.inl ⟨_, rfl⟩) rC_0_6 ?_
        refine v_iconst (pc := 43) d_VL_arc_43 (by decide) ?_
        refine v_putz (pc := 44) d_VL_arc_44 fp_VL_62 cC_43.1 cC_43.2 (by decide) rfl (by decide) ?_
        refine v_aload_n (pc := 47) d_VL_arc_47 rfl (.head _) ?_
        refine v_getr (C := "") (pc := 48) (r := 31) d_VL_arc_48 fl_VL_41 cC_0.1 cC_0.2 (Or.inl ⟨_, rfl⟩) rC_0_5 ?_
        refine v_iload_n (pc := 51) d_VL_arc_51 rfl (.tail _ (.head _)) ?_
        refine v_iload_n (pc := 52) d_VL_arc_52 rfl (.tail _ (.tail _ (.head _))) ?_
        refine v_callV (pc := 53) (J' := jGr_add) (d' := d) (o := 31) (ci := 3) (N := 13) (T := cT3) (As := [vI p1, vI p2]) d_VL_arc_53 ml_VL_125 cC_31.1 cC_31.2 (by decide) rfl rfl (Nat.le_of_ble_eq_true rfl) (Nat.le_refl _) rfl (Cal.weak h (fun o w5 h => ?_))
        rcases rI_of h with ⟨x6, rfl, h⟩
        exact v_iret (pc := 56) d_VL_arc_56 rfl h
      · replace h := h.2 c
        refine v_bipush (pc := 36) d_VL_arc_36 (by decide) rfl ?_
        exact v_iret (pc := 38) d_VL_arc_38 rfl h
    · replace h := h.2 c
      refine v_iconst (pc := 22) d_VL_arc_22 (by decide) ?_
      exact v_iret (pc := 23) d_VL_arc_23 rfl h
theorem d_VL_weight_0 : decode jVL_weight.cc 0 = .ok (.iload_n 1, 1) := by decide +kernel
theorem d_VL_weight_1 : decode jVL_weight.cc 1 = .ok (.ifCond .lt 23, 3) := by decide +kernel
theorem d_VL_weight_4 : decode jVL_weight.cc 4 = .ok (.iload_n 1, 1) := by decide +kernel
theorem d_VL_weight_5 : decode jVL_weight.cc 5 = .ok (.aload_n 0, 1) := by decide +kernel
theorem d_VL_weight_6 : decode jVL_weight.cc 6 = .ok (.getfield 41, 3) := by decide +kernel
theorem d_VL_weight_9 : decode jVL_weight.cc 9 = .ok (.getfield 115, 3) := by decide +kernel
theorem d_VL_weight_12 : decode jVL_weight.cc 12 = .ok (.if_icmp .ge 12, 3) := by decide +kernel
theorem d_VL_weight_15 : decode jVL_weight.cc 15 = .ok (.iload_n 2, 1) := by decide +kernel
theorem d_VL_weight_16 : decode jVL_weight.cc 16 = .ok (.ifCond .lt 8, 3) := by decide +kernel
theorem d_VL_weight_19 : decode jVL_weight.cc 19 = .ok (.iload_n 2, 1) := by decide +kernel
theorem d_VL_weight_20 : decode jVL_weight.cc 20 = .ok (.iconst 4, 1) := by decide +kernel
theorem d_VL_weight_21 : decode jVL_weight.cc 21 = .ok (.if_icmp .lt 5, 3) := by decide +kernel
theorem d_VL_weight_24 : decode jVL_weight.cc 24 = .ok (.iconst 0, 1) := by decide +kernel
theorem d_VL_weight_25 : decode jVL_weight.cc 25 = .ok (.ireturn, 1) := by decide +kernel
theorem d_VL_weight_26 : decode jVL_weight.cc 26 = .ok (.aload_n 0, 1) := by decide +kernel
theorem d_VL_weight_27 : decode jVL_weight.cc 27 = .ok (.getfield 41, 3) := by decide +kernel
theorem d_VL_weight_30 : decode jVL_weight.cc 30 = .ok (.iload_n 1, 1) := by decide +kernel
theorem d_VL_weight_31 : decode jVL_weight.cc 31 = .ok (.iload_n 2, 1) := by decide +kernel
theorem d_VL_weight_32 : decode jVL_weight.cc 32 = .ok (.iload_n 3, 1) := by decide +kernel
theorem d_VL_weight_33 : decode jVL_weight.cc 33 = .ok (.invokevirtual 129, 3) := by decide +kernel
theorem d_VL_weight_36 : decode jVL_weight.cc 36 = .ok (.ireturn, 1) := by decide +kernel
set_option maxHeartbeats 4000000 in
theorem s_VL_weight {g : Mg} {d : Nat} {K : Ou → Wd → Prop} {w : Wd} {p1 : Int} {p2 : Int} {p3 : Int} (h : (p1 < 0 → (K (.inl (some (vI 0))) w)) ∧ (¬ p1 < 0 → (((w 31 1) ≤ p1 → (K (.inl (some (vI 0))) w)) ∧ (¬ (w 31 1) ≤ p1 → ((p2 < 0 → (K (.inl (some (vI 0))) w)) ∧ (¬ p2 < 0 → ((p2 < 4 → (Cal g LC jGr_setWeight d [vA 31, vI p1, vI p2, vI p3] w (fun o w1 => rI o (fun x2 => K (.inl (some (vI x2))) w1)))) ∧ (¬ p2 < 4 → (K (.inl (some (vI 0))) w))))))))) : V g LC jVL_weight (d + 1) K 0 [(0, vA 0), (1, vI p1), (2, vI p2), (3, vI p3)] [] w := by
  refine v_iload_n (pc := 0) d_VL_weight_0 rfl (.tail _ (.head _)) ?_
  refine v_iflt (pc := 1) (tgt := 24) d_VL_weight_1 (by decide) (fun c => ?_) (fun c => ?_)
  · replace h := h.1 c
    refine v_iconst (pc := 24) d_VL_weight_24 (by decide) ?_
    exact v_iret (pc := 25) d_VL_weight_25 rfl h
  · replace h := h.2 c
    refine v_iload_n (pc := 4) d_VL_weight_4 rfl (.tail _ (.head _)) ?_
    refine v_aload_n (pc := 5) d_VL_weight_5 rfl (.head _) ?_
    refine v_getr (C := "") (pc := 6) (r := 31) d_VL_weight_6 fl_VL_41 cC_0.1 cC_0.2 (Or.inl ⟨_, rfl⟩) rC_0_5 ?_
    refine v_geti (pc := 9) (x := (w 31 1)) d_VL_weight_9 fl_VL_115 cC_31.1 cC_31.2 (Or.inl rfl) rfl ?_
    refine v_icmpge (pc := 12) (tgt := 24) d_VL_weight_12 (by decide) (fun c => ?_) (fun c => ?_)
    · replace h := h.1 c
      refine v_iconst (pc := 24) d_VL_weight_24 (by decide) ?_
      exact v_iret (pc := 25) d_VL_weight_25 rfl h
    · replace h := h.2 c
      refine v_iload_n (pc := 15) d_VL_weight_15 rfl (.tail _ (.tail _ (.head _))) ?_
      refine v_iflt (pc := 16) (tgt := 24) d_VL_weight_16 (by decide) (fun c => ?_) (fun c => ?_)
      · replace h := h.1 c
        refine v_iconst (pc := 24) d_VL_weight_24 (by decide) ?_
        exact v_iret (pc := 25) d_VL_weight_25 rfl h
      · replace h := h.2 c
        refine v_iload_n (pc := 19) d_VL_weight_19 rfl (.tail _ (.tail _ (.head _))) ?_
        refine v_iconst (pc := 20) d_VL_weight_20 (by decide) ?_
        refine v_icmplt (pc := 21) (tgt := 26) d_VL_weight_21 (by decide) (fun c => ?_) (fun c => ?_)
        · replace h := h.1 c
          refine v_aload_n (pc := 26) d_VL_weight_26 rfl (.head _) ?_
          refine v_getr (C := "") (pc := 27) (r := 31) d_VL_weight_27 fl_VL_41 cC_0.1 cC_0.2 (Or.inl ⟨_, rfl⟩) rC_0_5 ?_
          refine v_iload_n (pc := 30) d_VL_weight_30 rfl (.tail _ (.head _)) ?_
          refine v_iload_n (pc := 31) d_VL_weight_31 rfl (.tail _ (.tail _ (.head _))) ?_
          refine v_iload_n (pc := 32) d_VL_weight_32 rfl (.tail _ (.tail _ (.tail _ (.head _)))) ?_
          refine v_callV (pc := 33) (J' := jGr_setWeight) (d' := d) (o := 31) (ci := 3) (N := 13) (T := cT3) (As := [vI p1, vI p2, vI p3]) d_VL_weight_33 ml_VL_129 cC_31.1 cC_31.2 (by decide) rfl rfl (Nat.le_of_ble_eq_true rfl) (Nat.le_refl _) rfl (Cal.weak h (fun o w1 h => ?_))
          rcases rI_of h with ⟨x2, rfl, h⟩
          exact v_iret (pc := 36) d_VL_weight_36 rfl h
        · replace h := h.2 c
          refine v_iconst (pc := 24) d_VL_weight_24 (by decide) ?_
          exact v_iret (pc := 25) d_VL_weight_25 rfl h
theorem d_VL_begin_0 : decode jVL_begin.cc 0 = .ok (.aload_n 0, 1) := by decide +kernel
theorem d_VL_begin_1 : decode jVL_begin.cc 1 = .ok (.getfield 25, 3) := by decide +kernel
theorem d_VL_begin_4 : decode jVL_begin.cc 4 = .ok (.getfield 84, 3) := by decide +kernel
theorem d_VL_begin_7 : decode jVL_begin.cc 7 = .ok (.ifCond .ne 5, 3) := by decide +kernel
theorem d_VL_begin_10 : decode jVL_begin.cc 10 = .ok (.iconst (-1), 1) := by decide +kernel
theorem d_VL_begin_11 : decode jVL_begin.cc 11 = .ok (.ireturn, 1) := by decide +kernel
theorem d_VL_begin_12 : decode jVL_begin.cc 12 = .ok (.aload_n 0, 1) := by decide +kernel
theorem d_VL_begin_13 : decode jVL_begin.cc 13 = .ok (.getfield 50, 3) := by decide +kernel
theorem d_VL_begin_16 : decode jVL_begin.cc 16 = .ok (.iload_n 1, 1) := by decide +kernel
theorem d_VL_begin_17 : decode jVL_begin.cc 17 = .ok (.invokevirtual 133, 3) := by decide +kernel
theorem d_VL_begin_20 : decode jVL_begin.cc 20 = .ok (.iconst 1, 1) := by decide +kernel
theorem d_VL_begin_21 : decode jVL_begin.cc 21 = .ok (.ireturn, 1) := by decide +kernel
set_option maxHeartbeats 4000000 in
theorem s_VL_begin {g : Mg} {d : Nat} {K : Ou → Wd → Prop} {w : Wd} {p1 : Int} (h : (¬ (w 8 2) = 0 → (Cal g LC jMa_setOut d [vA 43, vI p1] w (fun o w1 => rV o (K (.inl (some (vI 1))) w1)))) ∧ ((w 8 2) = 0 → (K (.inl (some (vI (-1)))) w))) : V g LC jVL_begin (d + 1) K 0 [(0, vA 0), (1, vI p1)] [] w := by
  refine v_aload_n (pc := 0) d_VL_begin_0 rfl (.head _) ?_
  refine v_getr (C := "") (pc := 1) (r := 8) d_VL_begin_1 fl_VL_25 cC_0.1 cC_0.2 (Or.inl ⟨_, rfl⟩) rC_0_3 ?_
  refine v_geti (pc := 4) (x := (w 8 2)) d_VL_begin_4 fl_VL_84 cC_8.1 cC_8.2 (Or.inr rfl) rfl ?_
  refine v_ifne (pc := 7) (tgt := 12) d_VL_begin_7 (by decide) (fun c => ?_) (fun c => ?_)
  · replace h := h.1 c
    refine v_aload_n (pc := 12) d_VL_begin_12 rfl (.head _) ?_
    refine v_getr (C := "") (pc := 13) (r := 43) d_VL_begin_13 fl_VL_50 cC_0.1 cC_0.2 (Or.inl ⟨_, rfl⟩) rC_0_6 ?_
    refine v_iload_n (pc := 16) d_VL_begin_16 rfl (.tail _ (.head _)) ?_
    refine v_callV (pc := 17) (J' := jMa_setOut) (d' := d) (o := 43) (ci := 5) (N := 13) (T := cT5) (As := [vI p1]) d_VL_begin_17 ml_VL_133 cC_43.1 cC_43.2 (by decide) rfl rfl (Nat.le_of_ble_eq_true rfl) (Nat.le_refl _) rfl (Cal.weak h (fun o w1 h => ?_))
    rcases rV_of h with ⟨rfl, h⟩
    refine v_iconst (pc := 20) d_VL_begin_20 (by decide) ?_
    exact v_iret (pc := 21) d_VL_begin_21 rfl h
  · replace h := h.2 c
    refine v_iconst (pc := 10) d_VL_begin_10 (by decide) ?_
    exact v_iret (pc := 11) d_VL_begin_11 rfl h
theorem d_VL_run_0 : decode jVL_run.cc 0 = .ok (.aload_n 0, 1) := by decide +kernel
theorem d_VL_run_1 : decode jVL_run.cc 1 = .ok (.getfield 50, 3) := by decide +kernel
theorem d_VL_run_4 : decode jVL_run.cc 4 = .ok (.getfield 62, 3) := by decide +kernel
theorem d_VL_run_7 : decode jVL_run.cc 7 = .ok (.ifCond .eq 14, 3) := by decide +kernel
theorem d_VL_run_10 : decode jVL_run.cc 10 = .ok (.iload_n 1, 1) := by decide +kernel
theorem d_VL_run_11 : decode jVL_run.cc 11 = .ok (.iconst 1, 1) := by decide +kernel
theorem d_VL_run_12 : decode jVL_run.cc 12 = .ok (.if_icmp .lt 9, 3) := by decide +kernel
theorem d_VL_run_15 : decode jVL_run.cc 15 = .ok (.iload_n 1, 1) := by decide +kernel
theorem d_VL_run_16 : decode jVL_run.cc 16 = .ok (.bipush 100, 2) := by decide +kernel
theorem d_VL_run_18 : decode jVL_run.cc 18 = .ok (.if_icmp .le 5, 3) := by decide +kernel
theorem d_VL_run_21 : decode jVL_run.cc 21 = .ok (.iconst (-1), 1) := by decide +kernel
theorem d_VL_run_22 : decode jVL_run.cc 22 = .ok (.ireturn, 1) := by decide +kernel
theorem d_VL_run_23 : decode jVL_run.cc 23 = .ok (.iconst 0, 1) := by decide +kernel
theorem d_VL_run_24 : decode jVL_run.cc 24 = .ok (.istore_n 2, 1) := by decide +kernel
theorem d_VL_run_25 : decode jVL_run.cc 25 = .ok (.iload_n 2, 1) := by decide +kernel
theorem d_VL_run_26 : decode jVL_run.cc 26 = .ok (.iload_n 1, 1) := by decide +kernel
theorem d_VL_run_27 : decode jVL_run.cc 27 = .ok (.if_icmp .ge 32, 3) := by decide +kernel
theorem d_VL_run_30 : decode jVL_run.cc 30 = .ok (.aload_n 0, 1) := by decide +kernel
theorem d_VL_run_31 : decode jVL_run.cc 31 = .ok (.getfield 50, 3) := by decide +kernel
theorem d_VL_run_34 : decode jVL_run.cc 34 = .ok (.invokevirtual 136, 3) := by decide +kernel
theorem d_VL_run_37 : decode jVL_run.cc 37 = .ok (.ifCond .ne 22, 3) := by decide +kernel
theorem d_VL_run_40 : decode jVL_run.cc 40 = .ok (.aload_n 0, 1) := by decide +kernel
theorem d_VL_run_41 : decode jVL_run.cc 41 = .ok (.getfield 50, 3) := by decide +kernel
theorem d_VL_run_44 : decode jVL_run.cc 44 = .ok (.invokevirtual 140, 3) := by decide +kernel
theorem d_VL_run_47 : decode jVL_run.cc 47 = .ok (.ifCond .ne 6, 3) := by decide +kernel
theorem d_VL_run_50 : decode jVL_run.cc 50 = .ok (.bipush (-4), 2) := by decide +kernel
theorem d_VL_run_52 : decode jVL_run.cc 52 = .ok (.ireturn, 1) := by decide +kernel
theorem d_VL_run_53 : decode jVL_run.cc 53 = .ok (.iinc 2 1, 3) := by decide +kernel
theorem d_VL_run_56 : decode jVL_run.cc 56 = .ok (.goto (-31), 3) := by decide +kernel
theorem d_VL_run_59 : decode jVL_run.cc 59 = .ok (.iload_n 2, 1) := by decide +kernel
theorem d_VL_run_60 : decode jVL_run.cc 60 = .ok (.ireturn, 1) := by decide +kernel
set_option maxHeartbeats 4000000 in
theorem s_VL_run {g : Mg} {d : Nat} {K : Ou → Wd → Prop} {w : Wd} {p1 : Int} (h : ((w 43 11) = 0 → (K (.inl (some (vI (-1)))) w)) ∧ (¬ (w 43 11) = 0 → ((p1 < 1 → (K (.inl (some (vI (-1)))) w)) ∧ (¬ p1 < 1 → ((p1 ≤ 100 → (V g LC jVL_run (d + 1) K 25 [(0, vA 0), (1, vI p1), (2, vI 0)] [] w)) ∧ (¬ p1 ≤ 100 → (K (.inl (some (vI (-1)))) w))))))) : V g LC jVL_run (d + 1) K 0 [(0, vA 0), (1, vI p1)] [] w := by
  refine v_aload_n (pc := 0) d_VL_run_0 rfl (.head _) ?_
  refine v_getr (C := "") (pc := 1) (r := 43) d_VL_run_1 fl_VL_50 cC_0.1 cC_0.2 (Or.inl ⟨_, rfl⟩) rC_0_6 ?_
  refine v_geti (pc := 4) (x := (w 43 11)) d_VL_run_4 fl_VL_62 cC_43.1 cC_43.2 (Or.inr rfl) rfl ?_
  refine v_ifeq (pc := 7) (tgt := 21) d_VL_run_7 (by decide) (fun c => ?_) (fun c => ?_)
  · replace h := h.1 c
    refine v_iconst (pc := 21) d_VL_run_21 (by decide) ?_
    exact v_iret (pc := 22) d_VL_run_22 rfl h
  · replace h := h.2 c
    refine v_iload_n (pc := 10) d_VL_run_10 rfl (.tail _ (.head _)) ?_
    refine v_iconst (pc := 11) d_VL_run_11 (by decide) ?_
    refine v_icmplt (pc := 12) (tgt := 21) d_VL_run_12 (by decide) (fun c => ?_) (fun c => ?_)
    · replace h := h.1 c
      refine v_iconst (pc := 21) d_VL_run_21 (by decide) ?_
      exact v_iret (pc := 22) d_VL_run_22 rfl h
    · replace h := h.2 c
      refine v_iload_n (pc := 15) d_VL_run_15 rfl (.tail _ (.head _)) ?_
      refine v_bipush (pc := 16) d_VL_run_16 (by decide) rfl ?_
      refine v_icmple (pc := 18) (tgt := 23) d_VL_run_18 (by decide) (fun c => ?_) (fun c => ?_)
      · replace h := h.1 c
        refine v_iconst (pc := 23) d_VL_run_23 (by decide) ?_
        refine v_istore_n (pc := 24) (ls' := [(2, vI 0), (0, vA 0), (1, vI p1)]) d_VL_run_24 rfl (by decide) rfl ?_
        exact v_sub (List.forall_mem_cons.mpr ⟨(.tail _ (.head _)), (List.forall_mem_cons.mpr ⟨(.tail _ (.tail _ (.head _))), (List.forall_mem_cons.mpr ⟨(.head _), (fun _ z => absurd z List.not_mem_nil)⟩)⟩)⟩) h
      · replace h := h.2 c
        refine v_iconst (pc := 21) d_VL_run_21 (by decide) ?_
        exact v_iret (pc := 22) d_VL_run_22 rfl h
set_option maxHeartbeats 4000000 in
theorem s_VL_run_25 {g : Mg} {d : Nat} {K : Ou → Wd → Prop} {w : Wd} {x1_ : Int} {x2_ : Int} (h : (x1_ ≤ x2_ → (K (.inl (some (vI x2_))) w)) ∧ (¬ x1_ ≤ x2_ → (Cal g LC jMa_hasEnded d [vA 43] w (fun o w1 => rI o (fun x2 => (¬ x2 = 0 → (K (.inl (some (vI x2_))) w1)) ∧ (x2 = 0 → (Cal g LC jMa_doTurn d [vA 43] w1 (fun o w3 => rI o (fun x4 => (¬ x4 = 0 → (V g LC jVL_run (d + 1) K 25 [(0, vA 0), (1, vI x1_), (2, vI (wr (x2_ + 1)))] [] w3)) ∧ (x4 = 0 → (K (.inl (some (vI (-4)))) w3))))))))))) : V g LC jVL_run (d + 1) K 25 [(0, vA 0), (1, vI x1_), (2, vI x2_)] [] w := by
  refine v_iload_n (pc := 25) d_VL_run_25 rfl (.tail _ (.tail _ (.head _))) ?_
  refine v_iload_n (pc := 26) d_VL_run_26 rfl (.tail _ (.head _)) ?_
  refine v_icmpge (pc := 27) (tgt := 59) d_VL_run_27 (by decide) (fun c => ?_) (fun c => ?_)
  · replace h := h.1 c
    refine v_iload_n (pc := 59) d_VL_run_59 rfl (.tail _ (.tail _ (.head _))) ?_
    exact v_iret (pc := 60) d_VL_run_60 rfl h
  · replace h := h.2 c
    refine v_aload_n (pc := 30) d_VL_run_30 rfl (.head _) ?_
    refine v_getr (C := "") (pc := 31) (r := 43) d_VL_run_31 fl_VL_50 cC_0.1 cC_0.2 (Or.inl ⟨_, rfl⟩) rC_0_6 ?_
    refine v_callV (pc := 34) (J' := jMa_hasEnded) (d' := d) (o := 43) (ci := 5) (N := 13) (T := cT5) (As := []) d_VL_run_34 ml_VL_136 cC_43.1 cC_43.2 (by decide) rfl rfl (Nat.le_of_ble_eq_true rfl) (Nat.le_refl _) rfl (Cal.weak h (fun o w1 h => ?_))
    rcases rI_of h with ⟨x2, rfl, h⟩
    refine v_ifne (pc := 37) (tgt := 59) d_VL_run_37 (by decide) (fun c => ?_) (fun c => ?_)
    · replace h := h.1 c
      refine v_iload_n (pc := 59) d_VL_run_59 rfl (.tail _ (.tail _ (.head _))) ?_
      exact v_iret (pc := 60) d_VL_run_60 rfl h
    · replace h := h.2 c
      refine v_aload_n (pc := 40) d_VL_run_40 rfl (.head _) ?_
      refine v_getr (C := "") (pc := 41) (r := 43) d_VL_run_41 fl_VL_50 cC_0.1 cC_0.2 (Or.inl ⟨_, rfl⟩) rC_0_6 ?_
      refine v_callV (pc := 44) (J' := jMa_doTurn) (d' := d) (o := 43) (ci := 5) (N := 13) (T := cT5) (As := []) d_VL_run_44 ml_VL_140 cC_43.1 cC_43.2 (by decide) rfl rfl (Nat.le_of_ble_eq_true rfl) (Nat.le_refl _) rfl (Cal.weak h (fun o w3 h => ?_))
      rcases rI_of h with ⟨x4, rfl, h⟩
      refine v_ifne (pc := 47) (tgt := 53) d_VL_run_47 (by decide) (fun c => ?_) (fun c => ?_)
      · replace h := h.1 c
        refine v_iinc (pc := 53) (ls' := [(2, vI (wr (x2_ + 1))), (0, vA 0), (1, vI x1_)]) d_VL_run_53 (.tail _ (.tail _ (.head _))) (by decide) rfl ?_
        refine v_goto (pc := 56) (tgt := 25) d_VL_run_56 (by decide) ?_
        exact v_sub (List.forall_mem_cons.mpr ⟨(.tail _ (.head _)), (List.forall_mem_cons.mpr ⟨(.tail _ (.tail _ (.head _))), (List.forall_mem_cons.mpr ⟨(.head _), (fun _ z => absurd z List.not_mem_nil)⟩)⟩)⟩) h
      · replace h := h.2 c
        refine v_bipush (pc := 50) d_VL_run_50 (by decide) rfl ?_
        exact v_iret (pc := 52) d_VL_run_52 rfl h
theorem d_VL_undo_0 : decode jVL_undo.cc 0 = .ok (.aload_n 0, 1) := by decide +kernel
theorem d_VL_undo_1 : decode jVL_undo.cc 1 = .ok (.getfield 50, 3) := by decide +kernel
theorem d_VL_undo_4 : decode jVL_undo.cc 4 = .ok (.getfield 62, 3) := by decide +kernel
theorem d_VL_undo_7 : decode jVL_undo.cc 7 = .ok (.ifCond .ne 5, 3) := by decide +kernel
theorem d_VL_undo_10 : decode jVL_undo.cc 10 = .ok (.iconst (-1), 1) := by decide +kernel
theorem d_VL_undo_11 : decode jVL_undo.cc 11 = .ok (.ireturn, 1) := by decide +kernel
theorem d_VL_undo_12 : decode jVL_undo.cc 12 = .ok (.aload_n 0, 1) := by decide +kernel
theorem d_VL_undo_13 : decode jVL_undo.cc 13 = .ok (.getfield 50, 3) := by decide +kernel
theorem d_VL_undo_16 : decode jVL_undo.cc 16 = .ok (.getfield 143, 3) := by decide +kernel
theorem d_VL_undo_19 : decode jVL_undo.cc 19 = .ok (.ifCond .ne 6, 3) := by decide +kernel
theorem d_VL_undo_22 : decode jVL_undo.cc 22 = .ok (.bipush (-2), 2) := by decide +kernel
theorem d_VL_undo_24 : decode jVL_undo.cc 24 = .ok (.ireturn, 1) := by decide +kernel
theorem d_VL_undo_25 : decode jVL_undo.cc 25 = .ok (.aload_n 0, 1) := by decide +kernel
theorem d_VL_undo_26 : decode jVL_undo.cc 26 = .ok (.getfield 50, 3) := by decide +kernel
theorem d_VL_undo_29 : decode jVL_undo.cc 29 = .ok (.invokevirtual 146, 3) := by decide +kernel
theorem d_VL_undo_32 : decode jVL_undo.cc 32 = .ok (.aload_n 0, 1) := by decide +kernel
theorem d_VL_undo_33 : decode jVL_undo.cc 33 = .ok (.getfield 50, 3) := by decide +kernel
theorem d_VL_undo_36 : decode jVL_undo.cc 36 = .ok (.invokevirtual 149, 3) := by decide +kernel
theorem d_VL_undo_39 : decode jVL_undo.cc 39 = .ok (.getfield 153, 3) := by decide +kernel
theorem d_VL_undo_42 : decode jVL_undo.cc 42 = .ok (.ireturn, 1) := by decide +kernel
set_option maxHeartbeats 4000000 in
theorem s_VL_undo {g : Mg} {d : Nat} {K : Ou → Wd → Prop} {w : Wd} (h : (¬ (w 43 11) = 0 → ((¬ (w 43 12) = 0 → (Cal g LC jMa_goBack d [vA 43] w (fun o w1 => rV o (Cal g LC jMa_now d [vA 43] w1 (fun o w2 => rA o (fun x3 => isMo x3 ∧ (K (.inl (some (vI (w2 x3 0)))) w2))))))) ∧ ((w 43 12) = 0 → (K (.inl (some (vI (-2)))) w)))) ∧ ((w 43 11) = 0 → (K (.inl (some (vI (-1)))) w))) : V g LC jVL_undo (d + 1) K 0 [(0, vA 0)] [] w := by
  refine v_aload_n (pc := 0) d_VL_undo_0 rfl (.head _) ?_
  refine v_getr (C := "") (pc := 1) (r := 43) d_VL_undo_1 fl_VL_50 cC_0.1 cC_0.2 (Or.inl ⟨_, rfl⟩) rC_0_6 ?_
  refine v_geti (pc := 4) (x := (w 43 11)) d_VL_undo_4 fl_VL_62 cC_43.1 cC_43.2 (Or.inr rfl) rfl ?_
  refine v_ifne (pc := 7) (tgt := 12) d_VL_undo_7 (by decide) (fun c => ?_) (fun c => ?_)
  · replace h := h.1 c
    refine v_aload_n (pc := 12) d_VL_undo_12 rfl (.head _) ?_
    refine v_getr (C := "") (pc := 13) (r := 43) d_VL_undo_13 fl_VL_50 cC_0.1 cC_0.2 (Or.inl ⟨_, rfl⟩) rC_0_6 ?_
    refine v_geti (pc := 16) (x := (w 43 12)) d_VL_undo_16 fl_VL_143 cC_43.1 cC_43.2 (Or.inl rfl) rfl ?_
    refine v_ifne (pc := 19) (tgt := 25) d_VL_undo_19 (by decide) (fun c => ?_) (fun c => ?_)
    · replace h := h.1 c
      refine v_aload_n (pc := 25) d_VL_undo_25 rfl (.head _) ?_
      refine v_getr (C := "") (pc := 26) (r := 43) d_VL_undo_26 fl_VL_50 cC_0.1 cC_0.2 (Or.inl ⟨_, rfl⟩) rC_0_6 ?_
      refine v_callV (pc := 29) (J' := jMa_goBack) (d' := d) (o := 43) (ci := 5) (N := 13) (T := cT5) (As := []) d_VL_undo_29 ml_VL_146 cC_43.1 cC_43.2 (by decide) rfl rfl (Nat.le_of_ble_eq_true rfl) (Nat.le_refl _) rfl (Cal.weak h (fun o w1 h => ?_))
      rcases rV_of h with ⟨rfl, h⟩
      refine v_aload_n (pc := 32) d_VL_undo_32 rfl (.head _) ?_
      refine v_getr (C := "") (pc := 33) (r := 43) d_VL_undo_33 fl_VL_50 cC_0.1 cC_0.2 (Or.inl ⟨_, rfl⟩) rC_0_6 ?_
      refine v_callV (pc := 36) (J' := jMa_now) (d' := d) (o := 43) (ci := 5) (N := 13) (T := cT5) (As := []) d_VL_undo_36 ml_VL_149 cC_43.1 cC_43.2 (by decide) rfl rfl (Nat.le_of_ble_eq_true rfl) (Nat.le_refl _) rfl (Cal.weak h (fun o w2 h => ?_))
      obtain ⟨x3, rfl, hx3, h⟩ := rA_of h
      refine v_geti (pc := 39) (x := (w2 x3 0)) d_VL_undo_39 fl_VL_153 (mo_0 hx3).1 (mo_0 hx3).2 (Or.inl rfl) rfl ?_
      exact v_iret (pc := 42) d_VL_undo_42 rfl h
    · replace h := h.2 c
      refine v_bipush (pc := 22) d_VL_undo_22 (by decide) rfl ?_
      exact v_iret (pc := 24) d_VL_undo_24 rfl h
  · replace h := h.2 c
    refine v_iconst (pc := 10) d_VL_undo_10 (by decide) ?_
    exact v_iret (pc := 11) d_VL_undo_11 rfl h
theorem d_VL_told_0 : decode jVL_told.cc 0 = .ok (.aload_n 0, 1) := by decide +kernel
theorem d_VL_told_1 : decode jVL_told.cc 1 = .ok (.getfield 50, 3) := by decide +kernel
theorem d_VL_told_4 : decode jVL_told.cc 4 = .ok (.getfield 62, 3) := by decide +kernel
theorem d_VL_told_7 : decode jVL_told.cc 7 = .ok (.ifCond .eq 14, 3) := by decide +kernel
theorem d_VL_told_10 : decode jVL_told.cc 10 = .ok (.aload_n 0, 1) := by decide +kernel
theorem d_VL_told_11 : decode jVL_told.cc 11 = .ok (.getfield 50, 3) := by decide +kernel
theorem d_VL_told_14 : decode jVL_told.cc 14 = .ok (.iload_n 1, 1) := by decide +kernel
theorem d_VL_told_15 : decode jVL_told.cc 15 = .ok (.invokevirtual 158, 3) := by decide +kernel
theorem d_VL_told_18 : decode jVL_told.cc 18 = .ok (.goto 4, 3) := by decide +kernel
theorem d_VL_told_21 : decode jVL_told.cc 21 = .ok (.iconst (-1), 1) := by decide +kernel
theorem d_VL_told_22 : decode jVL_told.cc 22 = .ok (.ireturn, 1) := by decide +kernel
set_option maxHeartbeats 4000000 in
theorem s_VL_told {g : Mg} {d : Nat} {K : Ou → Wd → Prop} {w : Wd} {p1 : Int} (h : ((w 43 11) = 0 → (K (.inl (some (vI (-1)))) w)) ∧ (¬ (w 43 11) = 0 → (Cal g LC jMa_tell d [vA 43, vI p1] w (fun o w1 => rI o (fun x2 => K (.inl (some (vI x2))) w1))))) : V g LC jVL_told (d + 1) K 0 [(0, vA 0), (1, vI p1)] [] w := by
  refine v_aload_n (pc := 0) d_VL_told_0 rfl (.head _) ?_
  refine v_getr (C := "") (pc := 1) (r := 43) d_VL_told_1 fl_VL_50 cC_0.1 cC_0.2 (Or.inl ⟨_, rfl⟩) rC_0_6 ?_
  refine v_geti (pc := 4) (x := (w 43 11)) d_VL_told_4 fl_VL_62 cC_43.1 cC_43.2 (Or.inr rfl) rfl ?_
  refine v_ifeq (pc := 7) (tgt := 21) d_VL_told_7 (by decide) (fun c => ?_) (fun c => ?_)
  · replace h := h.1 c
    refine v_iconst (pc := 21) d_VL_told_21 (by decide) ?_
    exact v_iret (pc := 22) d_VL_told_22 rfl h
  · replace h := h.2 c
    refine v_aload_n (pc := 10) d_VL_told_10 rfl (.head _) ?_
    refine v_getr (C := "") (pc := 11) (r := 43) d_VL_told_11 fl_VL_50 cC_0.1 cC_0.2 (Or.inl ⟨_, rfl⟩) rC_0_6 ?_
    refine v_iload_n (pc := 14) d_VL_told_14 rfl (.tail _ (.head _)) ?_
    refine v_callV (pc := 15) (J' := jMa_tell) (d' := d) (o := 43) (ci := 5) (N := 13) (T := cT5) (As := [vI p1]) d_VL_told_15 ml_VL_158 cC_43.1 cC_43.2 (by decide) rfl rfl (Nat.le_of_ble_eq_true rfl) (Nat.le_refl _) rfl (Cal.weak h (fun o w1 h => ?_))
    rcases rI_of h with ⟨x2, rfl, h⟩
    refine v_goto (pc := 18) (tgt := 22) d_VL_told_18 (by decide) ?_
    exact v_iret (pc := 22) d_VL_told_22 rfl h
theorem d_VL_state_0 : decode jVL_state.cc 0 = .ok (.aload_n 0, 1) := by decide +kernel
theorem d_VL_state_1 : decode jVL_state.cc 1 = .ok (.iload_n 1, 1) := by decide +kernel
theorem d_VL_state_2 : decode jVL_state.cc 2 = .ok (.invokevirtual 161, 3) := by decide +kernel
theorem d_VL_state_5 : decode jVL_state.cc 5 = .ok (.ifCond .eq 19, 3) := by decide +kernel
theorem d_VL_state_8 : decode jVL_state.cc 8 = .ok (.iload_n 2, 1) := by decide +kernel
theorem d_VL_state_9 : decode jVL_state.cc 9 = .ok (.ifCond .lt 15, 3) := by decide +kernel
theorem d_VL_state_12 : decode jVL_state.cc 12 = .ok (.iload_n 2, 1) := by decide +kernel
theorem d_VL_state_13 : decode jVL_state.cc 13 = .ok (.aload_n 0, 1) := by decide +kernel
theorem d_VL_state_14 : decode jVL_state.cc 14 = .ok (.getfield 25, 3) := by decide +kernel
theorem d_VL_state_17 : decode jVL_state.cc 17 = .ok (.iconst 1, 1) := by decide +kernel
theorem d_VL_state_18 : decode jVL_state.cc 18 = .ok (.invokevirtual 109, 3) := by decide +kernel
theorem d_VL_state_21 : decode jVL_state.cc 21 = .ok (.if_icmp .lt 5, 3) := by decide +kernel
theorem d_VL_state_24 : decode jVL_state.cc 24 = .ok (.iconst 0, 1) := by decide +kernel
theorem d_VL_state_25 : decode jVL_state.cc 25 = .ok (.ireturn, 1) := by decide +kernel
theorem d_VL_state_26 : decode jVL_state.cc 26 = .ok (.aload_n 0, 1) := by decide +kernel
theorem d_VL_state_27 : decode jVL_state.cc 27 = .ok (.getfield 50, 3) := by decide +kernel
theorem d_VL_state_30 : decode jVL_state.cc 30 = .ok (.invokevirtual 149, 3) := by decide +kernel
theorem d_VL_state_33 : decode jVL_state.cc 33 = .ok (.getfield 164, 3) := by decide +kernel
theorem d_VL_state_36 : decode jVL_state.cc 36 = .ok (.iload_n 1, 1) := by decide +kernel
theorem d_VL_state_37 : decode jVL_state.cc 37 = .ok (.bipush 8, 2) := by decide +kernel
theorem d_VL_state_39 : decode jVL_state.cc 39 = .ok (.imul, 1) := by decide +kernel
theorem d_VL_state_40 : decode jVL_state.cc 40 = .ok (.iload_n 2, 1) := by decide +kernel
theorem d_VL_state_41 : decode jVL_state.cc 41 = .ok (.iadd, 1) := by decide +kernel
theorem d_VL_state_42 : decode jVL_state.cc 42 = .ok (.iaload, 1) := by decide +kernel
theorem d_VL_state_43 : decode jVL_state.cc 43 = .ok (.ireturn, 1) := by decide +kernel
set_option maxHeartbeats 4000000 in
theorem s_VL_state {g : Mg} {d : Nat} {K : Ou → Wd → Prop} {w : Wd} {p1 : Int} {p2 : Int} (h : Cal g LC jVL_runsOn d [vA 0, vI p1] w (fun o w1 => rI o (fun x2 => (x2 = 0 → (K (.inl (some (vI 0))) w1)) ∧ (¬ x2 = 0 → ((p2 < 0 → (K (.inl (some (vI 0))) w1)) ∧ (¬ p2 < 0 → (Cal g LC jPr_howMany d [vA 8, vI 1] w1 (fun o w3 => rI o (fun x4 => (p2 < x4 → (Cal g LC jMa_now d [vA 43] w3 (fun o w5 => rA o (fun x6 => isMo x6 ∧ ((0 ≤ (wr ((wr (p1 * 8)) + p2)) ∧ (wr ((wr (p1 * 8)) + p2)) < 320) ∧ (K (.inl (some (vI (w5 (x6 + 1) ((wr ((wr (p1 * 8)) + p2)).toNat))))) w5)))))) ∧ (¬ p2 < x4 → (K (.inl (some (vI 0))) w3))))))))))) : V g LC jVL_state (d + 1) K 0 [(0, vA 0), (1, vI p1), (2, vI p2)] [] w := by
  refine v_aload_n (pc := 0) d_VL_state_0 rfl (.head _) ?_
  refine v_iload_n (pc := 1) d_VL_state_1 rfl (.tail _ (.head _)) ?_
  refine v_callV (pc := 2) (J' := jVL_runsOn) (d' := d) (o := 0) (ci := 11) (N := 7) (T := cT11) (As := [vI p1]) d_VL_state_2 ml_VL_161 cC_0.1 cC_0.2 (by decide) rfl rfl (Nat.le_of_ble_eq_true rfl) (Nat.le_refl _) rfl (Cal.weak h (fun o w1 h => ?_))
  rcases rI_of h with ⟨x2, rfl, h⟩
  refine v_ifeq (pc := 5) (tgt := 24) d_VL_state_5 (by decide) (fun c => ?_) (fun c => ?_)
  · replace h := h.1 c
    refine v_iconst (pc := 24) d_VL_state_24 (by decide) ?_
    exact v_iret (pc := 25) d_VL_state_25 rfl h
  · replace h := h.2 c
    refine v_iload_n (pc := 8) d_VL_state_8 rfl (.tail _ (.tail _ (.head _))) ?_
    refine v_iflt (pc := 9) (tgt := 24) d_VL_state_9 (by decide) (fun c => ?_) (fun c => ?_)
    · replace h := h.1 c
      refine v_iconst (pc := 24) d_VL_state_24 (by decide) ?_
      exact v_iret (pc := 25) d_VL_state_25 rfl h
    · replace h := h.2 c
      refine v_iload_n (pc := 12) d_VL_state_12 rfl (.tail _ (.tail _ (.head _))) ?_
      refine v_aload_n (pc := 13) d_VL_state_13 rfl (.head _) ?_
      refine v_getr (C := "") (pc := 14) (r := 8) d_VL_state_14 fl_VL_25 cC_0.1 cC_0.2 (Or.inl ⟨_, rfl⟩) rC_0_3 ?_
      refine v_iconst (pc := 17) d_VL_state_17 (by decide) ?_
      refine v_callV (pc := 18) (J' := jPr_howMany) (d' := d) (o := 8) (ci := 7) (N := 11) (T := cT7) (As := [vI 1]) d_VL_state_18 ml_VL_109 cC_8.1 cC_8.2 (by decide) rfl rfl (Nat.le_of_ble_eq_true rfl) (Nat.le_refl _) rfl (Cal.weak h (fun o w3 h => ?_))
      rcases rI_of h with ⟨x4, rfl, h⟩
      refine v_icmplt (pc := 21) (tgt := 26) d_VL_state_21 (by decide) (fun c => ?_) (fun c => ?_)
      · replace h := h.1 c
        refine v_aload_n (pc := 26) d_VL_state_26 rfl (.head _) ?_
        refine v_getr (C := "") (pc := 27) (r := 43) d_VL_state_27 fl_VL_50 cC_0.1 cC_0.2 (Or.inl ⟨_, rfl⟩) rC_0_6 ?_
        refine v_callV (pc := 30) (J' := jMa_now) (d' := d) (o := 43) (ci := 5) (N := 13) (T := cT5) (As := []) d_VL_state_30 ml_VL_149 cC_43.1 cC_43.2 (by decide) rfl rfl (Nat.le_of_ble_eq_true rfl) (Nat.le_refl _) rfl (Cal.weak h (fun o w5 h => ?_))
        obtain ⟨x6, rfl, hx6, h⟩ := rA_of h
        refine v_getr (C := "") (pc := 33) (r := x6 + 1) d_VL_state_33 fl_VL_164 (mo_0 hx6).1 (mo_0 hx6).2 (Or.inr ⟨_, rfl⟩) (mor_2 hx6) ?_
        refine v_iload_n (pc := 36) d_VL_state_36 rfl (.tail _ (.head _)) ?_
        refine v_bipush (pc := 37) d_VL_state_37 (by decide) rfl ?_
        refine v_imul (pc := 39) d_VL_state_39 ?_
        refine v_iload_n (pc := 40) d_VL_state_40 rfl (.tail _ (.tail _ (.head _))) ?_
        refine v_iadd (pc := 41) d_VL_state_41 ?_
        refine v_iald (pc := 42) (x := (w5 (x6 + 1) ((wr ((wr (p1 * 8)) + p2)).toNat))) d_VL_state_42 (mo_1 hx6).1 (mo_1 hx6).2 rfl h.1 ?_
        replace h := h.2
        exact v_iret (pc := 43) d_VL_state_43 rfl h
      · replace h := h.2 c
        refine v_iconst (pc := 24) d_VL_state_24 (by decide) ?_
        exact v_iret (pc := 25) d_VL_state_25 rfl h
theorem d_VL_message_0 : decode jVL_message.cc 0 = .ok (.aload_n 0, 1) := by decide +kernel
theorem d_VL_message_1 : decode jVL_message.cc 1 = .ok (.iload_n 1, 1) := by decide +kernel
theorem d_VL_message_2 : decode jVL_message.cc 2 = .ok (.invokevirtual 161, 3) := by decide +kernel
theorem d_VL_message_5 : decode jVL_message.cc 5 = .ok (.ifCond .eq 19, 3) := by decide +kernel
theorem d_VL_message_8 : decode jVL_message.cc 8 = .ok (.iload_n 2, 1) := by decide +kernel
theorem d_VL_message_9 : decode jVL_message.cc 9 = .ok (.ifCond .lt 15, 3) := by decide +kernel
theorem d_VL_message_12 : decode jVL_message.cc 12 = .ok (.iload_n 2, 1) := by decide +kernel
theorem d_VL_message_13 : decode jVL_message.cc 13 = .ok (.aload_n 0, 1) := by decide +kernel
theorem d_VL_message_14 : decode jVL_message.cc 14 = .ok (.getfield 25, 3) := by decide +kernel
theorem d_VL_message_17 : decode jVL_message.cc 17 = .ok (.iconst 2, 1) := by decide +kernel
theorem d_VL_message_18 : decode jVL_message.cc 18 = .ok (.invokevirtual 109, 3) := by decide +kernel
theorem d_VL_message_21 : decode jVL_message.cc 21 = .ok (.if_icmp .lt 5, 3) := by decide +kernel
theorem d_VL_message_24 : decode jVL_message.cc 24 = .ok (.iconst 0, 1) := by decide +kernel
theorem d_VL_message_25 : decode jVL_message.cc 25 = .ok (.ireturn, 1) := by decide +kernel
theorem d_VL_message_26 : decode jVL_message.cc 26 = .ok (.aload_n 0, 1) := by decide +kernel
theorem d_VL_message_27 : decode jVL_message.cc 27 = .ok (.getfield 50, 3) := by decide +kernel
theorem d_VL_message_30 : decode jVL_message.cc 30 = .ok (.invokevirtual 149, 3) := by decide +kernel
theorem d_VL_message_33 : decode jVL_message.cc 33 = .ok (.getfield 168, 3) := by decide +kernel
theorem d_VL_message_36 : decode jVL_message.cc 36 = .ok (.iload_n 1, 1) := by decide +kernel
theorem d_VL_message_37 : decode jVL_message.cc 37 = .ok (.iconst 4, 1) := by decide +kernel
theorem d_VL_message_38 : decode jVL_message.cc 38 = .ok (.imul, 1) := by decide +kernel
theorem d_VL_message_39 : decode jVL_message.cc 39 = .ok (.iload_n 2, 1) := by decide +kernel
theorem d_VL_message_40 : decode jVL_message.cc 40 = .ok (.iadd, 1) := by decide +kernel
theorem d_VL_message_41 : decode jVL_message.cc 41 = .ok (.iaload, 1) := by decide +kernel
theorem d_VL_message_42 : decode jVL_message.cc 42 = .ok (.ireturn, 1) := by decide +kernel
set_option maxHeartbeats 4000000 in
theorem s_VL_message {g : Mg} {d : Nat} {K : Ou → Wd → Prop} {w : Wd} {p1 : Int} {p2 : Int} (h : Cal g LC jVL_runsOn d [vA 0, vI p1] w (fun o w1 => rI o (fun x2 => (x2 = 0 → (K (.inl (some (vI 0))) w1)) ∧ (¬ x2 = 0 → ((p2 < 0 → (K (.inl (some (vI 0))) w1)) ∧ (¬ p2 < 0 → (Cal g LC jPr_howMany d [vA 8, vI 2] w1 (fun o w3 => rI o (fun x4 => (p2 < x4 → (Cal g LC jMa_now d [vA 43] w3 (fun o w5 => rA o (fun x6 => isMo x6 ∧ ((0 ≤ (wr ((wr (p1 * 4)) + p2)) ∧ (wr ((wr (p1 * 4)) + p2)) < 160) ∧ (K (.inl (some (vI (w5 (x6 + 3) ((wr ((wr (p1 * 4)) + p2)).toNat))))) w5)))))) ∧ (¬ p2 < x4 → (K (.inl (some (vI 0))) w3))))))))))) : V g LC jVL_message (d + 1) K 0 [(0, vA 0), (1, vI p1), (2, vI p2)] [] w := by
  refine v_aload_n (pc := 0) d_VL_message_0 rfl (.head _) ?_
  refine v_iload_n (pc := 1) d_VL_message_1 rfl (.tail _ (.head _)) ?_
  refine v_callV (pc := 2) (J' := jVL_runsOn) (d' := d) (o := 0) (ci := 11) (N := 7) (T := cT11) (As := [vI p1]) d_VL_message_2 ml_VL_161 cC_0.1 cC_0.2 (by decide) rfl rfl (Nat.le_of_ble_eq_true rfl) (Nat.le_refl _) rfl (Cal.weak h (fun o w1 h => ?_))
  rcases rI_of h with ⟨x2, rfl, h⟩
  refine v_ifeq (pc := 5) (tgt := 24) d_VL_message_5 (by decide) (fun c => ?_) (fun c => ?_)
  · replace h := h.1 c
    refine v_iconst (pc := 24) d_VL_message_24 (by decide) ?_
    exact v_iret (pc := 25) d_VL_message_25 rfl h
  · replace h := h.2 c
    refine v_iload_n (pc := 8) d_VL_message_8 rfl (.tail _ (.tail _ (.head _))) ?_
    refine v_iflt (pc := 9) (tgt := 24) d_VL_message_9 (by decide) (fun c => ?_) (fun c => ?_)
    · replace h := h.1 c
      refine v_iconst (pc := 24) d_VL_message_24 (by decide) ?_
      exact v_iret (pc := 25) d_VL_message_25 rfl h
    · replace h := h.2 c
      refine v_iload_n (pc := 12) d_VL_message_12 rfl (.tail _ (.tail _ (.head _))) ?_
      refine v_aload_n (pc := 13) d_VL_message_13 rfl (.head _) ?_
      refine v_getr (C := "") (pc := 14) (r := 8) d_VL_message_14 fl_VL_25 cC_0.1 cC_0.2 (Or.inl ⟨_, rfl⟩) rC_0_3 ?_
      refine v_iconst (pc := 17) d_VL_message_17 (by decide) ?_
      refine v_callV (pc := 18) (J' := jPr_howMany) (d' := d) (o := 8) (ci := 7) (N := 11) (T := cT7) (As := [vI 2]) d_VL_message_18 ml_VL_109 cC_8.1 cC_8.2 (by decide) rfl rfl (Nat.le_of_ble_eq_true rfl) (Nat.le_refl _) rfl (Cal.weak h (fun o w3 h => ?_))
      rcases rI_of h with ⟨x4, rfl, h⟩
      refine v_icmplt (pc := 21) (tgt := 26) d_VL_message_21 (by decide) (fun c => ?_) (fun c => ?_)
      · replace h := h.1 c
        refine v_aload_n (pc := 26) d_VL_message_26 rfl (.head _) ?_
        refine v_getr (C := "") (pc := 27) (r := 43) d_VL_message_27 fl_VL_50 cC_0.1 cC_0.2 (Or.inl ⟨_, rfl⟩) rC_0_6 ?_
        refine v_callV (pc := 30) (J' := jMa_now) (d' := d) (o := 43) (ci := 5) (N := 13) (T := cT5) (As := []) d_VL_message_30 ml_VL_149 cC_43.1 cC_43.2 (by decide) rfl rfl (Nat.le_of_ble_eq_true rfl) (Nat.le_refl _) rfl (Cal.weak h (fun o w5 h => ?_))
        obtain ⟨x6, rfl, hx6, h⟩ := rA_of h
        refine v_getr (C := "") (pc := 33) (r := x6 + 3) d_VL_message_33 fl_VL_168 (mo_0 hx6).1 (mo_0 hx6).2 (Or.inr ⟨_, rfl⟩) (mor_4 hx6) ?_
        refine v_iload_n (pc := 36) d_VL_message_36 rfl (.tail _ (.head _)) ?_
        refine v_iconst (pc := 37) d_VL_message_37 (by decide) ?_
        refine v_imul (pc := 38) d_VL_message_38 ?_
        refine v_iload_n (pc := 39) d_VL_message_39 rfl (.tail _ (.tail _ (.head _))) ?_
        refine v_iadd (pc := 40) d_VL_message_40 ?_
        refine v_iald (pc := 41) (x := (w5 (x6 + 3) ((wr ((wr (p1 * 4)) + p2)).toNat))) d_VL_message_41 (mo_3 hx6).1 (mo_3 hx6).2 rfl h.1 ?_
        replace h := h.2
        exact v_iret (pc := 42) d_VL_message_42 rfl h
      · replace h := h.2 c
        refine v_iconst (pc := 24) d_VL_message_24 (by decide) ?_
        exact v_iret (pc := 25) d_VL_message_25 rfl h
theorem d_VL_messages_0 : decode jVL_messages.cc 0 = .ok (.aload_n 0, 1) := by decide +kernel
theorem d_VL_messages_1 : decode jVL_messages.cc 1 = .ok (.iload_n 1, 1) := by decide +kernel
theorem d_VL_messages_2 : decode jVL_messages.cc 2 = .ok (.invokevirtual 161, 3) := by decide +kernel
theorem d_VL_messages_5 : decode jVL_messages.cc 5 = .ok (.ifCond .eq 19, 3) := by decide +kernel
theorem d_VL_messages_8 : decode jVL_messages.cc 8 = .ok (.iload_n 2, 1) := by decide +kernel
theorem d_VL_messages_9 : decode jVL_messages.cc 9 = .ok (.ifCond .lt 15, 3) := by decide +kernel
theorem d_VL_messages_12 : decode jVL_messages.cc 12 = .ok (.iload_n 2, 1) := by decide +kernel
theorem d_VL_messages_13 : decode jVL_messages.cc 13 = .ok (.aload_n 0, 1) := by decide +kernel
theorem d_VL_messages_14 : decode jVL_messages.cc 14 = .ok (.getfield 25, 3) := by decide +kernel
theorem d_VL_messages_17 : decode jVL_messages.cc 17 = .ok (.iconst 2, 1) := by decide +kernel
theorem d_VL_messages_18 : decode jVL_messages.cc 18 = .ok (.invokevirtual 109, 3) := by decide +kernel
theorem d_VL_messages_21 : decode jVL_messages.cc 21 = .ok (.if_icmp .lt 5, 3) := by decide +kernel
theorem d_VL_messages_24 : decode jVL_messages.cc 24 = .ok (.iconst (-1), 1) := by decide +kernel
theorem d_VL_messages_25 : decode jVL_messages.cc 25 = .ok (.ireturn, 1) := by decide +kernel
theorem d_VL_messages_26 : decode jVL_messages.cc 26 = .ok (.aload_n 0, 1) := by decide +kernel
theorem d_VL_messages_27 : decode jVL_messages.cc 27 = .ok (.getfield 50, 3) := by decide +kernel
theorem d_VL_messages_30 : decode jVL_messages.cc 30 = .ok (.invokevirtual 149, 3) := by decide +kernel
theorem d_VL_messages_33 : decode jVL_messages.cc 33 = .ok (.getfield 171, 3) := by decide +kernel
theorem d_VL_messages_36 : decode jVL_messages.cc 36 = .ok (.iload_n 1, 1) := by decide +kernel
theorem d_VL_messages_37 : decode jVL_messages.cc 37 = .ok (.iconst 4, 1) := by decide +kernel
theorem d_VL_messages_38 : decode jVL_messages.cc 38 = .ok (.imul, 1) := by decide +kernel
theorem d_VL_messages_39 : decode jVL_messages.cc 39 = .ok (.iload_n 2, 1) := by decide +kernel
theorem d_VL_messages_40 : decode jVL_messages.cc 40 = .ok (.iadd, 1) := by decide +kernel
theorem d_VL_messages_41 : decode jVL_messages.cc 41 = .ok (.iaload, 1) := by decide +kernel
theorem d_VL_messages_42 : decode jVL_messages.cc 42 = .ok (.ireturn, 1) := by decide +kernel
set_option maxHeartbeats 4000000 in
theorem s_VL_messages {g : Mg} {d : Nat} {K : Ou → Wd → Prop} {w : Wd} {p1 : Int} {p2 : Int} (h : Cal g LC jVL_runsOn d [vA 0, vI p1] w (fun o w1 => rI o (fun x2 => (x2 = 0 → (K (.inl (some (vI (-1)))) w1)) ∧ (¬ x2 = 0 → ((p2 < 0 → (K (.inl (some (vI (-1)))) w1)) ∧ (¬ p2 < 0 → (Cal g LC jPr_howMany d [vA 8, vI 2] w1 (fun o w3 => rI o (fun x4 => (p2 < x4 → (Cal g LC jMa_now d [vA 43] w3 (fun o w5 => rA o (fun x6 => isMo x6 ∧ ((0 ≤ (wr ((wr (p1 * 4)) + p2)) ∧ (wr ((wr (p1 * 4)) + p2)) < 160) ∧ (K (.inl (some (vI (w5 (x6 + 4) ((wr ((wr (p1 * 4)) + p2)).toNat))))) w5)))))) ∧ (¬ p2 < x4 → (K (.inl (some (vI (-1)))) w3))))))))))) : V g LC jVL_messages (d + 1) K 0 [(0, vA 0), (1, vI p1), (2, vI p2)] [] w := by
  refine v_aload_n (pc := 0) d_VL_messages_0 rfl (.head _) ?_
  refine v_iload_n (pc := 1) d_VL_messages_1 rfl (.tail _ (.head _)) ?_
  refine v_callV (pc := 2) (J' := jVL_runsOn) (d' := d) (o := 0) (ci := 11) (N := 7) (T := cT11) (As := [vI p1]) d_VL_messages_2 ml_VL_161 cC_0.1 cC_0.2 (by decide) rfl rfl (Nat.le_of_ble_eq_true rfl) (Nat.le_refl _) rfl (Cal.weak h (fun o w1 h => ?_))
  rcases rI_of h with ⟨x2, rfl, h⟩
  refine v_ifeq (pc := 5) (tgt := 24) d_VL_messages_5 (by decide) (fun c => ?_) (fun c => ?_)
  · replace h := h.1 c
    refine v_iconst (pc := 24) d_VL_messages_24 (by decide) ?_
    exact v_iret (pc := 25) d_VL_messages_25 rfl h
  · replace h := h.2 c
    refine v_iload_n (pc := 8) d_VL_messages_8 rfl (.tail _ (.tail _ (.head _))) ?_
    refine v_iflt (pc := 9) (tgt := 24) d_VL_messages_9 (by decide) (fun c => ?_) (fun c => ?_)
    · replace h := h.1 c
      refine v_iconst (pc := 24) d_VL_messages_24 (by decide) ?_
      exact v_iret (pc := 25) d_VL_messages_25 rfl h
    · replace h := h.2 c
      refine v_iload_n (pc := 12) d_VL_messages_12 rfl (.tail _ (.tail _ (.head _))) ?_
      refine v_aload_n (pc := 13) d_VL_messages_13 rfl (.head _) ?_
      refine v_getr (C := "") (pc := 14) (r := 8) d_VL_messages_14 fl_VL_25 cC_0.1 cC_0.2 (Or.inl ⟨_, rfl⟩) rC_0_3 ?_
      refine v_iconst (pc := 17) d_VL_messages_17 (by decide) ?_
      refine v_callV (pc := 18) (J' := jPr_howMany) (d' := d) (o := 8) (ci := 7) (N := 11) (T := cT7) (As := [vI 2]) d_VL_messages_18 ml_VL_109 cC_8.1 cC_8.2 (by decide) rfl rfl (Nat.le_of_ble_eq_true rfl) (Nat.le_refl _) rfl (Cal.weak h (fun o w3 h => ?_))
      rcases rI_of h with ⟨x4, rfl, h⟩
      refine v_icmplt (pc := 21) (tgt := 26) d_VL_messages_21 (by decide) (fun c => ?_) (fun c => ?_)
      · replace h := h.1 c
        refine v_aload_n (pc := 26) d_VL_messages_26 rfl (.head _) ?_
        refine v_getr (C := "") (pc := 27) (r := 43) d_VL_messages_27 fl_VL_50 cC_0.1 cC_0.2 (Or.inl ⟨_, rfl⟩) rC_0_6 ?_
        refine v_callV (pc := 30) (J' := jMa_now) (d' := d) (o := 43) (ci := 5) (N := 13) (T := cT5) (As := []) d_VL_messages_30 ml_VL_149 cC_43.1 cC_43.2 (by decide) rfl rfl (Nat.le_of_ble_eq_true rfl) (Nat.le_refl _) rfl (Cal.weak h (fun o w5 h => ?_))
        obtain ⟨x6, rfl, hx6, h⟩ := rA_of h
        refine v_getr (C := "") (pc := 33) (r := x6 + 4) d_VL_messages_33 fl_VL_171 (mo_0 hx6).1 (mo_0 hx6).2 (Or.inr ⟨_, rfl⟩) (mor_5 hx6) ?_
        refine v_iload_n (pc := 36) d_VL_messages_36 rfl (.tail _ (.head _)) ?_
        refine v_iconst (pc := 37) d_VL_messages_37 (by decide) ?_
        refine v_imul (pc := 38) d_VL_messages_38 ?_
        refine v_iload_n (pc := 39) d_VL_messages_39 rfl (.tail _ (.tail _ (.head _))) ?_
        refine v_iadd (pc := 40) d_VL_messages_40 ?_
        refine v_iald (pc := 41) (x := (w5 (x6 + 4) ((wr ((wr (p1 * 4)) + p2)).toNat))) d_VL_messages_41 (mo_4 hx6).1 (mo_4 hx6).2 rfl h.1 ?_
        replace h := h.2
        exact v_iret (pc := 42) d_VL_messages_42 rfl h
      · replace h := h.2 c
        refine v_iconst (pc := 24) d_VL_messages_24 (by decide) ?_
        exact v_iret (pc := 25) d_VL_messages_25 rfl h
theorem d_VL_global_0 : decode jVL_global.cc 0 = .ok (.aload_n 0, 1) := by decide +kernel
theorem d_VL_global_1 : decode jVL_global.cc 1 = .ok (.getfield 50, 3) := by decide +kernel
theorem d_VL_global_4 : decode jVL_global.cc 4 = .ok (.getfield 62, 3) := by decide +kernel
theorem d_VL_global_7 : decode jVL_global.cc 7 = .ok (.ifCond .eq 19, 3) := by decide +kernel
theorem d_VL_global_10 : decode jVL_global.cc 10 = .ok (.iload_n 1, 1) := by decide +kernel
theorem d_VL_global_11 : decode jVL_global.cc 11 = .ok (.ifCond .lt 15, 3) := by decide +kernel
theorem d_VL_global_14 : decode jVL_global.cc 14 = .ok (.iload_n 1, 1) := by decide +kernel
theorem d_VL_global_15 : decode jVL_global.cc 15 = .ok (.aload_n 0, 1) := by decide +kernel
theorem d_VL_global_16 : decode jVL_global.cc 16 = .ok (.getfield 25, 3) := by decide +kernel
theorem d_VL_global_19 : decode jVL_global.cc 19 = .ok (.iconst 3, 1) := by decide +kernel
theorem d_VL_global_20 : decode jVL_global.cc 20 = .ok (.invokevirtual 109, 3) := by decide +kernel
theorem d_VL_global_23 : decode jVL_global.cc 23 = .ok (.if_icmp .lt 5, 3) := by decide +kernel
theorem d_VL_global_26 : decode jVL_global.cc 26 = .ok (.iconst 0, 1) := by decide +kernel
theorem d_VL_global_27 : decode jVL_global.cc 27 = .ok (.ireturn, 1) := by decide +kernel
theorem d_VL_global_28 : decode jVL_global.cc 28 = .ok (.aload_n 0, 1) := by decide +kernel
theorem d_VL_global_29 : decode jVL_global.cc 29 = .ok (.getfield 50, 3) := by decide +kernel
theorem d_VL_global_32 : decode jVL_global.cc 32 = .ok (.invokevirtual 149, 3) := by decide +kernel
theorem d_VL_global_35 : decode jVL_global.cc 35 = .ok (.getfield 174, 3) := by decide +kernel
theorem d_VL_global_38 : decode jVL_global.cc 38 = .ok (.iload_n 1, 1) := by decide +kernel
theorem d_VL_global_39 : decode jVL_global.cc 39 = .ok (.iaload, 1) := by decide +kernel
theorem d_VL_global_40 : decode jVL_global.cc 40 = .ok (.ireturn, 1) := by decide +kernel
set_option maxHeartbeats 4000000 in
theorem s_VL_global {g : Mg} {d : Nat} {K : Ou → Wd → Prop} {w : Wd} {p1 : Int} (h : ((w 43 11) = 0 → (K (.inl (some (vI 0))) w)) ∧ (¬ (w 43 11) = 0 → ((p1 < 0 → (K (.inl (some (vI 0))) w)) ∧ (¬ p1 < 0 → (Cal g LC jPr_howMany d [vA 8, vI 3] w (fun o w1 => rI o (fun x2 => (p1 < x2 → (Cal g LC jMa_now d [vA 43] w1 (fun o w3 => rA o (fun x4 => isMo x4 ∧ ((0 ≤ p1 ∧ p1 < 4) ∧ (K (.inl (some (vI (w3 (x4 + 5) p1.toNat)))) w3)))))) ∧ (¬ p1 < x2 → (K (.inl (some (vI 0))) w1))))))))) : V g LC jVL_global (d + 1) K 0 [(0, vA 0), (1, vI p1)] [] w := by
  refine v_aload_n (pc := 0) d_VL_global_0 rfl (.head _) ?_
  refine v_getr (C := "") (pc := 1) (r := 43) d_VL_global_1 fl_VL_50 cC_0.1 cC_0.2 (Or.inl ⟨_, rfl⟩) rC_0_6 ?_
  refine v_geti (pc := 4) (x := (w 43 11)) d_VL_global_4 fl_VL_62 cC_43.1 cC_43.2 (Or.inr rfl) rfl ?_
  refine v_ifeq (pc := 7) (tgt := 26) d_VL_global_7 (by decide) (fun c => ?_) (fun c => ?_)
  · replace h := h.1 c
    refine v_iconst (pc := 26) d_VL_global_26 (by decide) ?_
    exact v_iret (pc := 27) d_VL_global_27 rfl h
  · replace h := h.2 c
    refine v_iload_n (pc := 10) d_VL_global_10 rfl (.tail _ (.head _)) ?_
    refine v_iflt (pc := 11) (tgt := 26) d_VL_global_11 (by decide) (fun c => ?_) (fun c => ?_)
    · replace h := h.1 c
      refine v_iconst (pc := 26) d_VL_global_26 (by decide) ?_
      exact v_iret (pc := 27) d_VL_global_27 rfl h
    · replace h := h.2 c
      refine v_iload_n (pc := 14) d_VL_global_14 rfl (.tail _ (.head _)) ?_
      refine v_aload_n (pc := 15) d_VL_global_15 rfl (.head _) ?_
      refine v_getr (C := "") (pc := 16) (r := 8) d_VL_global_16 fl_VL_25 cC_0.1 cC_0.2 (Or.inl ⟨_, rfl⟩) rC_0_3 ?_
      refine v_iconst (pc := 19) d_VL_global_19 (by decide) ?_
      refine v_callV (pc := 20) (J' := jPr_howMany) (d' := d) (o := 8) (ci := 7) (N := 11) (T := cT7) (As := [vI 3]) d_VL_global_20 ml_VL_109 cC_8.1 cC_8.2 (by decide) rfl rfl (Nat.le_of_ble_eq_true rfl) (Nat.le_refl _) rfl (Cal.weak h (fun o w1 h => ?_))
      rcases rI_of h with ⟨x2, rfl, h⟩
      refine v_icmplt (pc := 23) (tgt := 28) d_VL_global_23 (by decide) (fun c => ?_) (fun c => ?_)
      · replace h := h.1 c
        refine v_aload_n (pc := 28) d_VL_global_28 rfl (.head _) ?_
        refine v_getr (C := "") (pc := 29) (r := 43) d_VL_global_29 fl_VL_50 cC_0.1 cC_0.2 (Or.inl ⟨_, rfl⟩) rC_0_6 ?_
        refine v_callV (pc := 32) (J' := jMa_now) (d' := d) (o := 43) (ci := 5) (N := 13) (T := cT5) (As := []) d_VL_global_32 ml_VL_149 cC_43.1 cC_43.2 (by decide) rfl rfl (Nat.le_of_ble_eq_true rfl) (Nat.le_refl _) rfl (Cal.weak h (fun o w3 h => ?_))
        obtain ⟨x4, rfl, hx4, h⟩ := rA_of h
        refine v_getr (C := "") (pc := 35) (r := x4 + 5) d_VL_global_35 fl_VL_174 (mo_0 hx4).1 (mo_0 hx4).2 (Or.inr ⟨_, rfl⟩) (mor_6 hx4) ?_
        refine v_iload_n (pc := 38) d_VL_global_38 rfl (.tail _ (.head _)) ?_
        refine v_iald (pc := 39) (x := (w3 (x4 + 5) p1.toNat)) d_VL_global_39 (mo_5 hx4).1 (mo_5 hx4).2 rfl h.1 ?_
        replace h := h.2
        exact v_iret (pc := 40) d_VL_global_40 rfl h
      · replace h := h.2 c
        refine v_iconst (pc := 26) d_VL_global_26 (by decide) ?_
        exact v_iret (pc := 27) d_VL_global_27 rfl h
theorem d_VL_halted_0 : decode jVL_halted.cc 0 = .ok (.aload_n 0, 1) := by decide +kernel
theorem d_VL_halted_1 : decode jVL_halted.cc 1 = .ok (.iload_n 1, 1) := by decide +kernel
theorem d_VL_halted_2 : decode jVL_halted.cc 2 = .ok (.invokevirtual 161, 3) := by decide +kernel
theorem d_VL_halted_5 : decode jVL_halted.cc 5 = .ok (.ifCond .ne 5, 3) := by decide +kernel
theorem d_VL_halted_8 : decode jVL_halted.cc 8 = .ok (.iconst (-1), 1) := by decide +kernel
theorem d_VL_halted_9 : decode jVL_halted.cc 9 = .ok (.ireturn, 1) := by decide +kernel
theorem d_VL_halted_10 : decode jVL_halted.cc 10 = .ok (.aload_n 0, 1) := by decide +kernel
theorem d_VL_halted_11 : decode jVL_halted.cc 11 = .ok (.getfield 50, 3) := by decide +kernel
theorem d_VL_halted_14 : decode jVL_halted.cc 14 = .ok (.invokevirtual 149, 3) := by decide +kernel
theorem d_VL_halted_17 : decode jVL_halted.cc 17 = .ok (.getfield 177, 3) := by decide +kernel
theorem d_VL_halted_20 : decode jVL_halted.cc 20 = .ok (.iload_n 1, 1) := by decide +kernel
theorem d_VL_halted_21 : decode jVL_halted.cc 21 = .ok (.baload, 1) := by decide +kernel
theorem d_VL_halted_22 : decode jVL_halted.cc 22 = .ok (.ifCond .eq 7, 3) := by decide +kernel
theorem d_VL_halted_25 : decode jVL_halted.cc 25 = .ok (.iconst 1, 1) := by decide +kernel
theorem d_VL_halted_26 : decode jVL_halted.cc 26 = .ok (.goto 4, 3) := by decide +kernel
theorem d_VL_halted_29 : decode jVL_halted.cc 29 = .ok (.iconst 0, 1) := by decide +kernel
theorem d_VL_halted_30 : decode jVL_halted.cc 30 = .ok (.ireturn, 1) := by decide +kernel
set_option maxHeartbeats 4000000 in
theorem s_VL_halted {g : Mg} {d : Nat} {K : Ou → Wd → Prop} {w : Wd} {p1 : Int} (h : Cal g LC jVL_runsOn d [vA 0, vI p1] w (fun o w1 => rI o (fun x2 => (¬ x2 = 0 → (Cal g LC jMa_now d [vA 43] w1 (fun o w3 => rA o (fun x4 => isMo x4 ∧ ((0 ≤ p1 ∧ p1 < 40) ∧ (((w3 (x4 + 2) p1.toNat) = 0 → (K (.inl (some (vI 0))) w3)) ∧ (¬ (w3 (x4 + 2) p1.toNat) = 0 → (K (.inl (some (vI 1))) w3)))))))) ∧ (x2 = 0 → (K (.inl (some (vI (-1)))) w1))))) : V g LC jVL_halted (d + 1) K 0 [(0, vA 0), (1, vI p1)] [] w := by
  refine v_aload_n (pc := 0) d_VL_halted_0 rfl (.head _) ?_
  refine v_iload_n (pc := 1) d_VL_halted_1 rfl (.tail _ (.head _)) ?_
  refine v_callV (pc := 2) (J' := jVL_runsOn) (d' := d) (o := 0) (ci := 11) (N := 7) (T := cT11) (As := [vI p1]) d_VL_halted_2 ml_VL_161 cC_0.1 cC_0.2 (by decide) rfl rfl (Nat.le_of_ble_eq_true rfl) (Nat.le_refl _) rfl (Cal.weak h (fun o w1 h => ?_))
  rcases rI_of h with ⟨x2, rfl, h⟩
  refine v_ifne (pc := 5) (tgt := 10) d_VL_halted_5 (by decide) (fun c => ?_) (fun c => ?_)
  · replace h := h.1 c
    refine v_aload_n (pc := 10) d_VL_halted_10 rfl (.head _) ?_
    refine v_getr (C := "") (pc := 11) (r := 43) d_VL_halted_11 fl_VL_50 cC_0.1 cC_0.2 (Or.inl ⟨_, rfl⟩) rC_0_6 ?_
    refine v_callV (pc := 14) (J' := jMa_now) (d' := d) (o := 43) (ci := 5) (N := 13) (T := cT5) (As := []) d_VL_halted_14 ml_VL_149 cC_43.1 cC_43.2 (by decide) rfl rfl (Nat.le_of_ble_eq_true rfl) (Nat.le_refl _) rfl (Cal.weak h (fun o w3 h => ?_))
    obtain ⟨x4, rfl, hx4, h⟩ := rA_of h
    refine v_getr (C := "") (pc := 17) (r := x4 + 2) d_VL_halted_17 fl_VL_177 (mo_0 hx4).1 (mo_0 hx4).2 (Or.inr ⟨_, rfl⟩) (mor_3 hx4) ?_
    refine v_iload_n (pc := 20) d_VL_halted_20 rfl (.tail _ (.head _)) ?_
    refine v_zald (pc := 21) (x := (w3 (x4 + 2) p1.toNat)) d_VL_halted_21 (mo_2 hx4).1 (mo_2 hx4).2 rfl h.1 ?_
    replace h := h.2
    refine v_ifeq (pc := 22) (tgt := 29) d_VL_halted_22 (by decide) (fun c => ?_) (fun c => ?_)
    · replace h := h.1 c
      refine v_iconst (pc := 29) d_VL_halted_29 (by decide) ?_
      exact v_iret (pc := 30) d_VL_halted_30 rfl h
    · replace h := h.2 c
      refine v_iconst (pc := 25) d_VL_halted_25 (by decide) ?_
      refine v_goto (pc := 26) (tgt := 30) d_VL_halted_26 (by decide) ?_
      exact v_iret (pc := 30) d_VL_halted_30 rfl h
  · replace h := h.2 c
    refine v_iconst (pc := 8) d_VL_halted_8 (by decide) ?_
    exact v_iret (pc := 9) d_VL_halted_9 rfl h
theorem d_VL_runsOn_0 : decode jVL_runsOn.cc 0 = .ok (.aload_n 0, 1) := by decide +kernel
theorem d_VL_runsOn_1 : decode jVL_runsOn.cc 1 = .ok (.getfield 50, 3) := by decide +kernel
theorem d_VL_runsOn_4 : decode jVL_runsOn.cc 4 = .ok (.getfield 62, 3) := by decide +kernel
theorem d_VL_runsOn_7 : decode jVL_runsOn.cc 7 = .ok (.ifCond .eq 18, 3) := by decide +kernel
theorem d_VL_runsOn_10 : decode jVL_runsOn.cc 10 = .ok (.aload_n 0, 1) := by decide +kernel
theorem d_VL_runsOn_11 : decode jVL_runsOn.cc 11 = .ok (.getfield 41, 3) := by decide +kernel
theorem d_VL_runsOn_14 : decode jVL_runsOn.cc 14 = .ok (.iload_n 1, 1) := by decide +kernel
theorem d_VL_runsOn_15 : decode jVL_runsOn.cc 15 = .ok (.invokevirtual 121, 3) := by decide +kernel
theorem d_VL_runsOn_18 : decode jVL_runsOn.cc 18 = .ok (.ifCond .eq 7, 3) := by decide +kernel
theorem d_VL_runsOn_21 : decode jVL_runsOn.cc 21 = .ok (.iconst 1, 1) := by decide +kernel
theorem d_VL_runsOn_22 : decode jVL_runsOn.cc 22 = .ok (.goto 4, 3) := by decide +kernel
theorem d_VL_runsOn_25 : decode jVL_runsOn.cc 25 = .ok (.iconst 0, 1) := by decide +kernel
theorem d_VL_runsOn_26 : decode jVL_runsOn.cc 26 = .ok (.ireturn, 1) := by decide +kernel
set_option maxHeartbeats 4000000 in
theorem s_VL_runsOn {g : Mg} {d : Nat} {K : Ou → Wd → Prop} {w : Wd} {p1 : Int} (h : ((w 43 11) = 0 → (K (.inl (some (vI 0))) w)) ∧ (¬ (w 43 11) = 0 → (Cal g LC jGr_hasNode d [vA 31, vI p1] w (fun o w1 => rI o (fun x2 => (x2 = 0 → (K (.inl (some (vI 0))) w1)) ∧ (¬ x2 = 0 → (K (.inl (some (vI 1))) w1))))))) : V g LC jVL_runsOn (d + 1) K 0 [(0, vA 0), (1, vI p1)] [] w := by
  refine v_aload_n (pc := 0) d_VL_runsOn_0 rfl (.head _) ?_
  refine v_getr (C := "") (pc := 1) (r := 43) d_VL_runsOn_1 fl_VL_50 cC_0.1 cC_0.2 (Or.inl ⟨_, rfl⟩) rC_0_6 ?_
  refine v_geti (pc := 4) (x := (w 43 11)) d_VL_runsOn_4 fl_VL_62 cC_43.1 cC_43.2 (Or.inr rfl) rfl ?_
  refine v_ifeq (pc := 7) (tgt := 25) d_VL_runsOn_7 (by decide) (fun c => ?_) (fun c => ?_)
  · replace h := h.1 c
    refine v_iconst (pc := 25) d_VL_runsOn_25 (by decide) ?_
    exact v_zret (pc := 26) d_VL_runsOn_26 rfl (by decide) h
  · replace h := h.2 c
    refine v_aload_n (pc := 10) d_VL_runsOn_10 rfl (.head _) ?_
    refine v_getr (C := "") (pc := 11) (r := 31) d_VL_runsOn_11 fl_VL_41 cC_0.1 cC_0.2 (Or.inl ⟨_, rfl⟩) rC_0_5 ?_
    refine v_iload_n (pc := 14) d_VL_runsOn_14 rfl (.tail _ (.head _)) ?_
    refine v_callV (pc := 15) (J' := jGr_hasNode) (d' := d) (o := 31) (ci := 3) (N := 13) (T := cT3) (As := [vI p1]) d_VL_runsOn_15 ml_VL_121 cC_31.1 cC_31.2 (by decide) rfl rfl (Nat.le_of_ble_eq_true rfl) (Nat.le_refl _) rfl (Cal.weak h (fun o w1 h => ?_))
    rcases rI_of h with ⟨x2, rfl, h⟩
    refine v_ifeq (pc := 18) (tgt := 25) d_VL_runsOn_18 (by decide) (fun c => ?_) (fun c => ?_)
    · replace h := h.1 c
      refine v_iconst (pc := 25) d_VL_runsOn_25 (by decide) ?_
      exact v_zret (pc := 26) d_VL_runsOn_26 rfl (by decide) h
    · replace h := h.2 c
      refine v_iconst (pc := 21) d_VL_runsOn_21 (by decide) ?_
      refine v_goto (pc := 22) (tgt := 26) d_VL_runsOn_22 (by decide) ?_
      exact v_zret (pc := 26) d_VL_runsOn_26 rfl (by decide) h
theorem d_VL_putOnTape_0 : decode jVL_putOnTape.cc 0 = .ok (.bipush 24, 2) := by decide +kernel
theorem d_VL_putOnTape_2 : decode jVL_putOnTape.cc 2 = .ok (.istore_n 2, 1) := by decide +kernel
theorem d_VL_putOnTape_3 : decode jVL_putOnTape.cc 3 = .ok (.iload_n 2, 1) := by decide +kernel
theorem d_VL_putOnTape_4 : decode jVL_putOnTape.cc 4 = .ok (.ifCond .lt 44, 3) := by decide +kernel
theorem d_VL_putOnTape_7 : decode jVL_putOnTape.cc 7 = .ok (.aload_n 0, 1) := by decide +kernel
theorem d_VL_putOnTape_8 : decode jVL_putOnTape.cc 8 = .ok (.getfield 54, 3) := by decide +kernel
theorem d_VL_putOnTape_11 : decode jVL_putOnTape.cc 11 = .ok (.aload_n 0, 1) := by decide +kernel
theorem d_VL_putOnTape_12 : decode jVL_putOnTape.cc 12 = .ok (.getfield 9, 3) := by decide +kernel
theorem d_VL_putOnTape_15 : decode jVL_putOnTape.cc 15 = .ok (.arraylength, 1) := by decide +kernel
theorem d_VL_putOnTape_16 : decode jVL_putOnTape.cc 16 = .ok (.if_icmp .ge 32, 3) := by decide +kernel
theorem d_VL_putOnTape_19 : decode jVL_putOnTape.cc 19 = .ok (.aload_n 0, 1) := by decide +kernel
theorem d_VL_putOnTape_20 : decode jVL_putOnTape.cc 20 = .ok (.getfield 9, 3) := by decide +kernel
theorem d_VL_putOnTape_23 : decode jVL_putOnTape.cc 23 = .ok (.aload_n 0, 1) := by decide +kernel
theorem d_VL_putOnTape_24 : decode jVL_putOnTape.cc 24 = .ok (.getfield 54, 3) := by decide +kernel
theorem d_VL_putOnTape_27 : decode jVL_putOnTape.cc 27 = .ok (.iload_n 1, 1) := by decide +kernel
theorem d_VL_putOnTape_28 : decode jVL_putOnTape.cc 28 = .ok (.iload_n 2, 1) := by decide +kernel
theorem d_VL_putOnTape_29 : decode jVL_putOnTape.cc 29 = .ok (.iushr, 1) := by decide +kernel
theorem d_VL_putOnTape_30 : decode jVL_putOnTape.cc 30 = .ok (.i2b, 1) := by decide +kernel
theorem d_VL_putOnTape_31 : decode jVL_putOnTape.cc 31 = .ok (.bastore, 1) := by decide +kernel
theorem d_VL_putOnTape_32 : decode jVL_putOnTape.cc 32 = .ok (.aload_n 0, 1) := by decide +kernel
theorem d_VL_putOnTape_33 : decode jVL_putOnTape.cc 33 = .ok (.dup, 1) := by decide +kernel
theorem d_VL_putOnTape_34 : decode jVL_putOnTape.cc 34 = .ok (.getfield 54, 3) := by decide +kernel
theorem d_VL_putOnTape_37 : decode jVL_putOnTape.cc 37 = .ok (.iconst 1, 1) := by decide +kernel
theorem d_VL_putOnTape_38 : decode jVL_putOnTape.cc 38 = .ok (.iadd, 1) := by decide +kernel
theorem d_VL_putOnTape_39 : decode jVL_putOnTape.cc 39 = .ok (.putfield 54, 3) := by decide +kernel
theorem d_VL_putOnTape_42 : decode jVL_putOnTape.cc 42 = .ok (.iinc 2 (-8), 3) := by decide +kernel
theorem d_VL_putOnTape_45 : decode jVL_putOnTape.cc 45 = .ok (.goto (-42), 3) := by decide +kernel
theorem d_VL_putOnTape_48 : decode jVL_putOnTape.cc 48 = .ok (.return_, 1) := by decide +kernel
set_option maxHeartbeats 4000000 in
theorem s_VL_putOnTape {g : Mg} {d : Nat} {K : Ou → Wd → Prop} {w : Wd} {p1 : Int} (h : V g LC jVL_putOnTape d K 3 [(0, vA 0), (1, vI p1), (2, vI 24)] [] w) : V g LC jVL_putOnTape d K 0 [(0, vA 0), (1, vI p1)] [] w := by
  refine v_bipush (pc := 0) d_VL_putOnTape_0 (by decide) rfl ?_
  refine v_istore_n (pc := 2) (ls' := [(2, vI 24), (0, vA 0), (1, vI p1)]) d_VL_putOnTape_2 rfl (by decide) rfl ?_
  exact v_sub (List.forall_mem_cons.mpr ⟨(.tail _ (.head _)), (List.forall_mem_cons.mpr ⟨(.tail _ (.tail _ (.head _))), (List.forall_mem_cons.mpr ⟨(.head _), (fun _ z => absurd z List.not_mem_nil)⟩)⟩)⟩) h
set_option maxHeartbeats 4000000 in
theorem s_VL_putOnTape_3 {g : Mg} {d : Nat} {K : Ou → Wd → Prop} {w : Wd} {x1_ : Int} {x2_ : Int} (h : (x2_ < 0 → (K (.inl none) w)) ∧ (¬ x2_ < 0 → ((4000 ≤ (w 0 1) → (K (.inl none) w)) ∧ (¬ 4000 ≤ (w 0 1) → ((0 ≤ (w 0 1) ∧ (w 0 1) < 4000) ∧ (V g LC jVL_putOnTape d K 3 [(0, vA 0), (1, vI x1_), (2, vI (wr (x2_ + (-8))))] [] (up (up w 1 ((w 0 1).toNat) (i2bF (i2bF (iUshr x1_ x2_)))) 0 1 (wr ((w 0 1) + 1))))))))) : V g LC jVL_putOnTape d K 3 [(0, vA 0), (1, vI x1_), (2, vI x2_)] [] w := by
  refine v_iload_n (pc := 3) d_VL_putOnTape_3 rfl (.tail _ (.tail _ (.head _))) ?_
  refine v_iflt (pc := 4) (tgt := 48) d_VL_putOnTape_4 (by decide) (fun c => ?_) (fun c => ?_)
  · replace h := h.1 c
    exact v_vret (pc := 48) d_VL_putOnTape_48 rfl h
  · replace h := h.2 c
    refine v_aload_n (pc := 7) d_VL_putOnTape_7 rfl (.head _) ?_
    refine v_geti (pc := 8) (x := (w 0 1)) d_VL_putOnTape_8 fl_VL_54 cC_0.1 cC_0.2 (Or.inl rfl) rfl ?_
    refine v_aload_n (pc := 11) d_VL_putOnTape_11 rfl (.head _) ?_
    refine v_getr (C := "") (pc := 12) (r := 1) d_VL_putOnTape_12 fl_VL_9 cC_0.1 cC_0.2 (Or.inr ⟨_, rfl⟩) rC_0_0 ?_
    refine v_alen (pc := 15) (n := 4000) d_VL_putOnTape_15 cC_1.1 cC_1.2 (by decide) (by decide) ?_
    refine v_icmpge (pc := 16) (tgt := 48) d_VL_putOnTape_16 (by decide) (fun c => ?_) (fun c => ?_)
    · replace h := h.1 c
      exact v_vret (pc := 48) d_VL_putOnTape_48 rfl h
    · replace h := h.2 c
      refine v_aload_n (pc := 19) d_VL_putOnTape_19 rfl (.head _) ?_
      refine v_getr (C := "") (pc := 20) (r := 1) d_VL_putOnTape_20 fl_VL_9 cC_0.1 cC_0.2 (Or.inr ⟨_, rfl⟩) rC_0_0 ?_
      refine v_aload_n (pc := 23) d_VL_putOnTape_23 rfl (.head _) ?_
      refine v_geti (pc := 24) (x := (w 0 1)) d_VL_putOnTape_24 fl_VL_54 cC_0.1 cC_0.2 (Or.inl rfl) rfl ?_
      refine v_iload_n (pc := 27) d_VL_putOnTape_27 rfl (.tail _ (.head _)) ?_
      refine v_iload_n (pc := 28) d_VL_putOnTape_28 rfl (.tail _ (.tail _ (.head _))) ?_
      refine v_iushr (pc := 29) d_VL_putOnTape_29 ?_
      refine v_i2b (pc := 30) d_VL_putOnTape_30 ?_
      refine v_bast (pc := 31) d_VL_putOnTape_31 cC_1.1 cC_1.2 (aC_1 _) h.1 ?_
      replace h := h.2
      refine v_aload_n (pc := 32) d_VL_putOnTape_32 rfl (.head _) ?_
      refine v_dup (pc := 33) d_VL_putOnTape_33 rfl ?_
      refine v_geti (pc := 34) (x := (w 0 1)) d_VL_putOnTape_34 fl_VL_54 cC_0.1 cC_0.2 (Or.inl rfl) rfl ?_
      refine v_iconst (pc := 37) d_VL_putOnTape_37 (by decide) ?_
      refine v_iadd (pc := 38) d_VL_putOnTape_38 ?_
      refine v_puti (pc := 39) d_VL_putOnTape_39 fp_VL_54 cC_0.1 cC_0.2 (by decide) rfl ?_
      refine v_iinc (pc := 42) (ls' := [(2, vI (wr (x2_ + (-8)))), (0, vA 0), (1, vI x1_)]) d_VL_putOnTape_42 (.tail _ (.tail _ (.head _))) (by decide) rfl ?_
      refine v_goto (pc := 45) (tgt := 3) d_VL_putOnTape_45 (by decide) ?_
      exact v_sub (List.forall_mem_cons.mpr ⟨(.tail _ (.head _)), (List.forall_mem_cons.mpr ⟨(.tail _ (.tail _ (.head _))), (List.forall_mem_cons.mpr ⟨(.head _), (fun _ z => absurd z List.not_mem_nil)⟩)⟩)⟩) h
