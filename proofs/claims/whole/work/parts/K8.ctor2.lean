/-! ===== the class's constructors: Machine, the class ===== -/
set_option maxRecDepth 20000 in
set_option maxHeartbeats 4000000 in
theorem n_Ma_s0 {g : Mg} {lo : Nat} {K : Wd → Prop} {w : Wd}  (hK : NV g LC.ly szC lo 105 jMa_init 11 44 105 K 44 [(3, vI 2), (0, vA 43), (1, vA 8), (2, vA 31)] [] 66 (up (up (up (up (up (up (up (up (up (up (up (up (up (up (up (up (up (up (up (up (up (up (up (up w 43 3 ((44 : Nat) : Int)) 43 0 ((8 : Nat) : Int)) 43 1 ((31 : Nat) : Int)) 45 2 ((46 : Nat) : Int)) 45 3 ((47 : Nat) : Int)) 45 4 ((48 : Nat) : Int)) 45 5 ((49 : Nat) : Int)) 45 6 ((50 : Nat) : Int)) 45 7 ((51 : Nat) : Int)) 44 0 ((45 : Nat) : Int)) 52 2 ((53 : Nat) : Int)) 52 3 ((54 : Nat) : Int)) 52 4 ((55 : Nat) : Int)) 52 5 ((56 : Nat) : Int)) 52 6 ((57 : Nat) : Int)) 52 7 ((58 : Nat) : Int)) 44 1 ((52 : Nat) : Int)) 59 2 ((60 : Nat) : Int)) 59 3 ((61 : Nat) : Int)) 59 4 ((62 : Nat) : Int)) 59 5 ((63 : Nat) : Int)) 59 6 ((64 : Nat) : Int)) 59 7 ((65 : Nat) : Int)) 44 2 ((59 : Nat) : Int))) : NV g LC.ly szC lo 105 jMa_init 11 44 105 K 0 [(0, vA 43), (1, vA 8), (2, vA 31)] [] 44 w := by
  refine n_aload_n (pc := 0) (i := 0) (x := 43) d_Ma_init_0 rfl (.head _) ?_
  refine n_obj (pc := 1) (o := 43) d_Ma_init_1 (mt_2 112 rfl rfl) (mt_1 32 rfl rfl) (mt_1 33 rfl rfl) (by decide) (by decide) ?_
  refine n_aload_n (pc := 4) (i := 0) (x := 43) d_Ma_init_4 rfl (.head _) ?_
  refine n_bipush (pc := 5) (x := (8 : Nat)) d_Ma_init_5 (by decide) (by decide) ?_
  refine n_newQ (pc := 7) (k := 44) (kd := 103) (N := 8) (t0 := 3) (C := "VertexLanguage$Moment") d_Ma_init_7 (mt_2 113 rfl rfl) (Or.inl rfl) rfl rfl (by decide) (by decide) (by decide) (by decide) rfl (by decide) ?_
  refine n_putr (pc := 10) (o := 43) (ci := 5) (f := 3) (N := 13) (r := 44) d_Ma_init_10 (Or.inr ⟨ff_Ma_13, rfl⟩) (by decide) rfl (by decide) (Or.inr ⟨_, rfl⟩) (by decide) ?_
  refine n_aload_n (pc := 13) (i := 0) (x := 43) d_Ma_init_13 rfl (.head _) ?_
  refine n_aload_n (pc := 14) (i := 1) (x := 8) d_Ma_init_14 rfl (.tail _ (.head _)) ?_
  refine n_putr (pc := 15) (o := 43) (ci := 5) (f := 0) (N := 13) (r := 8) d_Ma_init_15 (Or.inr ⟨ff_Ma_17, rfl⟩) (by decide) rfl (by decide) (Or.inl ⟨_, rfl⟩) (by decide) ?_
  refine n_aload_n (pc := 18) (i := 0) (x := 43) d_Ma_init_18 rfl (.head _) ?_
  refine n_aload_n (pc := 19) (i := 2) (x := 31) d_Ma_init_19 rfl (.tail _ (.tail _ (.head _))) ?_
  refine n_putr (pc := 20) (o := 43) (ci := 5) (f := 1) (N := 13) (r := 31) d_Ma_init_20 (Or.inr ⟨ff_Ma_21, rfl⟩) (by decide) rfl (by decide) (Or.inl ⟨_, rfl⟩) (by decide) ?_
  refine n_iconst (pc := 23) d_Ma_init_23 (by decide) ?_
  refine n_istore_n (pc := 24) (i := 3) (ls' := [(3, vI 0), (0, vA 43), (1, vA 8), (2, vA 31)]) d_Ma_init_24 rfl (by decide) rfl ?_
  refine n_iload_n (pc := 25) (i := 3) (x := 0) d_Ma_init_25 rfl (.head _) ?_
  refine n_bipush (pc := 26) d_Ma_init_26 (by decide) (by decide) ?_
  refine n_icmpge (pc := 28) (tgt := 50) d_Ma_init_28 (by decide) (fun z => absurd z (by decide)) (fun _ => ?_)
  refine n_aload_n (pc := 31) (i := 0) (x := 43) d_Ma_init_31 rfl (.tail _ (.head _)) ?_
  refine n_getr (pc := 32) (o := 43) (ci := 5) (f := 3) (N := 13) (r := 44) d_Ma_init_32 fl_Ma_13 (by decide) rfl (Or.inr ⟨_, rfl⟩) rfl ?_
  refine n_iload_n (pc := 35) (i := 3) (x := 0) d_Ma_init_35 rfl (.head _) ?_
  refine n_new (pc := 36) (k := 45) (ci := 6) (N := 8) (Ns := 8) (C := cR6) (T := cT6) d_Ma_init_36 (mt_2 113 rfl rfl) (mt_2 115 rfl rfl) (mt_1 12 rfl rfl) rfl ft_6 rfl (by decide) (by decide) (by decide) rfl (by decide) ?_
  refine n_dup (pc := 39) d_Ma_init_39 rfl ?_
  refine n_call (pc := 40) (st := [vA 45, vI 0, vA 44]) (J' := jMo_init) (d' := 10) (k2 := 52) (o := 45) (As := []) d_Ma_init_40 (Or.inr ⟨_, .tail _ (.tail _ (.head _)), rfl, rfl, rfl⟩) iok_Mo_init rfl (by decide) (by decide) (by decide) (by decide) (by decide) (by decide) (n_Mo_45  ?_)
  refine n_astM (pc := 43) (o := 44) (N := 8) (r := 45) (i := 0) d_Ma_init_43 (by decide) rfl (by decide) (by decide) (by decide) rfl ?_
  refine n_iinc (pc := 44) (i := 3) (x := 0) (ls' := [(3, vI 1), (0, vA 43), (1, vA 8), (2, vA 31)]) d_Ma_init_44 (.head _) (by decide) (by rw [show wr (0 + 1) = 1 from by decide]; rfl) ?_
  refine n_goto (pc := 47) (tgt := 25) d_Ma_init_47 (by decide) ?_
  refine n_iload_n (pc := 25) (i := 3) (x := 1) d_Ma_init_25 rfl (.head _) ?_
  refine n_bipush (pc := 26) d_Ma_init_26 (by decide) (by decide) ?_
  refine n_icmpge (pc := 28) (tgt := 50) d_Ma_init_28 (by decide) (fun z => absurd z (by decide)) (fun _ => ?_)
  refine n_aload_n (pc := 31) (i := 0) (x := 43) d_Ma_init_31 rfl (.tail _ (.head _)) ?_
  refine n_getr (pc := 32) (o := 43) (ci := 5) (f := 3) (N := 13) (r := 44) d_Ma_init_32 fl_Ma_13 (by decide) rfl (Or.inr ⟨_, rfl⟩) rfl ?_
  refine n_iload_n (pc := 35) (i := 3) (x := 1) d_Ma_init_35 rfl (.head _) ?_
  refine n_new (pc := 36) (k := 52) (ci := 6) (N := 8) (Ns := 8) (C := cR6) (T := cT6) d_Ma_init_36 (mt_2 113 rfl rfl) (mt_2 115 rfl rfl) (mt_1 12 rfl rfl) rfl ft_6 rfl (by decide) (by decide) (by decide) rfl (by decide) ?_
  refine n_dup (pc := 39) d_Ma_init_39 rfl ?_
  refine n_call (pc := 40) (st := [vA 52, vI 1, vA 44]) (J' := jMo_init) (d' := 10) (k2 := 59) (o := 52) (As := []) d_Ma_init_40 (Or.inr ⟨_, .tail _ (.tail _ (.head _)), rfl, rfl, rfl⟩) iok_Mo_init rfl (by decide) (by decide) (by decide) (by decide) (by decide) (by decide) (n_Mo_52  ?_)
  refine n_astM (pc := 43) (o := 44) (N := 8) (r := 52) (i := 1) d_Ma_init_43 (by decide) rfl (by decide) (by decide) (by decide) rfl ?_
  refine n_iinc (pc := 44) (i := 3) (x := 1) (ls' := [(3, vI 2), (0, vA 43), (1, vA 8), (2, vA 31)]) d_Ma_init_44 (.head _) (by decide) (by rw [show wr (1 + 1) = 2 from by decide]; rfl) ?_
  refine n_goto (pc := 47) (tgt := 25) d_Ma_init_47 (by decide) ?_
  refine n_iload_n (pc := 25) (i := 3) (x := 2) d_Ma_init_25 rfl (.head _) ?_
  refine n_bipush (pc := 26) d_Ma_init_26 (by decide) (by decide) ?_
  refine n_icmpge (pc := 28) (tgt := 50) d_Ma_init_28 (by decide) (fun z => absurd z (by decide)) (fun _ => ?_)
  refine n_aload_n (pc := 31) (i := 0) (x := 43) d_Ma_init_31 rfl (.tail _ (.head _)) ?_
  refine n_getr (pc := 32) (o := 43) (ci := 5) (f := 3) (N := 13) (r := 44) d_Ma_init_32 fl_Ma_13 (by decide) rfl (Or.inr ⟨_, rfl⟩) rfl ?_
  refine n_iload_n (pc := 35) (i := 3) (x := 2) d_Ma_init_35 rfl (.head _) ?_
  refine n_new (pc := 36) (k := 59) (ci := 6) (N := 8) (Ns := 8) (C := cR6) (T := cT6) d_Ma_init_36 (mt_2 113 rfl rfl) (mt_2 115 rfl rfl) (mt_1 12 rfl rfl) rfl ft_6 rfl (by decide) (by decide) (by decide) rfl (by decide) ?_
  refine n_dup (pc := 39) d_Ma_init_39 rfl ?_
  refine n_call (pc := 40) (st := [vA 59, vI 2, vA 44]) (J' := jMo_init) (d' := 10) (k2 := 66) (o := 59) (As := []) d_Ma_init_40 (Or.inr ⟨_, .tail _ (.tail _ (.head _)), rfl, rfl, rfl⟩) iok_Mo_init rfl (by decide) (by decide) (by decide) (by decide) (by decide) (by decide) (n_Mo_59  ?_)
  refine n_astM (pc := 43) (o := 44) (N := 8) (r := 59) (i := 2) d_Ma_init_43 (by decide) rfl (by decide) (by decide) (by decide) rfl ?_
  exact hK
set_option maxRecDepth 20000 in
set_option maxHeartbeats 4000000 in
theorem n_Ma_s1 {g : Mg} {lo : Nat} {K : Wd → Prop} {w : Wd} (h_43_3 : w 43 3 = ((44 : Nat) : Int)) (hK : NV g LC.ly szC lo 105 jMa_init 11 44 105 K 44 [(3, vI 6), (0, vA 43), (1, vA 8), (2, vA 31)] [] 94 (up (up (up (up (up (up (up (up (up (up (up (up (up (up (up (up (up (up (up (up (up (up (up (up (up (up (up (up w 66 2 ((67 : Nat) : Int)) 66 3 ((68 : Nat) : Int)) 66 4 ((69 : Nat) : Int)) 66 5 ((70 : Nat) : Int)) 66 6 ((71 : Nat) : Int)) 66 7 ((72 : Nat) : Int)) 44 3 ((66 : Nat) : Int)) 73 2 ((74 : Nat) : Int)) 73 3 ((75 : Nat) : Int)) 73 4 ((76 : Nat) : Int)) 73 5 ((77 : Nat) : Int)) 73 6 ((78 : Nat) : Int)) 73 7 ((79 : Nat) : Int)) 44 4 ((73 : Nat) : Int)) 80 2 ((81 : Nat) : Int)) 80 3 ((82 : Nat) : Int)) 80 4 ((83 : Nat) : Int)) 80 5 ((84 : Nat) : Int)) 80 6 ((85 : Nat) : Int)) 80 7 ((86 : Nat) : Int)) 44 5 ((80 : Nat) : Int)) 87 2 ((88 : Nat) : Int)) 87 3 ((89 : Nat) : Int)) 87 4 ((90 : Nat) : Int)) 87 5 ((91 : Nat) : Int)) 87 6 ((92 : Nat) : Int)) 87 7 ((93 : Nat) : Int)) 44 6 ((87 : Nat) : Int))) : NV g LC.ly szC lo 105 jMa_init 11 44 105 K 44 [(3, vI 2), (0, vA 43), (1, vA 8), (2, vA 31)] [] 66 w := by
  refine n_iinc (pc := 44) (i := 3) (x := 2) (ls' := [(3, vI 3), (0, vA 43), (1, vA 8), (2, vA 31)]) d_Ma_init_44 (.head _) (by decide) (by rw [show wr (2 + 1) = 3 from by decide]; rfl) ?_
  refine n_goto (pc := 47) (tgt := 25) d_Ma_init_47 (by decide) ?_
  refine n_iload_n (pc := 25) (i := 3) (x := 3) d_Ma_init_25 rfl (.head _) ?_
  refine n_bipush (pc := 26) d_Ma_init_26 (by decide) (by decide) ?_
  refine n_icmpge (pc := 28) (tgt := 50) d_Ma_init_28 (by decide) (fun z => absurd z (by decide)) (fun _ => ?_)
  refine n_aload_n (pc := 31) (i := 0) (x := 43) d_Ma_init_31 rfl (.tail _ (.head _)) ?_
  refine n_getr (pc := 32) (o := 43) (ci := 5) (f := 3) (N := 13) (r := 44) d_Ma_init_32 fl_Ma_13 (by decide) rfl (Or.inr ⟨_, rfl⟩) h_43_3 ?_
  refine n_iload_n (pc := 35) (i := 3) (x := 3) d_Ma_init_35 rfl (.head _) ?_
  refine n_new (pc := 36) (k := 66) (ci := 6) (N := 8) (Ns := 8) (C := cR6) (T := cT6) d_Ma_init_36 (mt_2 113 rfl rfl) (mt_2 115 rfl rfl) (mt_1 12 rfl rfl) rfl ft_6 rfl (by decide) (by decide) (by decide) rfl (by decide) ?_
  refine n_dup (pc := 39) d_Ma_init_39 rfl ?_
  refine n_call (pc := 40) (st := [vA 66, vI 3, vA 44]) (J' := jMo_init) (d' := 10) (k2 := 73) (o := 66) (As := []) d_Ma_init_40 (Or.inr ⟨_, .tail _ (.tail _ (.head _)), rfl, rfl, rfl⟩) iok_Mo_init rfl (by decide) (by decide) (by decide) (by decide) (by decide) (by decide) (n_Mo_66  ?_)
  refine n_astM (pc := 43) (o := 44) (N := 8) (r := 66) (i := 3) d_Ma_init_43 (by decide) rfl (by decide) (by decide) (by decide) rfl ?_
  refine n_iinc (pc := 44) (i := 3) (x := 3) (ls' := [(3, vI 4), (0, vA 43), (1, vA 8), (2, vA 31)]) d_Ma_init_44 (.head _) (by decide) (by rw [show wr (3 + 1) = 4 from by decide]; rfl) ?_
  refine n_goto (pc := 47) (tgt := 25) d_Ma_init_47 (by decide) ?_
  refine n_iload_n (pc := 25) (i := 3) (x := 4) d_Ma_init_25 rfl (.head _) ?_
  refine n_bipush (pc := 26) d_Ma_init_26 (by decide) (by decide) ?_
  refine n_icmpge (pc := 28) (tgt := 50) d_Ma_init_28 (by decide) (fun z => absurd z (by decide)) (fun _ => ?_)
  refine n_aload_n (pc := 31) (i := 0) (x := 43) d_Ma_init_31 rfl (.tail _ (.head _)) ?_
  refine n_getr (pc := 32) (o := 43) (ci := 5) (f := 3) (N := 13) (r := 44) d_Ma_init_32 fl_Ma_13 (by decide) rfl (Or.inr ⟨_, rfl⟩) h_43_3 ?_
  refine n_iload_n (pc := 35) (i := 3) (x := 4) d_Ma_init_35 rfl (.head _) ?_
  refine n_new (pc := 36) (k := 73) (ci := 6) (N := 8) (Ns := 8) (C := cR6) (T := cT6) d_Ma_init_36 (mt_2 113 rfl rfl) (mt_2 115 rfl rfl) (mt_1 12 rfl rfl) rfl ft_6 rfl (by decide) (by decide) (by decide) rfl (by decide) ?_
  refine n_dup (pc := 39) d_Ma_init_39 rfl ?_
  refine n_call (pc := 40) (st := [vA 73, vI 4, vA 44]) (J' := jMo_init) (d' := 10) (k2 := 80) (o := 73) (As := []) d_Ma_init_40 (Or.inr ⟨_, .tail _ (.tail _ (.head _)), rfl, rfl, rfl⟩) iok_Mo_init rfl (by decide) (by decide) (by decide) (by decide) (by decide) (by decide) (n_Mo_73  ?_)
  refine n_astM (pc := 43) (o := 44) (N := 8) (r := 73) (i := 4) d_Ma_init_43 (by decide) rfl (by decide) (by decide) (by decide) rfl ?_
  refine n_iinc (pc := 44) (i := 3) (x := 4) (ls' := [(3, vI 5), (0, vA 43), (1, vA 8), (2, vA 31)]) d_Ma_init_44 (.head _) (by decide) (by rw [show wr (4 + 1) = 5 from by decide]; rfl) ?_
  refine n_goto (pc := 47) (tgt := 25) d_Ma_init_47 (by decide) ?_
  refine n_iload_n (pc := 25) (i := 3) (x := 5) d_Ma_init_25 rfl (.head _) ?_
  refine n_bipush (pc := 26) d_Ma_init_26 (by decide) (by decide) ?_
  refine n_icmpge (pc := 28) (tgt := 50) d_Ma_init_28 (by decide) (fun z => absurd z (by decide)) (fun _ => ?_)
  refine n_aload_n (pc := 31) (i := 0) (x := 43) d_Ma_init_31 rfl (.tail _ (.head _)) ?_
  refine n_getr (pc := 32) (o := 43) (ci := 5) (f := 3) (N := 13) (r := 44) d_Ma_init_32 fl_Ma_13 (by decide) rfl (Or.inr ⟨_, rfl⟩) h_43_3 ?_
  refine n_iload_n (pc := 35) (i := 3) (x := 5) d_Ma_init_35 rfl (.head _) ?_
  refine n_new (pc := 36) (k := 80) (ci := 6) (N := 8) (Ns := 8) (C := cR6) (T := cT6) d_Ma_init_36 (mt_2 113 rfl rfl) (mt_2 115 rfl rfl) (mt_1 12 rfl rfl) rfl ft_6 rfl (by decide) (by decide) (by decide) rfl (by decide) ?_
  refine n_dup (pc := 39) d_Ma_init_39 rfl ?_
  refine n_call (pc := 40) (st := [vA 80, vI 5, vA 44]) (J' := jMo_init) (d' := 10) (k2 := 87) (o := 80) (As := []) d_Ma_init_40 (Or.inr ⟨_, .tail _ (.tail _ (.head _)), rfl, rfl, rfl⟩) iok_Mo_init rfl (by decide) (by decide) (by decide) (by decide) (by decide) (by decide) (n_Mo_80  ?_)
  refine n_astM (pc := 43) (o := 44) (N := 8) (r := 80) (i := 5) d_Ma_init_43 (by decide) rfl (by decide) (by decide) (by decide) rfl ?_
  refine n_iinc (pc := 44) (i := 3) (x := 5) (ls' := [(3, vI 6), (0, vA 43), (1, vA 8), (2, vA 31)]) d_Ma_init_44 (.head _) (by decide) (by rw [show wr (5 + 1) = 6 from by decide]; rfl) ?_
  refine n_goto (pc := 47) (tgt := 25) d_Ma_init_47 (by decide) ?_
  refine n_iload_n (pc := 25) (i := 3) (x := 6) d_Ma_init_25 rfl (.head _) ?_
  refine n_bipush (pc := 26) d_Ma_init_26 (by decide) (by decide) ?_
  refine n_icmpge (pc := 28) (tgt := 50) d_Ma_init_28 (by decide) (fun z => absurd z (by decide)) (fun _ => ?_)
  refine n_aload_n (pc := 31) (i := 0) (x := 43) d_Ma_init_31 rfl (.tail _ (.head _)) ?_
  refine n_getr (pc := 32) (o := 43) (ci := 5) (f := 3) (N := 13) (r := 44) d_Ma_init_32 fl_Ma_13 (by decide) rfl (Or.inr ⟨_, rfl⟩) h_43_3 ?_
  refine n_iload_n (pc := 35) (i := 3) (x := 6) d_Ma_init_35 rfl (.head _) ?_
  refine n_new (pc := 36) (k := 87) (ci := 6) (N := 8) (Ns := 8) (C := cR6) (T := cT6) d_Ma_init_36 (mt_2 113 rfl rfl) (mt_2 115 rfl rfl) (mt_1 12 rfl rfl) rfl ft_6 rfl (by decide) (by decide) (by decide) rfl (by decide) ?_
  refine n_dup (pc := 39) d_Ma_init_39 rfl ?_
  refine n_call (pc := 40) (st := [vA 87, vI 6, vA 44]) (J' := jMo_init) (d' := 10) (k2 := 94) (o := 87) (As := []) d_Ma_init_40 (Or.inr ⟨_, .tail _ (.tail _ (.head _)), rfl, rfl, rfl⟩) iok_Mo_init rfl (by decide) (by decide) (by decide) (by decide) (by decide) (by decide) (n_Mo_87  ?_)
  refine n_astM (pc := 43) (o := 44) (N := 8) (r := 87) (i := 6) d_Ma_init_43 (by decide) rfl (by decide) (by decide) (by decide) rfl ?_
  exact hK
set_option maxRecDepth 20000 in
set_option maxHeartbeats 4000000 in
theorem n_Ma_s2 {g : Mg} {lo : Nat} {K : Wd → Prop} {w : Wd} (h_43_3 : w 43 3 = ((44 : Nat) : Int)) (h_44_0 : w 44 0 = ((45 : Nat) : Int)) (h_8_1 : w 8 1 = ((19 : Nat) : Int)) (hK : K (up (up (up (up (up (up (up (up (up (up (up (up (up (up (up (up w 94 2 ((95 : Nat) : Int)) 94 3 ((96 : Nat) : Int)) 94 4 ((97 : Nat) : Int)) 94 5 ((98 : Nat) : Int)) 94 6 ((99 : Nat) : Int)) 94 7 ((100 : Nat) : Int)) 44 7 ((94 : Nat) : Int)) 101 3 ((102 : Nat) : Int)) 101 4 ((103 : Nat) : Int)) 101 5 ((104 : Nat) : Int)) 101 0 ((8 : Nat) : Int)) 101 1 ((19 : Nat) : Int)) 101 2 ((31 : Nat) : Int)) 101 6 ((45 : Nat) : Int)) 101 7 ((45 : Nat) : Int)) 43 2 ((101 : Nat) : Int))) : NV g LC.ly szC lo 105 jMa_init 11 44 105 K 44 [(3, vI 6), (0, vA 43), (1, vA 8), (2, vA 31)] [] 94 w := by
  refine n_iinc (pc := 44) (i := 3) (x := 6) (ls' := [(3, vI 7), (0, vA 43), (1, vA 8), (2, vA 31)]) d_Ma_init_44 (.head _) (by decide) (by rw [show wr (6 + 1) = 7 from by decide]; rfl) ?_
  refine n_goto (pc := 47) (tgt := 25) d_Ma_init_47 (by decide) ?_
  refine n_iload_n (pc := 25) (i := 3) (x := 7) d_Ma_init_25 rfl (.head _) ?_
  refine n_bipush (pc := 26) d_Ma_init_26 (by decide) (by decide) ?_
  refine n_icmpge (pc := 28) (tgt := 50) d_Ma_init_28 (by decide) (fun z => absurd z (by decide)) (fun _ => ?_)
  refine n_aload_n (pc := 31) (i := 0) (x := 43) d_Ma_init_31 rfl (.tail _ (.head _)) ?_
  refine n_getr (pc := 32) (o := 43) (ci := 5) (f := 3) (N := 13) (r := 44) d_Ma_init_32 fl_Ma_13 (by decide) rfl (Or.inr ⟨_, rfl⟩) h_43_3 ?_
  refine n_iload_n (pc := 35) (i := 3) (x := 7) d_Ma_init_35 rfl (.head _) ?_
  refine n_new (pc := 36) (k := 94) (ci := 6) (N := 8) (Ns := 8) (C := cR6) (T := cT6) d_Ma_init_36 (mt_2 113 rfl rfl) (mt_2 115 rfl rfl) (mt_1 12 rfl rfl) rfl ft_6 rfl (by decide) (by decide) (by decide) rfl (by decide) ?_
  refine n_dup (pc := 39) d_Ma_init_39 rfl ?_
  refine n_call (pc := 40) (st := [vA 94, vI 7, vA 44]) (J' := jMo_init) (d' := 10) (k2 := 101) (o := 94) (As := []) d_Ma_init_40 (Or.inr ⟨_, .tail _ (.tail _ (.head _)), rfl, rfl, rfl⟩) iok_Mo_init rfl (by decide) (by decide) (by decide) (by decide) (by decide) (by decide) (n_Mo_94  ?_)
  refine n_astM (pc := 43) (o := 44) (N := 8) (r := 94) (i := 7) d_Ma_init_43 (by decide) rfl (by decide) (by decide) (by decide) rfl ?_
  refine n_iinc (pc := 44) (i := 3) (x := 7) (ls' := [(3, vI 8), (0, vA 43), (1, vA 8), (2, vA 31)]) d_Ma_init_44 (.head _) (by decide) (by rw [show wr (7 + 1) = 8 from by decide]; rfl) ?_
  refine n_goto (pc := 47) (tgt := 25) d_Ma_init_47 (by decide) ?_
  refine n_iload_n (pc := 25) (i := 3) (x := 8) d_Ma_init_25 rfl (.head _) ?_
  refine n_bipush (pc := 26) d_Ma_init_26 (by decide) (by decide) ?_
  refine n_icmpge (pc := 28) (tgt := 50) d_Ma_init_28 (by decide) (fun _ => ?_) (fun z => absurd (by decide) z)
  refine n_aload_n (pc := 50) (i := 0) (x := 43) d_Ma_init_50 rfl (.tail _ (.head _)) ?_
  refine n_new (pc := 51) (k := 101) (ci := 10) (N := 18) (Ns := 18) (C := cR10) (T := cT10) d_Ma_init_51 (mt_2 160 rfl rfl) (mt_2 161 rfl rfl) (mt_1 13 rfl rfl) rfl ft_10 rfl (by decide) (by decide) (by decide) rfl (by decide) ?_
  refine n_dup (pc := 54) d_Ma_init_54 rfl ?_
  refine n_aload_n (pc := 55) (i := 1) (x := 8) d_Ma_init_55 rfl (.tail _ (.tail _ (.head _))) ?_
  refine n_aload_n (pc := 56) (i := 2) (x := 31) d_Ma_init_56 rfl (.tail _ (.tail _ (.tail _ (.head _)))) ?_
  refine n_aload_n (pc := 57) (i := 0) (x := 43) d_Ma_init_57 rfl (.tail _ (.head _)) ?_
  refine n_getr (pc := 58) (o := 43) (ci := 5) (f := 3) (N := 13) (r := 44) d_Ma_init_58 fl_Ma_13 (by decide) rfl (Or.inr ⟨_, rfl⟩) h_43_3 ?_
  refine n_iconst (pc := 61) d_Ma_init_61 (by decide) ?_
  refine n_aald (pc := 62) (o := 44) (kd := 103) (N := 8) (t0 := 3) (r := 45) (i := 0) d_Ma_init_62 (by decide) rfl (by decide) rfl (by decide) h_44_0 ?_
  refine n_call (pc := 63) (st := [vA 101, vA 43]) (J' := jWo_init) (d' := 10) (k2 := 105) (o := 101) (As := [vA 8, vA 31, vA 45]) d_Ma_init_63 (Or.inl (mt_2 162 rfl rfl)) iok_Wo_init rfl (by decide) (by decide) (by decide) (by decide) (by decide) (by decide) (n_Wo (h_8_1) ?_)
  refine n_putr (pc := 66) (o := 43) (ci := 5) (f := 2) (N := 13) (r := 101) d_Ma_init_66 (Or.inr ⟨ff_Ma_31, rfl⟩) (by decide) rfl (by decide) (Or.inl ⟨_, rfl⟩) (by decide) ?_
  exact n_vret (pc := 69) d_Ma_init_69 rfl hK (by decide)
set_option maxRecDepth 20000 in
set_option maxHeartbeats 4000000 in
theorem n_Ma {g : Mg} {lo : Nat} {K : Wd → Prop} {w : Wd} (h_8_1 : w 8 1 = ((19 : Nat) : Int)) (hK : K (up (up (up (up (up (up (up (up (up (up (up (up (up (up (up (up (up (up (up (up (up (up (up (up (up (up (up (up (up (up (up (up (up (up (up (up (up (up (up (up (up (up (up (up (up (up (up (up (up (up (up (up (up (up (up (up (up (up (up (up (up (up (up (up (up (up (up (up w 43 3 ((44 : Nat) : Int)) 43 0 ((8 : Nat) : Int)) 43 1 ((31 : Nat) : Int)) 45 2 ((46 : Nat) : Int)) 45 3 ((47 : Nat) : Int)) 45 4 ((48 : Nat) : Int)) 45 5 ((49 : Nat) : Int)) 45 6 ((50 : Nat) : Int)) 45 7 ((51 : Nat) : Int)) 44 0 ((45 : Nat) : Int)) 52 2 ((53 : Nat) : Int)) 52 3 ((54 : Nat) : Int)) 52 4 ((55 : Nat) : Int)) 52 5 ((56 : Nat) : Int)) 52 6 ((57 : Nat) : Int)) 52 7 ((58 : Nat) : Int)) 44 1 ((52 : Nat) : Int)) 59 2 ((60 : Nat) : Int)) 59 3 ((61 : Nat) : Int)) 59 4 ((62 : Nat) : Int)) 59 5 ((63 : Nat) : Int)) 59 6 ((64 : Nat) : Int)) 59 7 ((65 : Nat) : Int)) 44 2 ((59 : Nat) : Int)) 66 2 ((67 : Nat) : Int)) 66 3 ((68 : Nat) : Int)) 66 4 ((69 : Nat) : Int)) 66 5 ((70 : Nat) : Int)) 66 6 ((71 : Nat) : Int)) 66 7 ((72 : Nat) : Int)) 44 3 ((66 : Nat) : Int)) 73 2 ((74 : Nat) : Int)) 73 3 ((75 : Nat) : Int)) 73 4 ((76 : Nat) : Int)) 73 5 ((77 : Nat) : Int)) 73 6 ((78 : Nat) : Int)) 73 7 ((79 : Nat) : Int)) 44 4 ((73 : Nat) : Int)) 80 2 ((81 : Nat) : Int)) 80 3 ((82 : Nat) : Int)) 80 4 ((83 : Nat) : Int)) 80 5 ((84 : Nat) : Int)) 80 6 ((85 : Nat) : Int)) 80 7 ((86 : Nat) : Int)) 44 5 ((80 : Nat) : Int)) 87 2 ((88 : Nat) : Int)) 87 3 ((89 : Nat) : Int)) 87 4 ((90 : Nat) : Int)) 87 5 ((91 : Nat) : Int)) 87 6 ((92 : Nat) : Int)) 87 7 ((93 : Nat) : Int)) 44 6 ((87 : Nat) : Int)) 94 2 ((95 : Nat) : Int)) 94 3 ((96 : Nat) : Int)) 94 4 ((97 : Nat) : Int)) 94 5 ((98 : Nat) : Int)) 94 6 ((99 : Nat) : Int)) 94 7 ((100 : Nat) : Int)) 44 7 ((94 : Nat) : Int)) 101 3 ((102 : Nat) : Int)) 101 4 ((103 : Nat) : Int)) 101 5 ((104 : Nat) : Int)) 101 0 ((8 : Nat) : Int)) 101 1 ((19 : Nat) : Int)) 101 2 ((31 : Nat) : Int)) 101 6 ((45 : Nat) : Int)) 101 7 ((45 : Nat) : Int)) 43 2 ((101 : Nat) : Int))) : NCal g LC.ly szC lo 105 jMa_init 11 44 105 [vA 43, vA 8, vA 31] w K := by
  refine NCal.ofV (by decide) rfl rfl (Nat.le_of_ble_eq_true rfl) ?_
  show NV g LC.ly szC lo 105 jMa_init 11 44 105 K 0 [(0, vA 43), (1, vA 8), (2, vA 31)] [] 44 w
  refine n_Ma_s0  ?_
  refine n_Ma_s1 (rfl) ?_
  refine n_Ma_s2 (rfl) (rfl) (h_8_1) ?_
  exact hK
set_option maxRecDepth 20000 in
set_option maxHeartbeats 4000000 in
theorem n_VL_s0 {g : Mg} {lo : Nat} {K : Wd → Prop} {w : Wd}  (hK : K (up (up (up (up (up (up (up (up (up (up (up (up (up (up (up (up (up (up (up (up (up (up (up (up (up (up (up (up (up (up (up (up (up (up (up (up (up (up (up (up (up (up (up (up (up (up (up (up (up (up (up (up (up (up (up (up (up (up (up (up (up (up (up (up (up (up (up (up (up (up (fillw (fillw (fillw (fillw (fillw (up (up (up (up (up (up (up (up (up (up (up (up (up (up (up (up (up (up (up (up (up (up (up (up (up (up (up (up (up (up (up (up (up (up (up (up (up (up (up (up (up (up (up (up (up (up (up (up (up (up (up (up (up w 0 0 ((1 : Nat) : Int)) 2 0 ((3 : Nat) : Int)) 2 2 ((4 : Nat) : Int)) 2 3 ((5 : Nat) : Int)) 2 4 ((6 : Nat) : Int)) 2 5 ((7 : Nat) : Int)) 0 2 ((2 : Nat) : Int)) 8 6 ((9 : Nat) : Int)) 8 7 ((10 : Nat) : Int)) 8 8 ((11 : Nat) : Int)) 8 9 ((12 : Nat) : Int)) 13 1 ((14 : Nat) : Int)) 13 2 ((15 : Nat) : Int)) 13 3 ((16 : Nat) : Int)) 13 4 ((17 : Nat) : Int)) 13 5 ((18 : Nat) : Int)) 13 0 ((2 : Nat) : Int)) 8 0 ((13 : Nat) : Int)) 19 0 ((20 : Nat) : Int)) 19 1 ((21 : Nat) : Int)) 19 2 ((22 : Nat) : Int)) 19 3 ((23 : Nat) : Int)) 8 1 ((19 : Nat) : Int)) 0 3 ((8 : Nat) : Int)) 24 0 ((2 : Nat) : Int)) 24 1 ((8 : Nat) : Int)) 24 2 ((13 : Nat) : Int)) 24 3 ((19 : Nat) : Int)) 25 0 ((2 : Nat) : Int)) 24 4 ((25 : Nat) : Int)) 26 5 ((27 : Nat) : Int)) 26 6 ((28 : Nat) : Int)) 26 7 ((29 : Nat) : Int)) 26 8 ((30 : Nat) : Int)) 26 0 ((2 : Nat) : Int)) 26 1 ((25 : Nat) : Int)) 26 2 ((13 : Nat) : Int)) 26 3 ((19 : Nat) : Int)) 24 5 ((26 : Nat) : Int)) 0 4 ((24 : Nat) : Int)) 31 2 ((32 : Nat) : Int)) 31 3 ((33 : Nat) : Int)) 31 4 ((34 : Nat) : Int)) 31 5 ((35 : Nat) : Int)) 31 6 ((36 : Nat) : Int)) 31 7 ((37 : Nat) : Int)) 31 8 ((38 : Nat) : Int)) 31 9 ((39 : Nat) : Int)) 31 10 ((40 : Nat) : Int)) 31 11 ((41 : Nat) : Int)) 31 12 ((42 : Nat) : Int)) 31 0 1) 31 1 0) 34 480 0) 35 40 0) 36 40 0) 37 40 (-1)) 40 40 (-1)) 0 5 ((31 : Nat) : Int)) 43 3 ((44 : Nat) : Int)) 43 0 ((8 : Nat) : Int)) 43 1 ((31 : Nat) : Int)) 45 2 ((46 : Nat) : Int)) 45 3 ((47 : Nat) : Int)) 45 4 ((48 : Nat) : Int)) 45 5 ((49 : Nat) : Int)) 45 6 ((50 : Nat) : Int)) 45 7 ((51 : Nat) : Int)) 44 0 ((45 : Nat) : Int)) 52 2 ((53 : Nat) : Int)) 52 3 ((54 : Nat) : Int)) 52 4 ((55 : Nat) : Int)) 52 5 ((56 : Nat) : Int)) 52 6 ((57 : Nat) : Int)) 52 7 ((58 : Nat) : Int)) 44 1 ((52 : Nat) : Int)) 59 2 ((60 : Nat) : Int)) 59 3 ((61 : Nat) : Int)) 59 4 ((62 : Nat) : Int)) 59 5 ((63 : Nat) : Int)) 59 6 ((64 : Nat) : Int)) 59 7 ((65 : Nat) : Int)) 44 2 ((59 : Nat) : Int)) 66 2 ((67 : Nat) : Int)) 66 3 ((68 : Nat) : Int)) 66 4 ((69 : Nat) : Int)) 66 5 ((70 : Nat) : Int)) 66 6 ((71 : Nat) : Int)) 66 7 ((72 : Nat) : Int)) 44 3 ((66 : Nat) : Int)) 73 2 ((74 : Nat) : Int)) 73 3 ((75 : Nat) : Int)) 73 4 ((76 : Nat) : Int)) 73 5 ((77 : Nat) : Int)) 73 6 ((78 : Nat) : Int)) 73 7 ((79 : Nat) : Int)) 44 4 ((73 : Nat) : Int)) 80 2 ((81 : Nat) : Int)) 80 3 ((82 : Nat) : Int)) 80 4 ((83 : Nat) : Int)) 80 5 ((84 : Nat) : Int)) 80 6 ((85 : Nat) : Int)) 80 7 ((86 : Nat) : Int)) 44 5 ((80 : Nat) : Int)) 87 2 ((88 : Nat) : Int)) 87 3 ((89 : Nat) : Int)) 87 4 ((90 : Nat) : Int)) 87 5 ((91 : Nat) : Int)) 87 6 ((92 : Nat) : Int)) 87 7 ((93 : Nat) : Int)) 44 6 ((87 : Nat) : Int)) 94 2 ((95 : Nat) : Int)) 94 3 ((96 : Nat) : Int)) 94 4 ((97 : Nat) : Int)) 94 5 ((98 : Nat) : Int)) 94 6 ((99 : Nat) : Int)) 94 7 ((100 : Nat) : Int)) 44 7 ((94 : Nat) : Int)) 101 3 ((102 : Nat) : Int)) 101 4 ((103 : Nat) : Int)) 101 5 ((104 : Nat) : Int)) 101 0 ((8 : Nat) : Int)) 101 1 ((19 : Nat) : Int)) 101 2 ((31 : Nat) : Int)) 101 6 ((45 : Nat) : Int)) 101 7 ((45 : Nat) : Int)) 43 2 ((101 : Nat) : Int)) 0 6 ((43 : Nat) : Int))) : NV g LC.ly szC lo 105 jVL_init 12 1 105 K 0 [(0, vA 0)] [] 1 w := by
  refine n_aload_n (pc := 0) (i := 0) (x := 0) d_VL_init_0 rfl (.head _) ?_
  refine n_obj (pc := 1) (o := 0) d_VL_init_1 (mt_1 31 rfl rfl) (mt_1 32 rfl rfl) (mt_1 33 rfl rfl) (by decide) (by decide) ?_
  refine n_aload_n (pc := 4) (i := 0) (x := 0) d_VL_init_4 rfl (.head _) ?_
  refine n_sipush (pc := 5) (x := (4000 : Nat)) d_VL_init_5 (by decide) (by decide) ?_
  refine n_newB (pc := 8) (k := 1) (N := 4000) d_VL_init_8 rfl (by decide) (by decide) (by decide) rfl (by decide) (mt_1 75 rfl rfl) ?_
  refine n_putr (pc := 10) (o := 0) (ci := 11) (f := 0) (N := 7) (r := 1) d_VL_init_10 (Or.inr ⟨ff_VL_9, rfl⟩) (by decide) rfl (by decide) (Or.inr ⟨_, rfl⟩) (by decide) ?_
  refine n_aload_n (pc := 13) (i := 0) (x := 0) d_VL_init_13 rfl (.head _) ?_
  refine n_new (pc := 14) (k := 2) (ci := 9) (N := 7) (Ns := 7) (C := cR9) (T := cT9) d_VL_init_14 (mt_1 34 rfl rfl) (mt_1 35 rfl rfl) (mt_1 2 rfl rfl) rfl ft_9 rfl (by decide) (by decide) (by decide) rfl (by decide) ?_
  refine n_dup (pc := 17) d_VL_init_17 rfl ?_
  refine n_call (pc := 18) (st := [vA 2, vA 0]) (J' := jTe_init) (d' := 11) (k2 := 8) (o := 2) (As := []) d_VL_init_18 (Or.inr ⟨_, .head _, rfl, rfl, rfl⟩) iok_Te_init rfl (by decide) (by decide) (by decide) (by decide) (by decide) (by decide) (n_Te  ?_)
  refine n_putr (pc := 21) (o := 0) (ci := 11) (f := 2) (N := 7) (r := 2) d_VL_init_21 (Or.inr ⟨ff_VL_16, rfl⟩) (by decide) rfl (by decide) (Or.inl ⟨_, rfl⟩) (by decide) ?_
  refine n_aload_n (pc := 24) (i := 0) (x := 0) d_VL_init_24 rfl (.head _) ?_
  refine n_new (pc := 25) (k := 8) (ci := 7) (N := 11) (Ns := 11) (C := cR7) (T := cT7) d_VL_init_25 (mt_1 77 rfl rfl) (mt_1 78 rfl rfl) (mt_1 3 rfl rfl) rfl ft_7 rfl (by decide) (by decide) (by decide) rfl (by decide) ?_
  refine n_dup (pc := 28) d_VL_init_28 rfl ?_
  refine n_aload_n (pc := 29) (i := 0) (x := 0) d_VL_init_29 rfl (.head _) ?_
  refine n_getr (pc := 30) (o := 0) (ci := 11) (f := 2) (N := 7) (r := 2) d_VL_init_30 fl_VL_16 (by decide) rfl (Or.inl ⟨_, rfl⟩) rfl ?_
  refine n_call (pc := 33) (st := [vA 8, vA 0]) (J' := jPr_init) (d' := 11) (k2 := 24) (o := 8) (As := [vA 2]) d_VL_init_33 (Or.inl (mt_1 79 rfl rfl)) iok_Pr_init rfl (by decide) (by decide) (by decide) (by decide) (by decide) (by decide) (n_Pr  ?_)
  refine n_putr (pc := 36) (o := 0) (ci := 11) (f := 3) (N := 7) (r := 8) d_VL_init_36 (Or.inr ⟨ff_VL_25, rfl⟩) (by decide) rfl (by decide) (Or.inl ⟨_, rfl⟩) (by decide) ?_
  refine n_aload_n (pc := 39) (i := 0) (x := 0) d_VL_init_39 rfl (.head _) ?_
  refine n_new (pc := 40) (k := 24) (ci := 8) (N := 7) (Ns := 7) (C := cR8) (T := cT8) d_VL_init_40 (mt_1 199 rfl rfl) (mt_1 200 rfl rfl) (mt_1 6 rfl rfl) rfl ft_8 rfl (by decide) (by decide) (by decide) rfl (by decide) ?_
  refine n_dup (pc := 43) d_VL_init_43 rfl ?_
  refine n_aload_n (pc := 44) (i := 0) (x := 0) d_VL_init_44 rfl (.head _) ?_
  refine n_getr (pc := 45) (o := 0) (ci := 11) (f := 2) (N := 7) (r := 2) d_VL_init_45 fl_VL_16 (by decide) rfl (Or.inl ⟨_, rfl⟩) rfl ?_
  refine n_aload_n (pc := 48) (i := 0) (x := 0) d_VL_init_48 rfl (.head _) ?_
  refine n_getr (pc := 49) (o := 0) (ci := 11) (f := 3) (N := 7) (r := 8) d_VL_init_49 fl_VL_25 (by decide) rfl (Or.inl ⟨_, rfl⟩) rfl ?_
  refine n_call (pc := 52) (st := [vA 24, vA 0]) (J' := jRe_init) (d' := 11) (k2 := 31) (o := 24) (As := [vA 2, vA 8]) d_VL_init_52 (Or.inl (mt_1 201 rfl rfl)) iok_Re_init rfl (by decide) (by decide) (by decide) (by decide) (by decide) (by decide) (n_Re (rfl) (rfl) ?_)
  refine n_putr (pc := 55) (o := 0) (ci := 11) (f := 4) (N := 7) (r := 24) d_VL_init_55 (Or.inr ⟨ff_VL_34, rfl⟩) (by decide) rfl (by decide) (Or.inl ⟨_, rfl⟩) (by decide) ?_
  refine n_aload_n (pc := 58) (i := 0) (x := 0) d_VL_init_58 rfl (.head _) ?_
  refine n_new (pc := 59) (k := 31) (ci := 3) (N := 13) (Ns := 13) (C := cR3) (T := cT3) d_VL_init_59 (mt_2 48 rfl rfl) (mt_2 49 rfl rfl) (mt_1 9 rfl rfl) rfl ft_3 rfl (by decide) (by decide) (by decide) rfl (by decide) ?_
  refine n_dup (pc := 62) d_VL_init_62 rfl ?_
  refine n_call (pc := 63) (st := [vA 31, vA 0]) (J' := jGr_init) (d' := 11) (k2 := 43) (o := 31) (As := []) d_VL_init_63 (Or.inl (mt_2 50 rfl rfl)) iok_Gr_init rfl (by decide) (by decide) (by decide) (by decide) (by decide) (by decide) (n_Gr  ?_)
  refine n_putr (pc := 66) (o := 0) (ci := 11) (f := 5) (N := 7) (r := 31) d_VL_init_66 (Or.inr ⟨ff_VL_41, rfl⟩) (by decide) rfl (by decide) (Or.inl ⟨_, rfl⟩) (by decide) ?_
  refine n_aload_n (pc := 69) (i := 0) (x := 0) d_VL_init_69 rfl (.head _) ?_
  refine n_new (pc := 70) (k := 43) (ci := 5) (N := 13) (Ns := 13) (C := cR5) (T := cT5) d_VL_init_70 (mt_2 107 rfl rfl) (mt_2 108 rfl rfl) (mt_1 11 rfl rfl) rfl ft_5 rfl (by decide) (by decide) (by decide) rfl (by decide) ?_
  refine n_dup (pc := 73) d_VL_init_73 rfl ?_
  refine n_aload_n (pc := 74) (i := 0) (x := 0) d_VL_init_74 rfl (.head _) ?_
  refine n_getr (pc := 75) (o := 0) (ci := 11) (f := 3) (N := 7) (r := 8) d_VL_init_75 fl_VL_25 (by decide) rfl (Or.inl ⟨_, rfl⟩) rfl ?_
  refine n_aload_n (pc := 78) (i := 0) (x := 0) d_VL_init_78 rfl (.head _) ?_
  refine n_getr (pc := 79) (o := 0) (ci := 11) (f := 5) (N := 7) (r := 31) d_VL_init_79 fl_VL_41 (by decide) rfl (Or.inl ⟨_, rfl⟩) rfl ?_
  refine n_call (pc := 82) (st := [vA 43, vA 0]) (J' := jMa_init) (d' := 11) (k2 := 105) (o := 43) (As := [vA 8, vA 31]) d_VL_init_82 (Or.inl (mt_2 109 rfl rfl)) iok_Ma_init rfl (by decide) (by decide) (by decide) (by decide) (by decide) (by decide) (n_Ma (rfl) ?_)
  refine n_putr (pc := 85) (o := 0) (ci := 11) (f := 6) (N := 7) (r := 43) d_VL_init_85 (Or.inr ⟨ff_VL_50, rfl⟩) (by decide) rfl (by decide) (Or.inl ⟨_, rfl⟩) (by decide) ?_
  exact n_vret (pc := 88) d_VL_init_88 rfl hK (by decide)
set_option maxRecDepth 20000 in
set_option maxHeartbeats 4000000 in
theorem n_VL {g : Mg} {lo : Nat} {K : Wd → Prop} {w : Wd}  (hK : K (up (up (up (up (up (up (up (up (up (up (up (up (up (up (up (up (up (up (up (up (up (up (up (up (up (up (up (up (up (up (up (up (up (up (up (up (up (up (up (up (up (up (up (up (up (up (up (up (up (up (up (up (up (up (up (up (up (up (up (up (up (up (up (up (up (up (up (up (up (up (fillw (fillw (fillw (fillw (fillw (up (up (up (up (up (up (up (up (up (up (up (up (up (up (up (up (up (up (up (up (up (up (up (up (up (up (up (up (up (up (up (up (up (up (up (up (up (up (up (up (up (up (up (up (up (up (up (up (up (up (up (up (up w 0 0 ((1 : Nat) : Int)) 2 0 ((3 : Nat) : Int)) 2 2 ((4 : Nat) : Int)) 2 3 ((5 : Nat) : Int)) 2 4 ((6 : Nat) : Int)) 2 5 ((7 : Nat) : Int)) 0 2 ((2 : Nat) : Int)) 8 6 ((9 : Nat) : Int)) 8 7 ((10 : Nat) : Int)) 8 8 ((11 : Nat) : Int)) 8 9 ((12 : Nat) : Int)) 13 1 ((14 : Nat) : Int)) 13 2 ((15 : Nat) : Int)) 13 3 ((16 : Nat) : Int)) 13 4 ((17 : Nat) : Int)) 13 5 ((18 : Nat) : Int)) 13 0 ((2 : Nat) : Int)) 8 0 ((13 : Nat) : Int)) 19 0 ((20 : Nat) : Int)) 19 1 ((21 : Nat) : Int)) 19 2 ((22 : Nat) : Int)) 19 3 ((23 : Nat) : Int)) 8 1 ((19 : Nat) : Int)) 0 3 ((8 : Nat) : Int)) 24 0 ((2 : Nat) : Int)) 24 1 ((8 : Nat) : Int)) 24 2 ((13 : Nat) : Int)) 24 3 ((19 : Nat) : Int)) 25 0 ((2 : Nat) : Int)) 24 4 ((25 : Nat) : Int)) 26 5 ((27 : Nat) : Int)) 26 6 ((28 : Nat) : Int)) 26 7 ((29 : Nat) : Int)) 26 8 ((30 : Nat) : Int)) 26 0 ((2 : Nat) : Int)) 26 1 ((25 : Nat) : Int)) 26 2 ((13 : Nat) : Int)) 26 3 ((19 : Nat) : Int)) 24 5 ((26 : Nat) : Int)) 0 4 ((24 : Nat) : Int)) 31 2 ((32 : Nat) : Int)) 31 3 ((33 : Nat) : Int)) 31 4 ((34 : Nat) : Int)) 31 5 ((35 : Nat) : Int)) 31 6 ((36 : Nat) : Int)) 31 7 ((37 : Nat) : Int)) 31 8 ((38 : Nat) : Int)) 31 9 ((39 : Nat) : Int)) 31 10 ((40 : Nat) : Int)) 31 11 ((41 : Nat) : Int)) 31 12 ((42 : Nat) : Int)) 31 0 1) 31 1 0) 34 480 0) 35 40 0) 36 40 0) 37 40 (-1)) 40 40 (-1)) 0 5 ((31 : Nat) : Int)) 43 3 ((44 : Nat) : Int)) 43 0 ((8 : Nat) : Int)) 43 1 ((31 : Nat) : Int)) 45 2 ((46 : Nat) : Int)) 45 3 ((47 : Nat) : Int)) 45 4 ((48 : Nat) : Int)) 45 5 ((49 : Nat) : Int)) 45 6 ((50 : Nat) : Int)) 45 7 ((51 : Nat) : Int)) 44 0 ((45 : Nat) : Int)) 52 2 ((53 : Nat) : Int)) 52 3 ((54 : Nat) : Int)) 52 4 ((55 : Nat) : Int)) 52 5 ((56 : Nat) : Int)) 52 6 ((57 : Nat) : Int)) 52 7 ((58 : Nat) : Int)) 44 1 ((52 : Nat) : Int)) 59 2 ((60 : Nat) : Int)) 59 3 ((61 : Nat) : Int)) 59 4 ((62 : Nat) : Int)) 59 5 ((63 : Nat) : Int)) 59 6 ((64 : Nat) : Int)) 59 7 ((65 : Nat) : Int)) 44 2 ((59 : Nat) : Int)) 66 2 ((67 : Nat) : Int)) 66 3 ((68 : Nat) : Int)) 66 4 ((69 : Nat) : Int)) 66 5 ((70 : Nat) : Int)) 66 6 ((71 : Nat) : Int)) 66 7 ((72 : Nat) : Int)) 44 3 ((66 : Nat) : Int)) 73 2 ((74 : Nat) : Int)) 73 3 ((75 : Nat) : Int)) 73 4 ((76 : Nat) : Int)) 73 5 ((77 : Nat) : Int)) 73 6 ((78 : Nat) : Int)) 73 7 ((79 : Nat) : Int)) 44 4 ((73 : Nat) : Int)) 80 2 ((81 : Nat) : Int)) 80 3 ((82 : Nat) : Int)) 80 4 ((83 : Nat) : Int)) 80 5 ((84 : Nat) : Int)) 80 6 ((85 : Nat) : Int)) 80 7 ((86 : Nat) : Int)) 44 5 ((80 : Nat) : Int)) 87 2 ((88 : Nat) : Int)) 87 3 ((89 : Nat) : Int)) 87 4 ((90 : Nat) : Int)) 87 5 ((91 : Nat) : Int)) 87 6 ((92 : Nat) : Int)) 87 7 ((93 : Nat) : Int)) 44 6 ((87 : Nat) : Int)) 94 2 ((95 : Nat) : Int)) 94 3 ((96 : Nat) : Int)) 94 4 ((97 : Nat) : Int)) 94 5 ((98 : Nat) : Int)) 94 6 ((99 : Nat) : Int)) 94 7 ((100 : Nat) : Int)) 44 7 ((94 : Nat) : Int)) 101 3 ((102 : Nat) : Int)) 101 4 ((103 : Nat) : Int)) 101 5 ((104 : Nat) : Int)) 101 0 ((8 : Nat) : Int)) 101 1 ((19 : Nat) : Int)) 101 2 ((31 : Nat) : Int)) 101 6 ((45 : Nat) : Int)) 101 7 ((45 : Nat) : Int)) 43 2 ((101 : Nat) : Int)) 0 6 ((43 : Nat) : Int))) : NCal g LC.ly szC lo 105 jVL_init 12 1 105 [vA 0] w K := by
  refine NCal.ofV (by decide) rfl rfl (Nat.le_of_ble_eq_true rfl) ?_
  show NV g LC.ly szC lo 105 jVL_init 12 1 105 K 0 [(0, vA 0)] [] 1 w
  refine n_VL_s0  ?_
  exact hK
