/-! ===== the Stop: its superclasses' constructors ===== -/
def jTh_i : Jm := ("java/lang/Throwable", ⟨"java/lang/Throwable", "<init>", "(Ljava/lang/String;Ljava/lang/Throwable;ZZ)V"⟩, prog_24_method_5_code, 5, none, [])
def jXc_i : Jm := ("java/lang/Exception", ⟨"java/lang/Exception", "<init>", "(Ljava/lang/String;Ljava/lang/Throwable;ZZ)V"⟩, prog_17_method_5_code, 5, none, [])
def jRt_i : Jm := ("java/lang/RuntimeException", ⟨"java/lang/RuntimeException", "<init>", "(Ljava/lang/String;Ljava/lang/Throwable;ZZ)V"⟩, prog_19_method_5_code, 5, none, [])
set_option maxRecDepth 20000 in
theorem iok_Th_i : IOK jTh_i 4 := ⟨mt_6 125 rfl rfl, rfl, rfl, rfl, mt_6 126 rfl rfl, mt_1 15 rfl rfl, by decide +kernel, by decide +kernel, by decide⟩
set_option maxRecDepth 20000 in
theorem iok_Xc_i : IOK jXc_i 4 := ⟨mt_6 122 rfl rfl, rfl, rfl, rfl, mt_6 123 rfl rfl, mt_1 16 rfl rfl, by decide +kernel, by decide +kernel, by decide⟩
set_option maxRecDepth 20000 in
theorem iok_Rt_i : IOK jRt_i 4 := ⟨mt_6 119 rfl rfl, rfl, rfl, rfl, mt_6 120 rfl rfl, mt_1 17 rfl rfl, by decide +kernel, by decide +kernel, by decide⟩
set_option maxRecDepth 20000 in
theorem iok_St_init : IOK jSt_init 0 := ⟨mt_6 116 rfl rfl, rfl, rfl, rfl, mt_6 117 rfl rfl, mt_1 18 rfl rfl, by decide +kernel, by decide +kernel, by decide⟩
def cTS : u_T := fun k => match k with
  | 0 => ("java/lang/Throwable", "cause", "Ljava/lang/Throwable;", false)
  | 1 => ("java/lang/Throwable", "stackTrace", "[Ljava/lang/StackTraceElement;", false)
  | 2 => ("java/lang/Throwable", "suppressedExceptions", "Ljava/util/List;", false)
  | 3 => ("java/lang/Throwable", "detailMessage", "Ljava/lang/String;", false)
  | 4 => ("java/lang/Throwable", "backtrace", "Ljava/lang/Object;", false)
  | 5 => ("java/lang/Throwable", "depth", "I", false)
  | 6 => ("VertexLanguageModel$Stop", "what", "I", false)
  | _ => ("VertexLanguageModel$Stop", "place", "I", false)
def ty8 : Nat → FieldType := fun k => match k with
  | 0 => .object "java/lang/Throwable"
  | 1 => .array (.object "java/lang/StackTraceElement")
  | 2 => .object "java/util/List"
  | 3 => .object "java/lang/String"
  | 4 => .object "java/lang/Object"
  | 5 => .int
  | 6 => .int
  | _ => .int
def cl8 : List vw_C := [(cR12, cTS, 8)]
set_option maxRecDepth 20000 in
theorem cIS : ∀ u ∈ u_ws cR12 cTS 8, u ∈ lw_g := by
  intro u hu
  obtain ⟨k, hk, rfl⟩ := List.mem_map.mp hu
  have hk := List.mem_range.mp hk
  rcases (by omega : k = 0 ∨ k = 1 ∨ k = 2 ∨ k = 3 ∨ k = 4 ∨ k = 5 ∨ k = 6 ∨ k = 7) with rfl | rfl | rfl | rfl | rfl | rfl | rfl | rfl
  · exact mt_6 87 rfl rfl
  · exact mt_6 89 rfl rfl
  · exact mt_6 91 rfl rfl
  · exact mt_6 93 rfl rfl
  · exact mt_6 95 rfl rfl
  · exact mt_6 142 rfl rfl
  · exact mt_6 134 rfl rfl
  · exact mt_6 136 rfl rfl
theorem ty8_ok : ∀ k, k < 8 → parseFieldDescriptor (cTS k).2.2.1 = some (ty8 k) := by decide +kernel
theorem nm8_ok : ∀ a, a < 8 → ∀ b, b < 8 → a ≠ b → (cTS a).2.1 ≠ (cTS b).2.1 := by decide +kernel
theorem d_Th_i_0 : decode jTh_i.cc 0 = .ok (.aload_n 0, 1) := by decide +kernel
theorem d_Th_i_1 : decode jTh_i.cc 1 = .ok (.invokespecial 1, 3) := by decide +kernel
theorem d_Th_i_4 : decode jTh_i.cc 4 = .ok (.aload_n 0, 1) := by decide +kernel
theorem d_Th_i_5 : decode jTh_i.cc 5 = .ok (.aload_n 0, 1) := by decide +kernel
theorem d_Th_i_6 : decode jTh_i.cc 6 = .ok (.putfield 7, 3) := by decide +kernel
theorem d_Th_i_9 : decode jTh_i.cc 9 = .ok (.aload_n 0, 1) := by decide +kernel
theorem d_Th_i_10 : decode jTh_i.cc 10 = .ok (.getstatic 13, 3) := by decide +kernel
theorem d_Th_i_13 : decode jTh_i.cc 13 = .ok (.putfield 17, 3) := by decide +kernel
theorem d_Th_i_16 : decode jTh_i.cc 16 = .ok (.aload_n 0, 1) := by decide +kernel
theorem d_Th_i_17 : decode jTh_i.cc 17 = .ok (.getstatic 20, 3) := by decide +kernel
theorem d_Th_i_20 : decode jTh_i.cc 20 = .ok (.putfield 24, 3) := by decide +kernel
theorem d_Th_i_23 : decode jTh_i.cc 23 = .ok (.iload 4, 2) := by decide +kernel
theorem d_Th_i_25 : decode jTh_i.cc 25 = .ok (.ifCond .eq 11, 3) := by decide +kernel
theorem d_Th_i_36 : decode jTh_i.cc 36 = .ok (.aload_n 0, 1) := by decide +kernel
theorem d_Th_i_37 : decode jTh_i.cc 37 = .ok (.aconst_null, 1) := by decide +kernel
theorem d_Th_i_38 : decode jTh_i.cc 38 = .ok (.putfield 17, 3) := by decide +kernel
theorem d_Th_i_41 : decode jTh_i.cc 41 = .ok (.aload_n 0, 1) := by decide +kernel
theorem d_Th_i_42 : decode jTh_i.cc 42 = .ok (.aload_n 1, 1) := by decide +kernel
theorem d_Th_i_43 : decode jTh_i.cc 43 = .ok (.putfield 31, 3) := by decide +kernel
theorem d_Th_i_46 : decode jTh_i.cc 46 = .ok (.aload_n 0, 1) := by decide +kernel
theorem d_Th_i_47 : decode jTh_i.cc 47 = .ok (.aload_n 2, 1) := by decide +kernel
theorem d_Th_i_48 : decode jTh_i.cc 48 = .ok (.putfield 7, 3) := by decide +kernel
theorem d_Th_i_51 : decode jTh_i.cc 51 = .ok (.iload_n 3, 1) := by decide +kernel
theorem d_Th_i_52 : decode jTh_i.cc 52 = .ok (.ifCond .ne 8, 3) := by decide +kernel
theorem d_Th_i_55 : decode jTh_i.cc 55 = .ok (.aload_n 0, 1) := by decide +kernel
theorem d_Th_i_56 : decode jTh_i.cc 56 = .ok (.aconst_null, 1) := by decide +kernel
theorem d_Th_i_57 : decode jTh_i.cc 57 = .ok (.putfield 24, 3) := by decide +kernel
theorem d_Th_i_60 : decode jTh_i.cc 60 = .ok (.return_, 1) := by decide +kernel
theorem d_Xc_i_0 : decode jXc_i.cc 0 = .ok (.aload_n 0, 1) := by decide +kernel
theorem d_Xc_i_1 : decode jXc_i.cc 1 = .ok (.aload_n 1, 1) := by decide +kernel
theorem d_Xc_i_2 : decode jXc_i.cc 2 = .ok (.aload_n 2, 1) := by decide +kernel
theorem d_Xc_i_3 : decode jXc_i.cc 3 = .ok (.iload_n 3, 1) := by decide +kernel
theorem d_Xc_i_4 : decode jXc_i.cc 4 = .ok (.iload 4, 2) := by decide +kernel
theorem d_Xc_i_6 : decode jXc_i.cc 6 = .ok (.invokespecial 16, 3) := by decide +kernel
theorem d_Xc_i_9 : decode jXc_i.cc 9 = .ok (.return_, 1) := by decide +kernel
theorem d_Rt_i_0 : decode jRt_i.cc 0 = .ok (.aload_n 0, 1) := by decide +kernel
theorem d_Rt_i_1 : decode jRt_i.cc 1 = .ok (.aload_n 1, 1) := by decide +kernel
theorem d_Rt_i_2 : decode jRt_i.cc 2 = .ok (.aload_n 2, 1) := by decide +kernel
theorem d_Rt_i_3 : decode jRt_i.cc 3 = .ok (.iload_n 3, 1) := by decide +kernel
theorem d_Rt_i_4 : decode jRt_i.cc 4 = .ok (.iload 4, 2) := by decide +kernel
theorem d_Rt_i_6 : decode jRt_i.cc 6 = .ok (.invokespecial 16, 3) := by decide +kernel
theorem d_Rt_i_9 : decode jRt_i.cc 9 = .ok (.return_, 1) := by decide +kernel
theorem d_St_init_0 : decode jSt_init.cc 0 = .ok (.aload_n 0, 1) := by decide +kernel
theorem d_St_init_1 : decode jSt_init.cc 1 = .ok (.aconst_null, 1) := by decide +kernel
theorem d_St_init_2 : decode jSt_init.cc 2 = .ok (.aconst_null, 1) := by decide +kernel
theorem d_St_init_3 : decode jSt_init.cc 3 = .ok (.iconst 0, 1) := by decide +kernel
theorem d_St_init_4 : decode jSt_init.cc 4 = .ok (.iconst 0, 1) := by decide +kernel
theorem d_St_init_5 : decode jSt_init.cc 5 = .ok (.invokespecial 1, 3) := by decide +kernel
theorem d_St_init_8 : decode jSt_init.cc 8 = .ok (.return_, 1) := by decide +kernel
/-- what the Stop's constructors need -/
def TPre (D : va_G) (a : Nat) (v6 v7 : Value) (U : State) : Prop := (∃ fs, va_P D cl8 [(a, .inr (0, fs))] U.heap ∧ fs.length = 8 ∧ fs[6]? = some v6 ∧ fs[7]? = some v7) ∧ va_K D cl8 [] U ∧ va_Zq "java/lang/Throwable" "UNASSIGNED_STACK" "[Ljava/lang/StackTraceElement;" (fun q => q = a) U U.heap ∧ va_Zq "java/lang/Throwable" "SUPPRESSED_SENTINEL" "Ljava/util/List;" (fun q => q = a) U U.heap
def TPost (D : va_G) (a : Nat) (v6 v7 : Value) (H : Heap) : Prop := ∃ fs, va_P D cl8 [(a, .inr (0, fs))] H ∧ fs.length = 8 ∧ fs[6]? = some v6 ∧ fs[7]? = some v7
theorem t_D {a : Nat} {e : va_E} : va_D (fun q => q = a) [(a, e)] := by
  refine ⟨fun i j p q hp hq _ => ?_, fun k q hq => ?_⟩
  · have h1 : i < 1 := (List.getElem?_eq_some_iff.mp hp).1
    have h2 : j < 1 := (List.getElem?_eq_some_iff.mp hq).1
    omega
  · have h1 : k < 1 := (List.getElem?_eq_some_iff.mp hq).1
    rw [show k = 0 by omega] at hq
    cases hq
    rfl
theorem t_Zv {C n d : String} {A : Nat → Prop} {U : State} {H : Heap} (h : va_Zq C n d A U H) : ∃ v, va_Z C n d v A U H ∧ (v = .null ∨ ∃ t, v = .ref t) := by
  rcases h with h | ⟨t, h⟩
  · exact ⟨_, h, Or.inl rfl⟩
  · exact ⟨_, h, Or.inr ⟨t, rfl⟩⟩
theorem t_ret {p : Program} {l : Launch} {e : Env} {R : Room} {s : State} {m : MethodId} {args : Array Value} {below : List Frame} {meth : Method} {c : Code} {H : Heap} {locs : List Loc} {ce sl pc : Nat} {J : Jm} {A : Nat → Prop} {Post : Heap → Prop} {lsA : Array Slot} (A0 : AtG J p s m args meth c) (hr : J.ret = none) (hS : va_S A s.heap H locs) (hP : Post H) (hd : decode J.cc pc = .ok (.return_, 1)) : W p l e R s m args below meth c H locs ce sl (GQ A ce sl Post below s) (F0 m pc lsA []) := by
  obtain ⟨h1, h2, h3, h4, h5, h6, h7, h8⟩ := A0
  intro T hT X
  have hlocks : meth.locks = false := h5
  obtain ⟨fs, hret, hrun, hended, hW, hframe⟩ := X.leave (v := none) (fun _ => rfl)
  have hmeth' : T.vm.method? m = some meth := X.method'
  have hrr : meth.sig.returnType = none := by rw [h3, hr]
  refine ⟨T.setFrames fs, ?_, .returned none, hrun, hended, rfl, by show Post T.heap; rw [hT]; exact hP, hS.F hT, hW, locs, hframe, hS.2.2⟩
  jvm_step X.here [X.here.top, h1, h2, hd, hmeth', hrr]
  (try refine ⟨rfl, ?_⟩); (try refine ⟨rfl, ?_⟩)
  first | (intro acts; rw [hret _ acts rfl rfl rfl]) | rw [hret _ _ rfl rfl rfl]
  exact Steps.refl _
set_option maxRecDepth 20000 in
set_option maxHeartbeats 1000000 in
theorem t_Thr {l : Launch} {D : va_G} {a d : Nat} {v6 v7 : Value} (hd1 : 1 ≤ d) : GCal l jTh_i d 0 0 [.ref a, .null, .null, .int 0, .int 0] (fun q => q = a) (TPre D a v6 v7) (TPost D a v6 v7) := by
  refine GCal.ofW (by decide) rfl rfl (Nat.le_of_ble_eq_true rfl) ?_
  intro p e s m below meth c A0 hP lsA hl
  obtain ⟨⟨fs, hP, hfl, h6v, h7v⟩, hK, hz1, hz2⟩ := hP
  obtain ⟨h1, h2, h3, h4, h5, h6, h7, h8⟩ := id A0
  have hl : lv_has lsA 5 [(0, .ref a), (1, .null), (2, .null), (3, .int 0), (4, .int 0)] := hl
  have hS : va_S (fun q => q = a) s.heap s.heap [] := va_S.rf
  obtain ⟨u1, hu1, hu1v⟩ := t_Zv hz1
  obtain ⟨u2, hu2, hu2v⟩ := t_Zv hz2
  refine lv_aload_n (pc := 0) h1 h2 d_Th_i_0 rfl (lv_at hl 0 rfl) ?_
  refine W.objInit h1 h2 h6 (h7 _ (mt_6 101 rfl rfl)) (h7 _ (mt_1 32 rfl rfl)) (h7 _ (mt_1 33 rfl rfl)) rfl (hl.1.trans h4.symm) rfl d_Th_i_1 hd1 (by show 2 * 0 + 0 + 12 ≤ 64 * d; omega) ?_
  refine lv_aload_n (pc := 4) h1 h2 d_Th_i_4 rfl (lv_at hl 0 rfl) ?_
  refine lv_aload_n (pc := 5) h1 h2 d_Th_i_5 rfl (lv_at hl 0 rfl) ?_
  refine va_put (pc := 6) (D := D) (cl := cl8) (C := cR12) (T := cTS) (N := 8) (ci := 0) (index := 7) (own := "java/lang/Throwable") (ref := "java/lang/Throwable") h1 h2 h7 cIS ty8 ty8_ok nm8_ok h6 hK hP t_D hS 0 rfl rfl 0 (by decide) (h7 _ (mt_6 131 rfl rfl)) (fun _ h => h) rfl (ty := ty8 0) (v := .ref a) (ty8_ok 0 (by decide)) (by rfl) (by rfl) (by omega) d_Th_i_6 (fun H locs hP hD hS => ?_)
  obtain ⟨fs1, hfs⟩ : ∃ f : List Value, f = fs.set 0 (.ref a) := ⟨_, rfl⟩
  have hP : va_P D cl8 [(a, .inr (0, fs1))] H := by rw [hfs]; exact hP
  have hfl : fs1.length = 8 := by rw [hfs, List.length_set]; exact hfl
  have h6v : fs1[6]? = some v6 := by rw [hfs, List.getElem?_set_ne (by decide)]; exact h6v
  have h7v : fs1[7]? = some v7 := by rw [hfs, List.getElem?_set_ne (by decide)]; exact h7v
  clear hfs
  refine lv_aload_n (pc := 9) h1 h2 d_Th_i_9 rfl (lv_at hl 0 rfl) ?_
  refine va_gets (pc := 10) h1 h2 hu1 hS h6 (h7 _ (mt_6 102 rfl rfl)) (fun _ h => h) d_Th_i_10 ?_
  refine va_put (pc := 13) (D := D) (cl := cl8) (C := cR12) (T := cTS) (N := 8) (ci := 0) (index := 17) (own := "java/lang/Throwable") (ref := "java/lang/Throwable") h1 h2 h7 cIS ty8 ty8_ok nm8_ok h6 hK hP t_D hS 0 rfl rfl 1 (by decide) (h7 _ (mt_6 132 rfl rfl)) (fun _ h => h) rfl (ty := ty8 1) (v := u1) (ty8_ok 1 (by decide)) (by rcases hu1v with rfl | ⟨t, rfl⟩ <;> rfl) (by rcases hu1v with rfl | ⟨t, rfl⟩ <;> rfl) (by omega) d_Th_i_13 (fun H locs hP hD hS => ?_)
  obtain ⟨fs2, hfs⟩ : ∃ f : List Value, f = fs1.set 1 (u1) := ⟨_, rfl⟩
  have hP : va_P D cl8 [(a, .inr (0, fs2))] H := by rw [hfs]; exact hP
  have hfl : fs2.length = 8 := by rw [hfs, List.length_set]; exact hfl
  have h6v : fs2[6]? = some v6 := by rw [hfs, List.getElem?_set_ne (by decide)]; exact h6v
  have h7v : fs2[7]? = some v7 := by rw [hfs, List.getElem?_set_ne (by decide)]; exact h7v
  clear hfs
  refine lv_aload_n (pc := 16) h1 h2 d_Th_i_16 rfl (lv_at hl 0 rfl) ?_
  refine va_gets (pc := 17) h1 h2 hu2 hS h6 (h7 _ (mt_6 104 rfl rfl)) (fun _ h => h) d_Th_i_17 ?_
  refine va_put (pc := 20) (D := D) (cl := cl8) (C := cR12) (T := cTS) (N := 8) (ci := 0) (index := 24) (own := "java/lang/Throwable") (ref := "java/lang/Throwable") h1 h2 h7 cIS ty8 ty8_ok nm8_ok h6 hK hP t_D hS 0 rfl rfl 2 (by decide) (h7 _ (mt_6 133 rfl rfl)) (fun _ h => h) rfl (ty := ty8 2) (v := u2) (ty8_ok 2 (by decide)) (by rcases hu2v with rfl | ⟨t, rfl⟩ <;> rfl) (by rcases hu2v with rfl | ⟨t, rfl⟩ <;> rfl) (by omega) d_Th_i_20 (fun H locs hP hD hS => ?_)
  obtain ⟨fs3, hfs⟩ : ∃ f : List Value, f = fs2.set 2 (u2) := ⟨_, rfl⟩
  have hP : va_P D cl8 [(a, .inr (0, fs3))] H := by rw [hfs]; exact hP
  have hfl : fs3.length = 8 := by rw [hfs, List.length_set]; exact hfl
  have h6v : fs3[6]? = some v6 := by rw [hfs, List.getElem?_set_ne (by decide)]; exact h6v
  have h7v : fs3[7]? = some v7 := by rw [hfs, List.getElem?_set_ne (by decide)]; exact h7v
  clear hfs
  refine lv_iload (pc := 23) h1 h2 d_Th_i_23 (lv_at hl 4 rfl) ?_
  refine lv_if_eq (tgt := 36) (pc := 25) h1 h2 d_Th_i_25 (by decide) (fun _ => ?_) (fun z => absurd rfl z)
  refine lv_aload_n (pc := 36) h1 h2 d_Th_i_36 rfl (lv_at hl 0 rfl) ?_
  refine lv_null (pc := 37) h1 h2 d_Th_i_37 ?_
  refine va_put (pc := 38) (D := D) (cl := cl8) (C := cR12) (T := cTS) (N := 8) (ci := 0) (index := 17) (own := "java/lang/Throwable") (ref := "java/lang/Throwable") h1 h2 h7 cIS ty8 ty8_ok nm8_ok h6 hK hP t_D hS 0 rfl rfl 1 (by decide) (h7 _ (mt_6 132 rfl rfl)) (fun _ h => h) rfl (ty := ty8 1) (v := .null) (ty8_ok 1 (by decide)) (by rfl) (by rfl) (by omega) d_Th_i_38 (fun H locs hP hD hS => ?_)
  obtain ⟨fs4, hfs⟩ : ∃ f : List Value, f = fs3.set 1 (.null) := ⟨_, rfl⟩
  have hP : va_P D cl8 [(a, .inr (0, fs4))] H := by rw [hfs]; exact hP
  have hfl : fs4.length = 8 := by rw [hfs, List.length_set]; exact hfl
  have h6v : fs4[6]? = some v6 := by rw [hfs, List.getElem?_set_ne (by decide)]; exact h6v
  have h7v : fs4[7]? = some v7 := by rw [hfs, List.getElem?_set_ne (by decide)]; exact h7v
  clear hfs
  refine lv_aload_n (pc := 41) h1 h2 d_Th_i_41 rfl (lv_at hl 0 rfl) ?_
  refine lv_aload_nN (pc := 42) h1 h2 d_Th_i_42 rfl (lv_at hl 1 rfl) ?_
  refine va_put (pc := 43) (D := D) (cl := cl8) (C := cR12) (T := cTS) (N := 8) (ci := 0) (index := 31) (own := "java/lang/Throwable") (ref := "java/lang/Throwable") h1 h2 h7 cIS ty8 ty8_ok nm8_ok h6 hK hP t_D hS 0 rfl rfl 3 (by decide) (h7 _ (mt_6 130 rfl rfl)) (fun _ h => h) rfl (ty := ty8 3) (v := .null) (ty8_ok 3 (by decide)) (by rfl) (by rfl) (by omega) d_Th_i_43 (fun H locs hP hD hS => ?_)
  obtain ⟨fs5, hfs⟩ : ∃ f : List Value, f = fs4.set 3 (.null) := ⟨_, rfl⟩
  have hP : va_P D cl8 [(a, .inr (0, fs5))] H := by rw [hfs]; exact hP
  have hfl : fs5.length = 8 := by rw [hfs, List.length_set]; exact hfl
  have h6v : fs5[6]? = some v6 := by rw [hfs, List.getElem?_set_ne (by decide)]; exact h6v
  have h7v : fs5[7]? = some v7 := by rw [hfs, List.getElem?_set_ne (by decide)]; exact h7v
  clear hfs
  refine lv_aload_n (pc := 46) h1 h2 d_Th_i_46 rfl (lv_at hl 0 rfl) ?_
  refine lv_aload_nN (pc := 47) h1 h2 d_Th_i_47 rfl (lv_at hl 2 rfl) ?_
  refine va_put (pc := 48) (D := D) (cl := cl8) (C := cR12) (T := cTS) (N := 8) (ci := 0) (index := 7) (own := "java/lang/Throwable") (ref := "java/lang/Throwable") h1 h2 h7 cIS ty8 ty8_ok nm8_ok h6 hK hP t_D hS 0 rfl rfl 0 (by decide) (h7 _ (mt_6 131 rfl rfl)) (fun _ h => h) rfl (ty := ty8 0) (v := .null) (ty8_ok 0 (by decide)) (by rfl) (by rfl) (by omega) d_Th_i_48 (fun H locs hP hD hS => ?_)
  obtain ⟨fs6, hfs⟩ : ∃ f : List Value, f = fs5.set 0 (.null) := ⟨_, rfl⟩
  have hP : va_P D cl8 [(a, .inr (0, fs6))] H := by rw [hfs]; exact hP
  have hfl : fs6.length = 8 := by rw [hfs, List.length_set]; exact hfl
  have h6v : fs6[6]? = some v6 := by rw [hfs, List.getElem?_set_ne (by decide)]; exact h6v
  have h7v : fs6[7]? = some v7 := by rw [hfs, List.getElem?_set_ne (by decide)]; exact h7v
  clear hfs
  refine lv_iload_n (pc := 51) h1 h2 d_Th_i_51 rfl (lv_at hl 3 rfl) ?_
  refine lv_if_ne (tgt := 60) (pc := 52) h1 h2 d_Th_i_52 (by decide) (fun z => absurd rfl z) (fun _ => ?_)
  refine lv_aload_n (pc := 55) h1 h2 d_Th_i_55 rfl (lv_at hl 0 rfl) ?_
  refine lv_null (pc := 56) h1 h2 d_Th_i_56 ?_
  refine va_put (pc := 57) (D := D) (cl := cl8) (C := cR12) (T := cTS) (N := 8) (ci := 0) (index := 24) (own := "java/lang/Throwable") (ref := "java/lang/Throwable") h1 h2 h7 cIS ty8 ty8_ok nm8_ok h6 hK hP t_D hS 0 rfl rfl 2 (by decide) (h7 _ (mt_6 133 rfl rfl)) (fun _ h => h) rfl (ty := ty8 2) (v := .null) (ty8_ok 2 (by decide)) (by rfl) (by rfl) (by omega) d_Th_i_57 (fun H locs hP hD hS => ?_)
  obtain ⟨fs7, hfs⟩ : ∃ f : List Value, f = fs6.set 2 (.null) := ⟨_, rfl⟩
  have hP : va_P D cl8 [(a, .inr (0, fs7))] H := by rw [hfs]; exact hP
  have hfl : fs7.length = 8 := by rw [hfs, List.length_set]; exact hfl
  have h6v : fs7[6]? = some v6 := by rw [hfs, List.getElem?_set_ne (by decide)]; exact h6v
  have h7v : fs7[7]? = some v7 := by rw [hfs, List.getElem?_set_ne (by decide)]; exact h7v
  clear hfs
  exact t_ret (pc := 60) A0 rfl hS ⟨fs7, hP, hfl, h6v, h7v⟩ d_Th_i_60
set_option maxRecDepth 20000 in
theorem t_Xc_i {l : Launch} {D : va_G} {a d : Nat} {v6 v7 : Value} (hd1 : 2 ≤ d) : GCal l jXc_i d 0 0 [.ref a, .null, .null, .int 0, .int 0] (fun q => q = a) (TPre D a v6 v7) (TPost D a v6 v7) := by
  refine GCal.ofW (by decide) rfl rfl (Nat.le_of_ble_eq_true rfl) ?_
  intro p e s m below meth c A0 hP lsA hl
  obtain ⟨h1, h2, h3, h4, h5, h6, h7, h8⟩ := id A0
  have hS : va_S (fun q => q = a) s.heap s.heap [] := va_S.rf
  have hl : lv_has lsA 5 [(0, .ref a), (1, .null), (2, .null), (3, .int 0), (4, .int 0)] := hl
  refine lv_aload_n (pc := 0) h1 h2 d_Xc_i_0 rfl (lv_at hl 0 rfl) ?_
  refine lv_aload_nN (pc := 1) h1 h2 d_Xc_i_1 rfl (lv_at hl 1 rfl) ?_
  refine lv_aload_nN (pc := 2) h1 h2 d_Xc_i_2 rfl (lv_at hl 2 rfl) ?_
  refine lv_iload_n (pc := 3) h1 h2 d_Xc_i_3 rfl (lv_at hl 3 rfl) ?_
  refine lv_iload (pc := 4) h1 h2 d_Xc_i_4 (lv_at hl 4 rfl) ?_
  refine g_call (pc := 6) (R := rmG d 0 0) (A := fun q => q = a) (Pre := TPre D a v6 v7) (Post := TPost D a v6 v7) (J' := jTh_i) (d' := d - 1) (mc := 0) (ms := 0) (a := a) (argsL := [.null, .null, .int 0, .int 0]) (rest := []) h1 h2 (hl.1.trans h4.symm) h6 h7 d_Xc_i_6 (Or.inl (h7 _ (mt_6 124 rfl rfl))) iok_Th_i rfl (by decide) (by show d - 1 + 1 ≤ d; omega) (by show 64 * (d - 1 + 1) ≤ 64 * d; omega) (Nat.le_refl _) (Nat.le_refl _) (t_Thr (by omega)) (fun U hU hW => ?_) (fun H1 L hP1 hz1 hz2 hkk hL => ?_)
  · obtain ⟨⟨fs, hP, hf⟩, hK, hz1, hz2⟩ := hP
    refine ⟨⟨fs, by rw [hU]; exact hP, hf⟩, va_K.moved hW.alike hK, ?_, ?_⟩
    · rw [hU]; exact hz1.moved hW.alike
    · rw [hU]; exact hz2.moved hW.alike
  · refine t_ret (pc := 9) A0 rfl ⟨hz1, fun q q1 q2 => hkk q q1 q2, fun q hq => ?_⟩ hP1 d_Xc_i_9
    exact hL q (by simpa using hq)
set_option maxRecDepth 20000 in
theorem t_Rt_i {l : Launch} {D : va_G} {a d : Nat} {v6 v7 : Value} (hd1 : 3 ≤ d) : GCal l jRt_i d 0 0 [.ref a, .null, .null, .int 0, .int 0] (fun q => q = a) (TPre D a v6 v7) (TPost D a v6 v7) := by
  refine GCal.ofW (by decide) rfl rfl (Nat.le_of_ble_eq_true rfl) ?_
  intro p e s m below meth c A0 hP lsA hl
  obtain ⟨h1, h2, h3, h4, h5, h6, h7, h8⟩ := id A0
  have hS : va_S (fun q => q = a) s.heap s.heap [] := va_S.rf
  have hl : lv_has lsA 5 [(0, .ref a), (1, .null), (2, .null), (3, .int 0), (4, .int 0)] := hl
  refine lv_aload_n (pc := 0) h1 h2 d_Rt_i_0 rfl (lv_at hl 0 rfl) ?_
  refine lv_aload_nN (pc := 1) h1 h2 d_Rt_i_1 rfl (lv_at hl 1 rfl) ?_
  refine lv_aload_nN (pc := 2) h1 h2 d_Rt_i_2 rfl (lv_at hl 2 rfl) ?_
  refine lv_iload_n (pc := 3) h1 h2 d_Rt_i_3 rfl (lv_at hl 3 rfl) ?_
  refine lv_iload (pc := 4) h1 h2 d_Rt_i_4 (lv_at hl 4 rfl) ?_
  refine g_call (pc := 6) (R := rmG d 0 0) (A := fun q => q = a) (Pre := TPre D a v6 v7) (Post := TPost D a v6 v7) (J' := jXc_i) (d' := d - 1) (mc := 0) (ms := 0) (a := a) (argsL := [.null, .null, .int 0, .int 0]) (rest := []) h1 h2 (hl.1.trans h4.symm) h6 h7 d_Rt_i_6 (Or.inl (h7 _ (mt_6 121 rfl rfl))) iok_Xc_i rfl (by decide) (by show d - 1 + 1 ≤ d; omega) (by show 64 * (d - 1 + 1) ≤ 64 * d; omega) (Nat.le_refl _) (Nat.le_refl _) (t_Xc_i (by omega)) (fun U hU hW => ?_) (fun H1 L hP1 hz1 hz2 hkk hL => ?_)
  · obtain ⟨⟨fs, hP, hf⟩, hK, hz1, hz2⟩ := hP
    refine ⟨⟨fs, by rw [hU]; exact hP, hf⟩, va_K.moved hW.alike hK, ?_, ?_⟩
    · rw [hU]; exact hz1.moved hW.alike
    · rw [hU]; exact hz2.moved hW.alike
  · refine t_ret (pc := 9) A0 rfl ⟨hz1, fun q q1 q2 => hkk q q1 q2, fun q hq => ?_⟩ hP1 d_Rt_i_9
    exact hL q (by simpa using hq)
set_option maxRecDepth 20000 in
theorem t_St_init {l : Launch} {D : va_G} {a d : Nat} {v6 v7 : Value} (hd1 : 4 ≤ d) : GCal l jSt_init d 0 0 [.ref a] (fun q => q = a) (TPre D a v6 v7) (TPost D a v6 v7) := by
  refine GCal.ofW (by decide) rfl rfl (Nat.le_of_ble_eq_true rfl) ?_
  intro p e s m below meth c A0 hP lsA hl
  obtain ⟨h1, h2, h3, h4, h5, h6, h7, h8⟩ := id A0
  have hS : va_S (fun q => q = a) s.heap s.heap [] := va_S.rf
  have hl : lv_has lsA 1 [(0, .ref a)] := hl
  refine lv_aload_n (pc := 0) h1 h2 d_St_init_0 rfl (lv_at hl 0 rfl) ?_
  refine lv_null (pc := 1) h1 h2 d_St_init_1 ?_
  refine lv_null (pc := 2) h1 h2 d_St_init_2 ?_
  refine lv_iconst (v := 0) (pc := 3) h1 h2 d_St_init_3 rfl ?_
  refine lv_iconst (v := 0) (pc := 4) h1 h2 d_St_init_4 rfl ?_
  refine g_call (pc := 5) (R := rmG d 0 0) (A := fun q => q = a) (Pre := TPre D a v6 v7) (Post := TPost D a v6 v7) (J' := jRt_i) (d' := d - 1) (mc := 0) (ms := 0) (a := a) (argsL := [.null, .null, .int 0, .int 0]) (rest := []) h1 h2 (hl.1.trans h4.symm) h6 h7 d_St_init_5 (Or.inl (h7 _ (mt_6 118 rfl rfl))) iok_Rt_i rfl (by decide) (by show d - 1 + 1 ≤ d; omega) (by show 64 * (d - 1 + 1) ≤ 64 * d; omega) (Nat.le_refl _) (Nat.le_refl _) (t_Rt_i (by omega)) (fun U hU hW => ?_) (fun H1 L hP1 hz1 hz2 hkk hL => ?_)
  · obtain ⟨⟨fs, hP, hf⟩, hK, hz1, hz2⟩ := hP
    refine ⟨⟨fs, by rw [hU]; exact hP, hf⟩, va_K.moved hW.alike hK, ?_, ?_⟩
    · rw [hU]; exact hz1.moved hW.alike
    · rw [hU]; exact hz2.moved hW.alike
  · refine t_ret (pc := 8) A0 rfl ⟨hz1, fun q q1 q2 => hkk q q1 q2, fun q hq => ?_⟩ hP1 d_St_init_8
    exact hL q (by simpa using hq)
